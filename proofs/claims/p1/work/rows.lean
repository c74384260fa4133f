section
-- ===== PART A: goes FIRST, ahead of the names: the tables' words, and 'selects' of the private methods out of them =====
/-- a private method of a class that the tables say can be made, by its rows of tables_1 -/
def lw_okq (q : MethodName × Nat) : Prop := (q.1.cls ≠ "java/lang/invoke/MethodHandle" ∧ q.1.cls ≠ "java/lang/invoke/VarHandle") ∧ Cond.instantiable q.1.cls q.2 ∈ tables_1 ∧ Cond.privateMethod q.1 ∈ tables_1 ∧ Cond.instanceMethod q.1 ∈ tables_1
theorem lw_p0 : lw_okq (⟨"MarkupStore", "useBuffer", "()Ljava/lang/String;"⟩, 6) := ⟨⟨by decide +kernel, by decide +kernel⟩, List.mem_of_getElem? (i := 32) (by decide +kernel), List.mem_of_getElem? (i := 238) (by decide +kernel), List.mem_of_getElem? (i := 239) (by decide +kernel)⟩
theorem lw_p1 : lw_okq (⟨"MarkupStore$MarkupReader", "readElement", "(LMarkupStore$Node;[I)Z"⟩, 6) := ⟨⟨by decide +kernel, by decide +kernel⟩, List.mem_of_getElem? (i := 236) (by decide +kernel), List.mem_of_getElem? (i := 423) (by decide +kernel), List.mem_of_getElem? (i := 424) (by decide +kernel)⟩
theorem lw_p2 : lw_okq (⟨"MarkupStore$MarkupReader", "make", "(ILMarkupStore$Node;[I)LMarkupStore$Node;"⟩, 6) := ⟨⟨by decide +kernel, by decide +kernel⟩, List.mem_of_getElem? (i := 236) (by decide +kernel), List.mem_of_getElem? (i := 427) (by decide +kernel), List.mem_of_getElem? (i := 428) (by decide +kernel)⟩
theorem lw_p3 : lw_okq (⟨"java/util/ArrayList", "add", "(Ljava/lang/Object;[Ljava/lang/Object;I)V"⟩, 3) := ⟨⟨by decide +kernel, by decide +kernel⟩, List.mem_of_getElem? (i := 323) (by decide +kernel), List.mem_of_getElem? (i := 499) (by decide +kernel), List.mem_of_getElem? (i := 500) (by decide +kernel)⟩
theorem lw_p4 : lw_okq (⟨"java/util/ArrayList", "grow", "()[Ljava/lang/Object;"⟩, 3) := ⟨⟨by decide +kernel, by decide +kernel⟩, List.mem_of_getElem? (i := 323) (by decide +kernel), List.mem_of_getElem? (i := 503) (by decide +kernel), List.mem_of_getElem? (i := 504) (by decide +kernel)⟩
theorem lw_p5 : lw_okq (⟨"java/util/ArrayList", "grow", "(I)[Ljava/lang/Object;"⟩, 3) := ⟨⟨by decide +kernel, by decide +kernel⟩, List.mem_of_getElem? (i := 323) (by decide +kernel), List.mem_of_getElem? (i := 507) (by decide +kernel), List.mem_of_getElem? (i := 508) (by decide +kernel)⟩
theorem lw_p6 : lw_okq (⟨"MarkupStore$MarkupReader", "readAttribute", "(LMarkupStore$Node;)Z"⟩, 6) := ⟨⟨by decide +kernel, by decide +kernel⟩, List.mem_of_getElem? (i := 236) (by decide +kernel), List.mem_of_getElem? (i := 581) (by decide +kernel), List.mem_of_getElem? (i := 582) (by decide +kernel)⟩
theorem lw_p7 : lw_okq (⟨"MarkupStore$MarkupReader", "readValue", "(C)Ljava/lang/String;"⟩, 6) := ⟨⟨by decide +kernel, by decide +kernel⟩, List.mem_of_getElem? (i := 236) (by decide +kernel), List.mem_of_getElem? (i := 630) (by decide +kernel), List.mem_of_getElem? (i := 631) (by decide +kernel)⟩
theorem lw_p8 : lw_okq (⟨"MarkupStore$MarkupReader", "readEntity", "()C"⟩, 6) := ⟨⟨by decide +kernel, by decide +kernel⟩, List.mem_of_getElem? (i := 236) (by decide +kernel), List.mem_of_getElem? (i := 635) (by decide +kernel), List.mem_of_getElem? (i := 636) (by decide +kernel)⟩
theorem lw_p9 : lw_okq (⟨"MarkupStore$MarkupReader", "skip", "(Ljava/lang/String;)Z"⟩, 6) := ⟨⟨by decide +kernel, by decide +kernel⟩, List.mem_of_getElem? (i := 236) (by decide +kernel), List.mem_of_getElem? (i := 640) (by decide +kernel), List.mem_of_getElem? (i := 641) (by decide +kernel)⟩
theorem lw_p10 : lw_okq (⟨"MarkupStore$MarkupReader", "readContent", "(LMarkupStore$Node;)Z"⟩, 6) := ⟨⟨by decide +kernel, by decide +kernel⟩, List.mem_of_getElem? (i := 236) (by decide +kernel), List.mem_of_getElem? (i := 671) (by decide +kernel), List.mem_of_getElem? (i := 672) (by decide +kernel)⟩
theorem lw_p11 : lw_okq (⟨"MarkupStore$MarkupReader", "readPiece", "(LMarkupStore$Node;[I)Z"⟩, 6) := ⟨⟨by decide +kernel, by decide +kernel⟩, List.mem_of_getElem? (i := 236) (by decide +kernel), List.mem_of_getElem? (i := 687) (by decide +kernel), List.mem_of_getElem? (i := 688) (by decide +kernel)⟩
theorem lw_p12 : lw_okq (⟨"MarkupStore$MarkupReader", "readComment", "(LMarkupStore$Node;[I)Z"⟩, 6) := ⟨⟨by decide +kernel, by decide +kernel⟩, List.mem_of_getElem? (i := 236) (by decide +kernel), List.mem_of_getElem? (i := 691) (by decide +kernel), List.mem_of_getElem? (i := 692) (by decide +kernel)⟩
theorem lw_p13 : lw_okq (⟨"MarkupStore$MarkupReader", "readEndTag", "(LMarkupStore$Node;)Z"⟩, 6) := ⟨⟨by decide +kernel, by decide +kernel⟩, List.mem_of_getElem? (i := 236) (by decide +kernel), List.mem_of_getElem? (i := 695) (by decide +kernel), List.mem_of_getElem? (i := 696) (by decide +kernel)⟩
theorem lw_p14 : lw_okq (⟨"MarkupStore$Tree", "setPlaces", "()V"⟩, 6) := ⟨⟨by decide +kernel, by decide +kernel⟩, List.mem_of_getElem? (i := 73) (by decide +kernel), List.mem_of_getElem? (i := 724) (by decide +kernel), List.mem_of_getElem? (i := 725) (by decide +kernel)⟩
theorem lw_p15 : lw_okq (⟨"MarkupStore", "beginBatch", "()V"⟩, 6) := ⟨⟨by decide +kernel, by decide +kernel⟩, List.mem_of_getElem? (i := 32) (by decide +kernel), List.mem_of_getElem? (i := 734) (by decide +kernel), List.mem_of_getElem? (i := 735) (by decide +kernel)⟩
def lw_privs_1 : List (MethodName × Nat) := [(⟨"MarkupStore", "useBuffer", "()Ljava/lang/String;"⟩, 6), (⟨"MarkupStore$MarkupReader", "readElement", "(LMarkupStore$Node;[I)Z"⟩, 6), (⟨"MarkupStore$MarkupReader", "make", "(ILMarkupStore$Node;[I)LMarkupStore$Node;"⟩, 6), (⟨"java/util/ArrayList", "add", "(Ljava/lang/Object;[Ljava/lang/Object;I)V"⟩, 3), (⟨"java/util/ArrayList", "grow", "()[Ljava/lang/Object;"⟩, 3), (⟨"java/util/ArrayList", "grow", "(I)[Ljava/lang/Object;"⟩, 3), (⟨"MarkupStore$MarkupReader", "readAttribute", "(LMarkupStore$Node;)Z"⟩, 6), (⟨"MarkupStore$MarkupReader", "readValue", "(C)Ljava/lang/String;"⟩, 6), (⟨"MarkupStore$MarkupReader", "readEntity", "()C"⟩, 6), (⟨"MarkupStore$MarkupReader", "skip", "(Ljava/lang/String;)Z"⟩, 6), (⟨"MarkupStore$MarkupReader", "readContent", "(LMarkupStore$Node;)Z"⟩, 6), (⟨"MarkupStore$MarkupReader", "readPiece", "(LMarkupStore$Node;[I)Z"⟩, 6), (⟨"MarkupStore$MarkupReader", "readComment", "(LMarkupStore$Node;[I)Z"⟩, 6), (⟨"MarkupStore$MarkupReader", "readEndTag", "(LMarkupStore$Node;)Z"⟩, 6), (⟨"MarkupStore$Tree", "setPlaces", "()V"⟩, 6), (⟨"MarkupStore", "beginBatch", "()V"⟩, 6)]
theorem lw_r1 : ∀ q ∈ lw_privs_1, lw_okq q := List.forall_mem_cons.mpr ⟨lw_p0, List.forall_mem_cons.mpr ⟨lw_p1, List.forall_mem_cons.mpr ⟨lw_p2, List.forall_mem_cons.mpr ⟨lw_p3, List.forall_mem_cons.mpr ⟨lw_p4, List.forall_mem_cons.mpr ⟨lw_p5, List.forall_mem_cons.mpr ⟨lw_p6, List.forall_mem_cons.mpr ⟨lw_p7, List.forall_mem_cons.mpr ⟨lw_p8, List.forall_mem_cons.mpr ⟨lw_p9, List.forall_mem_cons.mpr ⟨lw_p10, List.forall_mem_cons.mpr ⟨lw_p11, List.forall_mem_cons.mpr ⟨lw_p12, List.forall_mem_cons.mpr ⟨lw_p13, List.forall_mem_cons.mpr ⟨lw_p14, List.forall_mem_cons.mpr ⟨lw_p15, fun _ h => absurd h List.not_mem_nil⟩⟩⟩⟩⟩⟩⟩⟩⟩⟩⟩⟩⟩⟩⟩⟩
theorem lw_p16 : lw_okq (⟨"MarkupStore", "joinNew", "(LMarkupStore$Node;Ljava/lang/String;Ljava/lang/String;)I"⟩, 6) := ⟨⟨by decide +kernel, by decide +kernel⟩, List.mem_of_getElem? (i := 32) (by decide +kernel), List.mem_of_getElem? (i := 799) (by decide +kernel), List.mem_of_getElem? (i := 800) (by decide +kernel)⟩
theorem lw_p17 : lw_okq (⟨"MarkupStore", "joined", "(Ljava/lang/String;Ljava/lang/String;)Ljava/lang/String;"⟩, 6) := ⟨⟨by decide +kernel, by decide +kernel⟩, List.mem_of_getElem? (i := 32) (by decide +kernel), List.mem_of_getElem? (i := 804) (by decide +kernel), List.mem_of_getElem? (i := 805) (by decide +kernel)⟩
theorem lw_p18 : lw_okq (⟨"MarkupStore", "putNew", "(LMarkupStore$MarkupReader;I)I"⟩, 6) := ⟨⟨by decide +kernel, by decide +kernel⟩, List.mem_of_getElem? (i := 32) (by decide +kernel), List.mem_of_getElem? (i := 842) (by decide +kernel), List.mem_of_getElem? (i := 843) (by decide +kernel)⟩
theorem lw_p19 : lw_okq (⟨"MarkupStore$PathReader", "readPath", "(I)LMarkupStore$Path;"⟩, 3) := ⟨⟨by decide +kernel, by decide +kernel⟩, List.mem_of_getElem? (i := 871) (by decide +kernel), List.mem_of_getElem? (i := 885) (by decide +kernel), List.mem_of_getElem? (i := 886) (by decide +kernel)⟩
theorem lw_p20 : lw_okq (⟨"MarkupStore$PathReader", "readStep", "(I)LMarkupStore$Step;"⟩, 3) := ⟨⟨by decide +kernel, by decide +kernel⟩, List.mem_of_getElem? (i := 871) (by decide +kernel), List.mem_of_getElem? (i := 911) (by decide +kernel), List.mem_of_getElem? (i := 912) (by decide +kernel)⟩
theorem lw_p21 : lw_okq (⟨"MarkupStore$PathReader", "readPredicate", "(I)LMarkupStore$Predicate;"⟩, 3) := ⟨⟨by decide +kernel, by decide +kernel⟩, List.mem_of_getElem? (i := 871) (by decide +kernel), List.mem_of_getElem? (i := 1010) (by decide +kernel), List.mem_of_getElem? (i := 1011) (by decide +kernel)⟩
theorem lw_p22 : lw_okq (⟨"MarkupStore$PathReader", "readPosition", "()I"⟩, 3) := ⟨⟨by decide +kernel, by decide +kernel⟩, List.mem_of_getElem? (i := 871) (by decide +kernel), List.mem_of_getElem? (i := 1064) (by decide +kernel), List.mem_of_getElem? (i := 1065) (by decide +kernel)⟩
theorem lw_p23 : lw_okq (⟨"MarkupStore$PathReader", "readComparison", "(LMarkupStore$Predicate;Ljava/lang/String;)V"⟩, 3) := ⟨⟨by decide +kernel, by decide +kernel⟩, List.mem_of_getElem? (i := 871) (by decide +kernel), List.mem_of_getElem? (i := 1069) (by decide +kernel), List.mem_of_getElem? (i := 1070) (by decide +kernel)⟩
theorem lw_p24 : lw_okq (⟨"MarkupStore$Walker", "settle", "(LMarkupStore$Predicate;)V"⟩, 1) := ⟨⟨by decide +kernel, by decide +kernel⟩, List.mem_of_getElem? (i := 1083) (by decide +kernel), List.mem_of_getElem? (i := 1106) (by decide +kernel), List.mem_of_getElem? (i := 1107) (by decide +kernel)⟩
theorem lw_p25 : lw_okq (⟨"MarkupStore$Walker", "withAttribute", "(LMarkupStore$Predicate;)J"⟩, 1) := ⟨⟨by decide +kernel, by decide +kernel⟩, List.mem_of_getElem? (i := 1083) (by decide +kernel), List.mem_of_getElem? (i := 1110) (by decide +kernel), List.mem_of_getElem? (i := 1111) (by decide +kernel)⟩
theorem lw_p26 : lw_okq (⟨"MarkupStore$Walker", "goals", "(LMarkupStore$Predicate;)J"⟩, 1) := ⟨⟨by decide +kernel, by decide +kernel⟩, List.mem_of_getElem? (i := 1083) (by decide +kernel), List.mem_of_getElem? (i := 1121) (by decide +kernel), List.mem_of_getElem? (i := 1122) (by decide +kernel)⟩
theorem lw_p27 : lw_okq (⟨"MarkupStore$Walker", "stringValueFits", "(LMarkupStore$Node;LMarkupStore$Predicate;)Z"⟩, 1) := ⟨⟨by decide +kernel, by decide +kernel⟩, List.mem_of_getElem? (i := 1083) (by decide +kernel), List.mem_of_getElem? (i := 1128) (by decide +kernel), List.mem_of_getElem? (i := 1129) (by decide +kernel)⟩
theorem lw_p28 : lw_okq (⟨"MarkupStore$Walker", "origins", "(LMarkupStore$Path;J)J"⟩, 1) := ⟨⟨by decide +kernel, by decide +kernel⟩, List.mem_of_getElem? (i := 1083) (by decide +kernel), List.mem_of_getElem? (i := 1135) (by decide +kernel), List.mem_of_getElem? (i := 1136) (by decide +kernel)⟩
theorem lw_p29 : lw_okq (⟨"MarkupStore$Walker", "lead", "(LMarkupStore$Step;I)J"⟩, 1) := ⟨⟨by decide +kernel, by decide +kernel⟩, List.mem_of_getElem? (i := 1083) (by decide +kernel), List.mem_of_getElem? (i := 1139) (by decide +kernel), List.mem_of_getElem? (i := 1140) (by decide +kernel)⟩
theorem lw_p30 : lw_okq (⟨"MarkupStore$Walker", "documentAxis", "(C)J"⟩, 1) := ⟨⟨by decide +kernel, by decide +kernel⟩, List.mem_of_getElem? (i := 1083) (by decide +kernel), List.mem_of_getElem? (i := 1143) (by decide +kernel), List.mem_of_getElem? (i := 1144) (by decide +kernel)⟩
theorem lw_p31 : lw_okq (⟨"MarkupStore$Walker", "axis", "(CLMarkupStore$Node;)J"⟩, 1) := ⟨⟨by decide +kernel, by decide +kernel⟩, List.mem_of_getElem? (i := 1083) (by decide +kernel), List.mem_of_getElem? (i := 1147) (by decide +kernel), List.mem_of_getElem? (i := 1148) (by decide +kernel)⟩
def lw_privs_2 : List (MethodName × Nat) := [(⟨"MarkupStore", "joinNew", "(LMarkupStore$Node;Ljava/lang/String;Ljava/lang/String;)I"⟩, 6), (⟨"MarkupStore", "joined", "(Ljava/lang/String;Ljava/lang/String;)Ljava/lang/String;"⟩, 6), (⟨"MarkupStore", "putNew", "(LMarkupStore$MarkupReader;I)I"⟩, 6), (⟨"MarkupStore$PathReader", "readPath", "(I)LMarkupStore$Path;"⟩, 3), (⟨"MarkupStore$PathReader", "readStep", "(I)LMarkupStore$Step;"⟩, 3), (⟨"MarkupStore$PathReader", "readPredicate", "(I)LMarkupStore$Predicate;"⟩, 3), (⟨"MarkupStore$PathReader", "readPosition", "()I"⟩, 3), (⟨"MarkupStore$PathReader", "readComparison", "(LMarkupStore$Predicate;Ljava/lang/String;)V"⟩, 3), (⟨"MarkupStore$Walker", "settle", "(LMarkupStore$Predicate;)V"⟩, 1), (⟨"MarkupStore$Walker", "withAttribute", "(LMarkupStore$Predicate;)J"⟩, 1), (⟨"MarkupStore$Walker", "goals", "(LMarkupStore$Predicate;)J"⟩, 1), (⟨"MarkupStore$Walker", "stringValueFits", "(LMarkupStore$Node;LMarkupStore$Predicate;)Z"⟩, 1), (⟨"MarkupStore$Walker", "origins", "(LMarkupStore$Path;J)J"⟩, 1), (⟨"MarkupStore$Walker", "lead", "(LMarkupStore$Step;I)J"⟩, 1), (⟨"MarkupStore$Walker", "documentAxis", "(C)J"⟩, 1), (⟨"MarkupStore$Walker", "axis", "(CLMarkupStore$Node;)J"⟩, 1)]
theorem lw_r2 : ∀ q ∈ lw_privs_2, lw_okq q := List.forall_mem_cons.mpr ⟨lw_p16, List.forall_mem_cons.mpr ⟨lw_p17, List.forall_mem_cons.mpr ⟨lw_p18, List.forall_mem_cons.mpr ⟨lw_p19, List.forall_mem_cons.mpr ⟨lw_p20, List.forall_mem_cons.mpr ⟨lw_p21, List.forall_mem_cons.mpr ⟨lw_p22, List.forall_mem_cons.mpr ⟨lw_p23, List.forall_mem_cons.mpr ⟨lw_p24, List.forall_mem_cons.mpr ⟨lw_p25, List.forall_mem_cons.mpr ⟨lw_p26, List.forall_mem_cons.mpr ⟨lw_p27, List.forall_mem_cons.mpr ⟨lw_p28, List.forall_mem_cons.mpr ⟨lw_p29, List.forall_mem_cons.mpr ⟨lw_p30, List.forall_mem_cons.mpr ⟨lw_p31, fun _ h => absurd h List.not_mem_nil⟩⟩⟩⟩⟩⟩⟩⟩⟩⟩⟩⟩⟩⟩⟩⟩
theorem lw_p32 : lw_okq (⟨"MarkupStore$Walker", "ancestors", "(LMarkupStore$Node;)J"⟩, 1) := ⟨⟨by decide +kernel, by decide +kernel⟩, List.mem_of_getElem? (i := 1083) (by decide +kernel), List.mem_of_getElem? (i := 1151) (by decide +kernel), List.mem_of_getElem? (i := 1152) (by decide +kernel)⟩
theorem lw_p33 : lw_okq (⟨"MarkupStore$Walker", "children", "(LMarkupStore$Node;)J"⟩, 1) := ⟨⟨by decide +kernel, by decide +kernel⟩, List.mem_of_getElem? (i := 1083) (by decide +kernel), List.mem_of_getElem? (i := 1155) (by decide +kernel), List.mem_of_getElem? (i := 1156) (by decide +kernel)⟩
theorem lw_p34 : lw_okq (⟨"MarkupStore$Walker", "sift", "(LMarkupStore$Predicate;JZ)J"⟩, 1) := ⟨⟨by decide +kernel, by decide +kernel⟩, List.mem_of_getElem? (i := 1083) (by decide +kernel), List.mem_of_getElem? (i := 1164) (by decide +kernel), List.mem_of_getElem? (i := 1165) (by decide +kernel)⟩
theorem lw_p35 : lw_okq (⟨"MarkupStore$Walker", "atPosition", "(IJZ)J"⟩, 1) := ⟨⟨by decide +kernel, by decide +kernel⟩, List.mem_of_getElem? (i := 1083) (by decide +kernel), List.mem_of_getElem? (i := 1168) (by decide +kernel), List.mem_of_getElem? (i := 1169) (by decide +kernel)⟩
theorem lw_p36 : lw_okq (⟨"MarkupStore$Walker", "whence", "(LMarkupStore$Step;J)J"⟩, 1) := ⟨⟨by decide +kernel, by decide +kernel⟩, List.mem_of_getElem? (i := 1083) (by decide +kernel), List.mem_of_getElem? (i := 1178) (by decide +kernel), List.mem_of_getElem? (i := 1179) (by decide +kernel)⟩
theorem lw_p37 : lw_okq (⟨"MarkupStore$Walker", "leadAll", "(LMarkupStore$Step;J)J"⟩, 1) := ⟨⟨by decide +kernel, by decide +kernel⟩, List.mem_of_getElem? (i := 1083) (by decide +kernel), List.mem_of_getElem? (i := 1186) (by decide +kernel), List.mem_of_getElem? (i := 1187) (by decide +kernel)⟩
theorem lw_p38 : lw_okq (⟨"MarkupStore", "keepFound", "(J)V"⟩, 6) := ⟨⟨by decide +kernel, by decide +kernel⟩, List.mem_of_getElem? (i := 32) (by decide +kernel), List.mem_of_getElem? (i := 1193) (by decide +kernel), List.mem_of_getElem? (i := 1194) (by decide +kernel)⟩
theorem lw_p39 : lw_okq (⟨"MarkupStore$Scribe", "closeUpTo", "(LMarkupStore$Node;LMarkupStore$Node;)V"⟩, 3) := ⟨⟨by decide +kernel, by decide +kernel⟩, List.mem_of_getElem? (i := 1247) (by decide +kernel), List.mem_of_getElem? (i := 1269) (by decide +kernel), List.mem_of_getElem? (i := 1270) (by decide +kernel)⟩
theorem lw_p40 : lw_okq (⟨"MarkupStore$Scribe", "putAll", "(Ljava/lang/String;)V"⟩, 3) := ⟨⟨by decide +kernel, by decide +kernel⟩, List.mem_of_getElem? (i := 1247) (by decide +kernel), List.mem_of_getElem? (i := 1274) (by decide +kernel), List.mem_of_getElem? (i := 1275) (by decide +kernel)⟩
theorem lw_p41 : lw_okq (⟨"MarkupStore$Scribe", "put", "(C)V"⟩, 3) := ⟨⟨by decide +kernel, by decide +kernel⟩, List.mem_of_getElem? (i := 1247) (by decide +kernel), List.mem_of_getElem? (i := 1280) (by decide +kernel), List.mem_of_getElem? (i := 1281) (by decide +kernel)⟩
theorem lw_p42 : lw_okq (⟨"MarkupStore$Scribe", "putStart", "(LMarkupStore$Node;Z)V"⟩, 3) := ⟨⟨by decide +kernel, by decide +kernel⟩, List.mem_of_getElem? (i := 1247) (by decide +kernel), List.mem_of_getElem? (i := 1285) (by decide +kernel), List.mem_of_getElem? (i := 1286) (by decide +kernel)⟩
theorem lw_p43 : lw_okq (⟨"MarkupStore$Scribe", "putValue", "(Ljava/lang/String;CLjava/lang/String;)V"⟩, 3) := ⟨⟨by decide +kernel, by decide +kernel⟩, List.mem_of_getElem? (i := 1247) (by decide +kernel), List.mem_of_getElem? (i := 1296) (by decide +kernel), List.mem_of_getElem? (i := 1297) (by decide +kernel)⟩
theorem lw_p44 : lw_okq (⟨"MarkupStoreModel", "loaded", "()I"⟩, 60) := ⟨⟨by decide +kernel, by decide +kernel⟩, List.mem_of_getElem? (i := 1311) (by decide +kernel), List.mem_of_getElem? (i := 1509) (by decide +kernel), List.mem_of_getElem? (i := 1510) (by decide +kernel)⟩
theorem lw_p45 : lw_okq (⟨"MarkupStoreModel", "parse", "(ZI)V"⟩, 60) := ⟨⟨by decide +kernel, by decide +kernel⟩, List.mem_of_getElem? (i := 1311) (by decide +kernel), List.mem_of_getElem? (i := 1513) (by decide +kernel), List.mem_of_getElem? (i := 1514) (by decide +kernel)⟩
theorem lw_p46 : lw_okq (⟨"MarkupStoreModel", "look", "(I)C"⟩, 60) := ⟨⟨by decide +kernel, by decide +kernel⟩, List.mem_of_getElem? (i := 1311) (by decide +kernel), List.mem_of_getElem? (i := 1517) (by decide +kernel), List.mem_of_getElem? (i := 1518) (by decide +kernel)⟩
theorem lw_p47 : lw_okq (⟨"MarkupStoreModel", "error", "(I)V"⟩, 60) := ⟨⟨by decide +kernel, by decide +kernel⟩, List.mem_of_getElem? (i := 1311) (by decide +kernel), List.mem_of_getElem? (i := 1521) (by decide +kernel), List.mem_of_getElem? (i := 1522) (by decide +kernel)⟩
def lw_privs_3 : List (MethodName × Nat) := [(⟨"MarkupStore$Walker", "ancestors", "(LMarkupStore$Node;)J"⟩, 1), (⟨"MarkupStore$Walker", "children", "(LMarkupStore$Node;)J"⟩, 1), (⟨"MarkupStore$Walker", "sift", "(LMarkupStore$Predicate;JZ)J"⟩, 1), (⟨"MarkupStore$Walker", "atPosition", "(IJZ)J"⟩, 1), (⟨"MarkupStore$Walker", "whence", "(LMarkupStore$Step;J)J"⟩, 1), (⟨"MarkupStore$Walker", "leadAll", "(LMarkupStore$Step;J)J"⟩, 1), (⟨"MarkupStore", "keepFound", "(J)V"⟩, 6), (⟨"MarkupStore$Scribe", "closeUpTo", "(LMarkupStore$Node;LMarkupStore$Node;)V"⟩, 3), (⟨"MarkupStore$Scribe", "putAll", "(Ljava/lang/String;)V"⟩, 3), (⟨"MarkupStore$Scribe", "put", "(C)V"⟩, 3), (⟨"MarkupStore$Scribe", "putStart", "(LMarkupStore$Node;Z)V"⟩, 3), (⟨"MarkupStore$Scribe", "putValue", "(Ljava/lang/String;CLjava/lang/String;)V"⟩, 3), (⟨"MarkupStoreModel", "loaded", "()I"⟩, 60), (⟨"MarkupStoreModel", "parse", "(ZI)V"⟩, 60), (⟨"MarkupStoreModel", "look", "(I)C"⟩, 60), (⟨"MarkupStoreModel", "error", "(I)V"⟩, 60)]
theorem lw_r3 : ∀ q ∈ lw_privs_3, lw_okq q := List.forall_mem_cons.mpr ⟨lw_p32, List.forall_mem_cons.mpr ⟨lw_p33, List.forall_mem_cons.mpr ⟨lw_p34, List.forall_mem_cons.mpr ⟨lw_p35, List.forall_mem_cons.mpr ⟨lw_p36, List.forall_mem_cons.mpr ⟨lw_p37, List.forall_mem_cons.mpr ⟨lw_p38, List.forall_mem_cons.mpr ⟨lw_p39, List.forall_mem_cons.mpr ⟨lw_p40, List.forall_mem_cons.mpr ⟨lw_p41, List.forall_mem_cons.mpr ⟨lw_p42, List.forall_mem_cons.mpr ⟨lw_p43, List.forall_mem_cons.mpr ⟨lw_p44, List.forall_mem_cons.mpr ⟨lw_p45, List.forall_mem_cons.mpr ⟨lw_p46, List.forall_mem_cons.mpr ⟨lw_p47, fun _ h => absurd h List.not_mem_nil⟩⟩⟩⟩⟩⟩⟩⟩⟩⟩⟩⟩⟩⟩⟩⟩
theorem lw_p48 : lw_okq (⟨"MarkupStoreModel", "tag", "(Z)V"⟩, 60) := ⟨⟨by decide +kernel, by decide +kernel⟩, List.mem_of_getElem? (i := 1311) (by decide +kernel), List.mem_of_getElem? (i := 1525) (by decide +kernel), List.mem_of_getElem? (i := 1526) (by decide +kernel)⟩
theorem lw_p49 : lw_okq (⟨"MarkupStoreModel", "startTag", "()V"⟩, 60) := ⟨⟨by decide +kernel, by decide +kernel⟩, List.mem_of_getElem? (i := 1311) (by decide +kernel), List.mem_of_getElem? (i := 1532) (by decide +kernel), List.mem_of_getElem? (i := 1533) (by decide +kernel)⟩
theorem lw_p50 : lw_okq (⟨"MarkupStoreModel", "make", "(I)I"⟩, 60) := ⟨⟨by decide +kernel, by decide +kernel⟩, List.mem_of_getElem? (i := 1311) (by decide +kernel), List.mem_of_getElem? (i := 1536) (by decide +kernel), List.mem_of_getElem? (i := 1537) (by decide +kernel)⟩
theorem lw_p51 : lw_okq (⟨"MarkupStoreModel", "letters", "(I)I"⟩, 60) := ⟨⟨by decide +kernel, by decide +kernel⟩, List.mem_of_getElem? (i := 1311) (by decide +kernel), List.mem_of_getElem? (i := 1540) (by decide +kernel), List.mem_of_getElem? (i := 1541) (by decide +kernel)⟩
theorem lw_p52 : lw_okq (⟨"MarkupStoreModel", "attribute", "(III)I"⟩, 60) := ⟨⟨by decide +kernel, by decide +kernel⟩, List.mem_of_getElem? (i := 1311) (by decide +kernel), List.mem_of_getElem? (i := 1544) (by decide +kernel), List.mem_of_getElem? (i := 1545) (by decide +kernel)⟩
theorem lw_p53 : lw_okq (⟨"MarkupStoreModel", "twice", "(III)Z"⟩, 60) := ⟨⟨by decide +kernel, by decide +kernel⟩, List.mem_of_getElem? (i := 1311) (by decide +kernel), List.mem_of_getElem? (i := 1548) (by decide +kernel), List.mem_of_getElem? (i := 1549) (by decide +kernel)⟩
theorem lw_p54 : lw_okq (⟨"MarkupStoreModel", "must", "(IC)Z"⟩, 60) := ⟨⟨by decide +kernel, by decide +kernel⟩, List.mem_of_getElem? (i := 1311) (by decide +kernel), List.mem_of_getElem? (i := 1552) (by decide +kernel), List.mem_of_getElem? (i := 1553) (by decide +kernel)⟩
theorem lw_p55 : lw_okq (⟨"MarkupStoreModel", "isEntity", "(I)Z"⟩, 60) := ⟨⟨by decide +kernel, by decide +kernel⟩, List.mem_of_getElem? (i := 1311) (by decide +kernel), List.mem_of_getElem? (i := 1556) (by decide +kernel), List.mem_of_getElem? (i := 1557) (by decide +kernel)⟩
theorem lw_p56 : lw_okq (⟨"MarkupStoreModel", "word", "(ICCCC)Z"⟩, 60) := ⟨⟨by decide +kernel, by decide +kernel⟩, List.mem_of_getElem? (i := 1311) (by decide +kernel), List.mem_of_getElem? (i := 1560) (by decide +kernel), List.mem_of_getElem? (i := 1561) (by decide +kernel)⟩
theorem lw_p57 : lw_okq (⟨"MarkupStoreModel", "append", "(IIIC)V"⟩, 60) := ⟨⟨by decide +kernel, by decide +kernel⟩, List.mem_of_getElem? (i := 1311) (by decide +kernel), List.mem_of_getElem? (i := 1564) (by decide +kernel), List.mem_of_getElem? (i := 1565) (by decide +kernel)⟩
theorem lw_p58 : lw_okq (⟨"MarkupStoreModel", "endTag", "()V"⟩, 60) := ⟨⟨by decide +kernel, by decide +kernel⟩, List.mem_of_getElem? (i := 1311) (by decide +kernel), List.mem_of_getElem? (i := 1568) (by decide +kernel), List.mem_of_getElem? (i := 1569) (by decide +kernel)⟩
theorem lw_p59 : lw_okq (⟨"MarkupStoreModel", "comment", "()V"⟩, 60) := ⟨⟨by decide +kernel, by decide +kernel⟩, List.mem_of_getElem? (i := 1311) (by decide +kernel), List.mem_of_getElem? (i := 1572) (by decide +kernel), List.mem_of_getElem? (i := 1573) (by decide +kernel)⟩
theorem lw_p60 : lw_okq (⟨"MarkupStoreModel", "set", "(III)V"⟩, 60) := ⟨⟨by decide +kernel, by decide +kernel⟩, List.mem_of_getElem? (i := 1311) (by decide +kernel), List.mem_of_getElem? (i := 1576) (by decide +kernel), List.mem_of_getElem? (i := 1577) (by decide +kernel)⟩
theorem lw_p61 : lw_okq (⟨"MarkupStoreModel", "install", "(II)V"⟩, 60) := ⟨⟨by decide +kernel, by decide +kernel⟩, List.mem_of_getElem? (i := 1311) (by decide +kernel), List.mem_of_getElem? (i := 1580) (by decide +kernel), List.mem_of_getElem? (i := 1581) (by decide +kernel)⟩
theorem lw_p62 : lw_okq (⟨"MarkupStoreModel", "count", "()I"⟩, 60) := ⟨⟨by decide +kernel, by decide +kernel⟩, List.mem_of_getElem? (i := 1311) (by decide +kernel), List.mem_of_getElem? (i := 1584) (by decide +kernel), List.mem_of_getElem? (i := 1585) (by decide +kernel)⟩
theorem lw_p63 : lw_okq (⟨"MarkupStoreModel", "f", "(II)I"⟩, 60) := ⟨⟨by decide +kernel, by decide +kernel⟩, List.mem_of_getElem? (i := 1311) (by decide +kernel), List.mem_of_getElem? (i := 1588) (by decide +kernel), List.mem_of_getElem? (i := 1589) (by decide +kernel)⟩
def lw_privs_4 : List (MethodName × Nat) := [(⟨"MarkupStoreModel", "tag", "(Z)V"⟩, 60), (⟨"MarkupStoreModel", "startTag", "()V"⟩, 60), (⟨"MarkupStoreModel", "make", "(I)I"⟩, 60), (⟨"MarkupStoreModel", "letters", "(I)I"⟩, 60), (⟨"MarkupStoreModel", "attribute", "(III)I"⟩, 60), (⟨"MarkupStoreModel", "twice", "(III)Z"⟩, 60), (⟨"MarkupStoreModel", "must", "(IC)Z"⟩, 60), (⟨"MarkupStoreModel", "isEntity", "(I)Z"⟩, 60), (⟨"MarkupStoreModel", "word", "(ICCCC)Z"⟩, 60), (⟨"MarkupStoreModel", "append", "(IIIC)V"⟩, 60), (⟨"MarkupStoreModel", "endTag", "()V"⟩, 60), (⟨"MarkupStoreModel", "comment", "()V"⟩, 60), (⟨"MarkupStoreModel", "set", "(III)V"⟩, 60), (⟨"MarkupStoreModel", "install", "(II)V"⟩, 60), (⟨"MarkupStoreModel", "count", "()I"⟩, 60), (⟨"MarkupStoreModel", "f", "(II)I"⟩, 60)]
theorem lw_r4 : ∀ q ∈ lw_privs_4, lw_okq q := List.forall_mem_cons.mpr ⟨lw_p48, List.forall_mem_cons.mpr ⟨lw_p49, List.forall_mem_cons.mpr ⟨lw_p50, List.forall_mem_cons.mpr ⟨lw_p51, List.forall_mem_cons.mpr ⟨lw_p52, List.forall_mem_cons.mpr ⟨lw_p53, List.forall_mem_cons.mpr ⟨lw_p54, List.forall_mem_cons.mpr ⟨lw_p55, List.forall_mem_cons.mpr ⟨lw_p56, List.forall_mem_cons.mpr ⟨lw_p57, List.forall_mem_cons.mpr ⟨lw_p58, List.forall_mem_cons.mpr ⟨lw_p59, List.forall_mem_cons.mpr ⟨lw_p60, List.forall_mem_cons.mpr ⟨lw_p61, List.forall_mem_cons.mpr ⟨lw_p62, List.forall_mem_cons.mpr ⟨lw_p63, fun _ h => absurd h List.not_mem_nil⟩⟩⟩⟩⟩⟩⟩⟩⟩⟩⟩⟩⟩⟩⟩⟩
theorem lw_p64 : lw_okq (⟨"MarkupStoreModel", "labelBy", "(III)V"⟩, 60) := ⟨⟨by decide +kernel, by decide +kernel⟩, List.mem_of_getElem? (i := 1311) (by decide +kernel), List.mem_of_getElem? (i := 1592) (by decide +kernel), List.mem_of_getElem? (i := 1593) (by decide +kernel)⟩
theorem lw_p65 : lw_okq (⟨"MarkupStoreModel", "save", "()V"⟩, 60) := ⟨⟨by decide +kernel, by decide +kernel⟩, List.mem_of_getElem? (i := 1311) (by decide +kernel), List.mem_of_getElem? (i := 1596) (by decide +kernel), List.mem_of_getElem? (i := 1597) (by decide +kernel)⟩
theorem lw_p66 : lw_okq (⟨"MarkupStoreModel", "place", "(I)I"⟩, 60) := ⟨⟨by decide +kernel, by decide +kernel⟩, List.mem_of_getElem? (i := 1311) (by decide +kernel), List.mem_of_getElem? (i := 1604) (by decide +kernel), List.mem_of_getElem? (i := 1605) (by decide +kernel)⟩
theorem lw_p67 : lw_okq (⟨"MarkupStoreModel", "doc", "(I)I"⟩, 60) := ⟨⟨by decide +kernel, by decide +kernel⟩, List.mem_of_getElem? (i := 1311) (by decide +kernel), List.mem_of_getElem? (i := 1608) (by decide +kernel), List.mem_of_getElem? (i := 1609) (by decide +kernel)⟩
theorem lw_p68 : lw_okq (⟨"MarkupStoreModel", "inserted", "(II)I"⟩, 60) := ⟨⟨by decide +kernel, by decide +kernel⟩, List.mem_of_getElem? (i := 1311) (by decide +kernel), List.mem_of_getElem? (i := 1612) (by decide +kernel), List.mem_of_getElem? (i := 1613) (by decide +kernel)⟩
theorem lw_p69 : lw_okq (⟨"MarkupStoreModel", "depth", "(I)I"⟩, 60) := ⟨⟨by decide +kernel, by decide +kernel⟩, List.mem_of_getElem? (i := 1311) (by decide +kernel), List.mem_of_getElem? (i := 1616) (by decide +kernel), List.mem_of_getElem? (i := 1617) (by decide +kernel)⟩
theorem lw_p70 : lw_okq (⟨"MarkupStoreModel", "sibling", "(II)I"⟩, 60) := ⟨⟨by decide +kernel, by decide +kernel⟩, List.mem_of_getElem? (i := 1311) (by decide +kernel), List.mem_of_getElem? (i := 1620) (by decide +kernel), List.mem_of_getElem? (i := 1621) (by decide +kernel)⟩
theorem lw_p71 : lw_okq (⟨"MarkupStoreModel", "order", "(I)I"⟩, 60) := ⟨⟨by decide +kernel, by decide +kernel⟩, List.mem_of_getElem? (i := 1311) (by decide +kernel), List.mem_of_getElem? (i := 1624) (by decide +kernel), List.mem_of_getElem? (i := 1625) (by decide +kernel)⟩
theorem lw_p72 : lw_okq (⟨"MarkupStoreModel", "child", "(II)I"⟩, 60) := ⟨⟨by decide +kernel, by decide +kernel⟩, List.mem_of_getElem? (i := 1311) (by decide +kernel), List.mem_of_getElem? (i := 1628) (by decide +kernel), List.mem_of_getElem? (i := 1629) (by decide +kernel)⟩
theorem lw_p73 : lw_okq (⟨"MarkupStoreModel", "joined", "(IZ)I"⟩, 60) := ⟨⟨by decide +kernel, by decide +kernel⟩, List.mem_of_getElem? (i := 1311) (by decide +kernel), List.mem_of_getElem? (i := 1632) (by decide +kernel), List.mem_of_getElem? (i := 1633) (by decide +kernel)⟩
theorem lw_p74 : lw_okq (⟨"MarkupStoreModel", "between", "(III)V"⟩, 60) := ⟨⟨by decide +kernel, by decide +kernel⟩, List.mem_of_getElem? (i := 1311) (by decide +kernel), List.mem_of_getElem? (i := 1636) (by decide +kernel), List.mem_of_getElem? (i := 1637) (by decide +kernel)⟩
theorem lw_p75 : lw_okq (⟨"MarkupStoreModel", "tailBy", "(I)V"⟩, 60) := ⟨⟨by decide +kernel, by decide +kernel⟩, List.mem_of_getElem? (i := 1311) (by decide +kernel), List.mem_of_getElem? (i := 1643) (by decide +kernel), List.mem_of_getElem? (i := 1644) (by decide +kernel)⟩
theorem lw_p76 : lw_okq (⟨"MarkupStoreModel", "below", "()I"⟩, 60) := ⟨⟨by decide +kernel, by decide +kernel⟩, List.mem_of_getElem? (i := 1311) (by decide +kernel), List.mem_of_getElem? (i := 1647) (by decide +kernel), List.mem_of_getElem? (i := 1648) (by decide +kernel)⟩
theorem lw_p77 : lw_okq (⟨"MarkupStoreModel", "end", "(I)I"⟩, 60) := ⟨⟨by decide +kernel, by decide +kernel⟩, List.mem_of_getElem? (i := 1311) (by decide +kernel), List.mem_of_getElem? (i := 1651) (by decide +kernel), List.mem_of_getElem? (i := 1652) (by decide +kernel)⟩
theorem lw_p78 : lw_okq (⟨"MarkupStoreModel", "drop", "(II)V"⟩, 60) := ⟨⟨by decide +kernel, by decide +kernel⟩, List.mem_of_getElem? (i := 1311) (by decide +kernel), List.mem_of_getElem? (i := 1659) (by decide +kernel), List.mem_of_getElem? (i := 1660) (by decide +kernel)⟩
theorem lw_p79 : lw_okq (⟨"MarkupStoreModel", "asked", "(I)I"⟩, 60) := ⟨⟨by decide +kernel, by decide +kernel⟩, List.mem_of_getElem? (i := 1311) (by decide +kernel), List.mem_of_getElem? (i := 1671) (by decide +kernel), List.mem_of_getElem? (i := 1672) (by decide +kernel)⟩
def lw_privs_5 : List (MethodName × Nat) := [(⟨"MarkupStoreModel", "labelBy", "(III)V"⟩, 60), (⟨"MarkupStoreModel", "save", "()V"⟩, 60), (⟨"MarkupStoreModel", "place", "(I)I"⟩, 60), (⟨"MarkupStoreModel", "doc", "(I)I"⟩, 60), (⟨"MarkupStoreModel", "inserted", "(II)I"⟩, 60), (⟨"MarkupStoreModel", "depth", "(I)I"⟩, 60), (⟨"MarkupStoreModel", "sibling", "(II)I"⟩, 60), (⟨"MarkupStoreModel", "order", "(I)I"⟩, 60), (⟨"MarkupStoreModel", "child", "(II)I"⟩, 60), (⟨"MarkupStoreModel", "joined", "(IZ)I"⟩, 60), (⟨"MarkupStoreModel", "between", "(III)V"⟩, 60), (⟨"MarkupStoreModel", "tailBy", "(I)V"⟩, 60), (⟨"MarkupStoreModel", "below", "()I"⟩, 60), (⟨"MarkupStoreModel", "end", "(I)I"⟩, 60), (⟨"MarkupStoreModel", "drop", "(II)V"⟩, 60), (⟨"MarkupStoreModel", "asked", "(I)I"⟩, 60)]
theorem lw_r5 : ∀ q ∈ lw_privs_5, lw_okq q := List.forall_mem_cons.mpr ⟨lw_p64, List.forall_mem_cons.mpr ⟨lw_p65, List.forall_mem_cons.mpr ⟨lw_p66, List.forall_mem_cons.mpr ⟨lw_p67, List.forall_mem_cons.mpr ⟨lw_p68, List.forall_mem_cons.mpr ⟨lw_p69, List.forall_mem_cons.mpr ⟨lw_p70, List.forall_mem_cons.mpr ⟨lw_p71, List.forall_mem_cons.mpr ⟨lw_p72, List.forall_mem_cons.mpr ⟨lw_p73, List.forall_mem_cons.mpr ⟨lw_p74, List.forall_mem_cons.mpr ⟨lw_p75, List.forall_mem_cons.mpr ⟨lw_p76, List.forall_mem_cons.mpr ⟨lw_p77, List.forall_mem_cons.mpr ⟨lw_p78, List.forall_mem_cons.mpr ⟨lw_p79, fun _ h => absurd h List.not_mem_nil⟩⟩⟩⟩⟩⟩⟩⟩⟩⟩⟩⟩⟩⟩⟩⟩
theorem lw_p80 : lw_okq (⟨"MarkupStoreModel", "readPath", "()V"⟩, 60) := ⟨⟨by decide +kernel, by decide +kernel⟩, List.mem_of_getElem? (i := 1311) (by decide +kernel), List.mem_of_getElem? (i := 1675) (by decide +kernel), List.mem_of_getElem? (i := 1676) (by decide +kernel)⟩
theorem lw_p81 : lw_okq (⟨"MarkupStoreModel", "beginPath", "()V"⟩, 60) := ⟨⟨by decide +kernel, by decide +kernel⟩, List.mem_of_getElem? (i := 1311) (by decide +kernel), List.mem_of_getElem? (i := 1679) (by decide +kernel), List.mem_of_getElem? (i := 1680) (by decide +kernel)⟩
theorem lw_p82 : lw_okq (⟨"MarkupStoreModel", "beginStep", "()V"⟩, 60) := ⟨⟨by decide +kernel, by decide +kernel⟩, List.mem_of_getElem? (i := 1311) (by decide +kernel), List.mem_of_getElem? (i := 1683) (by decide +kernel), List.mem_of_getElem? (i := 1684) (by decide +kernel)⟩
theorem lw_p83 : lw_okq (⟨"MarkupStoreModel", "behindStep", "()V"⟩, 60) := ⟨⟨by decide +kernel, by decide +kernel⟩, List.mem_of_getElem? (i := 1311) (by decide +kernel), List.mem_of_getElem? (i := 1690) (by decide +kernel), List.mem_of_getElem? (i := 1691) (by decide +kernel)⟩
theorem lw_p84 : lw_okq (⟨"MarkupStoreModel", "string", "(I)V"⟩, 60) := ⟨⟨by decide +kernel, by decide +kernel⟩, List.mem_of_getElem? (i := 1311) (by decide +kernel), List.mem_of_getElem? (i := 1694) (by decide +kernel), List.mem_of_getElem? (i := 1695) (by decide +kernel)⟩
theorem lw_p85 : lw_okq (⟨"MarkupStoreModel", "beginPredicate", "()V"⟩, 60) := ⟨⟨by decide +kernel, by decide +kernel⟩, List.mem_of_getElem? (i := 1311) (by decide +kernel), List.mem_of_getElem? (i := 1698) (by decide +kernel), List.mem_of_getElem? (i := 1699) (by decide +kernel)⟩
theorem lw_p86 : lw_okq (⟨"MarkupStoreModel", "attributePredicate", "(I)V"⟩, 60) := ⟨⟨by decide +kernel, by decide +kernel⟩, List.mem_of_getElem? (i := 1311) (by decide +kernel), List.mem_of_getElem? (i := 1705) (by decide +kernel), List.mem_of_getElem? (i := 1706) (by decide +kernel)⟩
theorem lw_p87 : lw_okq (⟨"MarkupStoreModel", "fill", "(I)V"⟩, 60) := ⟨⟨by decide +kernel, by decide +kernel⟩, List.mem_of_getElem? (i := 1311) (by decide +kernel), List.mem_of_getElem? (i := 1709) (by decide +kernel), List.mem_of_getElem? (i := 1710) (by decide +kernel)⟩
theorem lw_p88 : lw_okq (⟨"MarkupStoreModel", "lead", "(II)J"⟩, 60) := ⟨⟨by decide +kernel, by decide +kernel⟩, List.mem_of_getElem? (i := 1311) (by decide +kernel), List.mem_of_getElem? (i := 1713) (by decide +kernel), List.mem_of_getElem? (i := 1714) (by decide +kernel)⟩
theorem lw_p89 : lw_okq (⟨"MarkupStoreModel", "walk", "(II)J"⟩, 60) := ⟨⟨by decide +kernel, by decide +kernel⟩, List.mem_of_getElem? (i := 1311) (by decide +kernel), List.mem_of_getElem? (i := 1717) (by decide +kernel), List.mem_of_getElem? (i := 1718) (by decide +kernel)⟩
theorem lw_p90 : lw_okq (⟨"MarkupStoreModel", "gather", "(II)V"⟩, 60) := ⟨⟨by decide +kernel, by decide +kernel⟩, List.mem_of_getElem? (i := 1311) (by decide +kernel), List.mem_of_getElem? (i := 1721) (by decide +kernel), List.mem_of_getElem? (i := 1722) (by decide +kernel)⟩
theorem lw_p91 : lw_okq (⟨"MarkupStoreModel", "entries", "(II)V"⟩, 60) := ⟨⟨by decide +kernel, by decide +kernel⟩, List.mem_of_getElem? (i := 1311) (by decide +kernel), List.mem_of_getElem? (i := 1725) (by decide +kernel), List.mem_of_getElem? (i := 1726) (by decide +kernel)⟩
theorem lw_p92 : lw_okq (⟨"MarkupStoreModel", "entry", "(I)V"⟩, 60) := ⟨⟨by decide +kernel, by decide +kernel⟩, List.mem_of_getElem? (i := 1311) (by decide +kernel), List.mem_of_getElem? (i := 1729) (by decide +kernel), List.mem_of_getElem? (i := 1730) (by decide +kernel)⟩
theorem lw_p93 : lw_okq (⟨"MarkupStoreModel", "sameParent", "(II)Z"⟩, 60) := ⟨⟨by decide +kernel, by decide +kernel⟩, List.mem_of_getElem? (i := 1311) (by decide +kernel), List.mem_of_getElem? (i := 1733) (by decide +kernel), List.mem_of_getElem? (i := 1734) (by decide +kernel)⟩
theorem lw_p94 : lw_okq (⟨"MarkupStoreModel", "isKind", "(II)Z"⟩, 60) := ⟨⟨by decide +kernel, by decide +kernel⟩, List.mem_of_getElem? (i := 1311) (by decide +kernel), List.mem_of_getElem? (i := 1737) (by decide +kernel), List.mem_of_getElem? (i := 1738) (by decide +kernel)⟩
theorem lw_p95 : lw_okq (⟨"MarkupStoreModel", "holds", "(IIII)Z"⟩, 60) := ⟨⟨by decide +kernel, by decide +kernel⟩, List.mem_of_getElem? (i := 1311) (by decide +kernel), List.mem_of_getElem? (i := 1741) (by decide +kernel), List.mem_of_getElem? (i := 1742) (by decide +kernel)⟩
def lw_privs_6 : List (MethodName × Nat) := [(⟨"MarkupStoreModel", "readPath", "()V"⟩, 60), (⟨"MarkupStoreModel", "beginPath", "()V"⟩, 60), (⟨"MarkupStoreModel", "beginStep", "()V"⟩, 60), (⟨"MarkupStoreModel", "behindStep", "()V"⟩, 60), (⟨"MarkupStoreModel", "string", "(I)V"⟩, 60), (⟨"MarkupStoreModel", "beginPredicate", "()V"⟩, 60), (⟨"MarkupStoreModel", "attributePredicate", "(I)V"⟩, 60), (⟨"MarkupStoreModel", "fill", "(I)V"⟩, 60), (⟨"MarkupStoreModel", "lead", "(II)J"⟩, 60), (⟨"MarkupStoreModel", "walk", "(II)J"⟩, 60), (⟨"MarkupStoreModel", "gather", "(II)V"⟩, 60), (⟨"MarkupStoreModel", "entries", "(II)V"⟩, 60), (⟨"MarkupStoreModel", "entry", "(I)V"⟩, 60), (⟨"MarkupStoreModel", "sameParent", "(II)Z"⟩, 60), (⟨"MarkupStoreModel", "isKind", "(II)Z"⟩, 60), (⟨"MarkupStoreModel", "holds", "(IIII)Z"⟩, 60)]
theorem lw_r6 : ∀ q ∈ lw_privs_6, lw_okq q := List.forall_mem_cons.mpr ⟨lw_p80, List.forall_mem_cons.mpr ⟨lw_p81, List.forall_mem_cons.mpr ⟨lw_p82, List.forall_mem_cons.mpr ⟨lw_p83, List.forall_mem_cons.mpr ⟨lw_p84, List.forall_mem_cons.mpr ⟨lw_p85, List.forall_mem_cons.mpr ⟨lw_p86, List.forall_mem_cons.mpr ⟨lw_p87, List.forall_mem_cons.mpr ⟨lw_p88, List.forall_mem_cons.mpr ⟨lw_p89, List.forall_mem_cons.mpr ⟨lw_p90, List.forall_mem_cons.mpr ⟨lw_p91, List.forall_mem_cons.mpr ⟨lw_p92, List.forall_mem_cons.mpr ⟨lw_p93, List.forall_mem_cons.mpr ⟨lw_p94, List.forall_mem_cons.mpr ⟨lw_p95, fun _ h => absurd h List.not_mem_nil⟩⟩⟩⟩⟩⟩⟩⟩⟩⟩⟩⟩⟩⟩⟩⟩
theorem lw_p96 : lw_okq (⟨"MarkupStoreModel", "holdsAttribute", "(II)Z"⟩, 60) := ⟨⟨by decide +kernel, by decide +kernel⟩, List.mem_of_getElem? (i := 1311) (by decide +kernel), List.mem_of_getElem? (i := 1745) (by decide +kernel), List.mem_of_getElem? (i := 1746) (by decide +kernel)⟩
theorem lw_p97 : lw_okq (⟨"MarkupStoreModel", "attributeOf", "(III)I"⟩, 60) := ⟨⟨by decide +kernel, by decide +kernel⟩, List.mem_of_getElem? (i := 1311) (by decide +kernel), List.mem_of_getElem? (i := 1749) (by decide +kernel), List.mem_of_getElem? (i := 1750) (by decide +kernel)⟩
theorem lw_p98 : lw_okq (⟨"MarkupStoreModel", "reads", "(IIIZ)Z"⟩, 60) := ⟨⟨by decide +kernel, by decide +kernel⟩, List.mem_of_getElem? (i := 1311) (by decide +kernel), List.mem_of_getElem? (i := 1753) (by decide +kernel), List.mem_of_getElem? (i := 1754) (by decide +kernel)⟩
theorem lw_p99 : lw_okq (⟨"MarkupStoreModel", "kids", "(IZ)I"⟩, 60) := ⟨⟨by decide +kernel, by decide +kernel⟩, List.mem_of_getElem? (i := 1311) (by decide +kernel), List.mem_of_getElem? (i := 1777) (by decide +kernel), List.mem_of_getElem? (i := 1778) (by decide +kernel)⟩
theorem lw_p100 : lw_okq (⟨"MarkupStoreModel", "write", "(I)V"⟩, 60) := ⟨⟨by decide +kernel, by decide +kernel⟩, List.mem_of_getElem? (i := 1311) (by decide +kernel), List.mem_of_getElem? (i := 1801) (by decide +kernel), List.mem_of_getElem? (i := 1802) (by decide +kernel)⟩
theorem lw_p101 : lw_okq (⟨"MarkupStoreModel", "outTag", "(I)V"⟩, 60) := ⟨⟨by decide +kernel, by decide +kernel⟩, List.mem_of_getElem? (i := 1311) (by decide +kernel), List.mem_of_getElem? (i := 1805) (by decide +kernel), List.mem_of_getElem? (i := 1806) (by decide +kernel)⟩
theorem lw_p102 : lw_okq (⟨"MarkupStoreModel", "out", "(I)V"⟩, 60) := ⟨⟨by decide +kernel, by decide +kernel⟩, List.mem_of_getElem? (i := 1311) (by decide +kernel), List.mem_of_getElem? (i := 1809) (by decide +kernel), List.mem_of_getElem? (i := 1810) (by decide +kernel)⟩
theorem lw_p103 : lw_okq (⟨"MarkupStoreModel", "outName", "(I)V"⟩, 60) := ⟨⟨by decide +kernel, by decide +kernel⟩, List.mem_of_getElem? (i := 1311) (by decide +kernel), List.mem_of_getElem? (i := 1813) (by decide +kernel), List.mem_of_getElem? (i := 1814) (by decide +kernel)⟩
theorem lw_p104 : lw_okq (⟨"MarkupStoreModel", "outFour", "(IIII)V"⟩, 60) := ⟨⟨by decide +kernel, by decide +kernel⟩, List.mem_of_getElem? (i := 1311) (by decide +kernel), List.mem_of_getElem? (i := 1817) (by decide +kernel), List.mem_of_getElem? (i := 1818) (by decide +kernel)⟩
theorem lw_p105 : lw_okq (⟨"MarkupStoreModel", "outValue", "(IC)V"⟩, 60) := ⟨⟨by decide +kernel, by decide +kernel⟩, List.mem_of_getElem? (i := 1311) (by decide +kernel), List.mem_of_getElem? (i := 1821) (by decide +kernel), List.mem_of_getElem? (i := 1822) (by decide +kernel)⟩
theorem lw_p106 : lw_okq (⟨"MarkupStoreModel", "outComment", "(I)V"⟩, 60) := ⟨⟨by decide +kernel, by decide +kernel⟩, List.mem_of_getElem? (i := 1311) (by decide +kernel), List.mem_of_getElem? (i := 1825) (by decide +kernel), List.mem_of_getElem? (i := 1826) (by decide +kernel)⟩
def lw_privs_7 : List (MethodName × Nat) := [(⟨"MarkupStoreModel", "holdsAttribute", "(II)Z"⟩, 60), (⟨"MarkupStoreModel", "attributeOf", "(III)I"⟩, 60), (⟨"MarkupStoreModel", "reads", "(IIIZ)Z"⟩, 60), (⟨"MarkupStoreModel", "kids", "(IZ)I"⟩, 60), (⟨"MarkupStoreModel", "write", "(I)V"⟩, 60), (⟨"MarkupStoreModel", "outTag", "(I)V"⟩, 60), (⟨"MarkupStoreModel", "out", "(I)V"⟩, 60), (⟨"MarkupStoreModel", "outName", "(I)V"⟩, 60), (⟨"MarkupStoreModel", "outFour", "(IIII)V"⟩, 60), (⟨"MarkupStoreModel", "outValue", "(IC)V"⟩, 60), (⟨"MarkupStoreModel", "outComment", "(I)V"⟩, 60)]
theorem lw_r7 : ∀ q ∈ lw_privs_7, lw_okq q := List.forall_mem_cons.mpr ⟨lw_p96, List.forall_mem_cons.mpr ⟨lw_p97, List.forall_mem_cons.mpr ⟨lw_p98, List.forall_mem_cons.mpr ⟨lw_p99, List.forall_mem_cons.mpr ⟨lw_p100, List.forall_mem_cons.mpr ⟨lw_p101, List.forall_mem_cons.mpr ⟨lw_p102, List.forall_mem_cons.mpr ⟨lw_p103, List.forall_mem_cons.mpr ⟨lw_p104, List.forall_mem_cons.mpr ⟨lw_p105, List.forall_mem_cons.mpr ⟨lw_p106, fun _ h => absurd h List.not_mem_nil⟩⟩⟩⟩⟩⟩⟩⟩⟩⟩⟩
def lw_privs : List (MethodName × Nat) := lw_privs_1 ++ (lw_privs_2 ++ (lw_privs_3 ++ (lw_privs_4 ++ (lw_privs_5 ++ (lw_privs_6 ++ (lw_privs_7))))))
def lw_tbl : List Cond := k2_sels lw_privs ++ tables_1
theorem lw_privs_ok : ∀ q ∈ lw_privs, lw_okq q := by
  show ∀ q ∈ lw_privs_1 ++ (lw_privs_2 ++ (lw_privs_3 ++ (lw_privs_4 ++ (lw_privs_5 ++ (lw_privs_6 ++ (lw_privs_7)))))), lw_okq q
  exact List.forall_mem_append.mpr ⟨lw_r1, List.forall_mem_append.mpr ⟨lw_r2, List.forall_mem_append.mpr ⟨lw_r3, List.forall_mem_append.mpr ⟨lw_r4, List.forall_mem_append.mpr ⟨lw_r5, List.forall_mem_append.mpr ⟨lw_r6, lw_r7⟩⟩⟩⟩⟩⟩

def kR0 : String := "MarkupStore"
def kT0 : u_T := fun k => match k with
  | 0 => ("MarkupStore", "buffer", "Ljava/lang/StringBuilder;", true)
  | 1 => ("MarkupStore", "scratch", "Ljava/lang/StringBuilder;", true)
  | 2 => ("MarkupStore", "tree", "LMarkupStore$Tree;", true)
  | 3 => ("MarkupStore", "found", "[I", true)
  | 4 => ("MarkupStore", "foundSize", "I", false)
  | _ => ("MarkupStore", "changes", "I", false)
def kt0 : Nat → FieldType := fun k => match k with
  | 0 => (.object "java/lang/StringBuilder")
  | 1 => (.object "java/lang/StringBuilder")
  | 2 => (.object "MarkupStore$Tree")
  | 3 => (.array .int)
  | 4 => .int
  | _ => .int
def kR1 : String := "MarkupStore$Tree"
def kT1 : u_T := fun k => match k with
  | 0 => ("MarkupStore$Tree", "made", "[LMarkupStore$Node;", true)
  | 1 => ("MarkupStore$Tree", "madeSize", "I", false)
  | 2 => ("MarkupStore$Tree", "order", "[LMarkupStore$Node;", true)
  | 3 => ("MarkupStore$Tree", "size", "I", false)
  | 4 => ("MarkupStore$Tree", "kept", "[LMarkupStore$Node;", true)
  | _ => ("MarkupStore$Tree", "keptSize", "I", false)
def kt1 : Nat → FieldType := fun k => match k with
  | 0 => (.array (.object "MarkupStore$Node"))
  | 1 => .int
  | 2 => (.array (.object "MarkupStore$Node"))
  | 3 => .int
  | 4 => (.array (.object "MarkupStore$Node"))
  | _ => .int
def kR2 : String := "MarkupStoreModel"
def kT2 : u_T := fun k => match k with
  | 0 => ("MarkupStoreModel", "t", "[I", true)
  | 1 => ("MarkupStoreModel", "saved", "[I", true)
  | 2 => ("MarkupStoreModel", "w", "[I", true)
  | 3 => ("MarkupStoreModel", "slots", "[I", true)
  | 4 => ("MarkupStoreModel", "made", "I", false)
  | 5 => ("MarkupStoreModel", "changes", "I", false)
  | 6 => ("MarkupStoreModel", "buffer", "[C", true)
  | 7 => ("MarkupStoreModel", "size", "I", false)
  | 8 => ("MarkupStoreModel", "p", "I", false)
  | 9 => ("MarkupStoreModel", "wrong", "I", false)
  | 10 => ("MarkupStoreModel", "many", "I", false)
  | 11 => ("MarkupStoreModel", "over", "Z", false)
  | 12 => ("MarkupStoreModel", "text", "I", false)
  | 13 => ("MarkupStoreModel", "base", "I", false)
  | 14 => ("MarkupStoreModel", "opens", "I", false)
  | 15 => ("MarkupStoreModel", "openAt", "[I", true)
  | 16 => ("MarkupStoreModel", "openFrom", "[I", true)
  | 17 => ("MarkupStoreModel", "openSize", "[I", true)
  | 18 => ("MarkupStoreModel", "entity", "I", false)
  | 19 => ("MarkupStoreModel", "entityLength", "I", false)
  | 20 => ("MarkupStoreModel", "nameFrom", "[I", true)
  | 21 => ("MarkupStoreModel", "nameSize", "[I", true)
  | 22 => ("MarkupStoreModel", "tail", "[I", true)
  | 23 => ("MarkupStoreModel", "tails", "I", false)
  | 24 => ("MarkupStoreModel", "steps", "I", false)
  | 25 => ("MarkupStoreModel", "axis", "[I", true)
  | 26 => ("MarkupStoreModel", "stepKind", "[I", true)
  | 27 => ("MarkupStoreModel", "stepFrom", "[I", true)
  | 28 => ("MarkupStoreModel", "stepSize", "[I", true)
  | 29 => ("MarkupStoreModel", "stepPredicate", "[I", true)
  | 30 => ("MarkupStoreModel", "stepNext", "[I", true)
  | 31 => ("MarkupStoreModel", "predicates", "I", false)
  | 32 => ("MarkupStoreModel", "what", "[I", true)
  | 33 => ("MarkupStoreModel", "position", "[I", true)
  | 34 => ("MarkupStoreModel", "attrFrom", "[I", true)
  | 35 => ("MarkupStoreModel", "attrSize", "[I", true)
  | 36 => ("MarkupStoreModel", "textFrom", "[I", true)
  | 37 => ("MarkupStoreModel", "textSize", "[I", true)
  | 38 => ("MarkupStoreModel", "pathStep", "[I", true)
  | 39 => ("MarkupStoreModel", "predicateNext", "[I", true)
  | 40 => ("MarkupStoreModel", "not", "[Z", true)
  | 41 => ("MarkupStoreModel", "pathAbsolute", "[Z", true)
  | 42 => ("MarkupStoreModel", "mask", "[J", true)
  | 43 => ("MarkupStoreModel", "ended", "I", false)
  | 44 => ("MarkupStoreModel", "endedPath", "[I", true)
  | 45 => ("MarkupStoreModel", "level", "I", false)
  | 46 => ("MarkupStoreModel", "nesting", "I", false)
  | 47 => ("MarkupStoreModel", "state", "I", false)
  | 48 => ("MarkupStoreModel", "topStep", "I", false)
  | 49 => ("MarkupStoreModel", "topAbsolute", "Z", false)
  | 50 => ("MarkupStoreModel", "owner", "[I", true)
  | 51 => ("MarkupStoreModel", "lastStep", "[I", true)
  | 52 => ("MarkupStoreModel", "lastPredicate", "[I", true)
  | 53 => ("MarkupStoreModel", "listed", "I", false)
  | 54 => ("MarkupStoreModel", "list", "[I", true)
  | 55 => ("MarkupStoreModel", "results", "I", false)
  | 56 => ("MarkupStoreModel", "result", "[I", true)
  | 57 => ("MarkupStoreModel", "total", "I", false)
  | 58 => ("MarkupStoreModel", "wanted", "I", false)
  | _ => ("MarkupStoreModel", "found", "I", false)
def kt2 : Nat → FieldType := fun k => match k with
  | 0 => (.array .int)
  | 1 => (.array .int)
  | 2 => (.array .int)
  | 3 => (.array .int)
  | 4 => .int
  | 5 => .int
  | 6 => (.array .char)
  | 7 => .int
  | 8 => .int
  | 9 => .int
  | 10 => .int
  | 11 => .boolean
  | 12 => .int
  | 13 => .int
  | 14 => .int
  | 15 => (.array .int)
  | 16 => (.array .int)
  | 17 => (.array .int)
  | 18 => .int
  | 19 => .int
  | 20 => (.array .int)
  | 21 => (.array .int)
  | 22 => (.array .int)
  | 23 => .int
  | 24 => .int
  | 25 => (.array .int)
  | 26 => (.array .int)
  | 27 => (.array .int)
  | 28 => (.array .int)
  | 29 => (.array .int)
  | 30 => (.array .int)
  | 31 => .int
  | 32 => (.array .int)
  | 33 => (.array .int)
  | 34 => (.array .int)
  | 35 => (.array .int)
  | 36 => (.array .int)
  | 37 => (.array .int)
  | 38 => (.array .int)
  | 39 => (.array .int)
  | 40 => (.array .boolean)
  | 41 => (.array .boolean)
  | 42 => (.array .long)
  | 43 => .int
  | 44 => (.array .int)
  | 45 => .int
  | 46 => .int
  | 47 => .int
  | 48 => .int
  | 49 => .boolean
  | 50 => (.array .int)
  | 51 => (.array .int)
  | 52 => (.array .int)
  | 53 => .int
  | 54 => (.array .int)
  | 55 => .int
  | 56 => (.array .int)
  | 57 => .int
  | 58 => .int
  | _ => .int
def kR3 : String := "java/lang/StringBuilder"
def kT3 : u_T := fun k => match k with
  | 0 => ("java/lang/AbstractStringBuilder", "value", "[B", false)
  | 1 => ("java/lang/AbstractStringBuilder", "coder", "B", false)
  | 2 => ("java/lang/AbstractStringBuilder", "maybeLatin1", "Z", false)
  | _ => ("java/lang/AbstractStringBuilder", "count", "I", false)
def kt3 : Nat → FieldType := fun k => match k with
  | 0 => (.array .byte)
  | 1 => .byte
  | 2 => .boolean
  | _ => .int
def kR4 : String := "java/util/ArrayList"
def kT4 : u_T := fun k => match k with
  | 0 => ("java/util/AbstractList", "modCount", "I", false)
  | 1 => ("java/util/ArrayList", "elementData", "[Ljava/lang/Object;", false)
  | _ => ("java/util/ArrayList", "size", "I", false)
def kt4 : Nat → FieldType := fun k => match k with
  | 0 => .int
  | 1 => (.array (.object "java/lang/Object"))
  | _ => .int
def kR5 : String := "java/lang/String"
def kT5 : u_T := fun k => match k with
  | 0 => ("java/lang/String", "value", "[B", true)
  | 1 => ("java/lang/String", "coder", "B", true)
  | 2 => ("java/lang/String", "hash", "I", false)
  | _ => ("java/lang/String", "hashIsZero", "Z", false)
def kt5 : Nat → FieldType := fun k => match k with
  | 0 => (.array .byte)
  | 1 => .byte
  | 2 => .int
  | _ => .boolean
def kR6 : String := "MarkupStore$MarkupReader"
def kT6 : u_T := fun k => match k with
  | 0 => ("MarkupStore$TextReader", "text", "Ljava/lang/String;", true)
  | 1 => ("MarkupStore$TextReader", "at", "I", false)
  | 2 => ("MarkupStore$TextReader", "wrong", "I", false)
  | 3 => ("MarkupStore$MarkupReader", "read", "Ljava/util/ArrayList;", true)
  | 4 => ("MarkupStore$MarkupReader", "scratch", "Ljava/lang/StringBuilder;", true)
  | _ => ("MarkupStore$MarkupReader", "tooMuch", "Z", false)
def kt6 : Nat → FieldType := fun k => match k with
  | 0 => (.object "java/lang/String")
  | 1 => .int
  | 2 => .int
  | 3 => (.object "java/util/ArrayList")
  | 4 => (.object "java/lang/StringBuilder")
  | _ => .boolean
def kR7 : String := "MarkupStore$Scribe"
def kT7 : u_T := fun k => match k with
  | 0 => ("MarkupStore$Scribe", "wanted", "I", true)
  | 1 => ("MarkupStore$Scribe", "count", "I", false)
  | _ => ("MarkupStore$Scribe", "seen", "I", false)
def kt7 : Nat → FieldType := fun k => match k with
  | 0 => .int
  | 1 => .int
  | _ => .int
abbrev vwCl : List vw_C := [(kR0, kT0, 6), (kR1, kT1, 6), (kR2, kT2, 60), (kR3, kT3, 4), (kR4, kT4, 3), (kR5, kT5, 4), (kR6, kT6, 6), (kR7, kT7, 3)]
abbrev ms_tys (dA : Nat → ClassId) : List (ClassId × FieldType) := [(dA 0, .int), (dA 1, .char), (dA 2, .byte), (dA 3, .boolean), (dA 4, .long), (dA 5, .object "MarkupStore$Node")]
def ms_xs : List Cond := [.selects "java/lang/StringBuilder" ⟨"java/lang/AbstractStringBuilder", "ensureCapacityInternal", "(I)V"⟩ ⟨"java/lang/AbstractStringBuilder", "ensureCapacityInternal", "(I)V"⟩]
theorem ms_xs_good : ∀ w ∈ ms_xs, goodWord w = true := List.forall_mem_cons.mpr ⟨by decide +kernel, fun _ h => absurd h List.not_mem_nil⟩
end
section
-- the base: one table of words for all methods, the start as a base for every later state, contracts over a world of cells, and one row for each kind of call
def ms_tb : List Cond := lw_tbl.filter goodWord ++ ms_xs
theorem ms_in {w : Cond} (i : Nat) (h : tables_1[i]? = some w) (hg : goodWord w = true) : w ∈ ms_tb := List.mem_append_left _ (List.mem_filter.mpr ⟨List.mem_append_right _ (List.mem_of_getElem? h), hg⟩)
theorem ms_inP {w : Cond} (i : Nat) (h : (k2_sels lw_privs)[i]? = some w) (hg : goodWord w = true) : w ∈ ms_tb := List.mem_append_left _ (List.mem_filter.mpr ⟨List.mem_append_left _ (List.mem_of_getElem? h), hg⟩)
theorem ms_inX {w : Cond} (i : Nat) (h : ms_xs[i]? = some w) : w ∈ ms_tb := List.mem_append_right _ (List.mem_of_getElem? h)
theorem ms_good {w : Cond} (h : w ∈ ms_tb) : (w.onTables && w.keeps) = true ∨ ∃ ty, w = .arrayClass ty := by
  rcases List.mem_append.mp h with h | h
  · exact good_of_word (List.mem_filter.mp h).2
  · exact good_of_word (ms_xs_good w h)
/-- U comes behind s0: its tables are s0's, warmed; the cells of s0 are as they were -/
def ms_Bs (s0 U : State) : Prop := s0.WarmedH U.vm ∧ s0.heap.size ≤ U.heap.size ∧ ∀ q : Nat, q < s0.heap.size → U.heap[q]? = s0.heap[q]?
/-- what a method answers: the outcome and the world behind it -/
def ms_Q (D : va_G) (A : Nat → Prop) (Rr : Option Value → va_W → Prop) : Array Value → State → Outcome → State → Prop := fun _ st oc t => (∃ (v : Option Value) (w : va_W), oc = .returned v ∧ Rr v w ∧ va_P D vwCl w t.heap ∧ va_D A w) ∧ va_F A st t
def ms_Pre (D : va_G) (s0 : State) (sz : Nat) (ws : va_W) : State → Prop := fun U => U.heap.size = sz ∧ va_P D vwCl ws U.heap ∧ va_D (fun q => s0.heap.size ≤ q) ws ∧ ms_Bs s0 U
/-- a contract: from the world ws and the arguments, the method returns v with the world w, Rr v w -/
def ms_C (l : Launch) (D : va_G) (s0 : State) (y : MethodName) (b : ByteArray) (n : Nat) (ret : Option FieldType) (fr lo mc ms : Nat) (as : List Value) (ws : va_W) (Rr : Option Value → va_W → Prop) : Prop :=
  ∀ sz : Nat, Met l y [.code y b n ret] { frames := fr, cells := mc, slots := ms, locals := lo } (va_Pc as (ms_Pre D s0 sz ws)) (ms_Q D (va_A ws sz) Rr) mc ms (va_A ws sz)
/-- what a method's walk has at hand -/
def ms_X (D : va_G) (tys : List (ClassId × FieldType)) (s0 : State) (p : Program) (s : State) (m : MethodId) (args : Array Value) (meth : Method) (c : Code) (A : Nat → Prop) (y : MethodName) (b : ByteArray) (n : Nat) (ret : Option FieldType) : Prop :=
  p.tables.exec = Jvm.exec ∧ c.code = b ∧ c.maxLocals = n ∧ s.vm.findClass y.cls = some m.cls ∧ meth.sig.returnType = ret ∧ meth.locks = false ∧ (∀ w ∈ ms_tb, w.before args s = true) ∧ ms_Bs s0 s ∧ va_K D vwCl tys s ∧ (∀ q, A q → s0.heap.size ≤ q) ∧ ∀ q, s.heap.size ≤ q → A q
/-- what the start gives -/
def ms_E (D : va_G) (tys : List (ClassId × FieldType)) (s0 : State) : Prop := (∀ w ∈ ms_tb, w.before #[] s0 = true) ∧ va_K D vwCl tys s0
theorem ms_words {D : va_G} {tys : List (ClassId × FieldType)} {s0 U : State} (hE : ms_E D tys s0) (hB : ms_Bs s0 U) (a : Array Value) : ∀ w ∈ ms_tb, w.before a U = true := fun w hw => word_at hB.1 (ms_good hw) (hE.1 w hw)
theorem ms_C.mk {l : Launch} {D : va_G} {tys : List (ClassId × FieldType)} {s0 : State} {y : MethodName} {b : ByteArray} {n : Nat} {ret : Option FieldType} {fr lo mc ms : Nat} {as : List Value} {ws : va_W} {Rr : Option Value → va_W → Prop} (hE : ms_E D tys s0) (hy : plainName y.cls = true) (hn : (lg_sl as).length ≤ n) (lv : List (Nat × Value)) (hlv : lv_args 0 as = lv)
    (body : ∀ (p : Program) (e : Env) (s : State) (m : MethodId) (below : List Frame) (meth : Method) (c : Code) (A : Nat → Prop) (ls : Array Slot), ms_X D tys s0 p s m as.toArray meth c A y b n ret → meth.name = y.name → va_P D vwCl ws s.heap → va_D A ws → va_S A s.heap s.heap [] → lv_has ls n lv →
      W p l e { frames := fr, cells := mc, slots := ms, locals := lo } s m as.toArray below meth c s.heap [] 0 0 (MQ below (ms_Q D A Rr) as.toArray s mc ms A) (F0 m 0 ls [])) : ms_C l D s0 y b n ret fr lo mc ms as ws Rr := by
  intro sz
  refine Met.ofW (cc := b) (maxL := n) (ret := ret) hy rfl ?_
  intro p e s m args below meth c s₁ B hml hv
  obtain ⟨rfl, hsz, hP, hD0, hB⟩ := hv
  subst hsz
  have hD : va_D (va_A ws s.heap.size) ws := hD0.self (sz := s.heap.size)
  have hl := lv_entry as (n := n) hn
  rw [hlv] at hl
  rw [lg_entry_eq]
  refine body p e s m below meth c (va_A ws s.heap.size) _ ⟨B.exec, B.bytes, hml, findClass_of_methodNamed B.named, B.returns, B.notSynchronized, ms_words hE hB _, hB, va_K.moved hB.1.alike hE.2, ?_, fun q h => Or.inr h⟩ (name_of_methodNamed B.named B.method).1 hP hD va_S.rf hl
  intro q h
  rcases h with ⟨k, x, h⟩ | h
  · exact hD0.2 k _ h
  · exact Nat.le_trans hB.2.1 h
section MSW
variable {p : Program} {l : Launch} {e : Env} {R : Room} {s s0 : State} {m : MethodId} {args : Array Value} {below : List Frame} {meth : Method} {c : Code} {H : Heap} {locs : List Loc} {cells slots : Nat} {Q : State → Prop}
variable {cc : ByteArray} {pc : Nat} {ls : Array Slot} {rest : List Value} {D : va_G} {A : Nat → Prop} {ws : va_W} {mc ms : Nat} {Rr : Option Value → va_W → Prop} {tys : List (ClassId × FieldType)} {y0 : MethodName} {n0 : Nat} {ret0 : Option FieldType}
-- the ends
theorem ms_vret (X : ms_X D tys s0 p s m args meth c A y0 cc n0 none) (hdg : decode cc pc = .ok (.return_, 1)) (hP : va_P D vwCl ws H) (hD : va_D A ws) (hS : va_S A s.heap H locs) (h1 : cells ≤ mc) (h2 : slots ≤ ms) (hR : Rr none ws) : W p l e R s m args below meth c H locs cells slots (MQ below (ms_Q D A Rr) args s mc ms A) (F0 m pc ls []) :=
  W.widen h1 h2 (W.vret X.1 X.2.1 X.2.2.2.2.1 (fun _ ht _ => ⟨⟨none, ws, rfl, hR, by rw [ht]; exact hP, hD⟩, hS.F ht⟩) hS.2.2 hdg X.2.2.2.2.2.1)
theorem ms_iret {v : Int32} (X : ms_X D tys s0 p s m args meth c A y0 cc n0 (some .int)) (hdg : decode cc pc = .ok (.ireturn, 1)) (hP : va_P D vwCl ws H) (hD : va_D A ws) (hS : va_S A s.heap H locs) (h1 : cells ≤ mc) (h2 : slots ≤ ms) (hR : Rr (some (.int v)) ws) : W p l e R s m args below meth c H locs cells slots (MQ below (ms_Q D A Rr) args s mc ms A) (F0 m pc ls [.int v]) :=
  W.widen h1 h2 (W.iret X.1 X.2.1 X.2.2.2.2.1 (fun _ ht _ => ⟨⟨some (.int v), ws, rfl, hR, by rw [ht]; exact hP, hD⟩, hS.F ht⟩) hS.2.2 hdg X.2.2.2.2.2.1)
theorem ms_zret {v : Int32} {ty : FieldType} (X : ms_X D tys s0 p s m args meth c A y0 cc n0 (some ty)) (hdg : decode cc pc = .ok (.ireturn, 1)) (hP : va_P D vwCl ws H) (hD : va_D A ws) (hS : va_S A s.heap H locs) (h1 : cells ≤ mc) (h2 : slots ≤ ms) (hR : Rr (some (.int v)) ws) (hn : narrow ty (.int v) = .int v) : W p l e R s m args below meth c H locs cells slots (MQ below (ms_Q D A Rr) args s mc ms A) (F0 m pc ls [.int v]) :=
  W.widen h1 h2 (W.zret X.1 X.2.1 X.2.2.2.2.1 hn (fun _ ht _ => ⟨⟨some (.int v), ws, rfl, hR, by rw [ht]; exact hP, hD⟩, hS.F ht⟩) hS.2.2 hdg X.2.2.2.2.2.1)
theorem ms_lret {v : Int64} (X : ms_X D tys s0 p s m args meth c A y0 cc n0 (some .long)) (hdg : decode cc pc = .ok (.lreturn, 1)) (hP : va_P D vwCl ws H) (hD : va_D A ws) (hS : va_S A s.heap H locs) (h1 : cells ≤ mc) (h2 : slots ≤ ms) (hR : Rr (some (.long v)) ws) : W p l e R s m args below meth c H locs cells slots (MQ below (ms_Q D A Rr) args s mc ms A) (F0 m pc ls [.long v]) :=
  W.widen h1 h2 (W.lret X.1 X.2.1 X.2.2.2.2.1 (fun _ ht _ => ⟨⟨some (.long v), ws, rfl, hR, by rw [ht]; exact hP, hD⟩, hS.F ht⟩) hS.2.2 hdg X.2.2.2.2.2.1)
theorem ms_aret {v : Value} {rt : FieldType} (X : ms_X D tys s0 p s m args meth c A y0 cc n0 (some rt)) (hdg : decode cc pc = .ok (.areturn, 1)) (hP : va_P D vwCl ws H) (hD : va_D A ws) (hS : va_S A s.heap H locs) (h1 : cells ≤ mc) (h2 : slots ≤ ms) (hR : Rr (some v) ws) (hrt : (∃ n, rt = .object n) ∨ ∃ t, rt = .array t) (hv : v = .null ∨ ∃ a, v = .ref a) : W p l e R s m args below meth c H locs cells slots (MQ below (ms_Q D A Rr) args s mc ms A) (F0 m pc ls [v]) :=
  W.widen h1 h2 (W.aret X.1 X.2.1 X.2.2.2.2.1 hrt hv (fun _ ht _ => ⟨⟨some v, ws, rfl, hR, by rw [ht]; exact hP, hD⟩, hS.F ht⟩) hS.2.2 hdg X.2.2.2.2.2.1)
-- a call's end, over any kind of call
theorem ms_go {A1 : Nat → Prop} {a : Array Value} {st0 : List Value} {free : Addr → Prop} {H0 : Heap} (hr : va_Run p l e R s m args below meth c H locs cells slots mc ms (F0 m pc ls st0) rest (ms_Q D A1 Rr a) free) (hS : va_S A H0 H locs) (hA : ∀ q, q < H.size → A1 q → A q) (hf : ∀ q, free q → A q)
    (kk : ∀ (v : Option Value) (w : va_W) (H1 : Heap) (locs1 : List Loc), Rr v w → va_P D vwCl w H1 → va_D A1 w → H.size ≤ H1.size → (∀ q : Nat, q < H.size → ¬ A1 q → H1[q]? = H[q]?) → va_S A H0 H1 locs1 → W p l e R s m args below meth c H1 locs1 (cells + mc) (slots + ms) Q (F0 m (pc + 3) ls (v.toList ++ rest))) : W p l e R s m args below meth c H locs cells slots Q (F0 m pc ls st0) := by
  intro T hT X
  obtain ⟨v, st₀, t, T', L, h0, X', hL, e1, e2, ⟨⟨v', w, hv, hp, hPw, hDw⟩, hz, hk⟩, st⟩ := hr T hT X
  cases hv
  rw [h0] at hz hk
  obtain ⟨t2, a1, b1⟩ := kk v w T'.heap (locs ++ L) hp (by rw [e1]; exact hPw) hDw (by rw [e1]; exact hz) (fun q h1 h2 => by rw [e1]; exact hk q h1 h2)
    ⟨Nat.le_trans hS.1 (by rw [e1]; exact hz), fun q h1 h2 => by rw [e1, hk q (Nat.lt_of_lt_of_le h1 hS.1) (fun z => h2 (hA q (Nat.lt_of_lt_of_le h1 hS.1) z))]; exact hS.2.1 q h1 h2, fun q hq => by
      rcases List.mem_append.mp hq with h | h
      · exact hS.2.2 q h
      · exact hf _ (hL q h)⟩ T' rfl X'
  exact ⟨t2, st t2 a1, b1⟩
/-- cut, call, join -/
theorem ms_call {a : Array Value} {st0 : List Value} {wc wr : va_W} (hr : va_Run p l e R s m args below meth c H locs cells slots mc ms (F0 m pc ls st0) rest (ms_Q D (va_A wc H.size) Rr a) (va_A wc H.size)) (X : ms_X D tys s0 p s m args meth c A y0 cc n0 ret0) (hP : va_P D vwCl ws H) (hD : va_D A ws) (hS : va_S A s.heap H locs) (isC isR : List Nat) (hC : isC.map (fun i => ws[i]?) = wc.map some) (hR : isR.map (fun i => ws[i]?) = wr.map some) (hn : va_nd isR = true) (hdis : ∀ i ∈ isR, i ∉ isC)
    (kk : ∀ (v : Option Value) (w : va_W) (H1 : Heap) (locs1 : List Loc), Rr v w → va_P D vwCl (wr ++ w) H1 → va_D A (wr ++ w) → va_S A s.heap H1 locs1 → W p l e R s m args below meth c H1 locs1 (cells + mc) (slots + ms) Q (F0 m (pc + 3) ls (v.toList ++ rest))) : W p l e R s m args below meth c H locs cells slots Q (F0 m pc ls st0) := by
  have hF := va_free (wc := wc) hD hS X.2.2.2.2.2.2.2.2.2.2 isC hC
  refine ms_go hr hS (fun q _ h => hF q h) hF (fun v w H1 locs1 h1 h2 h3 _ h5 h6 => ?_)
  obtain ⟨hP', hD'⟩ := va_join hP hD isC isR hC hR hn hdis h5 hF h2 h3
  exact kk v w H1 locs1 h1 hP' hD' h6
/-- the callee's start, at the caller's place -/
theorem ms_pre {wc : va_W} {as : List Value} (X : ms_X D tys s0 p s m args meth c A y0 cc n0 ret0) (hP : va_P D vwCl ws H) (hD : va_D A ws) (hS : va_S A s.heap H locs) (isC : List Nat) (hnC : va_nd isC = true) (hC : isC.map (fun i => ws[i]?) = wc.map some) : PreS s H (va_Pc as (ms_Pre D s0 H.size wc)) as := by
  refine ⟨fun _ _ _ _ q => q, fun U hU hW => ⟨rfl, by rw [hU], ?_, (hD.sub isC hnC hC).weaken (fun _ _ _ h => X.2.2.2.2.2.2.2.2.2.1 _ h), ?_⟩⟩
  · rw [hU]
    intro k q hq
    have h1 : (isC.map (fun i => ws[i]?))[k]? = some (some q) := by rw [hC, List.getElem?_map, hq]; rfl
    rw [List.getElem?_map] at h1
    cases hi : isC[k]? with
    | none => rw [hi] at h1; cases h1
    | some i => rw [hi] at h1; exact hP i q (Option.some.inj h1)
  · have hB := X.2.2.2.2.2.2.2.1
    refine ⟨hB.1.trans hW, by rw [hU]; exact Nat.le_trans hB.2.1 hS.1, fun q hq => ?_⟩
    rw [hU, hS.2.1 q (Nat.lt_of_lt_of_le hq hB.2.1) (fun h => absurd (X.2.2.2.2.2.2.2.2.2.1 q h) (Nat.not_le.mpr hq))]
    exact hB.2.2 q hq
end MSW
theorem ms_g1 {w : Cond} (h : w ∈ ms_tb) : GoodIn ms_tb [w] := fun x hx => by
  rw [List.mem_singleton.mp hx]
  exact ⟨h, ms_good h⟩
theorem ms_gs {ws : List Cond} (h : ∀ w ∈ ws, w ∈ ms_tb) : GoodIn ms_tb ws := fun x hx => ⟨h x hx, ms_good (h x hx)⟩
section MSC
variable {p : Program} {l : Launch} {e : Env} {R : Room} {s s0 : State} {m : MethodId} {args : Array Value} {below : List Frame} {meth : Method} {c : Code} {H : Heap} {locs : List Loc} {cells slots : Nat} {Q : State → Prop}
variable {cc : ByteArray} {pc : Nat} {ls : Array Slot} {rest st0 : List Value} {D : va_G} {A : Nat → Prop} {ws wc wr : va_W} {mc ms : Nat} {Rr : Option Value → va_W → Prop} {tys : List (ClassId × FieldType)} {y0 : MethodName} {n0 : Nat} {ret0 : Option FieldType} {lv : List (Nat × Value)}
variable {y : MethodName} {b : ByteArray} {n : Nat} {ret : Option FieldType} {fr lo : Nat} {as : List Value} {idx : Nat} {h : Nat} {C : String}
theorem ms_S (X : ms_X D tys s0 p s m args meth c A y0 cc n0 ret0) (hl : lv_has ls n0 lv) (hM : ms_C l D s0 y b n ret fr lo mc ms as wc Rr) (hw : ∀ w ∈ va_wsS y0.cls idx y [.code y b n ret], w ∈ ms_tb) (hd : y.cls ≠ "java/lang/invoke/MethodHandle" ∧ y.cls ≠ "java/lang/invoke/VarHandle" ∧ (parseMethodDescriptor y.desc).map (fun d => d.parameters.length) = some as.length)
    (hP : va_P D vwCl ws H) (hD : va_D A ws) (hS : va_S A s.heap H locs) (isC isR : List Nat) (hC : isC.map (fun i => ws[i]?) = wc.map some) (hR : isR.map (fun i => ws[i]?) = wr.map some) (hk : va_nd isC = true ∧ va_nd isR = true ∧ ∀ i ∈ isR, i ∉ isC) (hrm : (fr + 1 ≤ R.frames ∧ 8 + (n + 11) + lo ≤ R.locals) ∧ cells + mc ≤ R.cells ∧ slots + ms ≤ R.slots) (hst : st0 = as.reverse ++ rest) (hrs : (rest.map fun v => v.category).sum ≤ 8) (hdg : decode cc pc = .ok (.invokestatic idx, 3))
    (kk : ∀ (v : Option Value) (w : va_W) (H1 : Heap) (locs1 : List Loc), Rr v w → va_P D vwCl (wr ++ w) H1 → va_D A (wr ++ w) → va_S A s.heap H1 locs1 → W p l e R s m args below meth c H1 locs1 (cells + mc) (slots + ms) Q (F0 m (pc + 3) ls (v.toList ++ rest))) : W p l e R s m args below meth c H locs cells slots Q (F0 m pc ls st0) :=
  ms_call (va_runS (As := as) (rest := rest) ⟨X.1, X.2.1, X.2.2.1, X.2.2.2.1, X.2.2.2.2.2.2.1⟩ (hM H.size) (va_cwS as.length X.2.2.2.2.2.2.1 (ms_gs hw) rfl rfl rfl hd hrm.1) (ms_pre X hP hD hS isC hk.1 hC) rfl rfl hl.1 hst (lv_room hrs) hdg hrm.2) X hP hD hS isC isR hC hR hk.2.1 hk.2.2 kk
theorem ms_I (X : ms_X D tys s0 p s m args meth c A y0 cc n0 ret0) (hl : lv_has ls n0 lv) (hM : ms_C l D s0 y b n none fr lo mc ms (.ref h :: as) wc Rr) (hw : ∀ w ∈ ([.methodLink y0.cls idx y, .instanceMethod y, .initialized y.cls, .code y b n none] : List Cond), w ∈ ms_tb) (hy : y.name = "<init>") (hd : y.cls ≠ "java/lang/invoke/MethodHandle" ∧ y.cls ≠ "java/lang/invoke/VarHandle" ∧ (parseMethodDescriptor y.desc).map (fun d => d.parameters.length) = some as.length)
    (hP : va_P D vwCl ws H) (hD : va_D A ws) (hS : va_S A s.heap H locs) (isC isR : List Nat) (hC : isC.map (fun i => ws[i]?) = wc.map some) (hR : isR.map (fun i => ws[i]?) = wr.map some) (hk : va_nd isC = true ∧ va_nd isR = true ∧ ∀ i ∈ isR, i ∉ isC) (hrm : (fr + 1 ≤ R.frames ∧ 8 + (n + 11) + lo ≤ R.locals) ∧ cells + mc ≤ R.cells ∧ slots + ms ≤ R.slots) (hst : st0 = as.reverse ++ .ref h :: rest) (hrs : (rest.map fun v => v.category).sum ≤ 8) (hdg : decode cc pc = .ok (.invokespecial idx, 3))
    (kk : ∀ (v : Option Value) (w : va_W) (H1 : Heap) (locs1 : List Loc), Rr v w → va_P D vwCl (wr ++ w) H1 → va_D A (wr ++ w) → va_S A s.heap H1 locs1 → W p l e R s m args below meth c H1 locs1 (cells + mc) (slots + ms) Q (F0 m (pc + 3) ls (v.toList ++ rest))) : W p l e R s m args below meth c H locs cells slots Q (F0 m pc ls st0) :=
  ms_call (va_runI (As := as) (rest := rest) ⟨X.1, X.2.1, X.2.2.1, X.2.2.2.1, X.2.2.2.2.2.2.1⟩ (hM H.size) (cwI as.length X.2.2.2.2.2.2.1 (ms_g1 (hw _ (by simp))) rfl rfl rfl (X.2.2.2.2.2.2.1 _ (hw _ (by simp))) (X.2.2.2.2.2.2.1 _ (hw _ (by simp))) (X.2.2.2.2.2.2.1 _ (hw _ (by simp))) hy hd hrm.1) (ms_pre X hP hD hS isC hk.1 hC) rfl rfl hl.1 hst (lv_room hrs) hdg hrm.2) X hP hD hS isC isR hC hR hk.2.1 hk.2.2 kk
theorem ms_V (X : ms_X D tys s0 p s m args meth c A y0 cc n0 ret0) (hl : lv_has ls n0 lv) (hM : ms_C l D s0 y b n ret fr lo mc ms (.ref h :: as) wc Rr) (hw : ∀ w ∈ wsV y0.cls idx C y [.code y b n ret], w ∈ ms_tb) (hd : y.cls = C ∧ y.cls ≠ "java/lang/invoke/MethodHandle" ∧ y.cls ≠ "java/lang/invoke/VarHandle" ∧ (parseMethodDescriptor y.desc).map (fun d => d.parameters.length) = some as.length) (hv : ∃ cellB : Cell, H[h]? = some cellB ∧ cellB.vm.isStatics = false ∧ s.vm.findClass C = some cellB.cls)
    (hP : va_P D vwCl ws H) (hD : va_D A ws) (hS : va_S A s.heap H locs) (isC isR : List Nat) (hC : isC.map (fun i => ws[i]?) = wc.map some) (hR : isR.map (fun i => ws[i]?) = wr.map some) (hk : va_nd isC = true ∧ va_nd isR = true ∧ ∀ i ∈ isR, i ∉ isC) (hrm : (fr + 1 ≤ R.frames ∧ 8 + (n + 11) + lo ≤ R.locals) ∧ cells + mc ≤ R.cells ∧ slots + ms ≤ R.slots) (hst : st0 = as.reverse ++ .ref h :: rest) (hrs : (rest.map fun v => v.category).sum ≤ 8) (hdg : decode cc pc = .ok (.invokevirtual idx, 3))
    (kk : ∀ (v : Option Value) (w : va_W) (H1 : Heap) (locs1 : List Loc), Rr v w → va_P D vwCl (wr ++ w) H1 → va_D A (wr ++ w) → va_S A s.heap H1 locs1 → W p l e R s m args below meth c H1 locs1 (cells + mc) (slots + ms) Q (F0 m (pc + 3) ls (v.toList ++ rest))) : W p l e R s m args below meth c H locs cells slots Q (F0 m pc ls st0) :=
  ms_call (va_runV (As := as) (rest := rest) ⟨X.1, X.2.1, X.2.2.1, X.2.2.2.1, X.2.2.2.2.2.2.1⟩ (hM H.size) (cwV as.length X.2.2.2.2.2.2.1 (ms_gs hw) rfl rfl rfl hd hrm.1) ⟨(ms_pre (as := .ref h :: as) X hP hD hS isC hk.1 hC).1, hv, (ms_pre X hP hD hS isC hk.1 hC).2⟩ rfl rfl hl.1 hst (lv_room hrs) hdg hrm.2) X hP hD hS isC isR hC hR hk.2.1 hk.2.2 kk
theorem ms_U {x : MethodName} {owner : String} (X : ms_X D tys s0 p s m args meth c A y0 cc n0 ret0) (hl : lv_has ls n0 lv) (hM : ms_C l D s0 y b n ret fr lo mc ms (.ref h :: as) wc Rr) (hw : ∀ w ∈ va_wsU y0.cls idx C owner x y [.code y b n ret], w ∈ ms_tb) (hyx : y = ⟨owner, x.name, x.desc⟩) (hd : owner ≠ "java/lang/invoke/MethodHandle" ∧ owner ≠ "java/lang/invoke/VarHandle" ∧ (parseMethodDescriptor x.desc).map (fun d => d.parameters.length) = some as.length) (hv : ∃ cellB : Cell, H[h]? = some cellB ∧ cellB.vm.isStatics = false ∧ s.vm.findClass C = some cellB.cls)
    (hP : va_P D vwCl ws H) (hD : va_D A ws) (hS : va_S A s.heap H locs) (isC isR : List Nat) (hC : isC.map (fun i => ws[i]?) = wc.map some) (hR : isR.map (fun i => ws[i]?) = wr.map some) (hk : va_nd isC = true ∧ va_nd isR = true ∧ ∀ i ∈ isR, i ∉ isC) (hrm : (fr + 1 ≤ R.frames ∧ 8 + (n + 11) + lo ≤ R.locals) ∧ cells + mc ≤ R.cells ∧ slots + ms ≤ R.slots) (hst : st0 = as.reverse ++ .ref h :: rest) (hrs : (rest.map fun v => v.category).sum ≤ 8) (hdg : decode cc pc = .ok (.invokevirtual idx, 3))
    (kk : ∀ (v : Option Value) (w : va_W) (H1 : Heap) (locs1 : List Loc), Rr v w → va_P D vwCl (wr ++ w) H1 → va_D A (wr ++ w) → va_S A s.heap H1 locs1 → W p l e R s m args below meth c H1 locs1 (cells + mc) (slots + ms) Q (F0 m (pc + 3) ls (v.toList ++ rest))) : W p l e R s m args below meth c H locs cells slots Q (F0 m pc ls st0) :=
  ms_call (va_runU (As := as) (rest := rest) ⟨X.1, X.2.1, X.2.2.1, X.2.2.2.1, X.2.2.2.2.2.2.1⟩ (hM H.size) (va_cwU as.length X.2.2.2.2.2.2.1 (ms_gs hw) rfl rfl rfl hyx hd hrm.1) ⟨(ms_pre (as := .ref h :: as) X hP hD hS isC hk.1 hC).1, hv, (ms_pre X hP hD hS isC hk.1 hC).2⟩ rfl rfl hl.1 hst (lv_room hrs) hdg hrm.2) X hP hD hS isC isR hC hR hk.2.1 hk.2.2 kk
theorem ms_O {x : MethodName} {owner : String} {b0 : ByteArray} {m0 : Nat} {r0 : Option FieldType} (X : ms_X D tys s0 p s m args meth c A y0 cc n0 ret0) (hl : lv_has ls n0 lv) (hM : ms_C l D s0 y b n ret fr lo mc ms (.ref h :: as) wc Rr) (hw : ∀ w ∈ va_wsO y0.cls idx C owner x y [.code y b n ret], w ∈ ms_tb) (h0 : Cond.code ⟨owner, x.name, x.desc⟩ b0 m0 r0 ∈ ms_tb) (hd : owner ≠ "java/lang/invoke/MethodHandle" ∧ owner ≠ "java/lang/invoke/VarHandle" ∧ (parseMethodDescriptor x.desc).map (fun d => d.parameters.length) = some as.length) (hv : ∃ cellB : Cell, H[h]? = some cellB ∧ cellB.vm.isStatics = false ∧ s.vm.findClass C = some cellB.cls)
    (hP : va_P D vwCl ws H) (hD : va_D A ws) (hS : va_S A s.heap H locs) (isC isR : List Nat) (hC : isC.map (fun i => ws[i]?) = wc.map some) (hR : isR.map (fun i => ws[i]?) = wr.map some) (hk : va_nd isC = true ∧ va_nd isR = true ∧ ∀ i ∈ isR, i ∉ isC) (hrm : (fr + 1 ≤ R.frames ∧ 8 + (n + 11) + lo ≤ R.locals) ∧ cells + mc ≤ R.cells ∧ slots + ms ≤ R.slots) (hst : st0 = as.reverse ++ .ref h :: rest) (hrs : (rest.map fun v => v.category).sum ≤ 8) (hdg : decode cc pc = .ok (.invokevirtual idx, 3))
    (kk : ∀ (v : Option Value) (w : va_W) (H1 : Heap) (locs1 : List Loc), Rr v w → va_P D vwCl (wr ++ w) H1 → va_D A (wr ++ w) → va_S A s.heap H1 locs1 → W p l e R s m args below meth c H1 locs1 (cells + mc) (slots + ms) Q (F0 m (pc + 3) ls (v.toList ++ rest))) : W p l e R s m args below meth c H locs cells slots Q (F0 m pc ls st0) :=
  ms_call (va_runU (As := as) (rest := rest) ⟨X.1, X.2.1, X.2.2.1, X.2.2.2.1, X.2.2.2.2.2.2.1⟩ (hM H.size) (va_cwO as.length X.2.2.2.2.2.2.1 (ms_gs hw) rfl rfl rfl h0 hd hrm.1) ⟨(ms_pre (as := .ref h :: as) X hP hD hS isC hk.1 hC).1, hv, (ms_pre X hP hD hS isC hk.1 hC).2⟩ rfl rfl hl.1 hst (lv_room hrs) hdg hrm.2) X hP hD hS isC isR hC hR hk.2.1 hk.2.2 kk
theorem ms_SU {cC : ClassId} (hat : ClassAt s C cC) (X : ms_X D tys s0 p s m args meth c A y0 cc n0 ret0) (hl : lv_has ls n0 lv) (hM : ms_C l D s0 y b n ret fr lo mc ms (.ref h :: as) wc Rr) (hw : ∀ w ∈ va_wsSU y0.cls idx y [.code y b n ret], w ∈ ms_tb) (hd : y.name ≠ "<init>" ∧ (parseMethodDescriptor y.desc).map (fun d => d.parameters.length) = some as.length) (hv : ∃ cellB : Cell, H[h]? = some cellB ∧ cellB.vm.isStatics = false ∧ s.vm.findClass C = some cellB.cls)
    (hP : va_P D vwCl ws H) (hD : va_D A ws) (hS : va_S A s.heap H locs) (isC isR : List Nat) (hC : isC.map (fun i => ws[i]?) = wc.map some) (hR : isR.map (fun i => ws[i]?) = wr.map some) (hk : va_nd isC = true ∧ va_nd isR = true ∧ ∀ i ∈ isR, i ∉ isC) (hrm : (fr + 1 ≤ R.frames ∧ 8 + (n + 11) + lo ≤ R.locals) ∧ cells + mc ≤ R.cells ∧ slots + ms ≤ R.slots) (hst : st0 = as.reverse ++ .ref h :: rest) (hrs : (rest.map fun v => v.category).sum ≤ 8) (hdg : decode cc pc = .ok (.invokespecial idx, 3))
    (kk : ∀ (v : Option Value) (w : va_W) (H1 : Heap) (locs1 : List Loc), Rr v w → va_P D vwCl (wr ++ w) H1 → va_D A (wr ++ w) → va_S A s.heap H1 locs1 → W p l e R s m args below meth c H1 locs1 (cells + mc) (slots + ms) Q (F0 m (pc + 3) ls (v.toList ++ rest))) : W p l e R s m args below meth c H locs cells slots Q (F0 m pc ls st0) :=
  ms_call (va_runSU (As := as) (rest := rest) hat ⟨X.1, X.2.1, X.2.2.1, X.2.2.2.1, X.2.2.2.2.2.2.1⟩ (hM H.size) (va_cwSU as.length X.2.2.2.2.2.2.1 (ms_gs hw) rfl rfl rfl hd hrm.1) ⟨(ms_pre (as := .ref h :: as) X hP hD hS isC hk.1 hC).1, hv, (ms_pre X hP hD hS isC hk.1 hC).2⟩ rfl rfl hl.1 hst (lv_room hrs) hdg hrm.2) X hP hD hS isC isR hC hR hk.2.1 hk.2.2 kk
end MSC
section MSN
variable {p : Program} {l : Launch} {e : Env} {R : Room} {s s0 : State} {m : MethodId} {args : Array Value} {below : List Frame} {meth : Method} {c : Code} {H : Heap} {locs : List Loc} {cells slots : Nat} {Q : State → Prop}
variable {cc : ByteArray} {pc : Nat} {ls : Array Slot} {rest : List Value} {D : va_G} {A : Nat → Prop} {ws : va_W} {tys : List (ClassId × FieldType)} {y0 : MethodName} {n0 : Nat} {ret0 : Option FieldType}
theorem ms_top {x y : Int32} (h : x = y) (k : W p l e R s m args below meth c H locs cells slots Q (F0 m pc ls (.int y :: rest))) : W p l e R s m args below meth c H locs cells slots Q (F0 m pc ls (.int x :: rest)) := by
  subst h; exact k
theorem ms_newa {atype : ArrayType} {ty : FieldType} {cA : ClassId} {nm : String} (X : ms_X D tys s0 p s m args meth c A y0 cc n0 ret0) (hk : Cond.arrayClass (newarray.typeOf atype) ∈ ms_tb) (hty : newarray.typeOf atype = ty) (t0 : Nat) (ht : tys[t0]? = some (cA, ty)) (hra : ∀ c', va_RA s c' ty → s.vm.findClass nm = some c') (hP : va_P D vwCl ws H) (hD : va_D A ws) (hS : va_S A s.heap H locs)
    {n : Int32} {N' : Nat} {a0 : vp_A} (ha : ∀ cA : ClassId, vp_cell cA a0 = arrV cA N' (fun _ => defaultValue ty)) (hn : ¬ n < 0) (hN : n.toNatClampNeg = N') (hbytes : N' * componentBytes ty ≤ 536870912) (hcells : cells + 1 ≤ R.cells) (hslots : slots + N' ≤ R.slots) (hdg : decode cc pc = .ok (.newarray atype, 2))
    (kk : ∀ (q : Nat) (H1 : Heap), va_P D vwCl (ws ++ [(q, .inl (cA, a0))]) H1 → va_D A (ws ++ [(q, .inl (cA, a0))]) → va_S A s.heap H1 locs → W p l e R s m args below meth c H1 locs (cells + 1) (slots + N') Q (F0 m (pc + 2) ls (.ref q :: rest))) : W p l e R s m args below meth c H locs cells slots Q (F0 m pc ls (.int n :: rest)) := by
  have hK := X.2.2.2.2.2.2.2.2.1
  refine va_newa X.1 X.2.1 (X.2.2.2.2.2.2.1 _ hk) hty hK hP hD hS X.2.2.2.2.2.2.2.2.2.2 ha hn hN hbytes hcells hslots hdg (fun q c1 H1 hK1 hP1 hD1 hS1 => ?_)
  have h1 := (hK1.2 tys.length (c1, ty) (by simp)).2
  have h2 := (hK.2 t0 (cA, ty) ht).2
  have e := (hra _ h1).symm.trans (hra _ h2)
  cases e
  exact kk q H1 hP1 hD1 hS1
theorem ms_newq {C nm : String} {cA : ClassId} {idx : Nat} (X : ms_X D tys s0 p s m args meth c A y0 cc n0 ret0) (hk : Cond.classLink y0.cls idx C ∈ ms_tb) (hover : va_AO C s) (t0 : Nat) (ht : tys[t0]? = some (cA, .object C)) (hra : ∀ c', va_RA s c' (.object C) → s.vm.findClass nm = some c') (hP : va_P D vwCl ws H) (hD : va_D A ws) (hS : va_S A s.heap H locs)
    {n : Int32} {N' : Nat} (hn : ¬ n < 0) (hN : n.toNatClampNeg = N') (hbytes : N' * 4 ≤ 536870912) (hcells : cells + 1 ≤ R.cells) (hslots : slots + N' ≤ R.slots) (hdg : decode cc pc = .ok (.anewarray idx, 3))
    (kk : ∀ (q : Nat) (H1 : Heap), va_P D vwCl (ws ++ [(q, .inl (cA, N', .inr (.inr (.inr (.inr (fun _ => none))))))]) H1 → va_D A (ws ++ [(q, .inl (cA, N', .inr (.inr (.inr (.inr (fun _ => none))))))]) → va_S A s.heap H1 locs → W p l e R s m args below meth c H1 locs (cells + 1) (slots + N') Q (F0 m (pc + 3) ls (.ref q :: rest))) : W p l e R s m args below meth c H locs cells slots Q (F0 m pc ls (.int n :: rest)) := by
  have hK := X.2.2.2.2.2.2.2.2.1
  refine va_newq X.1 X.2.1 X.2.2.2.1 (X.2.2.2.2.2.2.1 _ hk) hover hK hP hD hS X.2.2.2.2.2.2.2.2.2.2 hn hN hbytes hcells hslots hdg (fun q c1 H1 hK1 hP1 hD1 hS1 => ?_)
  have h1 := (hK1.2 tys.length (c1, .object C) (by simp)).2
  have h2 := (hK.2 t0 (cA, .object C) ht).2
  have e := (hra _ h1).symm.trans (hra _ h2)
  cases e
  exact kk q H1 hP1 hD1 hS1
end MSN
/-- a private method that a class inherits: it is selected whatever the receiver's class; that its class is no interface another method's word says -/
theorem ms_selP {C : String} {y z : MethodName} {s : State} {args : Array Value} (hy : y.cls ≠ "java/lang/invoke/MethodHandle" ∧ y.cls ≠ "java/lang/invoke/VarHandle") (hz : (Cond.selects C z z).before args s = true) (hyz : y.cls = z.cls) (hpriv : (Cond.privateMethod y).before args s = true) (hinst : (Cond.instanceMethod y).before args s = true) : (Cond.selects C y y).before args s = true := by
  obtain ⟨mk, methM, hnamed, hmethM, -, -⟩ := Cond.instanceMethod_spec hinst
  have hfound : s.methodFound? y.cls y.name y.desc = some mk := State.methodFound?_of_named hnamed hy
  have hsel : ∀ c, selectMethod {} s.vm c mk = .method mk := fun c => selectMethod_private hmethM (Cond.privateMethod_at hpriv mk methM hnamed hmethM)
  have hcy := findClass_of_methodNamed hnamed
  simp only [Cond.before, Cond.holds, Cond.value] at hz ⊢
  cases h1 : s.vm.findClass C with
  | none => simp [h1] at hz
  | some c =>
    cases h2 : s.methodFound? z.cls z.name z.desc with
    | none => simp [h1, h2] at hz
    | some r =>
      cases h3 : s.methodNamed? z with
      | none => simp [h1, h2, h3] at hz
      | some m3 =>
        have hcz := findClass_of_methodNamed h3
        have e : m3.cls = mk.cls := Option.some.inj (hcz.symm.trans (by rw [← hyz]; exact hcy))
        simp only [h1, h2, h3, hfound, hnamed, hsel] at hz ⊢
        cases h4 : selectMethod {} s.vm c r with
        | method m4 =>
          simp only [h4] at hz
          rw [e] at hz
          simp at hz ⊢
          exact hz.2
        | _ => simp [h4] at hz
theorem ms_z {D : va_G} {tys : List (ClassId × FieldType)} {s0 s : State} {p : Program} {m : MethodId} {args : Array Value} {meth : Method} {c : Code} {A : Nat → Prop} {y : MethodName} {b : ByteArray} {n : Nat} {ret : Option FieldType} {C nm d : String} {v : Value} (h0 : ∀ B : Nat → Prop, (∀ q, B q → s0.heap.size ≤ q) → va_Z C nm d v B s0 s0.heap) (X : ms_X D tys s0 p s m args meth c A y b n ret) : va_Z C nm d v A s s.heap :=
  (va_Z.moved X.2.2.2.2.2.2.2.1.1.alike (h0 A X.2.2.2.2.2.2.2.2.2.1)).kept (fun a ha _ => X.2.2.2.2.2.2.2.1.2.2 a ha)
/-- what the start gives, beside the words: the classes, two statics -/
def ms_EV (D : va_G) (dA : Nat → ClassId) (s0 : State) : Prop := ms_E D (ms_tys dA) s0 ∧ va_AO "MarkupStore$Node" s0 ∧ (∀ B : Nat → Prop, (∀ q, B q → s0.heap.size ≤ q) → va_Z "java/lang/String" "COMPACT_STRINGS" "Z" (.int 1) B s0 s0.heap) ∧ ∃ t : Nat, ∀ B : Nat → Prop, (∀ q, B q → s0.heap.size ≤ q) → va_Z "java/util/ArrayList" "DEFAULTCAPACITY_EMPTY_ELEMENTDATA" "[Ljava/lang/Object;" (.ref t) B s0 s0.heap
theorem ms_ao {D : va_G} {tys : List (ClassId × FieldType)} {s0 s : State} {p : Program} {m : MethodId} {args : Array Value} {meth : Method} {c : Code} {A : Nat → Prop} {y : MethodName} {b : ByteArray} {n : Nat} {ret : Option FieldType} {C : String} (h : va_AO C s0) (X : ms_X D tys s0 p s m args meth c A y b n ret) : va_AO C s := va_AO.moved X.2.2.2.2.2.2.2.1.1.alike h
def ms_ty (z : Int32) : Int32 := if z < 32 then 0 else if 126 < z then 0 else 1
end
section
theorem ms_k1 : (Jvm.Cond.initialized "MarkupStore") ∈ ms_tb := ms_in 1 (by decide +kernel) (by decide +kernel)
theorem ms_k2 : (Jvm.Cond.initialized "java/lang/AbstractStringBuilder") ∈ ms_tb := ms_in 2 (by decide +kernel) (by decide +kernel)
theorem ms_k3 : (Jvm.Cond.initialized "java/lang/StringBuilder") ∈ ms_tb := ms_in 3 (by decide +kernel) (by decide +kernel)
theorem ms_k4 : (Jvm.Cond.initialized "java/lang/String") ∈ ms_tb := ms_in 4 (by decide +kernel) (by decide +kernel)
theorem ms_k6 : (Jvm.Cond.initialized "MarkupStore$Tree") ∈ ms_tb := ms_in 6 (by decide +kernel) (by decide +kernel)
theorem ms_k7 : (Jvm.Cond.initialized "MarkupStoreModel") ∈ ms_tb := ms_in 7 (by decide +kernel) (by decide +kernel)
theorem ms_k9 : (Jvm.Cond.initialized "java/lang/Math") ∈ ms_tb := ms_in 9 (by decide +kernel) (by decide +kernel)
theorem ms_k10 : (Jvm.Cond.initialized "java/util/Arrays") ∈ ms_tb := ms_in 10 (by decide +kernel) (by decide +kernel)
theorem ms_k11 : (Jvm.Cond.initialized "java/lang/System") ∈ ms_tb := ms_in 11 (by decide +kernel) (by decide +kernel)
theorem ms_k12 : (Jvm.Cond.initialized "java/lang/StringLatin1") ∈ ms_tb := ms_in 12 (by decide +kernel) (by decide +kernel)
theorem ms_k14 : (Jvm.Cond.initialized "MarkupStore$TextReader") ∈ ms_tb := ms_in 14 (by decide +kernel) (by decide +kernel)
theorem ms_k15 : (Jvm.Cond.initialized "MarkupStore$MarkupReader") ∈ ms_tb := ms_in 15 (by decide +kernel) (by decide +kernel)
theorem ms_k16 : (Jvm.Cond.initialized "java/util/AbstractCollection") ∈ ms_tb := ms_in 16 (by decide +kernel) (by decide +kernel)
theorem ms_k17 : (Jvm.Cond.initialized "java/util/AbstractList") ∈ ms_tb := ms_in 17 (by decide +kernel) (by decide +kernel)
theorem ms_k18 : (Jvm.Cond.initialized "java/util/ArrayList") ∈ ms_tb := ms_in 18 (by decide +kernel) (by decide +kernel)
theorem ms_k30 : (Jvm.Cond.initialized "MarkupStore$Scribe") ∈ ms_tb := ms_in 30 (by decide +kernel) (by decide +kernel)
theorem ms_k31 : (Jvm.Cond.classLink "MarkupStoreLaw" (7 : Nat) "MarkupStore") ∈ ms_tb := ms_in 31 (by decide +kernel) (by decide +kernel)
theorem ms_k32 : (Jvm.Cond.instantiable "MarkupStore" (6 : Nat)) ∈ ms_tb := ms_in 32 (by decide +kernel) (by decide +kernel)
theorem ms_k33 : (Jvm.Cond.methodLink "MarkupStoreLaw" (9 : Nat) ({ cls := "MarkupStore", name := "<init>", desc := "()V" } : Jvm.MethodName)) ∈ ms_tb := ms_in 33 (by decide +kernel) (by decide +kernel)
theorem ms_k34 : (Jvm.Cond.instanceMethod ({ cls := "MarkupStore", name := "<init>", desc := "()V" } : Jvm.MethodName)) ∈ ms_tb := ms_in 34 (by decide +kernel) (by decide +kernel)
theorem ms_k35 : (Jvm.Cond.code ({ cls := "MarkupStore", name := "<init>", desc := "()V" } : Jvm.MethodName) prog_1_method_1_code (1 : Nat) (Option.none : Option Jvm.ClassFile.FieldType)) ∈ ms_tb := ms_in 35 (by decide +kernel) (by decide +kernel)
theorem ms_k36 : (Jvm.Cond.methodLink "MarkupStore" (1 : Nat) ({ cls := "java/lang/Object", name := "<init>", desc := "()V" } : Jvm.MethodName)) ∈ ms_tb := ms_in 36 (by decide +kernel) (by decide +kernel)
theorem ms_k37 : (Jvm.Cond.instanceMethod ({ cls := "java/lang/Object", name := "<init>", desc := "()V" } : Jvm.MethodName)) ∈ ms_tb := ms_in 37 (by decide +kernel) (by decide +kernel)
theorem ms_k38 : (Jvm.Cond.code ({ cls := "java/lang/Object", name := "<init>", desc := "()V" } : Jvm.MethodName) object_method_1_code (1 : Nat) (Option.none : Option Jvm.ClassFile.FieldType)) ∈ ms_tb := ms_in 38 (by decide +kernel) (by decide +kernel)
theorem ms_k39 : (Jvm.Cond.classLink "MarkupStore" (7 : Nat) "java/lang/StringBuilder") ∈ ms_tb := ms_in 39 (by decide +kernel) (by decide +kernel)
theorem ms_k40 : (Jvm.Cond.instantiable "java/lang/StringBuilder" (4 : Nat)) ∈ ms_tb := ms_in 40 (by decide +kernel) (by decide +kernel)
theorem ms_k41 : (Jvm.Cond.methodLink "MarkupStore" (9 : Nat) ({ cls := "java/lang/StringBuilder", name := "<init>", desc := "()V" } : Jvm.MethodName)) ∈ ms_tb := ms_in 41 (by decide +kernel) (by decide +kernel)
theorem ms_k42 : (Jvm.Cond.instanceMethod ({ cls := "java/lang/StringBuilder", name := "<init>", desc := "()V" } : Jvm.MethodName)) ∈ ms_tb := ms_in 42 (by decide +kernel) (by decide +kernel)
theorem ms_k43 : (Jvm.Cond.code ({ cls := "java/lang/StringBuilder", name := "<init>", desc := "()V" } : Jvm.MethodName) prog_24_method_1_code (1 : Nat) (Option.none : Option Jvm.ClassFile.FieldType)) ∈ ms_tb := ms_in 43 (by decide +kernel) (by decide +kernel)
theorem ms_k44 : (Jvm.Cond.methodLink "java/lang/StringBuilder" (1 : Nat) ({ cls := "java/lang/AbstractStringBuilder", name := "<init>", desc := "(I)V" } : Jvm.MethodName)) ∈ ms_tb := ms_in 44 (by decide +kernel) (by decide +kernel)
theorem ms_k45 : (Jvm.Cond.instanceMethod ({ cls := "java/lang/AbstractStringBuilder", name := "<init>", desc := "(I)V" } : Jvm.MethodName)) ∈ ms_tb := ms_in 45 (by decide +kernel) (by decide +kernel)
theorem ms_k46 : (Jvm.Cond.code ({ cls := "java/lang/AbstractStringBuilder", name := "<init>", desc := "(I)V" } : Jvm.MethodName) prog_16_method_2_code (2 : Nat) (Option.none : Option Jvm.ClassFile.FieldType)) ∈ ms_tb := ms_in 46 (by decide +kernel) (by decide +kernel)
theorem ms_k47 : (Jvm.Cond.methodLink "java/lang/AbstractStringBuilder" (3 : Nat) ({ cls := "java/lang/Object", name := "<init>", desc := "()V" } : Jvm.MethodName)) ∈ ms_tb := ms_in 47 (by decide +kernel) (by decide +kernel)
theorem ms_k48 : (Jvm.Cond.fieldLink "java/lang/AbstractStringBuilder" (18 : Nat) "java/lang/String" "COMPACT_STRINGS" "Z") ∈ ms_tb := ms_in 48 (by decide +kernel) (by decide +kernel)
theorem ms_k57 : (Jvm.Cond.fieldLink "java/lang/AbstractStringBuilder" (15 : Nat) "java/lang/AbstractStringBuilder" "value" "[B") ∈ ms_tb := ms_in 57 (by decide +kernel) (by decide +kernel)
theorem ms_k58 : (Jvm.Cond.fieldLink "java/lang/AbstractStringBuilder" (22 : Nat) "java/lang/AbstractStringBuilder" "coder" "B") ∈ ms_tb := ms_in 58 (by decide +kernel) (by decide +kernel)
theorem ms_k61 : (Jvm.Cond.fieldLink "java/lang/AbstractStringBuilder" (79 : Nat) "java/lang/AbstractStringBuilder" "count" "I") ∈ ms_tb := ms_in 61 (by decide +kernel) (by decide +kernel)
theorem ms_k62 : (Jvm.Cond.lays "java/lang/StringBuilder" "java/lang/AbstractStringBuilder" "value" "[B") ∈ ms_tb := ms_in 62 (by decide +kernel) (by decide +kernel)
theorem ms_k64 : (Jvm.Cond.lays "java/lang/StringBuilder" "java/lang/AbstractStringBuilder" "coder" "B") ∈ ms_tb := ms_in 64 (by decide +kernel) (by decide +kernel)
theorem ms_k66 : (Jvm.Cond.lays "java/lang/StringBuilder" "java/lang/AbstractStringBuilder" "maybeLatin1" "Z") ∈ ms_tb := ms_in 66 (by decide +kernel) (by decide +kernel)
theorem ms_k68 : (Jvm.Cond.lays "java/lang/StringBuilder" "java/lang/AbstractStringBuilder" "count" "I") ∈ ms_tb := ms_in 68 (by decide +kernel) (by decide +kernel)
theorem ms_k70 : (Jvm.Cond.superclass "java/lang/StringBuilder" "java/lang/AbstractStringBuilder") ∈ ms_tb := ms_in 70 (by decide +kernel) (by decide +kernel)
theorem ms_k71 : (Jvm.Cond.arrayClass Jvm.ClassFile.FieldType.byte) ∈ ms_tb := ms_in 71 (by decide +kernel) (by decide +kernel)
theorem ms_k72 : (Jvm.Cond.classLink "MarkupStore" (19 : Nat) "MarkupStore$Tree") ∈ ms_tb := ms_in 72 (by decide +kernel) (by decide +kernel)
theorem ms_k73 : (Jvm.Cond.instantiable "MarkupStore$Tree" (6 : Nat)) ∈ ms_tb := ms_in 73 (by decide +kernel) (by decide +kernel)
theorem ms_k74 : (Jvm.Cond.methodLink "MarkupStore" (21 : Nat) ({ cls := "MarkupStore$Tree", name := "<init>", desc := "()V" } : Jvm.MethodName)) ∈ ms_tb := ms_in 74 (by decide +kernel) (by decide +kernel)
theorem ms_k75 : (Jvm.Cond.instanceMethod ({ cls := "MarkupStore$Tree", name := "<init>", desc := "()V" } : Jvm.MethodName)) ∈ ms_tb := ms_in 75 (by decide +kernel) (by decide +kernel)
theorem ms_k76 : (Jvm.Cond.code ({ cls := "MarkupStore$Tree", name := "<init>", desc := "()V" } : Jvm.MethodName) prog_11_method_1_code (1 : Nat) (Option.none : Option Jvm.ClassFile.FieldType)) ∈ ms_tb := ms_in 76 (by decide +kernel) (by decide +kernel)
theorem ms_k77 : (Jvm.Cond.methodLink "MarkupStore$Tree" (3 : Nat) ({ cls := "java/lang/Object", name := "<init>", desc := "()V" } : Jvm.MethodName)) ∈ ms_tb := ms_in 77 (by decide +kernel) (by decide +kernel)
theorem ms_k78 : (Jvm.Cond.classLink "MarkupStore$Tree" (9 : Nat) "MarkupStore$Node") ∈ ms_tb := ms_in 78 (by decide +kernel) (by decide +kernel)
theorem ms_k80 : (Jvm.Cond.fieldLink "MarkupStore$Tree" (11 : Nat) "MarkupStore$Tree" "made" "[LMarkupStore$Node;") ∈ ms_tb := ms_in 80 (by decide +kernel) (by decide +kernel)
theorem ms_k81 : (Jvm.Cond.fieldLink "MarkupStore$Tree" (23 : Nat) "MarkupStore$Tree" "madeSize" "I") ∈ ms_tb := ms_in 81 (by decide +kernel) (by decide +kernel)
theorem ms_k82 : (Jvm.Cond.fieldLink "MarkupStore$Tree" (17 : Nat) "MarkupStore$Tree" "order" "[LMarkupStore$Node;") ∈ ms_tb := ms_in 82 (by decide +kernel) (by decide +kernel)
theorem ms_k86 : (Jvm.Cond.fieldLink "MarkupStore$Scribe" (21 : Nat) "MarkupStore$Tree" "size" "I") ∈ ms_tb := ms_in 86 (by decide +kernel) (by decide +kernel)
theorem ms_k87 : (Jvm.Cond.fieldLink "MarkupStore$Tree" (30 : Nat) "MarkupStore$Tree" "size" "I") ∈ ms_tb := ms_in 87 (by decide +kernel) (by decide +kernel)
theorem ms_k89 : (Jvm.Cond.fieldLink "MarkupStore" (200 : Nat) "MarkupStore$Tree" "size" "I") ∈ ms_tb := ms_in 89 (by decide +kernel) (by decide +kernel)
theorem ms_k90 : (Jvm.Cond.fieldLink "MarkupStore$Tree" (20 : Nat) "MarkupStore$Tree" "kept" "[LMarkupStore$Node;") ∈ ms_tb := ms_in 90 (by decide +kernel) (by decide +kernel)
theorem ms_k91 : (Jvm.Cond.fieldLink "MarkupStore$Tree" (66 : Nat) "MarkupStore$Tree" "keptSize" "I") ∈ ms_tb := ms_in 91 (by decide +kernel) (by decide +kernel)
theorem ms_k92 : (Jvm.Cond.laysFinal "MarkupStore$Tree" "MarkupStore$Tree" "made" "[LMarkupStore$Node;") ∈ ms_tb := ms_in 92 (by decide +kernel) (by decide +kernel)
theorem ms_k94 : (Jvm.Cond.lays "MarkupStore$Tree" "MarkupStore$Tree" "madeSize" "I") ∈ ms_tb := ms_in 94 (by decide +kernel) (by decide +kernel)
theorem ms_k96 : (Jvm.Cond.laysFinal "MarkupStore$Tree" "MarkupStore$Tree" "order" "[LMarkupStore$Node;") ∈ ms_tb := ms_in 96 (by decide +kernel) (by decide +kernel)
theorem ms_k98 : (Jvm.Cond.lays "MarkupStore$Tree" "MarkupStore$Tree" "size" "I") ∈ ms_tb := ms_in 98 (by decide +kernel) (by decide +kernel)
theorem ms_k100 : (Jvm.Cond.laysFinal "MarkupStore$Tree" "MarkupStore$Tree" "kept" "[LMarkupStore$Node;") ∈ ms_tb := ms_in 100 (by decide +kernel) (by decide +kernel)
theorem ms_k102 : (Jvm.Cond.lays "MarkupStore$Tree" "MarkupStore$Tree" "keptSize" "I") ∈ ms_tb := ms_in 102 (by decide +kernel) (by decide +kernel)
theorem ms_k105 : (Jvm.Cond.fieldLink "MarkupStore" (10 : Nat) "MarkupStore" "buffer" "Ljava/lang/StringBuilder;") ∈ ms_tb := ms_in 105 (by decide +kernel) (by decide +kernel)
theorem ms_k106 : (Jvm.Cond.fieldLink "MarkupStore" (16 : Nat) "MarkupStore" "scratch" "Ljava/lang/StringBuilder;") ∈ ms_tb := ms_in 106 (by decide +kernel) (by decide +kernel)
theorem ms_k107 : (Jvm.Cond.fieldLink "MarkupStore" (22 : Nat) "MarkupStore" "tree" "LMarkupStore$Tree;") ∈ ms_tb := ms_in 107 (by decide +kernel) (by decide +kernel)
theorem ms_k108 : (Jvm.Cond.fieldLink "MarkupStore" (26 : Nat) "MarkupStore" "found" "[I") ∈ ms_tb := ms_in 108 (by decide +kernel) (by decide +kernel)
theorem ms_k109 : (Jvm.Cond.fieldLink "MarkupStore" (30 : Nat) "MarkupStore" "foundSize" "I") ∈ ms_tb := ms_in 109 (by decide +kernel) (by decide +kernel)
theorem ms_k110 : (Jvm.Cond.fieldLink "MarkupStore" (34 : Nat) "MarkupStore" "changes" "I") ∈ ms_tb := ms_in 110 (by decide +kernel) (by decide +kernel)
theorem ms_k111 : (Jvm.Cond.laysFinal "MarkupStore" "MarkupStore" "buffer" "Ljava/lang/StringBuilder;") ∈ ms_tb := ms_in 111 (by decide +kernel) (by decide +kernel)
theorem ms_k113 : (Jvm.Cond.laysFinal "MarkupStore" "MarkupStore" "scratch" "Ljava/lang/StringBuilder;") ∈ ms_tb := ms_in 113 (by decide +kernel) (by decide +kernel)
theorem ms_k115 : (Jvm.Cond.laysFinal "MarkupStore" "MarkupStore" "tree" "LMarkupStore$Tree;") ∈ ms_tb := ms_in 115 (by decide +kernel) (by decide +kernel)
theorem ms_k117 : (Jvm.Cond.laysFinal "MarkupStore" "MarkupStore" "found" "[I") ∈ ms_tb := ms_in 117 (by decide +kernel) (by decide +kernel)
theorem ms_k119 : (Jvm.Cond.lays "MarkupStore" "MarkupStore" "foundSize" "I") ∈ ms_tb := ms_in 119 (by decide +kernel) (by decide +kernel)
theorem ms_k121 : (Jvm.Cond.lays "MarkupStore" "MarkupStore" "changes" "I") ∈ ms_tb := ms_in 121 (by decide +kernel) (by decide +kernel)
theorem ms_k124 : (Jvm.Cond.arrayClass Jvm.ClassFile.FieldType.int) ∈ ms_tb := ms_in 124 (by decide +kernel) (by decide +kernel)
theorem ms_k125 : (Jvm.Cond.methodLink "MarkupStoreLaw" (13 : Nat) ({ cls := "MarkupStore", name := "type", desc := "(C)Z" } : Jvm.MethodName)) ∈ ms_tb := ms_in 125 (by decide +kernel) (by decide +kernel)
theorem ms_k126 : (Jvm.Cond.instanceMethod ({ cls := "MarkupStore", name := "type", desc := "(C)Z" } : Jvm.MethodName)) ∈ ms_tb := ms_in 126 (by decide +kernel) (by decide +kernel)
theorem ms_k127 : (Jvm.Cond.selects "MarkupStore" ({ cls := "MarkupStore", name := "type", desc := "(C)Z" } : Jvm.MethodName) ({ cls := "MarkupStore", name := "type", desc := "(C)Z" } : Jvm.MethodName)) ∈ ms_tb := ms_in 127 (by decide +kernel) (by decide +kernel)
theorem ms_k128 : (Jvm.Cond.code ({ cls := "MarkupStore", name := "type", desc := "(C)Z" } : Jvm.MethodName) prog_1_method_2_code (2 : Nat) (Option.some Jvm.ClassFile.FieldType.boolean)) ∈ ms_tb := ms_in 128 (by decide +kernel) (by decide +kernel)
theorem ms_k129 : (Jvm.Cond.methodLink "MarkupStore" (37 : Nat) ({ cls := "java/lang/StringBuilder", name := "length", desc := "()I" } : Jvm.MethodName)) ∈ ms_tb := ms_in 129 (by decide +kernel) (by decide +kernel)
theorem ms_k130 : (Jvm.Cond.instanceMethod ({ cls := "java/lang/StringBuilder", name := "length", desc := "()I" } : Jvm.MethodName)) ∈ ms_tb := ms_in 130 (by decide +kernel) (by decide +kernel)
theorem ms_k131 : (Jvm.Cond.selects "java/lang/StringBuilder" ({ cls := "java/lang/StringBuilder", name := "length", desc := "()I" } : Jvm.MethodName) ({ cls := "java/lang/StringBuilder", name := "length", desc := "()I" } : Jvm.MethodName)) ∈ ms_tb := ms_in 131 (by decide +kernel) (by decide +kernel)
theorem ms_k132 : (Jvm.Cond.code ({ cls := "java/lang/StringBuilder", name := "length", desc := "()I" } : Jvm.MethodName) prog_24_method_93_code (1 : Nat) (Option.some Jvm.ClassFile.FieldType.int)) ∈ ms_tb := ms_in 132 (by decide +kernel) (by decide +kernel)
theorem ms_k133 : (Jvm.Cond.methodLink "java/lang/StringBuilder" (343 : Nat) ({ cls := "java/lang/AbstractStringBuilder", name := "length", desc := "()I" } : Jvm.MethodName)) ∈ ms_tb := ms_in 133 (by decide +kernel) (by decide +kernel)
theorem ms_k134 : (Jvm.Cond.instanceMethod ({ cls := "java/lang/AbstractStringBuilder", name := "length", desc := "()I" } : Jvm.MethodName)) ∈ ms_tb := ms_in 134 (by decide +kernel) (by decide +kernel)
theorem ms_k135 : (Jvm.Cond.code ({ cls := "java/lang/AbstractStringBuilder", name := "length", desc := "()I" } : Jvm.MethodName) prog_16_method_6_code (1 : Nat) (Option.some Jvm.ClassFile.FieldType.int)) ∈ ms_tb := ms_in 135 (by decide +kernel) (by decide +kernel)
theorem ms_k136 : (Jvm.Cond.methodLink "MarkupStore" (41 : Nat) ({ cls := "java/lang/StringBuilder", name := "append", desc := "(C)Ljava/lang/StringBuilder;" } : Jvm.MethodName)) ∈ ms_tb := ms_in 136 (by decide +kernel) (by decide +kernel)
theorem ms_k137 : (Jvm.Cond.instanceMethod ({ cls := "java/lang/StringBuilder", name := "append", desc := "(C)Ljava/lang/StringBuilder;" } : Jvm.MethodName)) ∈ ms_tb := ms_in 137 (by decide +kernel) (by decide +kernel)
theorem ms_k138 : (Jvm.Cond.selects "java/lang/StringBuilder" ({ cls := "java/lang/StringBuilder", name := "append", desc := "(C)Ljava/lang/StringBuilder;" } : Jvm.MethodName) ({ cls := "java/lang/StringBuilder", name := "append", desc := "(C)Ljava/lang/StringBuilder;" } : Jvm.MethodName)) ∈ ms_tb := ms_in 138 (by decide +kernel) (by decide +kernel)
theorem ms_k139 : (Jvm.Cond.code ({ cls := "java/lang/StringBuilder", name := "append", desc := "(C)Ljava/lang/StringBuilder;" } : Jvm.MethodName) prog_24_method_14_code (2 : Nat) (Option.some (Jvm.ClassFile.FieldType.object "java/lang/StringBuilder"))) ∈ ms_tb := ms_in 139 (by decide +kernel) (by decide +kernel)
theorem ms_k140 : (Jvm.Cond.methodLink "java/lang/StringBuilder" (50 : Nat) ({ cls := "java/lang/AbstractStringBuilder", name := "append", desc := "(C)Ljava/lang/AbstractStringBuilder;" } : Jvm.MethodName)) ∈ ms_tb := ms_in 140 (by decide +kernel) (by decide +kernel)
theorem ms_k141 : (Jvm.Cond.instanceMethod ({ cls := "java/lang/AbstractStringBuilder", name := "append", desc := "(C)Ljava/lang/AbstractStringBuilder;" } : Jvm.MethodName)) ∈ ms_tb := ms_in 141 (by decide +kernel) (by decide +kernel)
theorem ms_k142 : (Jvm.Cond.code ({ cls := "java/lang/AbstractStringBuilder", name := "append", desc := "(C)Ljava/lang/AbstractStringBuilder;" } : Jvm.MethodName) prog_16_method_31_code (2 : Nat) (Option.some (Jvm.ClassFile.FieldType.object "java/lang/AbstractStringBuilder"))) ∈ ms_tb := ms_in 142 (by decide +kernel) (by decide +kernel)
theorem ms_k143 : (Jvm.Cond.methodLink "java/lang/AbstractStringBuilder" (100 : Nat) ({ cls := "java/lang/AbstractStringBuilder", name := "ensureCapacityInternal", desc := "(I)V" } : Jvm.MethodName)) ∈ ms_tb := ms_in 143 (by decide +kernel) (by decide +kernel)
theorem ms_k145 : (Jvm.Cond.instanceMethod ({ cls := "java/lang/AbstractStringBuilder", name := "ensureCapacityInternal", desc := "(I)V" } : Jvm.MethodName)) ∈ ms_tb := ms_in 145 (by decide +kernel) (by decide +kernel)
theorem ms_k146 : (Jvm.Cond.code ({ cls := "java/lang/AbstractStringBuilder", name := "ensureCapacityInternal", desc := "(I)V" } : Jvm.MethodName) prog_16_method_9_code (3 : Nat) (Option.none : Option Jvm.ClassFile.FieldType)) ∈ ms_tb := ms_in 146 (by decide +kernel) (by decide +kernel)
theorem ms_k172 : (Jvm.Cond.methodLink "java/util/Arrays" (304 : Nat) ({ cls := "java/lang/Math", name := "min", desc := "(II)I" } : Jvm.MethodName)) ∈ ms_tb := ms_in 172 (by decide +kernel) (by decide +kernel)
theorem ms_k173 : (Jvm.Cond.static ({ cls := "java/lang/Math", name := "min", desc := "(II)I" } : Jvm.MethodName)) ∈ ms_tb := ms_in 173 (by decide +kernel) (by decide +kernel)
theorem ms_k174 : (Jvm.Cond.code ({ cls := "java/lang/Math", name := "min", desc := "(II)I" } : Jvm.MethodName) prog_21_method_69_code (2 : Nat) (Option.some Jvm.ClassFile.FieldType.int)) ∈ ms_tb := ms_in 174 (by decide +kernel) (by decide +kernel)
theorem ms_k175 : (Jvm.Cond.methodLink "java/util/Arrays" (150 : Nat) ({ cls := "java/lang/System", name := "arraycopy", desc := "(Ljava/lang/Object;ILjava/lang/Object;II)V" } : Jvm.MethodName)) ∈ ms_tb := ms_in 175 (by decide +kernel) (by decide +kernel)
theorem ms_k176 : (Jvm.Cond.static ({ cls := "java/lang/System", name := "arraycopy", desc := "(Ljava/lang/Object;ILjava/lang/Object;II)V" } : Jvm.MethodName)) ∈ ms_tb := ms_in 176 (by decide +kernel) (by decide +kernel)
theorem ms_k177 : (Jvm.Cond.native ({ cls := "java/lang/System", name := "arraycopy", desc := "(Ljava/lang/Object;ILjava/lang/Object;II)V" } : Jvm.MethodName)) ∈ ms_tb := ms_in 177 (by decide +kernel) (by decide +kernel)
theorem ms_k178 : (Jvm.Cond.methodLink "java/lang/AbstractStringBuilder" (83 : Nat) ({ cls := "java/lang/AbstractStringBuilder", name := "isLatin1", desc := "()Z" } : Jvm.MethodName)) ∈ ms_tb := ms_in 178 (by decide +kernel) (by decide +kernel)
theorem ms_k179 : (Jvm.Cond.instanceMethod ({ cls := "java/lang/AbstractStringBuilder", name := "isLatin1", desc := "()Z" } : Jvm.MethodName)) ∈ ms_tb := ms_in 179 (by decide +kernel) (by decide +kernel)
theorem ms_k180 : (Jvm.Cond.sameMethod "java/lang/AbstractStringBuilder" "java/lang/AbstractStringBuilder" "isLatin1" "()Z") ∈ ms_tb := ms_in 180 (by decide +kernel) (by decide +kernel)
theorem ms_k181 : (Jvm.Cond.selects "java/lang/StringBuilder" ({ cls := "java/lang/AbstractStringBuilder", name := "isLatin1", desc := "()Z" } : Jvm.MethodName) ({ cls := "java/lang/AbstractStringBuilder", name := "isLatin1", desc := "()Z" } : Jvm.MethodName)) ∈ ms_tb := ms_in 181 (by decide +kernel) (by decide +kernel)
theorem ms_k182 : (Jvm.Cond.code ({ cls := "java/lang/AbstractStringBuilder", name := "isLatin1", desc := "()Z" } : Jvm.MethodName) prog_16_method_68_code (1 : Nat) (Option.some Jvm.ClassFile.FieldType.boolean)) ∈ ms_tb := ms_in 182 (by decide +kernel) (by decide +kernel)
theorem ms_k183 : (Jvm.Cond.methodLink "java/lang/AbstractStringBuilder" (191 : Nat) ({ cls := "java/lang/StringLatin1", name := "canEncode", desc := "(C)Z" } : Jvm.MethodName)) ∈ ms_tb := ms_in 183 (by decide +kernel) (by decide +kernel)
theorem ms_k184 : (Jvm.Cond.static ({ cls := "java/lang/StringLatin1", name := "canEncode", desc := "(C)Z" } : Jvm.MethodName)) ∈ ms_tb := ms_in 184 (by decide +kernel) (by decide +kernel)
theorem ms_k185 : (Jvm.Cond.code ({ cls := "java/lang/StringLatin1", name := "canEncode", desc := "(C)Z" } : Jvm.MethodName) prog_25_method_3_code (1 : Nat) (Option.some Jvm.ClassFile.FieldType.boolean)) ∈ ms_tb := ms_in 185 (by decide +kernel) (by decide +kernel)
theorem ms_k231 : (Jvm.Cond.methodLink "MarkupStoreLaw" (18 : Nat) ({ cls := "MarkupStore", name := "load", desc := "()I" } : Jvm.MethodName)) ∈ ms_tb := ms_in 231 (by decide +kernel) (by decide +kernel)
theorem ms_k232 : (Jvm.Cond.instanceMethod ({ cls := "MarkupStore", name := "load", desc := "()I" } : Jvm.MethodName)) ∈ ms_tb := ms_in 232 (by decide +kernel) (by decide +kernel)
theorem ms_k233 : (Jvm.Cond.selects "MarkupStore" ({ cls := "MarkupStore", name := "load", desc := "()I" } : Jvm.MethodName) ({ cls := "MarkupStore", name := "load", desc := "()I" } : Jvm.MethodName)) ∈ ms_tb := ms_in 233 (by decide +kernel) (by decide +kernel)
theorem ms_k234 : (Jvm.Cond.code ({ cls := "MarkupStore", name := "load", desc := "()I" } : Jvm.MethodName) prog_1_method_3_code (3 : Nat) (Option.some Jvm.ClassFile.FieldType.int)) ∈ ms_tb := ms_in 234 (by decide +kernel) (by decide +kernel)
theorem ms_k235 : (Jvm.Cond.classLink "MarkupStore" (45 : Nat) "MarkupStore$MarkupReader") ∈ ms_tb := ms_in 235 (by decide +kernel) (by decide +kernel)
theorem ms_k236 : (Jvm.Cond.instantiable "MarkupStore$MarkupReader" (6 : Nat)) ∈ ms_tb := ms_in 236 (by decide +kernel) (by decide +kernel)
theorem ms_k237 : (Jvm.Cond.methodLink "MarkupStore" (47 : Nat) ({ cls := "MarkupStore", name := "useBuffer", desc := "()Ljava/lang/String;" } : Jvm.MethodName)) ∈ ms_tb := ms_in 237 (by decide +kernel) (by decide +kernel)
theorem ms_k239 : (Jvm.Cond.instanceMethod ({ cls := "MarkupStore", name := "useBuffer", desc := "()Ljava/lang/String;" } : Jvm.MethodName)) ∈ ms_tb := ms_in 239 (by decide +kernel) (by decide +kernel)
theorem ms_k240 : (Jvm.Cond.code ({ cls := "MarkupStore", name := "useBuffer", desc := "()Ljava/lang/String;" } : Jvm.MethodName) prog_1_method_19_code (2 : Nat) (Option.some (Jvm.ClassFile.FieldType.object "java/lang/String"))) ∈ ms_tb := ms_in 240 (by decide +kernel) (by decide +kernel)
theorem ms_k241 : (Jvm.Cond.methodLink "MarkupStore" (233 : Nat) ({ cls := "java/lang/StringBuilder", name := "toString", desc := "()Ljava/lang/String;" } : Jvm.MethodName)) ∈ ms_tb := ms_in 241 (by decide +kernel) (by decide +kernel)
theorem ms_k242 : (Jvm.Cond.instanceMethod ({ cls := "java/lang/StringBuilder", name := "toString", desc := "()Ljava/lang/String;" } : Jvm.MethodName)) ∈ ms_tb := ms_in 242 (by decide +kernel) (by decide +kernel)
theorem ms_k243 : (Jvm.Cond.selects "java/lang/StringBuilder" ({ cls := "java/lang/StringBuilder", name := "toString", desc := "()Ljava/lang/String;" } : Jvm.MethodName) ({ cls := "java/lang/StringBuilder", name := "toString", desc := "()Ljava/lang/String;" } : Jvm.MethodName)) ∈ ms_tb := ms_in 243 (by decide +kernel) (by decide +kernel)
theorem ms_k244 : (Jvm.Cond.code ({ cls := "java/lang/StringBuilder", name := "toString", desc := "()Ljava/lang/String;" } : Jvm.MethodName) prog_24_method_42_code (1 : Nat) (Option.some (Jvm.ClassFile.FieldType.object "java/lang/String"))) ∈ ms_tb := ms_in 244 (by decide +kernel) (by decide +kernel)
theorem ms_k245 : (Jvm.Cond.classLink "java/lang/StringBuilder" (18 : Nat) "java/lang/String") ∈ ms_tb := ms_in 245 (by decide +kernel) (by decide +kernel)
theorem ms_k246 : (Jvm.Cond.instantiable "java/lang/String" (4 : Nat)) ∈ ms_tb := ms_in 246 (by decide +kernel) (by decide +kernel)
theorem ms_k247 : (Jvm.Cond.methodLink "java/lang/StringBuilder" (137 : Nat) ({ cls := "java/lang/String", name := "<init>", desc := "(Ljava/lang/StringBuilder;)V" } : Jvm.MethodName)) ∈ ms_tb := ms_in 247 (by decide +kernel) (by decide +kernel)
theorem ms_k248 : (Jvm.Cond.instanceMethod ({ cls := "java/lang/String", name := "<init>", desc := "(Ljava/lang/StringBuilder;)V" } : Jvm.MethodName)) ∈ ms_tb := ms_in 248 (by decide +kernel) (by decide +kernel)
theorem ms_k249 : (Jvm.Cond.code ({ cls := "java/lang/String", name := "<init>", desc := "(Ljava/lang/StringBuilder;)V" } : Jvm.MethodName) prog_23_method_53_code (2 : Nat) (Option.none : Option Jvm.ClassFile.FieldType)) ∈ ms_tb := ms_in 249 (by decide +kernel) (by decide +kernel)
theorem ms_k250 : (Jvm.Cond.methodLink "java/lang/String" (489 : Nat) ({ cls := "java/lang/String", name := "<init>", desc := "(Ljava/lang/AbstractStringBuilder;Ljava/lang/Void;)V" } : Jvm.MethodName)) ∈ ms_tb := ms_in 250 (by decide +kernel) (by decide +kernel)
theorem ms_k251 : (Jvm.Cond.instanceMethod ({ cls := "java/lang/String", name := "<init>", desc := "(Ljava/lang/AbstractStringBuilder;Ljava/lang/Void;)V" } : Jvm.MethodName)) ∈ ms_tb := ms_in 251 (by decide +kernel) (by decide +kernel)
theorem ms_k252 : (Jvm.Cond.code ({ cls := "java/lang/String", name := "<init>", desc := "(Ljava/lang/AbstractStringBuilder;Ljava/lang/Void;)V" } : Jvm.MethodName) prog_23_method_150_code (5 : Nat) (Option.none : Option Jvm.ClassFile.FieldType)) ∈ ms_tb := ms_in 252 (by decide +kernel) (by decide +kernel)
theorem ms_k253 : (Jvm.Cond.methodLink "java/lang/String" (1 : Nat) ({ cls := "java/lang/Object", name := "<init>", desc := "()V" } : Jvm.MethodName)) ∈ ms_tb := ms_in 253 (by decide +kernel) (by decide +kernel)
theorem ms_k254 : (Jvm.Cond.methodLink "java/lang/String" (552 : Nat) ({ cls := "java/lang/AbstractStringBuilder", name := "getValue", desc := "()[B" } : Jvm.MethodName)) ∈ ms_tb := ms_in 254 (by decide +kernel) (by decide +kernel)
theorem ms_k255 : (Jvm.Cond.instanceMethod ({ cls := "java/lang/AbstractStringBuilder", name := "getValue", desc := "()[B" } : Jvm.MethodName)) ∈ ms_tb := ms_in 255 (by decide +kernel) (by decide +kernel)
theorem ms_k256 : (Jvm.Cond.sameMethod "java/lang/AbstractStringBuilder" "java/lang/AbstractStringBuilder" "getValue" "()[B") ∈ ms_tb := ms_in 256 (by decide +kernel) (by decide +kernel)
theorem ms_k257 : (Jvm.Cond.selects "java/lang/StringBuilder" ({ cls := "java/lang/AbstractStringBuilder", name := "getValue", desc := "()[B" } : Jvm.MethodName) ({ cls := "java/lang/AbstractStringBuilder", name := "getValue", desc := "()[B" } : Jvm.MethodName)) ∈ ms_tb := ms_in 257 (by decide +kernel) (by decide +kernel)
theorem ms_k258 : (Jvm.Cond.code ({ cls := "java/lang/AbstractStringBuilder", name := "getValue", desc := "()[B" } : Jvm.MethodName) prog_16_method_64_code (1 : Nat) (Option.some (Jvm.ClassFile.FieldType.array Jvm.ClassFile.FieldType.byte))) ∈ ms_tb := ms_in 258 (by decide +kernel) (by decide +kernel)
theorem ms_k259 : (Jvm.Cond.methodLink "java/lang/String" (549 : Nat) ({ cls := "java/lang/AbstractStringBuilder", name := "length", desc := "()I" } : Jvm.MethodName)) ∈ ms_tb := ms_in 259 (by decide +kernel) (by decide +kernel)
theorem ms_k260 : (Jvm.Cond.methodLink "java/lang/String" (1047 : Nat) ({ cls := "java/lang/AbstractStringBuilder", name := "isLatin1", desc := "()Z" } : Jvm.MethodName)) ∈ ms_tb := ms_in 260 (by decide +kernel) (by decide +kernel)
theorem ms_k261 : (Jvm.Cond.methodLink "java/lang/String" (54 : Nat) ({ cls := "java/util/Arrays", name := "copyOfRange", desc := "([BII)[B" } : Jvm.MethodName)) ∈ ms_tb := ms_in 261 (by decide +kernel) (by decide +kernel)
theorem ms_k262 : (Jvm.Cond.static ({ cls := "java/util/Arrays", name := "copyOfRange", desc := "([BII)[B" } : Jvm.MethodName)) ∈ ms_tb := ms_in 262 (by decide +kernel) (by decide +kernel)
theorem ms_k263 : (Jvm.Cond.code ({ cls := "java/util/Arrays", name := "copyOfRange", desc := "([BII)[B" } : Jvm.MethodName) prog_31_method_132_code (3 : Nat) (Option.some (Jvm.ClassFile.FieldType.array Jvm.ClassFile.FieldType.byte))) ∈ ms_tb := ms_in 263 (by decide +kernel) (by decide +kernel)
theorem ms_k264 : (Jvm.Cond.methodLink "java/util/Arrays" (339 : Nat) ({ cls := "java/util/Arrays", name := "copyOfRangeByte", desc := "([BII)[B" } : Jvm.MethodName)) ∈ ms_tb := ms_in 264 (by decide +kernel) (by decide +kernel)
theorem ms_k265 : (Jvm.Cond.static ({ cls := "java/util/Arrays", name := "copyOfRangeByte", desc := "([BII)[B" } : Jvm.MethodName)) ∈ ms_tb := ms_in 265 (by decide +kernel) (by decide +kernel)
theorem ms_k266 : (Jvm.Cond.code ({ cls := "java/util/Arrays", name := "copyOfRangeByte", desc := "([BII)[B" } : Jvm.MethodName) prog_31_method_133_code (5 : Nat) (Option.some (Jvm.ClassFile.FieldType.array Jvm.ClassFile.FieldType.byte))) ∈ ms_tb := ms_in 266 (by decide +kernel) (by decide +kernel)
theorem ms_k267 : (Jvm.Cond.methodLink "java/util/Arrays" (343 : Nat) ({ cls := "java/util/Arrays", name := "checkLength", desc := "(II)V" } : Jvm.MethodName)) ∈ ms_tb := ms_in 267 (by decide +kernel) (by decide +kernel)
theorem ms_k268 : (Jvm.Cond.static ({ cls := "java/util/Arrays", name := "checkLength", desc := "(II)V" } : Jvm.MethodName)) ∈ ms_tb := ms_in 268 (by decide +kernel) (by decide +kernel)
theorem ms_k269 : (Jvm.Cond.code ({ cls := "java/util/Arrays", name := "checkLength", desc := "(II)V" } : Jvm.MethodName) prog_31_method_131_code (2 : Nat) (Option.none : Option Jvm.ClassFile.FieldType)) ∈ ms_tb := ms_in 269 (by decide +kernel) (by decide +kernel)
theorem ms_k270 : (Jvm.Cond.fieldLink "java/lang/String" (38 : Nat) "java/lang/String" "COMPACT_STRINGS" "Z") ∈ ms_tb := ms_in 270 (by decide +kernel) (by decide +kernel)
theorem ms_k284 : (Jvm.Cond.fieldLink "java/lang/String" (9 : Nat) "java/lang/String" "value" "[B") ∈ ms_tb := ms_in 284 (by decide +kernel) (by decide +kernel)
theorem ms_k285 : (Jvm.Cond.fieldLink "java/lang/String" (15 : Nat) "java/lang/String" "coder" "B") ∈ ms_tb := ms_in 285 (by decide +kernel) (by decide +kernel)
theorem ms_k286 : (Jvm.Cond.laysFinal "java/lang/String" "java/lang/String" "value" "[B") ∈ ms_tb := ms_in 286 (by decide +kernel) (by decide +kernel)
theorem ms_k288 : (Jvm.Cond.laysFinal "java/lang/String" "java/lang/String" "coder" "B") ∈ ms_tb := ms_in 288 (by decide +kernel) (by decide +kernel)
theorem ms_k290 : (Jvm.Cond.lays "java/lang/String" "java/lang/String" "hash" "I") ∈ ms_tb := ms_in 290 (by decide +kernel) (by decide +kernel)
theorem ms_k292 : (Jvm.Cond.lays "java/lang/String" "java/lang/String" "hashIsZero" "Z") ∈ ms_tb := ms_in 292 (by decide +kernel) (by decide +kernel)
theorem ms_k295 : (Jvm.Cond.methodLink "MarkupStore" (190 : Nat) ({ cls := "java/lang/StringBuilder", name := "setLength", desc := "(I)V" } : Jvm.MethodName)) ∈ ms_tb := ms_in 295 (by decide +kernel) (by decide +kernel)
theorem ms_k296 : (Jvm.Cond.instanceMethod ({ cls := "java/lang/StringBuilder", name := "setLength", desc := "(I)V" } : Jvm.MethodName)) ∈ ms_tb := ms_in 296 (by decide +kernel) (by decide +kernel)
theorem ms_k297 : (Jvm.Cond.selects "java/lang/StringBuilder" ({ cls := "java/lang/StringBuilder", name := "setLength", desc := "(I)V" } : Jvm.MethodName) ({ cls := "java/lang/StringBuilder", name := "setLength", desc := "(I)V" } : Jvm.MethodName)) ∈ ms_tb := ms_in 297 (by decide +kernel) (by decide +kernel)
theorem ms_k298 : (Jvm.Cond.code ({ cls := "java/lang/StringBuilder", name := "setLength", desc := "(I)V" } : Jvm.MethodName) prog_24_method_89_code (2 : Nat) (Option.none : Option Jvm.ClassFile.FieldType)) ∈ ms_tb := ms_in 298 (by decide +kernel) (by decide +kernel)
theorem ms_k299 : (Jvm.Cond.methodLink "java/lang/StringBuilder" (333 : Nat) ({ cls := "java/lang/AbstractStringBuilder", name := "setLength", desc := "(I)V" } : Jvm.MethodName)) ∈ ms_tb := ms_in 299 (by decide +kernel) (by decide +kernel)
theorem ms_k300 : (Jvm.Cond.instanceMethod ({ cls := "java/lang/AbstractStringBuilder", name := "setLength", desc := "(I)V" } : Jvm.MethodName)) ∈ ms_tb := ms_in 300 (by decide +kernel) (by decide +kernel)
theorem ms_k301 : (Jvm.Cond.code ({ cls := "java/lang/AbstractStringBuilder", name := "setLength", desc := "(I)V" } : Jvm.MethodName) prog_16_method_13_code (2 : Nat) (Option.none : Option Jvm.ClassFile.FieldType)) ∈ ms_tb := ms_in 301 (by decide +kernel) (by decide +kernel)
theorem ms_k315 : (Jvm.Cond.methodLink "MarkupStore" (51 : Nat) ({ cls := "MarkupStore$MarkupReader", name := "<init>", desc := "(Ljava/lang/String;Ljava/lang/StringBuilder;)V" } : Jvm.MethodName)) ∈ ms_tb := ms_in 315 (by decide +kernel) (by decide +kernel)
theorem ms_k316 : (Jvm.Cond.instanceMethod ({ cls := "MarkupStore$MarkupReader", name := "<init>", desc := "(Ljava/lang/String;Ljava/lang/StringBuilder;)V" } : Jvm.MethodName)) ∈ ms_tb := ms_in 316 (by decide +kernel) (by decide +kernel)
theorem ms_k317 : (Jvm.Cond.code ({ cls := "MarkupStore$MarkupReader", name := "<init>", desc := "(Ljava/lang/String;Ljava/lang/StringBuilder;)V" } : Jvm.MethodName) prog_3_method_1_code (3 : Nat) (Option.none : Option Jvm.ClassFile.FieldType)) ∈ ms_tb := ms_in 317 (by decide +kernel) (by decide +kernel)
theorem ms_k318 : (Jvm.Cond.methodLink "MarkupStore$MarkupReader" (3 : Nat) ({ cls := "MarkupStore$TextReader", name := "<init>", desc := "(Ljava/lang/String;)V" } : Jvm.MethodName)) ∈ ms_tb := ms_in 318 (by decide +kernel) (by decide +kernel)
theorem ms_k319 : (Jvm.Cond.instanceMethod ({ cls := "MarkupStore$TextReader", name := "<init>", desc := "(Ljava/lang/String;)V" } : Jvm.MethodName)) ∈ ms_tb := ms_in 319 (by decide +kernel) (by decide +kernel)
theorem ms_k320 : (Jvm.Cond.code ({ cls := "MarkupStore$TextReader", name := "<init>", desc := "(Ljava/lang/String;)V" } : Jvm.MethodName) prog_10_method_1_code (2 : Nat) (Option.none : Option Jvm.ClassFile.FieldType)) ∈ ms_tb := ms_in 320 (by decide +kernel) (by decide +kernel)
theorem ms_k321 : (Jvm.Cond.methodLink "MarkupStore$TextReader" (3 : Nat) ({ cls := "java/lang/Object", name := "<init>", desc := "()V" } : Jvm.MethodName)) ∈ ms_tb := ms_in 321 (by decide +kernel) (by decide +kernel)
theorem ms_k322 : (Jvm.Cond.classLink "MarkupStore$MarkupReader" (9 : Nat) "java/util/ArrayList") ∈ ms_tb := ms_in 322 (by decide +kernel) (by decide +kernel)
theorem ms_k323 : (Jvm.Cond.instantiable "java/util/ArrayList" (3 : Nat)) ∈ ms_tb := ms_in 323 (by decide +kernel) (by decide +kernel)
theorem ms_k324 : (Jvm.Cond.methodLink "MarkupStore$MarkupReader" (11 : Nat) ({ cls := "java/util/ArrayList", name := "<init>", desc := "()V" } : Jvm.MethodName)) ∈ ms_tb := ms_in 324 (by decide +kernel) (by decide +kernel)
theorem ms_k325 : (Jvm.Cond.instanceMethod ({ cls := "java/util/ArrayList", name := "<init>", desc := "()V" } : Jvm.MethodName)) ∈ ms_tb := ms_in 325 (by decide +kernel) (by decide +kernel)
theorem ms_k326 : (Jvm.Cond.code ({ cls := "java/util/ArrayList", name := "<init>", desc := "()V" } : Jvm.MethodName) prog_30_method_2_code (1 : Nat) (Option.none : Option Jvm.ClassFile.FieldType)) ∈ ms_tb := ms_in 326 (by decide +kernel) (by decide +kernel)
theorem ms_k327 : (Jvm.Cond.methodLink "java/util/ArrayList" (1 : Nat) ({ cls := "java/util/AbstractList", name := "<init>", desc := "()V" } : Jvm.MethodName)) ∈ ms_tb := ms_in 327 (by decide +kernel) (by decide +kernel)
theorem ms_k328 : (Jvm.Cond.instanceMethod ({ cls := "java/util/AbstractList", name := "<init>", desc := "()V" } : Jvm.MethodName)) ∈ ms_tb := ms_in 328 (by decide +kernel) (by decide +kernel)
theorem ms_k329 : (Jvm.Cond.code ({ cls := "java/util/AbstractList", name := "<init>", desc := "()V" } : Jvm.MethodName) prog_29_method_1_code (1 : Nat) (Option.none : Option Jvm.ClassFile.FieldType)) ∈ ms_tb := ms_in 329 (by decide +kernel) (by decide +kernel)
theorem ms_k330 : (Jvm.Cond.methodLink "java/util/AbstractList" (1 : Nat) ({ cls := "java/util/AbstractCollection", name := "<init>", desc := "()V" } : Jvm.MethodName)) ∈ ms_tb := ms_in 330 (by decide +kernel) (by decide +kernel)
theorem ms_k331 : (Jvm.Cond.instanceMethod ({ cls := "java/util/AbstractCollection", name := "<init>", desc := "()V" } : Jvm.MethodName)) ∈ ms_tb := ms_in 331 (by decide +kernel) (by decide +kernel)
theorem ms_k332 : (Jvm.Cond.code ({ cls := "java/util/AbstractCollection", name := "<init>", desc := "()V" } : Jvm.MethodName) prog_28_method_1_code (1 : Nat) (Option.none : Option Jvm.ClassFile.FieldType)) ∈ ms_tb := ms_in 332 (by decide +kernel) (by decide +kernel)
theorem ms_k333 : (Jvm.Cond.methodLink "java/util/AbstractCollection" (1 : Nat) ({ cls := "java/lang/Object", name := "<init>", desc := "()V" } : Jvm.MethodName)) ∈ ms_tb := ms_in 333 (by decide +kernel) (by decide +kernel)
theorem ms_k334 : (Jvm.Cond.fieldLink "java/util/ArrayList" (39 : Nat) "java/util/ArrayList" "DEFAULTCAPACITY_EMPTY_ELEMENTDATA" "[Ljava/lang/Object;") ∈ ms_tb := ms_in 334 (by decide +kernel) (by decide +kernel)
theorem ms_k336 : (Jvm.Cond.fieldLink "java/util/ArrayList" (9 : Nat) "java/util/ArrayList" "elementData" "[Ljava/lang/Object;") ∈ ms_tb := ms_in 336 (by decide +kernel) (by decide +kernel)
theorem ms_k338 : (Jvm.Cond.fieldLink "java/util/AbstractList" (7 : Nat) "java/util/AbstractList" "modCount" "I") ∈ ms_tb := ms_in 338 (by decide +kernel) (by decide +kernel)
theorem ms_k341 : (Jvm.Cond.lays "java/util/ArrayList" "java/util/ArrayList" "elementData" "[Ljava/lang/Object;") ∈ ms_tb := ms_in 341 (by decide +kernel) (by decide +kernel)
theorem ms_k343 : (Jvm.Cond.lays "java/util/ArrayList" "java/util/ArrayList" "size" "I") ∈ ms_tb := ms_in 343 (by decide +kernel) (by decide +kernel)
theorem ms_k345 : (Jvm.Cond.lays "java/util/ArrayList" "java/util/AbstractList" "modCount" "I") ∈ ms_tb := ms_in 345 (by decide +kernel) (by decide +kernel)
theorem ms_k348 : (Jvm.Cond.fieldLink "MarkupStore$MarkupReader" (14 : Nat) "MarkupStore$MarkupReader" "read" "Ljava/util/ArrayList;") ∈ ms_tb := ms_in 348 (by decide +kernel) (by decide +kernel)
theorem ms_k350 : (Jvm.Cond.fieldLink "MarkupStore$MarkupReader" (20 : Nat) "MarkupStore$MarkupReader" "scratch" "Ljava/lang/StringBuilder;") ∈ ms_tb := ms_in 350 (by decide +kernel) (by decide +kernel)
theorem ms_k351 : (Jvm.Cond.fieldLink "MarkupStore$MarkupReader" (24 : Nat) "MarkupStore$MarkupReader" "tooMuch" "Z") ∈ ms_tb := ms_in 351 (by decide +kernel) (by decide +kernel)
theorem ms_k352 : (Jvm.Cond.fieldLink "MarkupStore$TextReader" (9 : Nat) "MarkupStore$TextReader" "text" "Ljava/lang/String;") ∈ ms_tb := ms_in 352 (by decide +kernel) (by decide +kernel)
theorem ms_k357 : (Jvm.Cond.fieldLink "MarkupStore$TextReader" (15 : Nat) "MarkupStore$TextReader" "at" "I") ∈ ms_tb := ms_in 357 (by decide +kernel) (by decide +kernel)
theorem ms_k362 : (Jvm.Cond.fieldLink "MarkupStore$TextReader" (19 : Nat) "MarkupStore$TextReader" "wrong" "I") ∈ ms_tb := ms_in 362 (by decide +kernel) (by decide +kernel)
theorem ms_k363 : (Jvm.Cond.fieldLink "MarkupStore" (61 : Nat) "MarkupStore$MarkupReader" "wrong" "I") ∈ ms_tb := ms_in 363 (by decide +kernel) (by decide +kernel)
theorem ms_k364 : (Jvm.Cond.sameField "MarkupStore$MarkupReader" "MarkupStore$TextReader" "wrong" "I") ∈ ms_tb := ms_in 364 (by decide +kernel) (by decide +kernel)
theorem ms_k367 : (Jvm.Cond.laysFinal "MarkupStore$MarkupReader" "MarkupStore$MarkupReader" "read" "Ljava/util/ArrayList;") ∈ ms_tb := ms_in 367 (by decide +kernel) (by decide +kernel)
theorem ms_k369 : (Jvm.Cond.laysFinal "MarkupStore$MarkupReader" "MarkupStore$MarkupReader" "scratch" "Ljava/lang/StringBuilder;") ∈ ms_tb := ms_in 369 (by decide +kernel) (by decide +kernel)
theorem ms_k371 : (Jvm.Cond.lays "MarkupStore$MarkupReader" "MarkupStore$MarkupReader" "tooMuch" "Z") ∈ ms_tb := ms_in 371 (by decide +kernel) (by decide +kernel)
theorem ms_k373 : (Jvm.Cond.laysFinal "MarkupStore$MarkupReader" "MarkupStore$TextReader" "text" "Ljava/lang/String;") ∈ ms_tb := ms_in 373 (by decide +kernel) (by decide +kernel)
theorem ms_k375 : (Jvm.Cond.lays "MarkupStore$MarkupReader" "MarkupStore$TextReader" "at" "I") ∈ ms_tb := ms_in 375 (by decide +kernel) (by decide +kernel)
theorem ms_k377 : (Jvm.Cond.lays "MarkupStore$MarkupReader" "MarkupStore$TextReader" "wrong" "I") ∈ ms_tb := ms_in 377 (by decide +kernel) (by decide +kernel)
theorem ms_k380 : (Jvm.Cond.methodLink "MarkupStore" (54 : Nat) ({ cls := "MarkupStore$MarkupReader", name := "readDocument", desc := "()Z" } : Jvm.MethodName)) ∈ ms_tb := ms_in 380 (by decide +kernel) (by decide +kernel)
theorem ms_k381 : (Jvm.Cond.instanceMethod ({ cls := "MarkupStore$MarkupReader", name := "readDocument", desc := "()Z" } : Jvm.MethodName)) ∈ ms_tb := ms_in 381 (by decide +kernel) (by decide +kernel)
theorem ms_k382 : (Jvm.Cond.selects "MarkupStore$MarkupReader" ({ cls := "MarkupStore$MarkupReader", name := "readDocument", desc := "()Z" } : Jvm.MethodName) ({ cls := "MarkupStore$MarkupReader", name := "readDocument", desc := "()Z" } : Jvm.MethodName)) ∈ ms_tb := ms_in 382 (by decide +kernel) (by decide +kernel)
theorem ms_k383 : (Jvm.Cond.code ({ cls := "MarkupStore$MarkupReader", name := "readDocument", desc := "()Z" } : Jvm.MethodName) prog_3_method_5_code (2 : Nat) (Option.some Jvm.ClassFile.FieldType.boolean)) ∈ ms_tb := ms_in 383 (by decide +kernel) (by decide +kernel)
theorem ms_k384 : (Jvm.Cond.methodLink "MarkupStore$MarkupReader" (56 : Nat) ({ cls := "MarkupStore$MarkupReader", name := "seen", desc := "(I)C" } : Jvm.MethodName)) ∈ ms_tb := ms_in 384 (by decide +kernel) (by decide +kernel)
theorem ms_k385 : (Jvm.Cond.sameMethod "MarkupStore$MarkupReader" "MarkupStore$TextReader" "seen" "(I)C") ∈ ms_tb := ms_in 385 (by decide +kernel) (by decide +kernel)
theorem ms_k387 : (Jvm.Cond.selects "MarkupStore$MarkupReader" ({ cls := "MarkupStore$MarkupReader", name := "seen", desc := "(I)C" } : Jvm.MethodName) ({ cls := "MarkupStore$TextReader", name := "seen", desc := "(I)C" } : Jvm.MethodName)) ∈ ms_tb := ms_in 387 (by decide +kernel) (by decide +kernel)
theorem ms_k388 : (Jvm.Cond.instanceMethod ({ cls := "MarkupStore$TextReader", name := "seen", desc := "(I)C" } : Jvm.MethodName)) ∈ ms_tb := ms_in 388 (by decide +kernel) (by decide +kernel)
theorem ms_k389 : (Jvm.Cond.code ({ cls := "MarkupStore$TextReader", name := "seen", desc := "(I)C" } : Jvm.MethodName) prog_10_method_4_code (2 : Nat) (Option.some Jvm.ClassFile.FieldType.char)) ∈ ms_tb := ms_in 389 (by decide +kernel) (by decide +kernel)
theorem ms_k390 : (Jvm.Cond.methodLink "MarkupStore$TextReader" (22 : Nat) ({ cls := "java/lang/String", name := "length", desc := "()I" } : Jvm.MethodName)) ∈ ms_tb := ms_in 390 (by decide +kernel) (by decide +kernel)
theorem ms_k391 : (Jvm.Cond.instanceMethod ({ cls := "java/lang/String", name := "length", desc := "()I" } : Jvm.MethodName)) ∈ ms_tb := ms_in 391 (by decide +kernel) (by decide +kernel)
theorem ms_k392 : (Jvm.Cond.selects "java/lang/String" ({ cls := "java/lang/String", name := "length", desc := "()I" } : Jvm.MethodName) ({ cls := "java/lang/String", name := "length", desc := "()I" } : Jvm.MethodName)) ∈ ms_tb := ms_in 392 (by decide +kernel) (by decide +kernel)
theorem ms_k393 : (Jvm.Cond.code ({ cls := "java/lang/String", name := "length", desc := "()I" } : Jvm.MethodName) prog_23_method_54_code (1 : Nat) (Option.some Jvm.ClassFile.FieldType.int)) ∈ ms_tb := ms_in 393 (by decide +kernel) (by decide +kernel)
theorem ms_k394 : (Jvm.Cond.methodLink "java/lang/String" (335 : Nat) ({ cls := "java/lang/String", name := "coder", desc := "()B" } : Jvm.MethodName)) ∈ ms_tb := ms_in 394 (by decide +kernel) (by decide +kernel)
theorem ms_k395 : (Jvm.Cond.instanceMethod ({ cls := "java/lang/String", name := "coder", desc := "()B" } : Jvm.MethodName)) ∈ ms_tb := ms_in 395 (by decide +kernel) (by decide +kernel)
theorem ms_k396 : (Jvm.Cond.selects "java/lang/String" ({ cls := "java/lang/String", name := "coder", desc := "()B" } : Jvm.MethodName) ({ cls := "java/lang/String", name := "coder", desc := "()B" } : Jvm.MethodName)) ∈ ms_tb := ms_in 396 (by decide +kernel) (by decide +kernel)
theorem ms_k397 : (Jvm.Cond.code ({ cls := "java/lang/String", name := "coder", desc := "()B" } : Jvm.MethodName) prog_23_method_152_code (1 : Nat) (Option.some Jvm.ClassFile.FieldType.byte)) ∈ ms_tb := ms_in 397 (by decide +kernel) (by decide +kernel)
theorem ms_k413 : (Jvm.Cond.methodLink "MarkupStore$MarkupReader" (60 : Nat) ({ cls := "MarkupStore$MarkupReader", name := "failAt", desc := "(I)Z" } : Jvm.MethodName)) ∈ ms_tb := ms_in 413 (by decide +kernel) (by decide +kernel)
theorem ms_k414 : (Jvm.Cond.sameMethod "MarkupStore$MarkupReader" "MarkupStore$TextReader" "failAt" "(I)Z") ∈ ms_tb := ms_in 414 (by decide +kernel) (by decide +kernel)
theorem ms_k416 : (Jvm.Cond.selects "MarkupStore$MarkupReader" ({ cls := "MarkupStore$MarkupReader", name := "failAt", desc := "(I)Z" } : Jvm.MethodName) ({ cls := "MarkupStore$TextReader", name := "failAt", desc := "(I)Z" } : Jvm.MethodName)) ∈ ms_tb := ms_in 416 (by decide +kernel) (by decide +kernel)
theorem ms_k417 : (Jvm.Cond.instanceMethod ({ cls := "MarkupStore$TextReader", name := "failAt", desc := "(I)Z" } : Jvm.MethodName)) ∈ ms_tb := ms_in 417 (by decide +kernel) (by decide +kernel)
theorem ms_k418 : (Jvm.Cond.code ({ cls := "MarkupStore$TextReader", name := "failAt", desc := "(I)Z" } : Jvm.MethodName) prog_10_method_3_code (2 : Nat) (Option.some Jvm.ClassFile.FieldType.boolean)) ∈ ms_tb := ms_in 418 (by decide +kernel) (by decide +kernel)
theorem ms_k585 : (Jvm.Cond.sameMethod "MarkupStore$MarkupReader" "MarkupStore$TextReader" "failed" "()Z") ∈ ms_tb := ms_in 585 (by decide +kernel) (by decide +kernel)
theorem ms_k587 : (Jvm.Cond.selects "MarkupStore$MarkupReader" ({ cls := "MarkupStore$MarkupReader", name := "failed", desc := "()Z" } : Jvm.MethodName) ({ cls := "MarkupStore$TextReader", name := "failed", desc := "()Z" } : Jvm.MethodName)) ∈ ms_tb := ms_in 587 (by decide +kernel) (by decide +kernel)
theorem ms_k588 : (Jvm.Cond.instanceMethod ({ cls := "MarkupStore$TextReader", name := "failed", desc := "()Z" } : Jvm.MethodName)) ∈ ms_tb := ms_in 588 (by decide +kernel) (by decide +kernel)
theorem ms_k589 : (Jvm.Cond.code ({ cls := "MarkupStore$TextReader", name := "failed", desc := "()Z" } : Jvm.MethodName) prog_10_method_2_code (1 : Nat) (Option.some Jvm.ClassFile.FieldType.boolean)) ∈ ms_tb := ms_in 589 (by decide +kernel) (by decide +kernel)
theorem ms_k704 : (Jvm.Cond.methodLink "MarkupStore" (58 : Nat) ({ cls := "MarkupStore$MarkupReader", name := "failed", desc := "()Z" } : Jvm.MethodName)) ∈ ms_tb := ms_in 704 (by decide +kernel) (by decide +kernel)
theorem ms_k716 : (Jvm.Cond.instanceMethod ({ cls := "MarkupStore$Tree", name := "clear", desc := "()V" } : Jvm.MethodName)) ∈ ms_tb := ms_in 716 (by decide +kernel) (by decide +kernel)
theorem ms_k717 : (Jvm.Cond.selects "MarkupStore$Tree" ({ cls := "MarkupStore$Tree", name := "clear", desc := "()V" } : Jvm.MethodName) ({ cls := "MarkupStore$Tree", name := "clear", desc := "()V" } : Jvm.MethodName)) ∈ ms_tb := ms_in 717 (by decide +kernel) (by decide +kernel)
theorem ms_k718 : (Jvm.Cond.code ({ cls := "MarkupStore$Tree", name := "clear", desc := "()V" } : Jvm.MethodName) prog_11_method_10_code (1 : Nat) (Option.none : Option Jvm.ClassFile.FieldType)) ∈ ms_tb := ms_in 718 (by decide +kernel) (by decide +kernel)
theorem ms_k719 : (Jvm.Cond.methodLink "MarkupStore$Tree" (55 : Nat) ({ cls := "MarkupStore$Tree", name := "takeOut", desc := "(II)V" } : Jvm.MethodName)) ∈ ms_tb := ms_in 719 (by decide +kernel) (by decide +kernel)
theorem ms_k720 : (Jvm.Cond.instanceMethod ({ cls := "MarkupStore$Tree", name := "takeOut", desc := "(II)V" } : Jvm.MethodName)) ∈ ms_tb := ms_in 720 (by decide +kernel) (by decide +kernel)
theorem ms_k721 : (Jvm.Cond.selects "MarkupStore$Tree" ({ cls := "MarkupStore$Tree", name := "takeOut", desc := "(II)V" } : Jvm.MethodName) ({ cls := "MarkupStore$Tree", name := "takeOut", desc := "(II)V" } : Jvm.MethodName)) ∈ ms_tb := ms_in 721 (by decide +kernel) (by decide +kernel)
theorem ms_k722 : (Jvm.Cond.code ({ cls := "MarkupStore$Tree", name := "takeOut", desc := "(II)V" } : Jvm.MethodName) prog_11_method_9_code (4 : Nat) (Option.none : Option Jvm.ClassFile.FieldType)) ∈ ms_tb := ms_in 722 (by decide +kernel) (by decide +kernel)
theorem ms_k723 : (Jvm.Cond.methodLink "MarkupStore$Tree" (52 : Nat) ({ cls := "MarkupStore$Tree", name := "setPlaces", desc := "()V" } : Jvm.MethodName)) ∈ ms_tb := ms_in 723 (by decide +kernel) (by decide +kernel)
theorem ms_k725 : (Jvm.Cond.instanceMethod ({ cls := "MarkupStore$Tree", name := "setPlaces", desc := "()V" } : Jvm.MethodName)) ∈ ms_tb := ms_in 725 (by decide +kernel) (by decide +kernel)
theorem ms_k726 : (Jvm.Cond.code ({ cls := "MarkupStore$Tree", name := "setPlaces", desc := "()V" } : Jvm.MethodName) prog_11_method_13_code (2 : Nat) (Option.none : Option Jvm.ClassFile.FieldType)) ∈ ms_tb := ms_in 726 (by decide +kernel) (by decide +kernel)
theorem ms_k733 : (Jvm.Cond.methodLink "MarkupStore" (87 : Nat) ({ cls := "MarkupStore", name := "beginBatch", desc := "()V" } : Jvm.MethodName)) ∈ ms_tb := ms_in 733 (by decide +kernel) (by decide +kernel)
theorem ms_k735 : (Jvm.Cond.instanceMethod ({ cls := "MarkupStore", name := "beginBatch", desc := "()V" } : Jvm.MethodName)) ∈ ms_tb := ms_in 735 (by decide +kernel) (by decide +kernel)
theorem ms_k736 : (Jvm.Cond.code ({ cls := "MarkupStore", name := "beginBatch", desc := "()V" } : Jvm.MethodName) prog_1_method_20_code (1 : Nat) (Option.none : Option Jvm.ClassFile.FieldType)) ∈ ms_tb := ms_in 736 (by decide +kernel) (by decide +kernel)
theorem ms_k737 : (Jvm.Cond.methodLink "MarkupStore" (236 : Nat) ({ cls := "MarkupStore$Tree", name := "keep", desc := "()V" } : Jvm.MethodName)) ∈ ms_tb := ms_in 737 (by decide +kernel) (by decide +kernel)
theorem ms_k738 : (Jvm.Cond.instanceMethod ({ cls := "MarkupStore$Tree", name := "keep", desc := "()V" } : Jvm.MethodName)) ∈ ms_tb := ms_in 738 (by decide +kernel) (by decide +kernel)
theorem ms_k739 : (Jvm.Cond.selects "MarkupStore$Tree" ({ cls := "MarkupStore$Tree", name := "keep", desc := "()V" } : Jvm.MethodName) ({ cls := "MarkupStore$Tree", name := "keep", desc := "()V" } : Jvm.MethodName)) ∈ ms_tb := ms_in 739 (by decide +kernel) (by decide +kernel)
theorem ms_k740 : (Jvm.Cond.code ({ cls := "MarkupStore$Tree", name := "keep", desc := "()V" } : Jvm.MethodName) prog_11_method_11_code (2 : Nat) (Option.none : Option Jvm.ClassFile.FieldType)) ∈ ms_tb := ms_in 740 (by decide +kernel) (by decide +kernel)
theorem ms_k741 : (Jvm.Cond.methodLink "MarkupStoreLaw" (23 : Nat) ({ cls := "MarkupStore", name := "insert", desc := "(II)I" } : Jvm.MethodName)) ∈ ms_tb := ms_in 741 (by decide +kernel) (by decide +kernel)
theorem ms_k742 : (Jvm.Cond.instanceMethod ({ cls := "MarkupStore", name := "insert", desc := "(II)I" } : Jvm.MethodName)) ∈ ms_tb := ms_in 742 (by decide +kernel) (by decide +kernel)
theorem ms_k743 : (Jvm.Cond.selects "MarkupStore" ({ cls := "MarkupStore", name := "insert", desc := "(II)I" } : Jvm.MethodName) ({ cls := "MarkupStore", name := "insert", desc := "(II)I" } : Jvm.MethodName)) ∈ ms_tb := ms_in 743 (by decide +kernel) (by decide +kernel)
theorem ms_k744 : (Jvm.Cond.code ({ cls := "MarkupStore", name := "insert", desc := "(II)I" } : Jvm.MethodName) prog_1_method_4_code (10 : Nat) (Option.some Jvm.ClassFile.FieldType.int)) ∈ ms_tb := ms_in 744 (by decide +kernel) (by decide +kernel)
theorem ms_k745 : (Jvm.Cond.methodLink "MarkupStore" (90 : Nat) ({ cls := "MarkupStore$Tree", name := "find", desc := "(I)LMarkupStore$Node;" } : Jvm.MethodName)) ∈ ms_tb := ms_in 745 (by decide +kernel) (by decide +kernel)
theorem ms_k746 : (Jvm.Cond.instanceMethod ({ cls := "MarkupStore$Tree", name := "find", desc := "(I)LMarkupStore$Node;" } : Jvm.MethodName)) ∈ ms_tb := ms_in 746 (by decide +kernel) (by decide +kernel)
theorem ms_k747 : (Jvm.Cond.selects "MarkupStore$Tree" ({ cls := "MarkupStore$Tree", name := "find", desc := "(I)LMarkupStore$Node;" } : Jvm.MethodName) ({ cls := "MarkupStore$Tree", name := "find", desc := "(I)LMarkupStore$Node;" } : Jvm.MethodName)) ∈ ms_tb := ms_in 747 (by decide +kernel) (by decide +kernel)
theorem ms_k748 : (Jvm.Cond.code ({ cls := "MarkupStore$Tree", name := "find", desc := "(I)LMarkupStore$Node;" } : Jvm.MethodName) prog_11_method_2_code (2 : Nat) (Option.some (Jvm.ClassFile.FieldType.object "MarkupStore$Node"))) ∈ ms_tb := ms_in 748 (by decide +kernel) (by decide +kernel)
theorem ms_k845 : (Jvm.Cond.methodLink "MarkupStoreLaw" (28 : Nat) ({ cls := "MarkupStore", name := "remove", desc := "(I)I" } : Jvm.MethodName)) ∈ ms_tb := ms_in 845 (by decide +kernel) (by decide +kernel)
theorem ms_k846 : (Jvm.Cond.instanceMethod ({ cls := "MarkupStore", name := "remove", desc := "(I)I" } : Jvm.MethodName)) ∈ ms_tb := ms_in 846 (by decide +kernel) (by decide +kernel)
theorem ms_k847 : (Jvm.Cond.selects "MarkupStore" ({ cls := "MarkupStore", name := "remove", desc := "(I)I" } : Jvm.MethodName) ({ cls := "MarkupStore", name := "remove", desc := "(I)I" } : Jvm.MethodName)) ∈ ms_tb := ms_in 847 (by decide +kernel) (by decide +kernel)
theorem ms_k848 : (Jvm.Cond.code ({ cls := "MarkupStore", name := "remove", desc := "(I)I" } : Jvm.MethodName) prog_1_method_5_code (7 : Nat) (Option.some Jvm.ClassFile.FieldType.int)) ∈ ms_tb := ms_in 848 (by decide +kernel) (by decide +kernel)
theorem ms_k850 : (Jvm.Cond.methodLink "MarkupStoreLaw" (33 : Nat) ({ cls := "MarkupStore", name := "replace", desc := "(I)Z" } : Jvm.MethodName)) ∈ ms_tb := ms_in 850 (by decide +kernel) (by decide +kernel)
theorem ms_k851 : (Jvm.Cond.instanceMethod ({ cls := "MarkupStore", name := "replace", desc := "(I)Z" } : Jvm.MethodName)) ∈ ms_tb := ms_in 851 (by decide +kernel) (by decide +kernel)
theorem ms_k852 : (Jvm.Cond.selects "MarkupStore" ({ cls := "MarkupStore", name := "replace", desc := "(I)Z" } : Jvm.MethodName) ({ cls := "MarkupStore", name := "replace", desc := "(I)Z" } : Jvm.MethodName)) ∈ ms_tb := ms_in 852 (by decide +kernel) (by decide +kernel)
theorem ms_k853 : (Jvm.Cond.code ({ cls := "MarkupStore", name := "replace", desc := "(I)Z" } : Jvm.MethodName) prog_1_method_6_code (4 : Nat) (Option.some Jvm.ClassFile.FieldType.boolean)) ∈ ms_tb := ms_in 853 (by decide +kernel) (by decide +kernel)
theorem ms_k866 : (Jvm.Cond.methodLink "MarkupStoreLaw" (38 : Nat) ({ cls := "MarkupStore", name := "query", desc := "(I)I" } : Jvm.MethodName)) ∈ ms_tb := ms_in 866 (by decide +kernel) (by decide +kernel)
theorem ms_k867 : (Jvm.Cond.instanceMethod ({ cls := "MarkupStore", name := "query", desc := "(I)I" } : Jvm.MethodName)) ∈ ms_tb := ms_in 867 (by decide +kernel) (by decide +kernel)
theorem ms_k868 : (Jvm.Cond.selects "MarkupStore" ({ cls := "MarkupStore", name := "query", desc := "(I)I" } : Jvm.MethodName) ({ cls := "MarkupStore", name := "query", desc := "(I)I" } : Jvm.MethodName)) ∈ ms_tb := ms_in 868 (by decide +kernel) (by decide +kernel)
theorem ms_k869 : (Jvm.Cond.code ({ cls := "MarkupStore", name := "query", desc := "(I)I" } : Jvm.MethodName) prog_1_method_7_code (7 : Nat) (Option.some Jvm.ClassFile.FieldType.int)) ∈ ms_tb := ms_in 869 (by decide +kernel) (by decide +kernel)
theorem ms_k1197 : (Jvm.Cond.methodLink "MarkupStoreLaw" (42 : Nat) ({ cls := "MarkupStore", name := "result", desc := "(I)I" } : Jvm.MethodName)) ∈ ms_tb := ms_in 1197 (by decide +kernel) (by decide +kernel)
theorem ms_k1198 : (Jvm.Cond.instanceMethod ({ cls := "MarkupStore", name := "result", desc := "(I)I" } : Jvm.MethodName)) ∈ ms_tb := ms_in 1198 (by decide +kernel) (by decide +kernel)
theorem ms_k1199 : (Jvm.Cond.selects "MarkupStore" ({ cls := "MarkupStore", name := "result", desc := "(I)I" } : Jvm.MethodName) ({ cls := "MarkupStore", name := "result", desc := "(I)I" } : Jvm.MethodName)) ∈ ms_tb := ms_in 1199 (by decide +kernel) (by decide +kernel)
theorem ms_k1200 : (Jvm.Cond.code ({ cls := "MarkupStore", name := "result", desc := "(I)I" } : Jvm.MethodName) prog_1_method_8_code (2 : Nat) (Option.some Jvm.ClassFile.FieldType.int)) ∈ ms_tb := ms_in 1200 (by decide +kernel) (by decide +kernel)
theorem ms_k1201 : (Jvm.Cond.methodLink "MarkupStoreLaw" (46 : Nat) ({ cls := "MarkupStore", name := "commit", desc := "()I" } : Jvm.MethodName)) ∈ ms_tb := ms_in 1201 (by decide +kernel) (by decide +kernel)
theorem ms_k1202 : (Jvm.Cond.instanceMethod ({ cls := "MarkupStore", name := "commit", desc := "()I" } : Jvm.MethodName)) ∈ ms_tb := ms_in 1202 (by decide +kernel) (by decide +kernel)
theorem ms_k1203 : (Jvm.Cond.selects "MarkupStore" ({ cls := "MarkupStore", name := "commit", desc := "()I" } : Jvm.MethodName) ({ cls := "MarkupStore", name := "commit", desc := "()I" } : Jvm.MethodName)) ∈ ms_tb := ms_in 1203 (by decide +kernel) (by decide +kernel)
theorem ms_k1204 : (Jvm.Cond.code ({ cls := "MarkupStore", name := "commit", desc := "()I" } : Jvm.MethodName) prog_1_method_9_code (2 : Nat) (Option.some Jvm.ClassFile.FieldType.int)) ∈ ms_tb := ms_in 1204 (by decide +kernel) (by decide +kernel)
theorem ms_k1205 : (Jvm.Cond.methodLink "MarkupStoreLaw" (50 : Nat) ({ cls := "MarkupStore", name := "crash", desc := "()I" } : Jvm.MethodName)) ∈ ms_tb := ms_in 1205 (by decide +kernel) (by decide +kernel)
theorem ms_k1206 : (Jvm.Cond.instanceMethod ({ cls := "MarkupStore", name := "crash", desc := "()I" } : Jvm.MethodName)) ∈ ms_tb := ms_in 1206 (by decide +kernel) (by decide +kernel)
theorem ms_k1207 : (Jvm.Cond.selects "MarkupStore" ({ cls := "MarkupStore", name := "crash", desc := "()I" } : Jvm.MethodName) ({ cls := "MarkupStore", name := "crash", desc := "()I" } : Jvm.MethodName)) ∈ ms_tb := ms_in 1207 (by decide +kernel) (by decide +kernel)
theorem ms_k1208 : (Jvm.Cond.code ({ cls := "MarkupStore", name := "crash", desc := "()I" } : Jvm.MethodName) prog_1_method_10_code (2 : Nat) (Option.some Jvm.ClassFile.FieldType.int)) ∈ ms_tb := ms_in 1208 (by decide +kernel) (by decide +kernel)
theorem ms_k1209 : (Jvm.Cond.methodLink "MarkupStore" (194 : Nat) ({ cls := "MarkupStore$Tree", name := "giveBack", desc := "()V" } : Jvm.MethodName)) ∈ ms_tb := ms_in 1209 (by decide +kernel) (by decide +kernel)
theorem ms_k1210 : (Jvm.Cond.instanceMethod ({ cls := "MarkupStore$Tree", name := "giveBack", desc := "()V" } : Jvm.MethodName)) ∈ ms_tb := ms_in 1210 (by decide +kernel) (by decide +kernel)
theorem ms_k1211 : (Jvm.Cond.selects "MarkupStore$Tree" ({ cls := "MarkupStore$Tree", name := "giveBack", desc := "()V" } : Jvm.MethodName) ({ cls := "MarkupStore$Tree", name := "giveBack", desc := "()V" } : Jvm.MethodName)) ∈ ms_tb := ms_in 1211 (by decide +kernel) (by decide +kernel)
theorem ms_k1212 : (Jvm.Cond.code ({ cls := "MarkupStore$Tree", name := "giveBack", desc := "()V" } : Jvm.MethodName) prog_11_method_12_code (2 : Nat) (Option.none : Option Jvm.ClassFile.FieldType)) ∈ ms_tb := ms_in 1212 (by decide +kernel) (by decide +kernel)
theorem ms_k1213 : (Jvm.Cond.methodLink "MarkupStore$Tree" (69 : Nat) ({ cls := "MarkupStore$Tree", name := "clear", desc := "()V" } : Jvm.MethodName)) ∈ ms_tb := ms_in 1213 (by decide +kernel) (by decide +kernel)
theorem ms_k1214 : (Jvm.Cond.methodLink "MarkupStoreLaw" (54 : Nat) ({ cls := "MarkupStore", name := "kind", desc := "(I)I" } : Jvm.MethodName)) ∈ ms_tb := ms_in 1214 (by decide +kernel) (by decide +kernel)
theorem ms_k1215 : (Jvm.Cond.instanceMethod ({ cls := "MarkupStore", name := "kind", desc := "(I)I" } : Jvm.MethodName)) ∈ ms_tb := ms_in 1215 (by decide +kernel) (by decide +kernel)
theorem ms_k1216 : (Jvm.Cond.selects "MarkupStore" ({ cls := "MarkupStore", name := "kind", desc := "(I)I" } : Jvm.MethodName) ({ cls := "MarkupStore", name := "kind", desc := "(I)I" } : Jvm.MethodName)) ∈ ms_tb := ms_in 1216 (by decide +kernel) (by decide +kernel)
theorem ms_k1217 : (Jvm.Cond.code ({ cls := "MarkupStore", name := "kind", desc := "(I)I" } : Jvm.MethodName) prog_1_method_11_code (3 : Nat) (Option.some Jvm.ClassFile.FieldType.int)) ∈ ms_tb := ms_in 1217 (by decide +kernel) (by decide +kernel)
theorem ms_k1218 : (Jvm.Cond.methodLink "MarkupStoreLaw" (58 : Nat) ({ cls := "MarkupStore", name := "node", desc := "(II)I" } : Jvm.MethodName)) ∈ ms_tb := ms_in 1218 (by decide +kernel) (by decide +kernel)
theorem ms_k1219 : (Jvm.Cond.instanceMethod ({ cls := "MarkupStore", name := "node", desc := "(II)I" } : Jvm.MethodName)) ∈ ms_tb := ms_in 1219 (by decide +kernel) (by decide +kernel)
theorem ms_k1220 : (Jvm.Cond.selects "MarkupStore" ({ cls := "MarkupStore", name := "node", desc := "(II)I" } : Jvm.MethodName) ({ cls := "MarkupStore", name := "node", desc := "(II)I" } : Jvm.MethodName)) ∈ ms_tb := ms_in 1220 (by decide +kernel) (by decide +kernel)
theorem ms_k1221 : (Jvm.Cond.code ({ cls := "MarkupStore", name := "node", desc := "(II)I" } : Jvm.MethodName) prog_1_method_12_code (4 : Nat) (Option.some Jvm.ClassFile.FieldType.int)) ∈ ms_tb := ms_in 1221 (by decide +kernel) (by decide +kernel)
theorem ms_k1226 : (Jvm.Cond.methodLink "MarkupStoreLaw" (62 : Nat) ({ cls := "MarkupStore", name := "letter", desc := "(II)I" } : Jvm.MethodName)) ∈ ms_tb := ms_in 1226 (by decide +kernel) (by decide +kernel)
theorem ms_k1227 : (Jvm.Cond.instanceMethod ({ cls := "MarkupStore", name := "letter", desc := "(II)I" } : Jvm.MethodName)) ∈ ms_tb := ms_in 1227 (by decide +kernel) (by decide +kernel)
theorem ms_k1228 : (Jvm.Cond.selects "MarkupStore" ({ cls := "MarkupStore", name := "letter", desc := "(II)I" } : Jvm.MethodName) ({ cls := "MarkupStore", name := "letter", desc := "(II)I" } : Jvm.MethodName)) ∈ ms_tb := ms_in 1228 (by decide +kernel) (by decide +kernel)
theorem ms_k1229 : (Jvm.Cond.code ({ cls := "MarkupStore", name := "letter", desc := "(II)I" } : Jvm.MethodName) prog_1_method_13_code (4 : Nat) (Option.some Jvm.ClassFile.FieldType.int)) ∈ ms_tb := ms_in 1229 (by decide +kernel) (by decide +kernel)
theorem ms_k1230 : (Jvm.Cond.methodLink "MarkupStoreLaw" (66 : Nat) ({ cls := "MarkupStore", name := "label", desc := "(II)I" } : Jvm.MethodName)) ∈ ms_tb := ms_in 1230 (by decide +kernel) (by decide +kernel)
theorem ms_k1231 : (Jvm.Cond.instanceMethod ({ cls := "MarkupStore", name := "label", desc := "(II)I" } : Jvm.MethodName)) ∈ ms_tb := ms_in 1231 (by decide +kernel) (by decide +kernel)
theorem ms_k1232 : (Jvm.Cond.selects "MarkupStore" ({ cls := "MarkupStore", name := "label", desc := "(II)I" } : Jvm.MethodName) ({ cls := "MarkupStore", name := "label", desc := "(II)I" } : Jvm.MethodName)) ∈ ms_tb := ms_in 1232 (by decide +kernel) (by decide +kernel)
theorem ms_k1233 : (Jvm.Cond.code ({ cls := "MarkupStore", name := "label", desc := "(II)I" } : Jvm.MethodName) prog_1_method_14_code (4 : Nat) (Option.some Jvm.ClassFile.FieldType.int)) ∈ ms_tb := ms_in 1233 (by decide +kernel) (by decide +kernel)
theorem ms_k1234 : (Jvm.Cond.methodLink "MarkupStoreLaw" (70 : Nat) ({ cls := "MarkupStore", name := "root", desc := "()I" } : Jvm.MethodName)) ∈ ms_tb := ms_in 1234 (by decide +kernel) (by decide +kernel)
theorem ms_k1235 : (Jvm.Cond.instanceMethod ({ cls := "MarkupStore", name := "root", desc := "()I" } : Jvm.MethodName)) ∈ ms_tb := ms_in 1235 (by decide +kernel) (by decide +kernel)
theorem ms_k1236 : (Jvm.Cond.selects "MarkupStore" ({ cls := "MarkupStore", name := "root", desc := "()I" } : Jvm.MethodName) ({ cls := "MarkupStore", name := "root", desc := "()I" } : Jvm.MethodName)) ∈ ms_tb := ms_in 1236 (by decide +kernel) (by decide +kernel)
theorem ms_k1237 : (Jvm.Cond.code ({ cls := "MarkupStore", name := "root", desc := "()I" } : Jvm.MethodName) prog_1_method_15_code (1 : Nat) (Option.some Jvm.ClassFile.FieldType.int)) ∈ ms_tb := ms_in 1237 (by decide +kernel) (by decide +kernel)
theorem ms_k1238 : (Jvm.Cond.methodLink "MarkupStoreLaw" (74 : Nat) ({ cls := "MarkupStore", name := "nodes", desc := "()I" } : Jvm.MethodName)) ∈ ms_tb := ms_in 1238 (by decide +kernel) (by decide +kernel)
theorem ms_k1239 : (Jvm.Cond.instanceMethod ({ cls := "MarkupStore", name := "nodes", desc := "()I" } : Jvm.MethodName)) ∈ ms_tb := ms_in 1239 (by decide +kernel) (by decide +kernel)
theorem ms_k1240 : (Jvm.Cond.selects "MarkupStore" ({ cls := "MarkupStore", name := "nodes", desc := "()I" } : Jvm.MethodName) ({ cls := "MarkupStore", name := "nodes", desc := "()I" } : Jvm.MethodName)) ∈ ms_tb := ms_in 1240 (by decide +kernel) (by decide +kernel)
theorem ms_k1241 : (Jvm.Cond.code ({ cls := "MarkupStore", name := "nodes", desc := "()I" } : Jvm.MethodName) prog_1_method_16_code (1 : Nat) (Option.some Jvm.ClassFile.FieldType.int)) ∈ ms_tb := ms_in 1241 (by decide +kernel) (by decide +kernel)
theorem ms_k1242 : (Jvm.Cond.methodLink "MarkupStoreLaw" (78 : Nat) ({ cls := "MarkupStore", name := "length", desc := "()I" } : Jvm.MethodName)) ∈ ms_tb := ms_in 1242 (by decide +kernel) (by decide +kernel)
theorem ms_k1243 : (Jvm.Cond.instanceMethod ({ cls := "MarkupStore", name := "length", desc := "()I" } : Jvm.MethodName)) ∈ ms_tb := ms_in 1243 (by decide +kernel) (by decide +kernel)
theorem ms_k1244 : (Jvm.Cond.selects "MarkupStore" ({ cls := "MarkupStore", name := "length", desc := "()I" } : Jvm.MethodName) ({ cls := "MarkupStore", name := "length", desc := "()I" } : Jvm.MethodName)) ∈ ms_tb := ms_in 1244 (by decide +kernel) (by decide +kernel)
theorem ms_k1245 : (Jvm.Cond.code ({ cls := "MarkupStore", name := "length", desc := "()I" } : Jvm.MethodName) prog_1_method_17_code (2 : Nat) (Option.some Jvm.ClassFile.FieldType.int)) ∈ ms_tb := ms_in 1245 (by decide +kernel) (by decide +kernel)
theorem ms_k1246 : (Jvm.Cond.classLink "MarkupStore" (220 : Nat) "MarkupStore$Scribe") ∈ ms_tb := ms_in 1246 (by decide +kernel) (by decide +kernel)
theorem ms_k1247 : (Jvm.Cond.instantiable "MarkupStore$Scribe" (3 : Nat)) ∈ ms_tb := ms_in 1247 (by decide +kernel) (by decide +kernel)
theorem ms_k1248 : (Jvm.Cond.methodLink "MarkupStore" (222 : Nat) ({ cls := "MarkupStore$Scribe", name := "<init>", desc := "(I)V" } : Jvm.MethodName)) ∈ ms_tb := ms_in 1248 (by decide +kernel) (by decide +kernel)
theorem ms_k1249 : (Jvm.Cond.instanceMethod ({ cls := "MarkupStore$Scribe", name := "<init>", desc := "(I)V" } : Jvm.MethodName)) ∈ ms_tb := ms_in 1249 (by decide +kernel) (by decide +kernel)
theorem ms_k1250 : (Jvm.Cond.code ({ cls := "MarkupStore$Scribe", name := "<init>", desc := "(I)V" } : Jvm.MethodName) prog_8_method_1_code (2 : Nat) (Option.none : Option Jvm.ClassFile.FieldType)) ∈ ms_tb := ms_in 1250 (by decide +kernel) (by decide +kernel)
theorem ms_k1251 : (Jvm.Cond.methodLink "MarkupStore$Scribe" (3 : Nat) ({ cls := "java/lang/Object", name := "<init>", desc := "()V" } : Jvm.MethodName)) ∈ ms_tb := ms_in 1251 (by decide +kernel) (by decide +kernel)
theorem ms_k1252 : (Jvm.Cond.fieldLink "MarkupStore$Scribe" (9 : Nat) "MarkupStore$Scribe" "wanted" "I") ∈ ms_tb := ms_in 1252 (by decide +kernel) (by decide +kernel)
theorem ms_k1253 : (Jvm.Cond.fieldLink "MarkupStore$Scribe" (15 : Nat) "MarkupStore$Scribe" "count" "I") ∈ ms_tb := ms_in 1253 (by decide +kernel) (by decide +kernel)
theorem ms_k1254 : (Jvm.Cond.fieldLink "MarkupStore" (227 : Nat) "MarkupStore$Scribe" "count" "I") ∈ ms_tb := ms_in 1254 (by decide +kernel) (by decide +kernel)
theorem ms_k1255 : (Jvm.Cond.fieldLink "MarkupStore$Scribe" (18 : Nat) "MarkupStore$Scribe" "seen" "I") ∈ ms_tb := ms_in 1255 (by decide +kernel) (by decide +kernel)
theorem ms_k1256 : (Jvm.Cond.fieldLink "MarkupStore" (230 : Nat) "MarkupStore$Scribe" "seen" "I") ∈ ms_tb := ms_in 1256 (by decide +kernel) (by decide +kernel)
theorem ms_k1257 : (Jvm.Cond.laysFinal "MarkupStore$Scribe" "MarkupStore$Scribe" "wanted" "I") ∈ ms_tb := ms_in 1257 (by decide +kernel) (by decide +kernel)
theorem ms_k1259 : (Jvm.Cond.lays "MarkupStore$Scribe" "MarkupStore$Scribe" "count" "I") ∈ ms_tb := ms_in 1259 (by decide +kernel) (by decide +kernel)
theorem ms_k1261 : (Jvm.Cond.lays "MarkupStore$Scribe" "MarkupStore$Scribe" "seen" "I") ∈ ms_tb := ms_in 1261 (by decide +kernel) (by decide +kernel)
theorem ms_k1264 : (Jvm.Cond.methodLink "MarkupStore" (224 : Nat) ({ cls := "MarkupStore$Scribe", name := "write", desc := "(LMarkupStore$Tree;)V" } : Jvm.MethodName)) ∈ ms_tb := ms_in 1264 (by decide +kernel) (by decide +kernel)
theorem ms_k1265 : (Jvm.Cond.instanceMethod ({ cls := "MarkupStore$Scribe", name := "write", desc := "(LMarkupStore$Tree;)V" } : Jvm.MethodName)) ∈ ms_tb := ms_in 1265 (by decide +kernel) (by decide +kernel)
theorem ms_k1266 : (Jvm.Cond.selects "MarkupStore$Scribe" ({ cls := "MarkupStore$Scribe", name := "write", desc := "(LMarkupStore$Tree;)V" } : Jvm.MethodName) ({ cls := "MarkupStore$Scribe", name := "write", desc := "(LMarkupStore$Tree;)V" } : Jvm.MethodName)) ∈ ms_tb := ms_in 1266 (by decide +kernel) (by decide +kernel)
theorem ms_k1267 : (Jvm.Cond.code ({ cls := "MarkupStore$Scribe", name := "write", desc := "(LMarkupStore$Tree;)V" } : Jvm.MethodName) prog_8_method_2_code (6 : Nat) (Option.none : Option Jvm.ClassFile.FieldType)) ∈ ms_tb := ms_in 1267 (by decide +kernel) (by decide +kernel)
theorem ms_k1268 : (Jvm.Cond.methodLink "MarkupStore$Scribe" (36 : Nat) ({ cls := "MarkupStore$Scribe", name := "closeUpTo", desc := "(LMarkupStore$Node;LMarkupStore$Node;)V" } : Jvm.MethodName)) ∈ ms_tb := ms_in 1268 (by decide +kernel) (by decide +kernel)
theorem ms_k1270 : (Jvm.Cond.instanceMethod ({ cls := "MarkupStore$Scribe", name := "closeUpTo", desc := "(LMarkupStore$Node;LMarkupStore$Node;)V" } : Jvm.MethodName)) ∈ ms_tb := ms_in 1270 (by decide +kernel) (by decide +kernel)
theorem ms_k1271 : (Jvm.Cond.code ({ cls := "MarkupStore$Scribe", name := "closeUpTo", desc := "(LMarkupStore$Node;LMarkupStore$Node;)V" } : Jvm.MethodName) prog_8_method_3_code (4 : Nat) (Option.none : Option Jvm.ClassFile.FieldType)) ∈ ms_tb := ms_in 1271 (by decide +kernel) (by decide +kernel)
theorem ms_k1306 : (Jvm.Cond.methodLink "MarkupStoreLaw" (82 : Nat) ({ cls := "MarkupStore", name := "written", desc := "(I)I" } : Jvm.MethodName)) ∈ ms_tb := ms_in 1306 (by decide +kernel) (by decide +kernel)
theorem ms_k1307 : (Jvm.Cond.instanceMethod ({ cls := "MarkupStore", name := "written", desc := "(I)I" } : Jvm.MethodName)) ∈ ms_tb := ms_in 1307 (by decide +kernel) (by decide +kernel)
theorem ms_k1308 : (Jvm.Cond.selects "MarkupStore" ({ cls := "MarkupStore", name := "written", desc := "(I)I" } : Jvm.MethodName) ({ cls := "MarkupStore", name := "written", desc := "(I)I" } : Jvm.MethodName)) ∈ ms_tb := ms_in 1308 (by decide +kernel) (by decide +kernel)
theorem ms_k1309 : (Jvm.Cond.code ({ cls := "MarkupStore", name := "written", desc := "(I)I" } : Jvm.MethodName) prog_1_method_18_code (3 : Nat) (Option.some Jvm.ClassFile.FieldType.int)) ∈ ms_tb := ms_in 1309 (by decide +kernel) (by decide +kernel)
theorem ms_k1310 : (Jvm.Cond.classLink "MarkupStoreLaw" (10 : Nat) "MarkupStoreModel") ∈ ms_tb := ms_in 1310 (by decide +kernel) (by decide +kernel)
theorem ms_k1311 : (Jvm.Cond.instantiable "MarkupStoreModel" (60 : Nat)) ∈ ms_tb := ms_in 1311 (by decide +kernel) (by decide +kernel)
theorem ms_k1312 : (Jvm.Cond.methodLink "MarkupStoreLaw" (12 : Nat) ({ cls := "MarkupStoreModel", name := "<init>", desc := "()V" } : Jvm.MethodName)) ∈ ms_tb := ms_in 1312 (by decide +kernel) (by decide +kernel)
theorem ms_k1313 : (Jvm.Cond.instanceMethod ({ cls := "MarkupStoreModel", name := "<init>", desc := "()V" } : Jvm.MethodName)) ∈ ms_tb := ms_in 1313 (by decide +kernel) (by decide +kernel)
theorem ms_k1314 : (Jvm.Cond.code ({ cls := "MarkupStoreModel", name := "<init>", desc := "()V" } : Jvm.MethodName) prog_14_method_1_code (1 : Nat) (Option.none : Option Jvm.ClassFile.FieldType)) ∈ ms_tb := ms_in 1314 (by decide +kernel) (by decide +kernel)
theorem ms_k1315 : (Jvm.Cond.methodLink "MarkupStoreModel" (1 : Nat) ({ cls := "java/lang/Object", name := "<init>", desc := "()V" } : Jvm.MethodName)) ∈ ms_tb := ms_in 1315 (by decide +kernel) (by decide +kernel)
theorem ms_k1316 : (Jvm.Cond.fieldLink "MarkupStoreModel" (7 : Nat) "MarkupStoreModel" "t" "[I") ∈ ms_tb := ms_in 1316 (by decide +kernel) (by decide +kernel)
theorem ms_k1317 : (Jvm.Cond.fieldLink "MarkupStoreModel" (13 : Nat) "MarkupStoreModel" "saved" "[I") ∈ ms_tb := ms_in 1317 (by decide +kernel) (by decide +kernel)
theorem ms_k1318 : (Jvm.Cond.fieldLink "MarkupStoreModel" (16 : Nat) "MarkupStoreModel" "w" "[I") ∈ ms_tb := ms_in 1318 (by decide +kernel) (by decide +kernel)
theorem ms_k1319 : (Jvm.Cond.fieldLink "MarkupStoreModel" (19 : Nat) "MarkupStoreModel" "slots" "[I") ∈ ms_tb := ms_in 1319 (by decide +kernel) (by decide +kernel)
theorem ms_k1321 : (Jvm.Cond.fieldLink "MarkupStoreModel" (239 : Nat) "MarkupStoreModel" "changes" "I") ∈ ms_tb := ms_in 1321 (by decide +kernel) (by decide +kernel)
theorem ms_k1322 : (Jvm.Cond.fieldLink "MarkupStoreModel" (22 : Nat) "MarkupStoreModel" "buffer" "[C") ∈ ms_tb := ms_in 1322 (by decide +kernel) (by decide +kernel)
theorem ms_k1323 : (Jvm.Cond.fieldLink "MarkupStoreModel" (133 : Nat) "MarkupStoreModel" "size" "I") ∈ ms_tb := ms_in 1323 (by decide +kernel) (by decide +kernel)
theorem ms_k1324 : (Jvm.Cond.fieldLink "MarkupStoreModel" (197 : Nat) "MarkupStoreModel" "p" "I") ∈ ms_tb := ms_in 1324 (by decide +kernel) (by decide +kernel)
theorem ms_k1325 : (Jvm.Cond.fieldLink "MarkupStoreModel" (137 : Nat) "MarkupStoreModel" "wrong" "I") ∈ ms_tb := ms_in 1325 (by decide +kernel) (by decide +kernel)
theorem ms_k1326 : (Jvm.Cond.fieldLink "MarkupStoreModel" (152 : Nat) "MarkupStoreModel" "many" "I") ∈ ms_tb := ms_in 1326 (by decide +kernel) (by decide +kernel)
theorem ms_k1327 : (Jvm.Cond.fieldLink "MarkupStoreModel" (161 : Nat) "MarkupStoreModel" "over" "Z") ∈ ms_tb := ms_in 1327 (by decide +kernel) (by decide +kernel)
theorem ms_k1328 : (Jvm.Cond.fieldLink "MarkupStoreModel" (155 : Nat) "MarkupStoreModel" "text" "I") ∈ ms_tb := ms_in 1328 (by decide +kernel) (by decide +kernel)
theorem ms_k1329 : (Jvm.Cond.fieldLink "MarkupStoreModel" (204 : Nat) "MarkupStoreModel" "base" "I") ∈ ms_tb := ms_in 1329 (by decide +kernel) (by decide +kernel)
theorem ms_k1330 : (Jvm.Cond.fieldLink "MarkupStoreModel" (158 : Nat) "MarkupStoreModel" "opens" "I") ∈ ms_tb := ms_in 1330 (by decide +kernel) (by decide +kernel)
theorem ms_k1331 : (Jvm.Cond.fieldLink "MarkupStoreModel" (26 : Nat) "MarkupStoreModel" "openAt" "[I") ∈ ms_tb := ms_in 1331 (by decide +kernel) (by decide +kernel)
theorem ms_k1332 : (Jvm.Cond.fieldLink "MarkupStoreModel" (29 : Nat) "MarkupStoreModel" "openFrom" "[I") ∈ ms_tb := ms_in 1332 (by decide +kernel) (by decide +kernel)
theorem ms_k1333 : (Jvm.Cond.fieldLink "MarkupStoreModel" (32 : Nat) "MarkupStoreModel" "openSize" "[I") ∈ ms_tb := ms_in 1333 (by decide +kernel) (by decide +kernel)
theorem ms_k1336 : (Jvm.Cond.fieldLink "MarkupStoreModel" (35 : Nat) "MarkupStoreModel" "nameFrom" "[I") ∈ ms_tb := ms_in 1336 (by decide +kernel) (by decide +kernel)
theorem ms_k1337 : (Jvm.Cond.fieldLink "MarkupStoreModel" (38 : Nat) "MarkupStoreModel" "nameSize" "[I") ∈ ms_tb := ms_in 1337 (by decide +kernel) (by decide +kernel)
theorem ms_k1338 : (Jvm.Cond.fieldLink "MarkupStoreModel" (41 : Nat) "MarkupStoreModel" "tail" "[I") ∈ ms_tb := ms_in 1338 (by decide +kernel) (by decide +kernel)
theorem ms_k1341 : (Jvm.Cond.fieldLink "MarkupStoreModel" (44 : Nat) "MarkupStoreModel" "axis" "[I") ∈ ms_tb := ms_in 1341 (by decide +kernel) (by decide +kernel)
theorem ms_k1342 : (Jvm.Cond.fieldLink "MarkupStoreModel" (47 : Nat) "MarkupStoreModel" "stepKind" "[I") ∈ ms_tb := ms_in 1342 (by decide +kernel) (by decide +kernel)
theorem ms_k1343 : (Jvm.Cond.fieldLink "MarkupStoreModel" (50 : Nat) "MarkupStoreModel" "stepFrom" "[I") ∈ ms_tb := ms_in 1343 (by decide +kernel) (by decide +kernel)
theorem ms_k1344 : (Jvm.Cond.fieldLink "MarkupStoreModel" (53 : Nat) "MarkupStoreModel" "stepSize" "[I") ∈ ms_tb := ms_in 1344 (by decide +kernel) (by decide +kernel)
theorem ms_k1345 : (Jvm.Cond.fieldLink "MarkupStoreModel" (56 : Nat) "MarkupStoreModel" "stepPredicate" "[I") ∈ ms_tb := ms_in 1345 (by decide +kernel) (by decide +kernel)
theorem ms_k1346 : (Jvm.Cond.fieldLink "MarkupStoreModel" (59 : Nat) "MarkupStoreModel" "stepNext" "[I") ∈ ms_tb := ms_in 1346 (by decide +kernel) (by decide +kernel)
theorem ms_k1348 : (Jvm.Cond.fieldLink "MarkupStoreModel" (62 : Nat) "MarkupStoreModel" "what" "[I") ∈ ms_tb := ms_in 1348 (by decide +kernel) (by decide +kernel)
theorem ms_k1349 : (Jvm.Cond.fieldLink "MarkupStoreModel" (65 : Nat) "MarkupStoreModel" "position" "[I") ∈ ms_tb := ms_in 1349 (by decide +kernel) (by decide +kernel)
theorem ms_k1350 : (Jvm.Cond.fieldLink "MarkupStoreModel" (68 : Nat) "MarkupStoreModel" "attrFrom" "[I") ∈ ms_tb := ms_in 1350 (by decide +kernel) (by decide +kernel)
theorem ms_k1351 : (Jvm.Cond.fieldLink "MarkupStoreModel" (71 : Nat) "MarkupStoreModel" "attrSize" "[I") ∈ ms_tb := ms_in 1351 (by decide +kernel) (by decide +kernel)
theorem ms_k1352 : (Jvm.Cond.fieldLink "MarkupStoreModel" (74 : Nat) "MarkupStoreModel" "textFrom" "[I") ∈ ms_tb := ms_in 1352 (by decide +kernel) (by decide +kernel)
theorem ms_k1353 : (Jvm.Cond.fieldLink "MarkupStoreModel" (77 : Nat) "MarkupStoreModel" "textSize" "[I") ∈ ms_tb := ms_in 1353 (by decide +kernel) (by decide +kernel)
theorem ms_k1354 : (Jvm.Cond.fieldLink "MarkupStoreModel" (80 : Nat) "MarkupStoreModel" "pathStep" "[I") ∈ ms_tb := ms_in 1354 (by decide +kernel) (by decide +kernel)
theorem ms_k1355 : (Jvm.Cond.fieldLink "MarkupStoreModel" (83 : Nat) "MarkupStoreModel" "predicateNext" "[I") ∈ ms_tb := ms_in 1355 (by decide +kernel) (by decide +kernel)
theorem ms_k1356 : (Jvm.Cond.fieldLink "MarkupStoreModel" (86 : Nat) "MarkupStoreModel" "not" "[Z") ∈ ms_tb := ms_in 1356 (by decide +kernel) (by decide +kernel)
theorem ms_k1357 : (Jvm.Cond.fieldLink "MarkupStoreModel" (90 : Nat) "MarkupStoreModel" "pathAbsolute" "[Z") ∈ ms_tb := ms_in 1357 (by decide +kernel) (by decide +kernel)
theorem ms_k1358 : (Jvm.Cond.fieldLink "MarkupStoreModel" (93 : Nat) "MarkupStoreModel" "mask" "[J") ∈ ms_tb := ms_in 1358 (by decide +kernel) (by decide +kernel)
theorem ms_k1360 : (Jvm.Cond.fieldLink "MarkupStoreModel" (97 : Nat) "MarkupStoreModel" "endedPath" "[I") ∈ ms_tb := ms_in 1360 (by decide +kernel) (by decide +kernel)
theorem ms_k1366 : (Jvm.Cond.fieldLink "MarkupStoreModel" (100 : Nat) "MarkupStoreModel" "owner" "[I") ∈ ms_tb := ms_in 1366 (by decide +kernel) (by decide +kernel)
theorem ms_k1367 : (Jvm.Cond.fieldLink "MarkupStoreModel" (103 : Nat) "MarkupStoreModel" "lastStep" "[I") ∈ ms_tb := ms_in 1367 (by decide +kernel) (by decide +kernel)
theorem ms_k1368 : (Jvm.Cond.fieldLink "MarkupStoreModel" (106 : Nat) "MarkupStoreModel" "lastPredicate" "[I") ∈ ms_tb := ms_in 1368 (by decide +kernel) (by decide +kernel)
theorem ms_k1370 : (Jvm.Cond.fieldLink "MarkupStoreModel" (109 : Nat) "MarkupStoreModel" "list" "[I") ∈ ms_tb := ms_in 1370 (by decide +kernel) (by decide +kernel)
theorem ms_k1371 : (Jvm.Cond.fieldLink "MarkupStoreModel" (379 : Nat) "MarkupStoreModel" "results" "I") ∈ ms_tb := ms_in 1371 (by decide +kernel) (by decide +kernel)
theorem ms_k1372 : (Jvm.Cond.fieldLink "MarkupStoreModel" (112 : Nat) "MarkupStoreModel" "result" "[I") ∈ ms_tb := ms_in 1372 (by decide +kernel) (by decide +kernel)
theorem ms_k1373 : (Jvm.Cond.fieldLink "MarkupStoreModel" (388 : Nat) "MarkupStoreModel" "total" "I") ∈ ms_tb := ms_in 1373 (by decide +kernel) (by decide +kernel)
theorem ms_k1374 : (Jvm.Cond.fieldLink "MarkupStoreModel" (391 : Nat) "MarkupStoreModel" "wanted" "I") ∈ ms_tb := ms_in 1374 (by decide +kernel) (by decide +kernel)
theorem ms_k1375 : (Jvm.Cond.fieldLink "MarkupStoreModel" (394 : Nat) "MarkupStoreModel" "found" "I") ∈ ms_tb := ms_in 1375 (by decide +kernel) (by decide +kernel)
theorem ms_k1376 : (Jvm.Cond.laysFinal "MarkupStoreModel" "MarkupStoreModel" "t" "[I") ∈ ms_tb := ms_in 1376 (by decide +kernel) (by decide +kernel)
theorem ms_k1378 : (Jvm.Cond.laysFinal "MarkupStoreModel" "MarkupStoreModel" "saved" "[I") ∈ ms_tb := ms_in 1378 (by decide +kernel) (by decide +kernel)
theorem ms_k1380 : (Jvm.Cond.laysFinal "MarkupStoreModel" "MarkupStoreModel" "w" "[I") ∈ ms_tb := ms_in 1380 (by decide +kernel) (by decide +kernel)
theorem ms_k1382 : (Jvm.Cond.laysFinal "MarkupStoreModel" "MarkupStoreModel" "slots" "[I") ∈ ms_tb := ms_in 1382 (by decide +kernel) (by decide +kernel)
theorem ms_k1384 : (Jvm.Cond.lays "MarkupStoreModel" "MarkupStoreModel" "made" "I") ∈ ms_tb := ms_in 1384 (by decide +kernel) (by decide +kernel)
theorem ms_k1386 : (Jvm.Cond.lays "MarkupStoreModel" "MarkupStoreModel" "changes" "I") ∈ ms_tb := ms_in 1386 (by decide +kernel) (by decide +kernel)
theorem ms_k1388 : (Jvm.Cond.laysFinal "MarkupStoreModel" "MarkupStoreModel" "buffer" "[C") ∈ ms_tb := ms_in 1388 (by decide +kernel) (by decide +kernel)
theorem ms_k1390 : (Jvm.Cond.lays "MarkupStoreModel" "MarkupStoreModel" "size" "I") ∈ ms_tb := ms_in 1390 (by decide +kernel) (by decide +kernel)
theorem ms_k1392 : (Jvm.Cond.lays "MarkupStoreModel" "MarkupStoreModel" "p" "I") ∈ ms_tb := ms_in 1392 (by decide +kernel) (by decide +kernel)
theorem ms_k1394 : (Jvm.Cond.lays "MarkupStoreModel" "MarkupStoreModel" "wrong" "I") ∈ ms_tb := ms_in 1394 (by decide +kernel) (by decide +kernel)
theorem ms_k1396 : (Jvm.Cond.lays "MarkupStoreModel" "MarkupStoreModel" "many" "I") ∈ ms_tb := ms_in 1396 (by decide +kernel) (by decide +kernel)
theorem ms_k1398 : (Jvm.Cond.lays "MarkupStoreModel" "MarkupStoreModel" "over" "Z") ∈ ms_tb := ms_in 1398 (by decide +kernel) (by decide +kernel)
theorem ms_k1400 : (Jvm.Cond.lays "MarkupStoreModel" "MarkupStoreModel" "text" "I") ∈ ms_tb := ms_in 1400 (by decide +kernel) (by decide +kernel)
theorem ms_k1402 : (Jvm.Cond.lays "MarkupStoreModel" "MarkupStoreModel" "base" "I") ∈ ms_tb := ms_in 1402 (by decide +kernel) (by decide +kernel)
theorem ms_k1404 : (Jvm.Cond.lays "MarkupStoreModel" "MarkupStoreModel" "opens" "I") ∈ ms_tb := ms_in 1404 (by decide +kernel) (by decide +kernel)
theorem ms_k1406 : (Jvm.Cond.laysFinal "MarkupStoreModel" "MarkupStoreModel" "openAt" "[I") ∈ ms_tb := ms_in 1406 (by decide +kernel) (by decide +kernel)
theorem ms_k1408 : (Jvm.Cond.laysFinal "MarkupStoreModel" "MarkupStoreModel" "openFrom" "[I") ∈ ms_tb := ms_in 1408 (by decide +kernel) (by decide +kernel)
theorem ms_k1410 : (Jvm.Cond.laysFinal "MarkupStoreModel" "MarkupStoreModel" "openSize" "[I") ∈ ms_tb := ms_in 1410 (by decide +kernel) (by decide +kernel)
theorem ms_k1412 : (Jvm.Cond.lays "MarkupStoreModel" "MarkupStoreModel" "entity" "I") ∈ ms_tb := ms_in 1412 (by decide +kernel) (by decide +kernel)
theorem ms_k1414 : (Jvm.Cond.lays "MarkupStoreModel" "MarkupStoreModel" "entityLength" "I") ∈ ms_tb := ms_in 1414 (by decide +kernel) (by decide +kernel)
theorem ms_k1416 : (Jvm.Cond.laysFinal "MarkupStoreModel" "MarkupStoreModel" "nameFrom" "[I") ∈ ms_tb := ms_in 1416 (by decide +kernel) (by decide +kernel)
theorem ms_k1418 : (Jvm.Cond.laysFinal "MarkupStoreModel" "MarkupStoreModel" "nameSize" "[I") ∈ ms_tb := ms_in 1418 (by decide +kernel) (by decide +kernel)
theorem ms_k1420 : (Jvm.Cond.laysFinal "MarkupStoreModel" "MarkupStoreModel" "tail" "[I") ∈ ms_tb := ms_in 1420 (by decide +kernel) (by decide +kernel)
theorem ms_k1422 : (Jvm.Cond.lays "MarkupStoreModel" "MarkupStoreModel" "tails" "I") ∈ ms_tb := ms_in 1422 (by decide +kernel) (by decide +kernel)
theorem ms_k1424 : (Jvm.Cond.lays "MarkupStoreModel" "MarkupStoreModel" "steps" "I") ∈ ms_tb := ms_in 1424 (by decide +kernel) (by decide +kernel)
theorem ms_k1426 : (Jvm.Cond.laysFinal "MarkupStoreModel" "MarkupStoreModel" "axis" "[I") ∈ ms_tb := ms_in 1426 (by decide +kernel) (by decide +kernel)
theorem ms_k1428 : (Jvm.Cond.laysFinal "MarkupStoreModel" "MarkupStoreModel" "stepKind" "[I") ∈ ms_tb := ms_in 1428 (by decide +kernel) (by decide +kernel)
theorem ms_k1430 : (Jvm.Cond.laysFinal "MarkupStoreModel" "MarkupStoreModel" "stepFrom" "[I") ∈ ms_tb := ms_in 1430 (by decide +kernel) (by decide +kernel)
theorem ms_k1432 : (Jvm.Cond.laysFinal "MarkupStoreModel" "MarkupStoreModel" "stepSize" "[I") ∈ ms_tb := ms_in 1432 (by decide +kernel) (by decide +kernel)
theorem ms_k1434 : (Jvm.Cond.laysFinal "MarkupStoreModel" "MarkupStoreModel" "stepPredicate" "[I") ∈ ms_tb := ms_in 1434 (by decide +kernel) (by decide +kernel)
theorem ms_k1436 : (Jvm.Cond.laysFinal "MarkupStoreModel" "MarkupStoreModel" "stepNext" "[I") ∈ ms_tb := ms_in 1436 (by decide +kernel) (by decide +kernel)
theorem ms_k1438 : (Jvm.Cond.lays "MarkupStoreModel" "MarkupStoreModel" "predicates" "I") ∈ ms_tb := ms_in 1438 (by decide +kernel) (by decide +kernel)
theorem ms_k1440 : (Jvm.Cond.laysFinal "MarkupStoreModel" "MarkupStoreModel" "what" "[I") ∈ ms_tb := ms_in 1440 (by decide +kernel) (by decide +kernel)
theorem ms_k1442 : (Jvm.Cond.laysFinal "MarkupStoreModel" "MarkupStoreModel" "position" "[I") ∈ ms_tb := ms_in 1442 (by decide +kernel) (by decide +kernel)
theorem ms_k1444 : (Jvm.Cond.laysFinal "MarkupStoreModel" "MarkupStoreModel" "attrFrom" "[I") ∈ ms_tb := ms_in 1444 (by decide +kernel) (by decide +kernel)
theorem ms_k1446 : (Jvm.Cond.laysFinal "MarkupStoreModel" "MarkupStoreModel" "attrSize" "[I") ∈ ms_tb := ms_in 1446 (by decide +kernel) (by decide +kernel)
theorem ms_k1448 : (Jvm.Cond.laysFinal "MarkupStoreModel" "MarkupStoreModel" "textFrom" "[I") ∈ ms_tb := ms_in 1448 (by decide +kernel) (by decide +kernel)
theorem ms_k1450 : (Jvm.Cond.laysFinal "MarkupStoreModel" "MarkupStoreModel" "textSize" "[I") ∈ ms_tb := ms_in 1450 (by decide +kernel) (by decide +kernel)
theorem ms_k1452 : (Jvm.Cond.laysFinal "MarkupStoreModel" "MarkupStoreModel" "pathStep" "[I") ∈ ms_tb := ms_in 1452 (by decide +kernel) (by decide +kernel)
theorem ms_k1454 : (Jvm.Cond.laysFinal "MarkupStoreModel" "MarkupStoreModel" "predicateNext" "[I") ∈ ms_tb := ms_in 1454 (by decide +kernel) (by decide +kernel)
theorem ms_k1456 : (Jvm.Cond.laysFinal "MarkupStoreModel" "MarkupStoreModel" "not" "[Z") ∈ ms_tb := ms_in 1456 (by decide +kernel) (by decide +kernel)
theorem ms_k1458 : (Jvm.Cond.laysFinal "MarkupStoreModel" "MarkupStoreModel" "pathAbsolute" "[Z") ∈ ms_tb := ms_in 1458 (by decide +kernel) (by decide +kernel)
theorem ms_k1460 : (Jvm.Cond.laysFinal "MarkupStoreModel" "MarkupStoreModel" "mask" "[J") ∈ ms_tb := ms_in 1460 (by decide +kernel) (by decide +kernel)
theorem ms_k1462 : (Jvm.Cond.lays "MarkupStoreModel" "MarkupStoreModel" "ended" "I") ∈ ms_tb := ms_in 1462 (by decide +kernel) (by decide +kernel)
theorem ms_k1464 : (Jvm.Cond.laysFinal "MarkupStoreModel" "MarkupStoreModel" "endedPath" "[I") ∈ ms_tb := ms_in 1464 (by decide +kernel) (by decide +kernel)
theorem ms_k1466 : (Jvm.Cond.lays "MarkupStoreModel" "MarkupStoreModel" "level" "I") ∈ ms_tb := ms_in 1466 (by decide +kernel) (by decide +kernel)
theorem ms_k1468 : (Jvm.Cond.lays "MarkupStoreModel" "MarkupStoreModel" "nesting" "I") ∈ ms_tb := ms_in 1468 (by decide +kernel) (by decide +kernel)
theorem ms_k1470 : (Jvm.Cond.lays "MarkupStoreModel" "MarkupStoreModel" "state" "I") ∈ ms_tb := ms_in 1470 (by decide +kernel) (by decide +kernel)
theorem ms_k1472 : (Jvm.Cond.lays "MarkupStoreModel" "MarkupStoreModel" "topStep" "I") ∈ ms_tb := ms_in 1472 (by decide +kernel) (by decide +kernel)
theorem ms_k1474 : (Jvm.Cond.lays "MarkupStoreModel" "MarkupStoreModel" "topAbsolute" "Z") ∈ ms_tb := ms_in 1474 (by decide +kernel) (by decide +kernel)
theorem ms_k1476 : (Jvm.Cond.laysFinal "MarkupStoreModel" "MarkupStoreModel" "owner" "[I") ∈ ms_tb := ms_in 1476 (by decide +kernel) (by decide +kernel)
theorem ms_k1478 : (Jvm.Cond.laysFinal "MarkupStoreModel" "MarkupStoreModel" "lastStep" "[I") ∈ ms_tb := ms_in 1478 (by decide +kernel) (by decide +kernel)
theorem ms_k1480 : (Jvm.Cond.laysFinal "MarkupStoreModel" "MarkupStoreModel" "lastPredicate" "[I") ∈ ms_tb := ms_in 1480 (by decide +kernel) (by decide +kernel)
theorem ms_k1482 : (Jvm.Cond.lays "MarkupStoreModel" "MarkupStoreModel" "listed" "I") ∈ ms_tb := ms_in 1482 (by decide +kernel) (by decide +kernel)
theorem ms_k1484 : (Jvm.Cond.laysFinal "MarkupStoreModel" "MarkupStoreModel" "list" "[I") ∈ ms_tb := ms_in 1484 (by decide +kernel) (by decide +kernel)
theorem ms_k1486 : (Jvm.Cond.lays "MarkupStoreModel" "MarkupStoreModel" "results" "I") ∈ ms_tb := ms_in 1486 (by decide +kernel) (by decide +kernel)
theorem ms_k1488 : (Jvm.Cond.laysFinal "MarkupStoreModel" "MarkupStoreModel" "result" "[I") ∈ ms_tb := ms_in 1488 (by decide +kernel) (by decide +kernel)
theorem ms_k1490 : (Jvm.Cond.lays "MarkupStoreModel" "MarkupStoreModel" "total" "I") ∈ ms_tb := ms_in 1490 (by decide +kernel) (by decide +kernel)
theorem ms_k1492 : (Jvm.Cond.lays "MarkupStoreModel" "MarkupStoreModel" "wanted" "I") ∈ ms_tb := ms_in 1492 (by decide +kernel) (by decide +kernel)
theorem ms_k1494 : (Jvm.Cond.lays "MarkupStoreModel" "MarkupStoreModel" "found" "I") ∈ ms_tb := ms_in 1494 (by decide +kernel) (by decide +kernel)
theorem ms_k1497 : (Jvm.Cond.arrayClass Jvm.ClassFile.FieldType.char) ∈ ms_tb := ms_in 1497 (by decide +kernel) (by decide +kernel)
theorem ms_k1498 : (Jvm.Cond.arrayClass Jvm.ClassFile.FieldType.boolean) ∈ ms_tb := ms_in 1498 (by decide +kernel) (by decide +kernel)
theorem ms_k1499 : (Jvm.Cond.arrayClass Jvm.ClassFile.FieldType.long) ∈ ms_tb := ms_in 1499 (by decide +kernel) (by decide +kernel)
theorem ms_k1500 : (Jvm.Cond.methodLink "MarkupStoreLaw" (17 : Nat) ({ cls := "MarkupStoreModel", name := "type", desc := "(C)Z" } : Jvm.MethodName)) ∈ ms_tb := ms_in 1500 (by decide +kernel) (by decide +kernel)
theorem ms_k1501 : (Jvm.Cond.instanceMethod ({ cls := "MarkupStoreModel", name := "type", desc := "(C)Z" } : Jvm.MethodName)) ∈ ms_tb := ms_in 1501 (by decide +kernel) (by decide +kernel)
theorem ms_k1502 : (Jvm.Cond.selects "MarkupStoreModel" ({ cls := "MarkupStoreModel", name := "type", desc := "(C)Z" } : Jvm.MethodName) ({ cls := "MarkupStoreModel", name := "type", desc := "(C)Z" } : Jvm.MethodName)) ∈ ms_tb := ms_in 1502 (by decide +kernel) (by decide +kernel)
theorem ms_k1503 : (Jvm.Cond.code ({ cls := "MarkupStoreModel", name := "type", desc := "(C)Z" } : Jvm.MethodName) prog_14_method_36_code (2 : Nat) (Option.some Jvm.ClassFile.FieldType.boolean)) ∈ ms_tb := ms_in 1503 (by decide +kernel) (by decide +kernel)
theorem ms_k1504 : (Jvm.Cond.methodLink "MarkupStoreLaw" (22 : Nat) ({ cls := "MarkupStoreModel", name := "load", desc := "()I" } : Jvm.MethodName)) ∈ ms_tb := ms_in 1504 (by decide +kernel) (by decide +kernel)
theorem ms_k1505 : (Jvm.Cond.instanceMethod ({ cls := "MarkupStoreModel", name := "load", desc := "()I" } : Jvm.MethodName)) ∈ ms_tb := ms_in 1505 (by decide +kernel) (by decide +kernel)
theorem ms_k1506 : (Jvm.Cond.selects "MarkupStoreModel" ({ cls := "MarkupStoreModel", name := "load", desc := "()I" } : Jvm.MethodName) ({ cls := "MarkupStoreModel", name := "load", desc := "()I" } : Jvm.MethodName)) ∈ ms_tb := ms_in 1506 (by decide +kernel) (by decide +kernel)
theorem ms_k1507 : (Jvm.Cond.code ({ cls := "MarkupStoreModel", name := "load", desc := "()I" } : Jvm.MethodName) prog_14_method_38_code (2 : Nat) (Option.some Jvm.ClassFile.FieldType.int)) ∈ ms_tb := ms_in 1507 (by decide +kernel) (by decide +kernel)
theorem ms_k1508 : (Jvm.Cond.methodLink "MarkupStoreModel" (253 : Nat) ({ cls := "MarkupStoreModel", name := "loaded", desc := "()I" } : Jvm.MethodName)) ∈ ms_tb := ms_in 1508 (by decide +kernel) (by decide +kernel)
theorem ms_k1510 : (Jvm.Cond.instanceMethod ({ cls := "MarkupStoreModel", name := "loaded", desc := "()I" } : Jvm.MethodName)) ∈ ms_tb := ms_in 1510 (by decide +kernel) (by decide +kernel)
theorem ms_k1511 : (Jvm.Cond.code ({ cls := "MarkupStoreModel", name := "loaded", desc := "()I" } : Jvm.MethodName) prog_14_method_37_code (2 : Nat) (Option.some Jvm.ClassFile.FieldType.int)) ∈ ms_tb := ms_in 1511 (by decide +kernel) (by decide +kernel)
theorem ms_k1512 : (Jvm.Cond.methodLink "MarkupStoreModel" (242 : Nat) ({ cls := "MarkupStoreModel", name := "parse", desc := "(ZI)V" } : Jvm.MethodName)) ∈ ms_tb := ms_in 1512 (by decide +kernel) (by decide +kernel)
theorem ms_k1514 : (Jvm.Cond.instanceMethod ({ cls := "MarkupStoreModel", name := "parse", desc := "(ZI)V" } : Jvm.MethodName)) ∈ ms_tb := ms_in 1514 (by decide +kernel) (by decide +kernel)
theorem ms_k1515 : (Jvm.Cond.code ({ cls := "MarkupStoreModel", name := "parse", desc := "(ZI)V" } : Jvm.MethodName) prog_14_method_28_code (5 : Nat) (Option.none : Option Jvm.ClassFile.FieldType)) ∈ ms_tb := ms_in 1515 (by decide +kernel) (by decide +kernel)
theorem ms_k1520 : (Jvm.Cond.methodLink "MarkupStoreModel" (144 : Nat) ({ cls := "MarkupStoreModel", name := "error", desc := "(I)V" } : Jvm.MethodName)) ∈ ms_tb := ms_in 1520 (by decide +kernel) (by decide +kernel)
theorem ms_k1522 : (Jvm.Cond.instanceMethod ({ cls := "MarkupStoreModel", name := "error", desc := "(I)V" } : Jvm.MethodName)) ∈ ms_tb := ms_in 1522 (by decide +kernel) (by decide +kernel)
theorem ms_k1523 : (Jvm.Cond.code ({ cls := "MarkupStoreModel", name := "error", desc := "(I)V" } : Jvm.MethodName) prog_14_method_15_code (2 : Nat) (Option.none : Option Jvm.ClassFile.FieldType)) ∈ ms_tb := ms_in 1523 (by decide +kernel) (by decide +kernel)
theorem ms_k1583 : (Jvm.Cond.methodLink "MarkupStoreModel" (115 : Nat) ({ cls := "MarkupStoreModel", name := "count", desc := "()I" } : Jvm.MethodName)) ∈ ms_tb := ms_in 1583 (by decide +kernel) (by decide +kernel)
theorem ms_k1585 : (Jvm.Cond.instanceMethod ({ cls := "MarkupStoreModel", name := "count", desc := "()I" } : Jvm.MethodName)) ∈ ms_tb := ms_in 1585 (by decide +kernel) (by decide +kernel)
theorem ms_k1586 : (Jvm.Cond.code ({ cls := "MarkupStoreModel", name := "count", desc := "()I" } : Jvm.MethodName) prog_14_method_4_code (1 : Nat) (Option.some Jvm.ClassFile.FieldType.int)) ∈ ms_tb := ms_in 1586 (by decide +kernel) (by decide +kernel)
theorem ms_k1595 : (Jvm.Cond.methodLink "MarkupStoreModel" (250 : Nat) ({ cls := "MarkupStoreModel", name := "save", desc := "()V" } : Jvm.MethodName)) ∈ ms_tb := ms_in 1595 (by decide +kernel) (by decide +kernel)
theorem ms_k1597 : (Jvm.Cond.instanceMethod ({ cls := "MarkupStoreModel", name := "save", desc := "()V" } : Jvm.MethodName)) ∈ ms_tb := ms_in 1597 (by decide +kernel) (by decide +kernel)
theorem ms_k1598 : (Jvm.Cond.code ({ cls := "MarkupStoreModel", name := "save", desc := "()V" } : Jvm.MethodName) prog_14_method_35_code (2 : Nat) (Option.none : Option Jvm.ClassFile.FieldType)) ∈ ms_tb := ms_in 1598 (by decide +kernel) (by decide +kernel)
theorem ms_k1599 : (Jvm.Cond.methodLink "MarkupStoreLaw" (27 : Nat) ({ cls := "MarkupStoreModel", name := "insert", desc := "(II)I" } : Jvm.MethodName)) ∈ ms_tb := ms_in 1599 (by decide +kernel) (by decide +kernel)
theorem ms_k1600 : (Jvm.Cond.instanceMethod ({ cls := "MarkupStoreModel", name := "insert", desc := "(II)I" } : Jvm.MethodName)) ∈ ms_tb := ms_in 1600 (by decide +kernel) (by decide +kernel)
theorem ms_k1601 : (Jvm.Cond.selects "MarkupStoreModel" ({ cls := "MarkupStoreModel", name := "insert", desc := "(II)I" } : Jvm.MethodName) ({ cls := "MarkupStoreModel", name := "insert", desc := "(II)I" } : Jvm.MethodName)) ∈ ms_tb := ms_in 1601 (by decide +kernel) (by decide +kernel)
theorem ms_k1602 : (Jvm.Cond.code ({ cls := "MarkupStoreModel", name := "insert", desc := "(II)I" } : Jvm.MethodName) prog_14_method_41_code (5 : Nat) (Option.some Jvm.ClassFile.FieldType.int)) ∈ ms_tb := ms_in 1602 (by decide +kernel) (by decide +kernel)
theorem ms_k1603 : (Jvm.Cond.methodLink "MarkupStoreModel" (275 : Nat) ({ cls := "MarkupStoreModel", name := "place", desc := "(I)I" } : Jvm.MethodName)) ∈ ms_tb := ms_in 1603 (by decide +kernel) (by decide +kernel)
theorem ms_k1605 : (Jvm.Cond.instanceMethod ({ cls := "MarkupStoreModel", name := "place", desc := "(I)I" } : Jvm.MethodName)) ∈ ms_tb := ms_in 1605 (by decide +kernel) (by decide +kernel)
theorem ms_k1606 : (Jvm.Cond.code ({ cls := "MarkupStoreModel", name := "place", desc := "(I)I" } : Jvm.MethodName) prog_14_method_6_code (3 : Nat) (Option.some Jvm.ClassFile.FieldType.int)) ∈ ms_tb := ms_in 1606 (by decide +kernel) (by decide +kernel)
theorem ms_k1654 : (Jvm.Cond.methodLink "MarkupStoreLaw" (32 : Nat) ({ cls := "MarkupStoreModel", name := "remove", desc := "(I)I" } : Jvm.MethodName)) ∈ ms_tb := ms_in 1654 (by decide +kernel) (by decide +kernel)
theorem ms_k1655 : (Jvm.Cond.instanceMethod ({ cls := "MarkupStoreModel", name := "remove", desc := "(I)I" } : Jvm.MethodName)) ∈ ms_tb := ms_in 1655 (by decide +kernel) (by decide +kernel)
theorem ms_k1656 : (Jvm.Cond.selects "MarkupStoreModel" ({ cls := "MarkupStoreModel", name := "remove", desc := "(I)I" } : Jvm.MethodName) ({ cls := "MarkupStoreModel", name := "remove", desc := "(I)I" } : Jvm.MethodName)) ∈ ms_tb := ms_in 1656 (by decide +kernel) (by decide +kernel)
theorem ms_k1657 : (Jvm.Cond.code ({ cls := "MarkupStoreModel", name := "remove", desc := "(I)I" } : Jvm.MethodName) prog_14_method_43_code (11 : Nat) (Option.some Jvm.ClassFile.FieldType.int)) ∈ ms_tb := ms_in 1657 (by decide +kernel) (by decide +kernel)
theorem ms_k1662 : (Jvm.Cond.methodLink "MarkupStoreLaw" (37 : Nat) ({ cls := "MarkupStoreModel", name := "replace", desc := "(I)Z" } : Jvm.MethodName)) ∈ ms_tb := ms_in 1662 (by decide +kernel) (by decide +kernel)
theorem ms_k1663 : (Jvm.Cond.instanceMethod ({ cls := "MarkupStoreModel", name := "replace", desc := "(I)Z" } : Jvm.MethodName)) ∈ ms_tb := ms_in 1663 (by decide +kernel) (by decide +kernel)
theorem ms_k1664 : (Jvm.Cond.selects "MarkupStoreModel" ({ cls := "MarkupStoreModel", name := "replace", desc := "(I)Z" } : Jvm.MethodName) ({ cls := "MarkupStoreModel", name := "replace", desc := "(I)Z" } : Jvm.MethodName)) ∈ ms_tb := ms_in 1664 (by decide +kernel) (by decide +kernel)
theorem ms_k1665 : (Jvm.Cond.code ({ cls := "MarkupStoreModel", name := "replace", desc := "(I)Z" } : Jvm.MethodName) prog_14_method_44_code (5 : Nat) (Option.some Jvm.ClassFile.FieldType.boolean)) ∈ ms_tb := ms_in 1665 (by decide +kernel) (by decide +kernel)
theorem ms_k1666 : (Jvm.Cond.methodLink "MarkupStoreLaw" (41 : Nat) ({ cls := "MarkupStoreModel", name := "query", desc := "(I)I" } : Jvm.MethodName)) ∈ ms_tb := ms_in 1666 (by decide +kernel) (by decide +kernel)
theorem ms_k1667 : (Jvm.Cond.instanceMethod ({ cls := "MarkupStoreModel", name := "query", desc := "(I)I" } : Jvm.MethodName)) ∈ ms_tb := ms_in 1667 (by decide +kernel) (by decide +kernel)
theorem ms_k1668 : (Jvm.Cond.selects "MarkupStoreModel" ({ cls := "MarkupStoreModel", name := "query", desc := "(I)I" } : Jvm.MethodName) ({ cls := "MarkupStoreModel", name := "query", desc := "(I)I" } : Jvm.MethodName)) ∈ ms_tb := ms_in 1668 (by decide +kernel) (by decide +kernel)
theorem ms_k1669 : (Jvm.Cond.code ({ cls := "MarkupStoreModel", name := "query", desc := "(I)I" } : Jvm.MethodName) prog_14_method_66_code (4 : Nat) (Option.some Jvm.ClassFile.FieldType.int)) ∈ ms_tb := ms_in 1669 (by decide +kernel) (by decide +kernel)
theorem ms_k1756 : (Jvm.Cond.methodLink "MarkupStoreLaw" (45 : Nat) ({ cls := "MarkupStoreModel", name := "result", desc := "(I)I" } : Jvm.MethodName)) ∈ ms_tb := ms_in 1756 (by decide +kernel) (by decide +kernel)
theorem ms_k1757 : (Jvm.Cond.instanceMethod ({ cls := "MarkupStoreModel", name := "result", desc := "(I)I" } : Jvm.MethodName)) ∈ ms_tb := ms_in 1757 (by decide +kernel) (by decide +kernel)
theorem ms_k1758 : (Jvm.Cond.selects "MarkupStoreModel" ({ cls := "MarkupStoreModel", name := "result", desc := "(I)I" } : Jvm.MethodName) ({ cls := "MarkupStoreModel", name := "result", desc := "(I)I" } : Jvm.MethodName)) ∈ ms_tb := ms_in 1758 (by decide +kernel) (by decide +kernel)
theorem ms_k1759 : (Jvm.Cond.code ({ cls := "MarkupStoreModel", name := "result", desc := "(I)I" } : Jvm.MethodName) prog_14_method_67_code (2 : Nat) (Option.some Jvm.ClassFile.FieldType.int)) ∈ ms_tb := ms_in 1759 (by decide +kernel) (by decide +kernel)
theorem ms_k1760 : (Jvm.Cond.methodLink "MarkupStoreLaw" (49 : Nat) ({ cls := "MarkupStoreModel", name := "commit", desc := "()I" } : Jvm.MethodName)) ∈ ms_tb := ms_in 1760 (by decide +kernel) (by decide +kernel)
theorem ms_k1761 : (Jvm.Cond.instanceMethod ({ cls := "MarkupStoreModel", name := "commit", desc := "()I" } : Jvm.MethodName)) ∈ ms_tb := ms_in 1761 (by decide +kernel) (by decide +kernel)
theorem ms_k1762 : (Jvm.Cond.selects "MarkupStoreModel" ({ cls := "MarkupStoreModel", name := "commit", desc := "()I" } : Jvm.MethodName) ({ cls := "MarkupStoreModel", name := "commit", desc := "()I" } : Jvm.MethodName)) ∈ ms_tb := ms_in 1762 (by decide +kernel) (by decide +kernel)
theorem ms_k1763 : (Jvm.Cond.code ({ cls := "MarkupStoreModel", name := "commit", desc := "()I" } : Jvm.MethodName) prog_14_method_68_code (2 : Nat) (Option.some Jvm.ClassFile.FieldType.int)) ∈ ms_tb := ms_in 1763 (by decide +kernel) (by decide +kernel)
theorem ms_k1764 : (Jvm.Cond.methodLink "MarkupStoreLaw" (53 : Nat) ({ cls := "MarkupStoreModel", name := "crash", desc := "()I" } : Jvm.MethodName)) ∈ ms_tb := ms_in 1764 (by decide +kernel) (by decide +kernel)
theorem ms_k1765 : (Jvm.Cond.instanceMethod ({ cls := "MarkupStoreModel", name := "crash", desc := "()I" } : Jvm.MethodName)) ∈ ms_tb := ms_in 1765 (by decide +kernel) (by decide +kernel)
theorem ms_k1766 : (Jvm.Cond.selects "MarkupStoreModel" ({ cls := "MarkupStoreModel", name := "crash", desc := "()I" } : Jvm.MethodName) ({ cls := "MarkupStoreModel", name := "crash", desc := "()I" } : Jvm.MethodName)) ∈ ms_tb := ms_in 1766 (by decide +kernel) (by decide +kernel)
theorem ms_k1767 : (Jvm.Cond.code ({ cls := "MarkupStoreModel", name := "crash", desc := "()I" } : Jvm.MethodName) prog_14_method_69_code (3 : Nat) (Option.some Jvm.ClassFile.FieldType.int)) ∈ ms_tb := ms_in 1767 (by decide +kernel) (by decide +kernel)
theorem ms_k1768 : (Jvm.Cond.methodLink "MarkupStoreLaw" (57 : Nat) ({ cls := "MarkupStoreModel", name := "kind", desc := "(I)I" } : Jvm.MethodName)) ∈ ms_tb := ms_in 1768 (by decide +kernel) (by decide +kernel)
theorem ms_k1769 : (Jvm.Cond.instanceMethod ({ cls := "MarkupStoreModel", name := "kind", desc := "(I)I" } : Jvm.MethodName)) ∈ ms_tb := ms_in 1769 (by decide +kernel) (by decide +kernel)
theorem ms_k1770 : (Jvm.Cond.selects "MarkupStoreModel" ({ cls := "MarkupStoreModel", name := "kind", desc := "(I)I" } : Jvm.MethodName) ({ cls := "MarkupStoreModel", name := "kind", desc := "(I)I" } : Jvm.MethodName)) ∈ ms_tb := ms_in 1770 (by decide +kernel) (by decide +kernel)
theorem ms_k1771 : (Jvm.Cond.code ({ cls := "MarkupStoreModel", name := "kind", desc := "(I)I" } : Jvm.MethodName) prog_14_method_70_code (3 : Nat) (Option.some Jvm.ClassFile.FieldType.int)) ∈ ms_tb := ms_in 1771 (by decide +kernel) (by decide +kernel)
theorem ms_k1772 : (Jvm.Cond.methodLink "MarkupStoreLaw" (61 : Nat) ({ cls := "MarkupStoreModel", name := "node", desc := "(II)I" } : Jvm.MethodName)) ∈ ms_tb := ms_in 1772 (by decide +kernel) (by decide +kernel)
theorem ms_k1773 : (Jvm.Cond.instanceMethod ({ cls := "MarkupStoreModel", name := "node", desc := "(II)I" } : Jvm.MethodName)) ∈ ms_tb := ms_in 1773 (by decide +kernel) (by decide +kernel)
theorem ms_k1774 : (Jvm.Cond.selects "MarkupStoreModel" ({ cls := "MarkupStoreModel", name := "node", desc := "(II)I" } : Jvm.MethodName) ({ cls := "MarkupStoreModel", name := "node", desc := "(II)I" } : Jvm.MethodName)) ∈ ms_tb := ms_in 1774 (by decide +kernel) (by decide +kernel)
theorem ms_k1775 : (Jvm.Cond.code ({ cls := "MarkupStoreModel", name := "node", desc := "(II)I" } : Jvm.MethodName) prog_14_method_72_code (4 : Nat) (Option.some Jvm.ClassFile.FieldType.int)) ∈ ms_tb := ms_in 1775 (by decide +kernel) (by decide +kernel)
theorem ms_k1780 : (Jvm.Cond.methodLink "MarkupStoreLaw" (65 : Nat) ({ cls := "MarkupStoreModel", name := "letter", desc := "(II)I" } : Jvm.MethodName)) ∈ ms_tb := ms_in 1780 (by decide +kernel) (by decide +kernel)
theorem ms_k1781 : (Jvm.Cond.instanceMethod ({ cls := "MarkupStoreModel", name := "letter", desc := "(II)I" } : Jvm.MethodName)) ∈ ms_tb := ms_in 1781 (by decide +kernel) (by decide +kernel)
theorem ms_k1782 : (Jvm.Cond.selects "MarkupStoreModel" ({ cls := "MarkupStoreModel", name := "letter", desc := "(II)I" } : Jvm.MethodName) ({ cls := "MarkupStoreModel", name := "letter", desc := "(II)I" } : Jvm.MethodName)) ∈ ms_tb := ms_in 1782 (by decide +kernel) (by decide +kernel)
theorem ms_k1783 : (Jvm.Cond.code ({ cls := "MarkupStoreModel", name := "letter", desc := "(II)I" } : Jvm.MethodName) prog_14_method_73_code (4 : Nat) (Option.some Jvm.ClassFile.FieldType.int)) ∈ ms_tb := ms_in 1783 (by decide +kernel) (by decide +kernel)
theorem ms_k1784 : (Jvm.Cond.methodLink "MarkupStoreLaw" (69 : Nat) ({ cls := "MarkupStoreModel", name := "label", desc := "(II)I" } : Jvm.MethodName)) ∈ ms_tb := ms_in 1784 (by decide +kernel) (by decide +kernel)
theorem ms_k1785 : (Jvm.Cond.instanceMethod ({ cls := "MarkupStoreModel", name := "label", desc := "(II)I" } : Jvm.MethodName)) ∈ ms_tb := ms_in 1785 (by decide +kernel) (by decide +kernel)
theorem ms_k1786 : (Jvm.Cond.selects "MarkupStoreModel" ({ cls := "MarkupStoreModel", name := "label", desc := "(II)I" } : Jvm.MethodName) ({ cls := "MarkupStoreModel", name := "label", desc := "(II)I" } : Jvm.MethodName)) ∈ ms_tb := ms_in 1786 (by decide +kernel) (by decide +kernel)
theorem ms_k1787 : (Jvm.Cond.code ({ cls := "MarkupStoreModel", name := "label", desc := "(II)I" } : Jvm.MethodName) prog_14_method_74_code (4 : Nat) (Option.some Jvm.ClassFile.FieldType.int)) ∈ ms_tb := ms_in 1787 (by decide +kernel) (by decide +kernel)
theorem ms_k1788 : (Jvm.Cond.methodLink "MarkupStoreLaw" (73 : Nat) ({ cls := "MarkupStoreModel", name := "root", desc := "()I" } : Jvm.MethodName)) ∈ ms_tb := ms_in 1788 (by decide +kernel) (by decide +kernel)
theorem ms_k1789 : (Jvm.Cond.instanceMethod ({ cls := "MarkupStoreModel", name := "root", desc := "()I" } : Jvm.MethodName)) ∈ ms_tb := ms_in 1789 (by decide +kernel) (by decide +kernel)
theorem ms_k1790 : (Jvm.Cond.selects "MarkupStoreModel" ({ cls := "MarkupStoreModel", name := "root", desc := "()I" } : Jvm.MethodName) ({ cls := "MarkupStoreModel", name := "root", desc := "()I" } : Jvm.MethodName)) ∈ ms_tb := ms_in 1790 (by decide +kernel) (by decide +kernel)
theorem ms_k1791 : (Jvm.Cond.code ({ cls := "MarkupStoreModel", name := "root", desc := "()I" } : Jvm.MethodName) prog_14_method_75_code (1 : Nat) (Option.some Jvm.ClassFile.FieldType.int)) ∈ ms_tb := ms_in 1791 (by decide +kernel) (by decide +kernel)
theorem ms_k1792 : (Jvm.Cond.methodLink "MarkupStoreLaw" (77 : Nat) ({ cls := "MarkupStoreModel", name := "nodes", desc := "()I" } : Jvm.MethodName)) ∈ ms_tb := ms_in 1792 (by decide +kernel) (by decide +kernel)
theorem ms_k1793 : (Jvm.Cond.instanceMethod ({ cls := "MarkupStoreModel", name := "nodes", desc := "()I" } : Jvm.MethodName)) ∈ ms_tb := ms_in 1793 (by decide +kernel) (by decide +kernel)
theorem ms_k1794 : (Jvm.Cond.selects "MarkupStoreModel" ({ cls := "MarkupStoreModel", name := "nodes", desc := "()I" } : Jvm.MethodName) ({ cls := "MarkupStoreModel", name := "nodes", desc := "()I" } : Jvm.MethodName)) ∈ ms_tb := ms_in 1794 (by decide +kernel) (by decide +kernel)
theorem ms_k1795 : (Jvm.Cond.code ({ cls := "MarkupStoreModel", name := "nodes", desc := "()I" } : Jvm.MethodName) prog_14_method_76_code (1 : Nat) (Option.some Jvm.ClassFile.FieldType.int)) ∈ ms_tb := ms_in 1795 (by decide +kernel) (by decide +kernel)
theorem ms_k1796 : (Jvm.Cond.methodLink "MarkupStoreLaw" (81 : Nat) ({ cls := "MarkupStoreModel", name := "length", desc := "()I" } : Jvm.MethodName)) ∈ ms_tb := ms_in 1796 (by decide +kernel) (by decide +kernel)
theorem ms_k1797 : (Jvm.Cond.instanceMethod ({ cls := "MarkupStoreModel", name := "length", desc := "()I" } : Jvm.MethodName)) ∈ ms_tb := ms_in 1797 (by decide +kernel) (by decide +kernel)
theorem ms_k1798 : (Jvm.Cond.selects "MarkupStoreModel" ({ cls := "MarkupStoreModel", name := "length", desc := "()I" } : Jvm.MethodName) ({ cls := "MarkupStoreModel", name := "length", desc := "()I" } : Jvm.MethodName)) ∈ ms_tb := ms_in 1798 (by decide +kernel) (by decide +kernel)
theorem ms_k1799 : (Jvm.Cond.code ({ cls := "MarkupStoreModel", name := "length", desc := "()I" } : Jvm.MethodName) prog_14_method_84_code (1 : Nat) (Option.some Jvm.ClassFile.FieldType.int)) ∈ ms_tb := ms_in 1799 (by decide +kernel) (by decide +kernel)
theorem ms_k1800 : (Jvm.Cond.methodLink "MarkupStoreModel" (417 : Nat) ({ cls := "MarkupStoreModel", name := "write", desc := "(I)V" } : Jvm.MethodName)) ∈ ms_tb := ms_in 1800 (by decide +kernel) (by decide +kernel)
theorem ms_k1802 : (Jvm.Cond.instanceMethod ({ cls := "MarkupStoreModel", name := "write", desc := "(I)V" } : Jvm.MethodName)) ∈ ms_tb := ms_in 1802 (by decide +kernel) (by decide +kernel)
theorem ms_k1803 : (Jvm.Cond.code ({ cls := "MarkupStoreModel", name := "write", desc := "(I)V" } : Jvm.MethodName) prog_14_method_83_code (6 : Nat) (Option.none : Option Jvm.ClassFile.FieldType)) ∈ ms_tb := ms_in 1803 (by decide +kernel) (by decide +kernel)
theorem ms_k1828 : (Jvm.Cond.methodLink "MarkupStoreLaw" (85 : Nat) ({ cls := "MarkupStoreModel", name := "written", desc := "(I)I" } : Jvm.MethodName)) ∈ ms_tb := ms_in 1828 (by decide +kernel) (by decide +kernel)
theorem ms_k1829 : (Jvm.Cond.instanceMethod ({ cls := "MarkupStoreModel", name := "written", desc := "(I)I" } : Jvm.MethodName)) ∈ ms_tb := ms_in 1829 (by decide +kernel) (by decide +kernel)
theorem ms_k1830 : (Jvm.Cond.selects "MarkupStoreModel" ({ cls := "MarkupStoreModel", name := "written", desc := "(I)I" } : Jvm.MethodName) ({ cls := "MarkupStoreModel", name := "written", desc := "(I)I" } : Jvm.MethodName)) ∈ ms_tb := ms_in 1830 (by decide +kernel) (by decide +kernel)
theorem ms_k1831 : (Jvm.Cond.code ({ cls := "MarkupStoreModel", name := "written", desc := "(I)I" } : Jvm.MethodName) prog_14_method_85_code (2 : Nat) (Option.some Jvm.ClassFile.FieldType.int)) ∈ ms_tb := ms_in 1831 (by decide +kernel) (by decide +kernel)
theorem ms_k1832 : (Jvm.Cond.sameMethod "java/lang/AbstractStringBuilder" "java/lang/AbstractStringBuilder" "length" "()I") ∈ ms_tb := ms_in 1832 (by decide +kernel) (by decide +kernel)
theorem ms_k1833 : (Jvm.Cond.sameMethod "java/lang/AbstractStringBuilder" "java/lang/AbstractStringBuilder" "append" "(C)Ljava/lang/AbstractStringBuilder;") ∈ ms_tb := ms_in 1833 (by decide +kernel) (by decide +kernel)
theorem ms_k1834 : (Jvm.Cond.sameMethod "java/lang/AbstractStringBuilder" "java/lang/AbstractStringBuilder" "ensureCapacityInternal" "(I)V") ∈ ms_tb := ms_in 1834 (by decide +kernel) (by decide +kernel)
theorem ms_k1837 : (Jvm.Cond.selects "java/lang/StringBuilder" ({ cls := "java/lang/AbstractStringBuilder", name := "length", desc := "()I" } : Jvm.MethodName) ({ cls := "java/lang/StringBuilder", name := "length", desc := "()I" } : Jvm.MethodName)) ∈ ms_tb := ms_in 1837 (by decide +kernel) (by decide +kernel)
theorem ms_k1838 : (Jvm.Cond.sameMethod "java/lang/AbstractStringBuilder" "java/lang/AbstractStringBuilder" "setLength" "(I)V") ∈ ms_tb := ms_in 1838 (by decide +kernel) (by decide +kernel)
theorem ms_p0 : Cond.selects "MarkupStore" (⟨"MarkupStore", "useBuffer", "()Ljava/lang/String;"⟩ : MethodName) (⟨"MarkupStore", "useBuffer", "()Ljava/lang/String;"⟩ : MethodName) ∈ ms_tb := ms_inP 0 (by decide +kernel) (by decide +kernel)
theorem ms_p14 : Cond.selects "MarkupStore$Tree" (⟨"MarkupStore$Tree", "setPlaces", "()V"⟩ : MethodName) (⟨"MarkupStore$Tree", "setPlaces", "()V"⟩ : MethodName) ∈ ms_tb := ms_inP 14 (by decide +kernel) (by decide +kernel)
theorem ms_p15 : Cond.selects "MarkupStore" (⟨"MarkupStore", "beginBatch", "()V"⟩ : MethodName) (⟨"MarkupStore", "beginBatch", "()V"⟩ : MethodName) ∈ ms_tb := ms_inP 15 (by decide +kernel) (by decide +kernel)
theorem ms_p39 : Cond.selects "MarkupStore$Scribe" (⟨"MarkupStore$Scribe", "closeUpTo", "(LMarkupStore$Node;LMarkupStore$Node;)V"⟩ : MethodName) (⟨"MarkupStore$Scribe", "closeUpTo", "(LMarkupStore$Node;LMarkupStore$Node;)V"⟩ : MethodName) ∈ ms_tb := ms_inP 39 (by decide +kernel) (by decide +kernel)
theorem ms_p44 : Cond.selects "MarkupStoreModel" (⟨"MarkupStoreModel", "loaded", "()I"⟩ : MethodName) (⟨"MarkupStoreModel", "loaded", "()I"⟩ : MethodName) ∈ ms_tb := ms_inP 44 (by decide +kernel) (by decide +kernel)
theorem ms_p45 : Cond.selects "MarkupStoreModel" (⟨"MarkupStoreModel", "parse", "(ZI)V"⟩ : MethodName) (⟨"MarkupStoreModel", "parse", "(ZI)V"⟩ : MethodName) ∈ ms_tb := ms_inP 45 (by decide +kernel) (by decide +kernel)
theorem ms_p47 : Cond.selects "MarkupStoreModel" (⟨"MarkupStoreModel", "error", "(I)V"⟩ : MethodName) (⟨"MarkupStoreModel", "error", "(I)V"⟩ : MethodName) ∈ ms_tb := ms_inP 47 (by decide +kernel) (by decide +kernel)
theorem ms_p62 : Cond.selects "MarkupStoreModel" (⟨"MarkupStoreModel", "count", "()I"⟩ : MethodName) (⟨"MarkupStoreModel", "count", "()I"⟩ : MethodName) ∈ ms_tb := ms_inP 62 (by decide +kernel) (by decide +kernel)
theorem ms_p65 : Cond.selects "MarkupStoreModel" (⟨"MarkupStoreModel", "save", "()V"⟩ : MethodName) (⟨"MarkupStoreModel", "save", "()V"⟩ : MethodName) ∈ ms_tb := ms_inP 65 (by decide +kernel) (by decide +kernel)
theorem ms_p66 : Cond.selects "MarkupStoreModel" (⟨"MarkupStoreModel", "place", "(I)I"⟩ : MethodName) (⟨"MarkupStoreModel", "place", "(I)I"⟩ : MethodName) ∈ ms_tb := ms_inP 66 (by decide +kernel) (by decide +kernel)
theorem ms_p100 : Cond.selects "MarkupStoreModel" (⟨"MarkupStoreModel", "write", "(I)V"⟩ : MethodName) (⟨"MarkupStoreModel", "write", "(I)V"⟩ : MethodName) ∈ ms_tb := ms_inP 100 (by decide +kernel) (by decide +kernel)
theorem ms_x0 : Cond.selects "java/lang/StringBuilder" ⟨"java/lang/AbstractStringBuilder", "ensureCapacityInternal", "(I)V"⟩ ⟨"java/lang/AbstractStringBuilder", "ensureCapacityInternal", "(I)V"⟩ ∈ ms_tb := ms_inX 0 rfl
end
section
theorem kn0 : ∀ a, a < 6 → ∀ b, b < 6 → a ≠ b → (kT0 a).2.1 ≠ (kT0 b).2.1 := by decide +kernel
theorem kp0 : ∀ k, k < 6 → parseFieldDescriptor (kT0 k).2.2.1 = some (kt0 k) := by decide +kernel
theorem ku0 : ∀ w ∈ u_ws kR0 kT0 6, w ∈ ms_tb := List.forall_mem_cons.mpr ⟨ms_k111, List.forall_mem_cons.mpr ⟨ms_k113, List.forall_mem_cons.mpr ⟨ms_k115, List.forall_mem_cons.mpr ⟨ms_k117, List.forall_mem_cons.mpr ⟨ms_k119, List.forall_mem_cons.mpr ⟨ms_k121, fun _ h => absurd h List.not_mem_nil⟩⟩⟩⟩⟩⟩
theorem kz0 : ∀ j, j < 6 → defaultValue (kt0 j) = vp_V [.null, .null, .null, .null, .int 0, .int 0] j := by
  intro j hj
  rcases (show j = 0 ∨ j = 1 ∨ j = 2 ∨ j = 3 ∨ j = 4 ∨ j = 5 by omega) with rfl | rfl | rfl | rfl | rfl | rfl <;> rfl
theorem kn1 : ∀ a, a < 6 → ∀ b, b < 6 → a ≠ b → (kT1 a).2.1 ≠ (kT1 b).2.1 := by decide +kernel
theorem kp1 : ∀ k, k < 6 → parseFieldDescriptor (kT1 k).2.2.1 = some (kt1 k) := by decide +kernel
theorem ku1 : ∀ w ∈ u_ws kR1 kT1 6, w ∈ ms_tb := List.forall_mem_cons.mpr ⟨ms_k92, List.forall_mem_cons.mpr ⟨ms_k94, List.forall_mem_cons.mpr ⟨ms_k96, List.forall_mem_cons.mpr ⟨ms_k98, List.forall_mem_cons.mpr ⟨ms_k100, List.forall_mem_cons.mpr ⟨ms_k102, fun _ h => absurd h List.not_mem_nil⟩⟩⟩⟩⟩⟩
theorem kz1 : ∀ j, j < 6 → defaultValue (kt1 j) = vp_V [.null, .int 0, .null, .int 0, .null, .int 0] j := by
  intro j hj
  rcases (show j = 0 ∨ j = 1 ∨ j = 2 ∨ j = 3 ∨ j = 4 ∨ j = 5 by omega) with rfl | rfl | rfl | rfl | rfl | rfl <;> rfl
theorem kn2 : ∀ a, a < 60 → ∀ b, b < 60 → a ≠ b → (kT2 a).2.1 ≠ (kT2 b).2.1 := by decide +kernel
theorem kp2 : ∀ k, k < 60 → parseFieldDescriptor (kT2 k).2.2.1 = some (kt2 k) := by decide +kernel
theorem ku2 : ∀ w ∈ u_ws kR2 kT2 60, w ∈ ms_tb := List.forall_mem_cons.mpr ⟨ms_k1376, List.forall_mem_cons.mpr ⟨ms_k1378, List.forall_mem_cons.mpr ⟨ms_k1380, List.forall_mem_cons.mpr ⟨ms_k1382, List.forall_mem_cons.mpr ⟨ms_k1384, List.forall_mem_cons.mpr ⟨ms_k1386, List.forall_mem_cons.mpr ⟨ms_k1388, List.forall_mem_cons.mpr ⟨ms_k1390, List.forall_mem_cons.mpr ⟨ms_k1392, List.forall_mem_cons.mpr ⟨ms_k1394, List.forall_mem_cons.mpr ⟨ms_k1396, List.forall_mem_cons.mpr ⟨ms_k1398, List.forall_mem_cons.mpr ⟨ms_k1400, List.forall_mem_cons.mpr ⟨ms_k1402, List.forall_mem_cons.mpr ⟨ms_k1404, List.forall_mem_cons.mpr ⟨ms_k1406, List.forall_mem_cons.mpr ⟨ms_k1408, List.forall_mem_cons.mpr ⟨ms_k1410, List.forall_mem_cons.mpr ⟨ms_k1412, List.forall_mem_cons.mpr ⟨ms_k1414, List.forall_mem_cons.mpr ⟨ms_k1416, List.forall_mem_cons.mpr ⟨ms_k1418, List.forall_mem_cons.mpr ⟨ms_k1420, List.forall_mem_cons.mpr ⟨ms_k1422, List.forall_mem_cons.mpr ⟨ms_k1424, List.forall_mem_cons.mpr ⟨ms_k1426, List.forall_mem_cons.mpr ⟨ms_k1428, List.forall_mem_cons.mpr ⟨ms_k1430, List.forall_mem_cons.mpr ⟨ms_k1432, List.forall_mem_cons.mpr ⟨ms_k1434, List.forall_mem_cons.mpr ⟨ms_k1436, List.forall_mem_cons.mpr ⟨ms_k1438, List.forall_mem_cons.mpr ⟨ms_k1440, List.forall_mem_cons.mpr ⟨ms_k1442, List.forall_mem_cons.mpr ⟨ms_k1444, List.forall_mem_cons.mpr ⟨ms_k1446, List.forall_mem_cons.mpr ⟨ms_k1448, List.forall_mem_cons.mpr ⟨ms_k1450, List.forall_mem_cons.mpr ⟨ms_k1452, List.forall_mem_cons.mpr ⟨ms_k1454, List.forall_mem_cons.mpr ⟨ms_k1456, List.forall_mem_cons.mpr ⟨ms_k1458, List.forall_mem_cons.mpr ⟨ms_k1460, List.forall_mem_cons.mpr ⟨ms_k1462, List.forall_mem_cons.mpr ⟨ms_k1464, List.forall_mem_cons.mpr ⟨ms_k1466, List.forall_mem_cons.mpr ⟨ms_k1468, List.forall_mem_cons.mpr ⟨ms_k1470, List.forall_mem_cons.mpr ⟨ms_k1472, List.forall_mem_cons.mpr ⟨ms_k1474, List.forall_mem_cons.mpr ⟨ms_k1476, List.forall_mem_cons.mpr ⟨ms_k1478, List.forall_mem_cons.mpr ⟨ms_k1480, List.forall_mem_cons.mpr ⟨ms_k1482, List.forall_mem_cons.mpr ⟨ms_k1484, List.forall_mem_cons.mpr ⟨ms_k1486, List.forall_mem_cons.mpr ⟨ms_k1488, List.forall_mem_cons.mpr ⟨ms_k1490, List.forall_mem_cons.mpr ⟨ms_k1492, List.forall_mem_cons.mpr ⟨ms_k1494, fun _ h => absurd h List.not_mem_nil⟩⟩⟩⟩⟩⟩⟩⟩⟩⟩⟩⟩⟩⟩⟩⟩⟩⟩⟩⟩⟩⟩⟩⟩⟩⟩⟩⟩⟩⟩⟩⟩⟩⟩⟩⟩⟩⟩⟩⟩⟩⟩⟩⟩⟩⟩⟩⟩⟩⟩⟩⟩⟩⟩⟩⟩⟩⟩⟩⟩
theorem kz2 : ∀ j, j < 60 → defaultValue (kt2 j) = vp_V [.null, .null, .null, .null, .int 0, .int 0, .null, .int 0, .int 0, .int 0, .int 0, .int 0, .int 0, .int 0, .int 0, .null, .null, .null, .int 0, .int 0, .null, .null, .null, .int 0, .int 0, .null, .null, .null, .null, .null, .null, .int 0, .null, .null, .null, .null, .null, .null, .null, .null, .null, .null, .null, .int 0, .null, .int 0, .int 0, .int 0, .int 0, .int 0, .null, .null, .null, .int 0, .null, .int 0, .null, .int 0, .int 0, .int 0] j := by
  intro j hj
  rcases (show j = 0 ∨ j = 1 ∨ j = 2 ∨ j = 3 ∨ j = 4 ∨ j = 5 ∨ j = 6 ∨ j = 7 ∨ j = 8 ∨ j = 9 ∨ j = 10 ∨ j = 11 ∨ j = 12 ∨ j = 13 ∨ j = 14 ∨ j = 15 ∨ j = 16 ∨ j = 17 ∨ j = 18 ∨ j = 19 ∨ j = 20 ∨ j = 21 ∨ j = 22 ∨ j = 23 ∨ j = 24 ∨ j = 25 ∨ j = 26 ∨ j = 27 ∨ j = 28 ∨ j = 29 ∨ j = 30 ∨ j = 31 ∨ j = 32 ∨ j = 33 ∨ j = 34 ∨ j = 35 ∨ j = 36 ∨ j = 37 ∨ j = 38 ∨ j = 39 ∨ j = 40 ∨ j = 41 ∨ j = 42 ∨ j = 43 ∨ j = 44 ∨ j = 45 ∨ j = 46 ∨ j = 47 ∨ j = 48 ∨ j = 49 ∨ j = 50 ∨ j = 51 ∨ j = 52 ∨ j = 53 ∨ j = 54 ∨ j = 55 ∨ j = 56 ∨ j = 57 ∨ j = 58 ∨ j = 59 by omega) with rfl | rfl | rfl | rfl | rfl | rfl | rfl | rfl | rfl | rfl | rfl | rfl | rfl | rfl | rfl | rfl | rfl | rfl | rfl | rfl | rfl | rfl | rfl | rfl | rfl | rfl | rfl | rfl | rfl | rfl | rfl | rfl | rfl | rfl | rfl | rfl | rfl | rfl | rfl | rfl | rfl | rfl | rfl | rfl | rfl | rfl | rfl | rfl | rfl | rfl | rfl | rfl | rfl | rfl | rfl | rfl | rfl | rfl | rfl | rfl <;> rfl
theorem kn3 : ∀ a, a < 4 → ∀ b, b < 4 → a ≠ b → (kT3 a).2.1 ≠ (kT3 b).2.1 := by decide +kernel
theorem kp3 : ∀ k, k < 4 → parseFieldDescriptor (kT3 k).2.2.1 = some (kt3 k) := by decide +kernel
theorem ku3 : ∀ w ∈ u_ws kR3 kT3 4, w ∈ ms_tb := List.forall_mem_cons.mpr ⟨ms_k62, List.forall_mem_cons.mpr ⟨ms_k64, List.forall_mem_cons.mpr ⟨ms_k66, List.forall_mem_cons.mpr ⟨ms_k68, fun _ h => absurd h List.not_mem_nil⟩⟩⟩⟩
theorem kz3 : ∀ j, j < 4 → defaultValue (kt3 j) = vp_V [.null, .int 0, .int 0, .int 0] j := by
  intro j hj
  rcases (show j = 0 ∨ j = 1 ∨ j = 2 ∨ j = 3 by omega) with rfl | rfl | rfl | rfl <;> rfl
theorem kn4 : ∀ a, a < 3 → ∀ b, b < 3 → a ≠ b → (kT4 a).2.1 ≠ (kT4 b).2.1 := by decide +kernel
theorem kp4 : ∀ k, k < 3 → parseFieldDescriptor (kT4 k).2.2.1 = some (kt4 k) := by decide +kernel
theorem ku4 : ∀ w ∈ u_ws kR4 kT4 3, w ∈ ms_tb := List.forall_mem_cons.mpr ⟨ms_k345, List.forall_mem_cons.mpr ⟨ms_k341, List.forall_mem_cons.mpr ⟨ms_k343, fun _ h => absurd h List.not_mem_nil⟩⟩⟩
theorem kz4 : ∀ j, j < 3 → defaultValue (kt4 j) = vp_V [.int 0, .null, .int 0] j := by
  intro j hj
  rcases (show j = 0 ∨ j = 1 ∨ j = 2 by omega) with rfl | rfl | rfl <;> rfl
theorem kn5 : ∀ a, a < 4 → ∀ b, b < 4 → a ≠ b → (kT5 a).2.1 ≠ (kT5 b).2.1 := by decide +kernel
theorem kp5 : ∀ k, k < 4 → parseFieldDescriptor (kT5 k).2.2.1 = some (kt5 k) := by decide +kernel
theorem ku5 : ∀ w ∈ u_ws kR5 kT5 4, w ∈ ms_tb := List.forall_mem_cons.mpr ⟨ms_k286, List.forall_mem_cons.mpr ⟨ms_k288, List.forall_mem_cons.mpr ⟨ms_k290, List.forall_mem_cons.mpr ⟨ms_k292, fun _ h => absurd h List.not_mem_nil⟩⟩⟩⟩
theorem kz5 : ∀ j, j < 4 → defaultValue (kt5 j) = vp_V [.null, .int 0, .int 0, .int 0] j := by
  intro j hj
  rcases (show j = 0 ∨ j = 1 ∨ j = 2 ∨ j = 3 by omega) with rfl | rfl | rfl | rfl <;> rfl
theorem kn6 : ∀ a, a < 6 → ∀ b, b < 6 → a ≠ b → (kT6 a).2.1 ≠ (kT6 b).2.1 := by decide +kernel
theorem kp6 : ∀ k, k < 6 → parseFieldDescriptor (kT6 k).2.2.1 = some (kt6 k) := by decide +kernel
theorem ku6 : ∀ w ∈ u_ws kR6 kT6 6, w ∈ ms_tb := List.forall_mem_cons.mpr ⟨ms_k373, List.forall_mem_cons.mpr ⟨ms_k375, List.forall_mem_cons.mpr ⟨ms_k377, List.forall_mem_cons.mpr ⟨ms_k367, List.forall_mem_cons.mpr ⟨ms_k369, List.forall_mem_cons.mpr ⟨ms_k371, fun _ h => absurd h List.not_mem_nil⟩⟩⟩⟩⟩⟩
theorem kz6 : ∀ j, j < 6 → defaultValue (kt6 j) = vp_V [.null, .int 0, .int 0, .null, .null, .int 0] j := by
  intro j hj
  rcases (show j = 0 ∨ j = 1 ∨ j = 2 ∨ j = 3 ∨ j = 4 ∨ j = 5 by omega) with rfl | rfl | rfl | rfl | rfl | rfl <;> rfl
theorem kn7 : ∀ a, a < 3 → ∀ b, b < 3 → a ≠ b → (kT7 a).2.1 ≠ (kT7 b).2.1 := by decide +kernel
theorem kp7 : ∀ k, k < 3 → parseFieldDescriptor (kT7 k).2.2.1 = some (kt7 k) := by decide +kernel
theorem ku7 : ∀ w ∈ u_ws kR7 kT7 3, w ∈ ms_tb := List.forall_mem_cons.mpr ⟨ms_k1257, List.forall_mem_cons.mpr ⟨ms_k1259, List.forall_mem_cons.mpr ⟨ms_k1261, fun _ h => absurd h List.not_mem_nil⟩⟩⟩
theorem kz7 : ∀ j, j < 3 → defaultValue (kt7 j) = vp_V [.int 0, .int 0, .int 0] j := by
  intro j hj
  rcases (show j = 0 ∨ j = 1 ∨ j = 2 by omega) with rfl | rfl | rfl <;> rfl
abbrev bM0 : ByteArray := prog_28_method_1_code
def yM0 : MethodName := ⟨"java/util/AbstractCollection", "<init>", "()V"⟩
abbrev bM1 : ByteArray := prog_29_method_1_code
def yM1 : MethodName := ⟨"java/util/AbstractList", "<init>", "()V"⟩
abbrev bM2 : ByteArray := prog_30_method_2_code
def yM2 : MethodName := ⟨"java/util/ArrayList", "<init>", "()V"⟩
abbrev bM3 : ByteArray := prog_16_method_2_code
def yM3 : MethodName := ⟨"java/lang/AbstractStringBuilder", "<init>", "(I)V"⟩
abbrev bM4 : ByteArray := prog_24_method_1_code
def yM4 : MethodName := ⟨"java/lang/StringBuilder", "<init>", "()V"⟩
abbrev bM5 : ByteArray := prog_16_method_6_code
def yM5 : MethodName := ⟨"java/lang/AbstractStringBuilder", "length", "()I"⟩
abbrev bM6 : ByteArray := prog_24_method_93_code
def yM6 : MethodName := ⟨"java/lang/StringBuilder", "length", "()I"⟩
abbrev bM7 : ByteArray := prog_16_method_68_code
def yM7 : MethodName := ⟨"java/lang/AbstractStringBuilder", "isLatin1", "()Z"⟩
abbrev bM8 : ByteArray := prog_16_method_64_code
def yM8 : MethodName := ⟨"java/lang/AbstractStringBuilder", "getValue", "()[B"⟩
abbrev bM9 : ByteArray := prog_25_method_3_code
def yM9 : MethodName := ⟨"java/lang/StringLatin1", "canEncode", "(C)Z"⟩
abbrev bM10 : ByteArray := prog_16_method_9_code
def yM10 : MethodName := ⟨"java/lang/AbstractStringBuilder", "ensureCapacityInternal", "(I)V"⟩
abbrev bM11 : ByteArray := prog_16_method_13_code
def yM11 : MethodName := ⟨"java/lang/AbstractStringBuilder", "setLength", "(I)V"⟩
abbrev bM12 : ByteArray := prog_24_method_89_code
def yM12 : MethodName := ⟨"java/lang/StringBuilder", "setLength", "(I)V"⟩
abbrev bM13 : ByteArray := prog_16_method_31_code
def yM13 : MethodName := ⟨"java/lang/AbstractStringBuilder", "append", "(C)Ljava/lang/AbstractStringBuilder;"⟩
abbrev bM14 : ByteArray := prog_24_method_14_code
def yM14 : MethodName := ⟨"java/lang/StringBuilder", "append", "(C)Ljava/lang/StringBuilder;"⟩
abbrev bM15 : ByteArray := prog_31_method_131_code
def yM15 : MethodName := ⟨"java/util/Arrays", "checkLength", "(II)V"⟩
abbrev bM16 : ByteArray := prog_31_method_133_code
def yM16 : MethodName := ⟨"java/util/Arrays", "copyOfRangeByte", "([BII)[B"⟩
abbrev bM17 : ByteArray := prog_31_method_132_code
def yM17 : MethodName := ⟨"java/util/Arrays", "copyOfRange", "([BII)[B"⟩
abbrev bM18 : ByteArray := prog_23_method_150_code
def yM18 : MethodName := ⟨"java/lang/String", "<init>", "(Ljava/lang/AbstractStringBuilder;Ljava/lang/Void;)V"⟩
abbrev bM19 : ByteArray := prog_23_method_53_code
def yM19 : MethodName := ⟨"java/lang/String", "<init>", "(Ljava/lang/StringBuilder;)V"⟩
abbrev bM20 : ByteArray := prog_24_method_42_code
def yM20 : MethodName := ⟨"java/lang/StringBuilder", "toString", "()Ljava/lang/String;"⟩
abbrev bM21 : ByteArray := prog_23_method_152_code
def yM21 : MethodName := ⟨"java/lang/String", "coder", "()B"⟩
abbrev bM22 : ByteArray := prog_23_method_54_code
def yM22 : MethodName := ⟨"java/lang/String", "length", "()I"⟩
abbrev bM23 : ByteArray := prog_11_method_1_code
def yM23 : MethodName := ⟨"MarkupStore$Tree", "<init>", "()V"⟩
abbrev bM24 : ByteArray := prog_11_method_2_code
def yM24 : MethodName := ⟨"MarkupStore$Tree", "find", "(I)LMarkupStore$Node;"⟩
abbrev bM25 : ByteArray := prog_11_method_11_code
def yM25 : MethodName := ⟨"MarkupStore$Tree", "keep", "()V"⟩
abbrev bM26 : ByteArray := prog_11_method_13_code
def yM26 : MethodName := ⟨"MarkupStore$Tree", "setPlaces", "()V"⟩
abbrev bM27 : ByteArray := prog_11_method_9_code
def yM27 : MethodName := ⟨"MarkupStore$Tree", "takeOut", "(II)V"⟩
abbrev bM28 : ByteArray := prog_11_method_10_code
def yM28 : MethodName := ⟨"MarkupStore$Tree", "clear", "()V"⟩
abbrev bM29 : ByteArray := prog_11_method_12_code
def yM29 : MethodName := ⟨"MarkupStore$Tree", "giveBack", "()V"⟩
abbrev bM30 : ByteArray := prog_10_method_1_code
def yM30 : MethodName := ⟨"MarkupStore$TextReader", "<init>", "(Ljava/lang/String;)V"⟩
abbrev bM31 : ByteArray := prog_3_method_1_code
def yM31 : MethodName := ⟨"MarkupStore$MarkupReader", "<init>", "(Ljava/lang/String;Ljava/lang/StringBuilder;)V"⟩
abbrev bM32 : ByteArray := prog_10_method_4_code
def yM32 : MethodName := ⟨"MarkupStore$TextReader", "seen", "(I)C"⟩
abbrev bM33 : ByteArray := prog_10_method_3_code
def yM33 : MethodName := ⟨"MarkupStore$TextReader", "failAt", "(I)Z"⟩
abbrev bM34 : ByteArray := prog_10_method_2_code
def yM34 : MethodName := ⟨"MarkupStore$TextReader", "failed", "()Z"⟩
abbrev bM35 : ByteArray := prog_3_method_5_code
def yM35 : MethodName := ⟨"MarkupStore$MarkupReader", "readDocument", "()Z"⟩
abbrev bM36 : ByteArray := prog_8_method_1_code
def yM36 : MethodName := ⟨"MarkupStore$Scribe", "<init>", "(I)V"⟩
abbrev bM37 : ByteArray := prog_8_method_3_code
def yM37 : MethodName := ⟨"MarkupStore$Scribe", "closeUpTo", "(LMarkupStore$Node;LMarkupStore$Node;)V"⟩
abbrev bM38 : ByteArray := prog_8_method_2_code
def yM38 : MethodName := ⟨"MarkupStore$Scribe", "write", "(LMarkupStore$Tree;)V"⟩
abbrev bM39 : ByteArray := prog_1_method_1_code
def yM39 : MethodName := ⟨"MarkupStore", "<init>", "()V"⟩
abbrev bM40 : ByteArray := prog_1_method_19_code
def yM40 : MethodName := ⟨"MarkupStore", "useBuffer", "()Ljava/lang/String;"⟩
abbrev bM41 : ByteArray := prog_1_method_20_code
def yM41 : MethodName := ⟨"MarkupStore", "beginBatch", "()V"⟩
abbrev bM42 : ByteArray := prog_1_method_2_code
def yM42 : MethodName := ⟨"MarkupStore", "type", "(C)Z"⟩
abbrev bM43 : ByteArray := prog_1_method_3_code
def yM43 : MethodName := ⟨"MarkupStore", "load", "()I"⟩
abbrev bM44 : ByteArray := prog_1_method_4_code
def yM44 : MethodName := ⟨"MarkupStore", "insert", "(II)I"⟩
abbrev bM45 : ByteArray := prog_1_method_5_code
def yM45 : MethodName := ⟨"MarkupStore", "remove", "(I)I"⟩
abbrev bM46 : ByteArray := prog_1_method_6_code
def yM46 : MethodName := ⟨"MarkupStore", "replace", "(I)Z"⟩
abbrev bM47 : ByteArray := prog_1_method_7_code
def yM47 : MethodName := ⟨"MarkupStore", "query", "(I)I"⟩
abbrev bM48 : ByteArray := prog_1_method_8_code
def yM48 : MethodName := ⟨"MarkupStore", "result", "(I)I"⟩
abbrev bM49 : ByteArray := prog_1_method_9_code
def yM49 : MethodName := ⟨"MarkupStore", "commit", "()I"⟩
abbrev bM50 : ByteArray := prog_1_method_10_code
def yM50 : MethodName := ⟨"MarkupStore", "crash", "()I"⟩
abbrev bM51 : ByteArray := prog_1_method_11_code
def yM51 : MethodName := ⟨"MarkupStore", "kind", "(I)I"⟩
abbrev bM52 : ByteArray := prog_1_method_12_code
def yM52 : MethodName := ⟨"MarkupStore", "node", "(II)I"⟩
abbrev bM53 : ByteArray := prog_1_method_13_code
def yM53 : MethodName := ⟨"MarkupStore", "letter", "(II)I"⟩
abbrev bM54 : ByteArray := prog_1_method_14_code
def yM54 : MethodName := ⟨"MarkupStore", "label", "(II)I"⟩
abbrev bM55 : ByteArray := prog_1_method_15_code
def yM55 : MethodName := ⟨"MarkupStore", "root", "()I"⟩
abbrev bM56 : ByteArray := prog_1_method_16_code
def yM56 : MethodName := ⟨"MarkupStore", "nodes", "()I"⟩
abbrev bM57 : ByteArray := prog_1_method_17_code
def yM57 : MethodName := ⟨"MarkupStore", "length", "()I"⟩
abbrev bM58 : ByteArray := prog_1_method_18_code
def yM58 : MethodName := ⟨"MarkupStore", "written", "(I)I"⟩
abbrev bM59 : ByteArray := prog_14_method_1_code
def yM59 : MethodName := ⟨"MarkupStoreModel", "<init>", "()V"⟩
abbrev bM60 : ByteArray := prog_14_method_4_code
def yM60 : MethodName := ⟨"MarkupStoreModel", "count", "()I"⟩
abbrev bM61 : ByteArray := prog_14_method_6_code
def yM61 : MethodName := ⟨"MarkupStoreModel", "place", "(I)I"⟩
abbrev bM62 : ByteArray := prog_14_method_36_code
def yM62 : MethodName := ⟨"MarkupStoreModel", "type", "(C)Z"⟩
abbrev bM63 : ByteArray := prog_14_method_15_code
def yM63 : MethodName := ⟨"MarkupStoreModel", "error", "(I)V"⟩
abbrev bM64 : ByteArray := prog_14_method_28_code
def yM64 : MethodName := ⟨"MarkupStoreModel", "parse", "(ZI)V"⟩
abbrev bM65 : ByteArray := prog_14_method_37_code
def yM65 : MethodName := ⟨"MarkupStoreModel", "loaded", "()I"⟩
abbrev bM66 : ByteArray := prog_14_method_38_code
def yM66 : MethodName := ⟨"MarkupStoreModel", "load", "()I"⟩
abbrev bM67 : ByteArray := prog_14_method_41_code
def yM67 : MethodName := ⟨"MarkupStoreModel", "insert", "(II)I"⟩
abbrev bM68 : ByteArray := prog_14_method_43_code
def yM68 : MethodName := ⟨"MarkupStoreModel", "remove", "(I)I"⟩
abbrev bM69 : ByteArray := prog_14_method_44_code
def yM69 : MethodName := ⟨"MarkupStoreModel", "replace", "(I)Z"⟩
abbrev bM70 : ByteArray := prog_14_method_66_code
def yM70 : MethodName := ⟨"MarkupStoreModel", "query", "(I)I"⟩
abbrev bM71 : ByteArray := prog_14_method_70_code
def yM71 : MethodName := ⟨"MarkupStoreModel", "kind", "(I)I"⟩
abbrev bM72 : ByteArray := prog_14_method_72_code
def yM72 : MethodName := ⟨"MarkupStoreModel", "node", "(II)I"⟩
abbrev bM73 : ByteArray := prog_14_method_73_code
def yM73 : MethodName := ⟨"MarkupStoreModel", "letter", "(II)I"⟩
abbrev bM74 : ByteArray := prog_14_method_74_code
def yM74 : MethodName := ⟨"MarkupStoreModel", "label", "(II)I"⟩
abbrev bM75 : ByteArray := prog_14_method_67_code
def yM75 : MethodName := ⟨"MarkupStoreModel", "result", "(I)I"⟩
abbrev bM76 : ByteArray := prog_14_method_75_code
def yM76 : MethodName := ⟨"MarkupStoreModel", "root", "()I"⟩
abbrev bM77 : ByteArray := prog_14_method_76_code
def yM77 : MethodName := ⟨"MarkupStoreModel", "nodes", "()I"⟩
abbrev bM78 : ByteArray := prog_14_method_83_code
def yM78 : MethodName := ⟨"MarkupStoreModel", "write", "(I)V"⟩
abbrev bM79 : ByteArray := prog_14_method_84_code
def yM79 : MethodName := ⟨"MarkupStoreModel", "length", "()I"⟩
abbrev bM80 : ByteArray := prog_14_method_85_code
def yM80 : MethodName := ⟨"MarkupStoreModel", "written", "(I)I"⟩
abbrev bM81 : ByteArray := prog_14_method_35_code
def yM81 : MethodName := ⟨"MarkupStoreModel", "save", "()V"⟩
abbrev bM82 : ByteArray := prog_14_method_68_code
def yM82 : MethodName := ⟨"MarkupStoreModel", "commit", "()I"⟩
abbrev bM83 : ByteArray := prog_14_method_69_code
def yM83 : MethodName := ⟨"MarkupStoreModel", "crash", "()I"⟩
end
section
theorem d0_0 : decode bM0 0 = .ok (.aload_n 0, 1) := by decide +kernel
theorem d0_1 : decode bM0 1 = .ok (.invokespecial 1, 3) := by decide +kernel
theorem d0_4 : decode bM0 4 = .ok (.return_, 1) := by decide +kernel
theorem d1_0 : decode bM1 0 = .ok (.aload_n 0, 1) := by decide +kernel
theorem d1_1 : decode bM1 1 = .ok (.invokespecial 1, 3) := by decide +kernel
theorem d1_4 : decode bM1 4 = .ok (.aload_n 0, 1) := by decide +kernel
theorem d1_5 : decode bM1 5 = .ok (.iconst 0, 1) := by decide +kernel
theorem d1_6 : decode bM1 6 = .ok (.putfield 7, 3) := by decide +kernel
theorem d1_9 : decode bM1 9 = .ok (.return_, 1) := by decide +kernel
theorem d2_0 : decode bM2 0 = .ok (.aload_n 0, 1) := by decide +kernel
theorem d2_1 : decode bM2 1 = .ok (.invokespecial 1, 3) := by decide +kernel
theorem d2_4 : decode bM2 4 = .ok (.aload_n 0, 1) := by decide +kernel
theorem d2_5 : decode bM2 5 = .ok (.getstatic 39, 3) := by decide +kernel
theorem d2_8 : decode bM2 8 = .ok (.putfield 9, 3) := by decide +kernel
theorem d2_11 : decode bM2 11 = .ok (.return_, 1) := by decide +kernel
theorem d3_0 : decode bM3 0 = .ok (.aload_n 0, 1) := by decide +kernel
theorem d3_1 : decode bM3 1 = .ok (.invokespecial 3, 3) := by decide +kernel
theorem d3_4 : decode bM3 4 = .ok (.getstatic 18, 3) := by decide +kernel
theorem d3_7 : decode bM3 7 = .ok (.ifCond .eq 18, 3) := by decide +kernel
theorem d3_10 : decode bM3 10 = .ok (.aload_n 0, 1) := by decide +kernel
theorem d3_11 : decode bM3 11 = .ok (.iload_n 1, 1) := by decide +kernel
theorem d3_12 : decode bM3 12 = .ok (.newarray .byte, 2) := by decide +kernel
theorem d3_14 : decode bM3 14 = .ok (.putfield 15, 3) := by decide +kernel
theorem d3_17 : decode bM3 17 = .ok (.aload_n 0, 1) := by decide +kernel
theorem d3_18 : decode bM3 18 = .ok (.iconst 0, 1) := by decide +kernel
theorem d3_19 : decode bM3 19 = .ok (.putfield 22, 3) := by decide +kernel
theorem d3_22 : decode bM3 22 = .ok (.goto 16, 3) := by decide +kernel
theorem d3_38 : decode bM3 38 = .ok (.return_, 1) := by decide +kernel
theorem d4_0 : decode bM4 0 = .ok (.aload_n 0, 1) := by decide +kernel
theorem d4_1 : decode bM4 1 = .ok (.bipush 16, 2) := by decide +kernel
theorem d4_3 : decode bM4 3 = .ok (.invokespecial 1, 3) := by decide +kernel
theorem d4_6 : decode bM4 6 = .ok (.return_, 1) := by decide +kernel
theorem d5_0 : decode bM5 0 = .ok (.aload_n 0, 1) := by decide +kernel
theorem d5_1 : decode bM5 1 = .ok (.getfield 79, 3) := by decide +kernel
theorem d5_4 : decode bM5 4 = .ok (.ireturn, 1) := by decide +kernel
theorem d6_0 : decode bM6 0 = .ok (.aload_n 0, 1) := by decide +kernel
theorem d6_1 : decode bM6 1 = .ok (.invokespecial 343, 3) := by decide +kernel
theorem d6_4 : decode bM6 4 = .ok (.ireturn, 1) := by decide +kernel
theorem d7_0 : decode bM7 0 = .ok (.getstatic 18, 3) := by decide +kernel
theorem d7_3 : decode bM7 3 = .ok (.ifCond .eq 14, 3) := by decide +kernel
theorem d7_6 : decode bM7 6 = .ok (.aload_n 0, 1) := by decide +kernel
theorem d7_7 : decode bM7 7 = .ok (.getfield 22, 3) := by decide +kernel
theorem d7_10 : decode bM7 10 = .ok (.ifCond .ne 7, 3) := by decide +kernel
theorem d7_13 : decode bM7 13 = .ok (.iconst 1, 1) := by decide +kernel
theorem d7_14 : decode bM7 14 = .ok (.goto 4, 3) := by decide +kernel
theorem d7_18 : decode bM7 18 = .ok (.ireturn, 1) := by decide +kernel
theorem d8_0 : decode bM8 0 = .ok (.aload_n 0, 1) := by decide +kernel
theorem d8_1 : decode bM8 1 = .ok (.getfield 15, 3) := by decide +kernel
theorem d8_4 : decode bM8 4 = .ok (.areturn, 1) := by decide +kernel
theorem d9_0 : decode bM9 0 = .ok (.iload_n 0, 1) := by decide +kernel
theorem d9_1 : decode bM9 1 = .ok (.sipush 255, 3) := by decide +kernel
theorem d9_4 : decode bM9 4 = .ok (.if_icmp .gt 7, 3) := by decide +kernel
theorem d9_7 : decode bM9 7 = .ok (.iconst 1, 1) := by decide +kernel
theorem d9_8 : decode bM9 8 = .ok (.goto 4, 3) := by decide +kernel
theorem d9_12 : decode bM9 12 = .ok (.ireturn, 1) := by decide +kernel
theorem d10_0 : decode bM10 0 = .ok (.aload_n 0, 1) := by decide +kernel
theorem d10_1 : decode bM10 1 = .ok (.getfield 15, 3) := by decide +kernel
theorem d10_4 : decode bM10 4 = .ok (.arraylength, 1) := by decide +kernel
theorem d10_5 : decode bM10 5 = .ok (.aload_n 0, 1) := by decide +kernel
theorem d10_6 : decode bM10 6 = .ok (.getfield 22, 3) := by decide +kernel
theorem d10_9 : decode bM10 9 = .ok (.ishr, 1) := by decide +kernel
theorem d10_10 : decode bM10 10 = .ok (.istore_n 2, 1) := by decide +kernel
theorem d10_11 : decode bM10 11 = .ok (.iload_n 1, 1) := by decide +kernel
theorem d10_12 : decode bM10 12 = .ok (.iload_n 2, 1) := by decide +kernel
theorem d10_13 : decode bM10 13 = .ok (.isub, 1) := by decide +kernel
theorem d10_14 : decode bM10 14 = .ok (.ifCond .le 24, 3) := by decide +kernel
theorem d10_38 : decode bM10 38 = .ok (.return_, 1) := by decide +kernel
theorem d11_0 : decode bM11 0 = .ok (.iload_n 1, 1) := by decide +kernel
theorem d11_1 : decode bM11 1 = .ok (.ifCond .ge 12, 3) := by decide +kernel
theorem d11_13 : decode bM11 13 = .ok (.aload_n 0, 1) := by decide +kernel
theorem d11_14 : decode bM11 14 = .ok (.iload_n 1, 1) := by decide +kernel
theorem d11_15 : decode bM11 15 = .ok (.invokevirtual 100, 3) := by decide +kernel
theorem d11_18 : decode bM11 18 = .ok (.aload_n 0, 1) := by decide +kernel
theorem d11_19 : decode bM11 19 = .ok (.getfield 79, 3) := by decide +kernel
theorem d11_22 : decode bM11 22 = .ok (.iload_n 1, 1) := by decide +kernel
theorem d11_23 : decode bM11 23 = .ok (.if_icmp .ge 40, 3) := by decide +kernel
theorem d11_63 : decode bM11 63 = .ok (.aload_n 0, 1) := by decide +kernel
theorem d11_64 : decode bM11 64 = .ok (.getfield 79, 3) := by decide +kernel
theorem d11_67 : decode bM11 67 = .ok (.iload_n 1, 1) := by decide +kernel
theorem d11_68 : decode bM11 68 = .ok (.if_icmp .le 8, 3) := by decide +kernel
theorem d11_76 : decode bM11 76 = .ok (.aload_n 0, 1) := by decide +kernel
theorem d11_77 : decode bM11 77 = .ok (.iload_n 1, 1) := by decide +kernel
theorem d11_78 : decode bM11 78 = .ok (.putfield 79, 3) := by decide +kernel
theorem d11_81 : decode bM11 81 = .ok (.return_, 1) := by decide +kernel
theorem d12_0 : decode bM12 0 = .ok (.aload_n 0, 1) := by decide +kernel
theorem d12_1 : decode bM12 1 = .ok (.iload_n 1, 1) := by decide +kernel
theorem d12_2 : decode bM12 2 = .ok (.invokespecial 333, 3) := by decide +kernel
theorem d12_5 : decode bM12 5 = .ok (.return_, 1) := by decide +kernel
theorem d13_0 : decode bM13 0 = .ok (.aload_n 0, 1) := by decide +kernel
theorem d13_1 : decode bM13 1 = .ok (.aload_n 0, 1) := by decide +kernel
theorem d13_2 : decode bM13 2 = .ok (.getfield 79, 3) := by decide +kernel
theorem d13_5 : decode bM13 5 = .ok (.iconst 1, 1) := by decide +kernel
theorem d13_6 : decode bM13 6 = .ok (.iadd, 1) := by decide +kernel
theorem d13_7 : decode bM13 7 = .ok (.invokevirtual 100, 3) := by decide +kernel
theorem d13_10 : decode bM13 10 = .ok (.aload_n 0, 1) := by decide +kernel
theorem d13_11 : decode bM13 11 = .ok (.invokevirtual 83, 3) := by decide +kernel
theorem d13_14 : decode bM13 14 = .ok (.ifCond .eq 31, 3) := by decide +kernel
theorem d13_17 : decode bM13 17 = .ok (.iload_n 1, 1) := by decide +kernel
theorem d13_18 : decode bM13 18 = .ok (.invokestatic 191, 3) := by decide +kernel
theorem d13_21 : decode bM13 21 = .ok (.ifCond .eq 24, 3) := by decide +kernel
theorem d13_24 : decode bM13 24 = .ok (.aload_n 0, 1) := by decide +kernel
theorem d13_25 : decode bM13 25 = .ok (.getfield 15, 3) := by decide +kernel
theorem d13_28 : decode bM13 28 = .ok (.aload_n 0, 1) := by decide +kernel
theorem d13_29 : decode bM13 29 = .ok (.dup, 1) := by decide +kernel
theorem d13_30 : decode bM13 30 = .ok (.getfield 79, 3) := by decide +kernel
theorem d13_33 : decode bM13 33 = .ok (.dup_x1, 1) := by decide +kernel
theorem d13_34 : decode bM13 34 = .ok (.iconst 1, 1) := by decide +kernel
theorem d13_35 : decode bM13 35 = .ok (.iadd, 1) := by decide +kernel
theorem d13_36 : decode bM13 36 = .ok (.putfield 79, 3) := by decide +kernel
theorem d13_39 : decode bM13 39 = .ok (.iload_n 1, 1) := by decide +kernel
theorem d13_40 : decode bM13 40 = .ok (.i2b, 1) := by decide +kernel
theorem d13_41 : decode bM13 41 = .ok (.bastore, 1) := by decide +kernel
theorem d13_42 : decode bM13 42 = .ok (.goto 33, 3) := by decide +kernel
theorem d13_75 : decode bM13 75 = .ok (.aload_n 0, 1) := by decide +kernel
theorem d13_76 : decode bM13 76 = .ok (.areturn, 1) := by decide +kernel
theorem d14_0 : decode bM14 0 = .ok (.aload_n 0, 1) := by decide +kernel
theorem d14_1 : decode bM14 1 = .ok (.iload_n 1, 1) := by decide +kernel
theorem d14_2 : decode bM14 2 = .ok (.invokespecial 50, 3) := by decide +kernel
theorem d14_5 : decode bM14 5 = .ok (.pop, 1) := by decide +kernel
theorem d14_6 : decode bM14 6 = .ok (.aload_n 0, 1) := by decide +kernel
theorem d14_7 : decode bM14 7 = .ok (.areturn, 1) := by decide +kernel
theorem d15_0 : decode bM15 0 = .ok (.iload_n 1, 1) := by decide +kernel
theorem d15_1 : decode bM15 1 = .ok (.iload_n 0, 1) := by decide +kernel
theorem d15_2 : decode bM15 2 = .ok (.if_icmp .ge 35, 3) := by decide +kernel
theorem d15_37 : decode bM15 37 = .ok (.return_, 1) := by decide +kernel
theorem d16_0 : decode bM16 0 = .ok (.iload_n 1, 1) := by decide +kernel
theorem d16_1 : decode bM16 1 = .ok (.iload_n 2, 1) := by decide +kernel
theorem d16_2 : decode bM16 2 = .ok (.invokestatic 343, 3) := by decide +kernel
theorem d16_5 : decode bM16 5 = .ok (.iload_n 2, 1) := by decide +kernel
theorem d16_6 : decode bM16 6 = .ok (.iload_n 1, 1) := by decide +kernel
theorem d16_7 : decode bM16 7 = .ok (.isub, 1) := by decide +kernel
theorem d16_8 : decode bM16 8 = .ok (.istore_n 3, 1) := by decide +kernel
theorem d16_9 : decode bM16 9 = .ok (.iload_n 3, 1) := by decide +kernel
theorem d16_10 : decode bM16 10 = .ok (.newarray .byte, 2) := by decide +kernel
theorem d16_12 : decode bM16 12 = .ok (.astore 4, 2) := by decide +kernel
theorem d16_14 : decode bM16 14 = .ok (.aload_n 0, 1) := by decide +kernel
theorem d16_15 : decode bM16 15 = .ok (.iload_n 1, 1) := by decide +kernel
theorem d16_16 : decode bM16 16 = .ok (.aload 4, 2) := by decide +kernel
theorem d16_18 : decode bM16 18 = .ok (.iconst 0, 1) := by decide +kernel
theorem d16_19 : decode bM16 19 = .ok (.aload_n 0, 1) := by decide +kernel
theorem d16_20 : decode bM16 20 = .ok (.arraylength, 1) := by decide +kernel
theorem d16_21 : decode bM16 21 = .ok (.iload_n 1, 1) := by decide +kernel
theorem d16_22 : decode bM16 22 = .ok (.isub, 1) := by decide +kernel
theorem d16_23 : decode bM16 23 = .ok (.iload_n 3, 1) := by decide +kernel
theorem d16_24 : decode bM16 24 = .ok (.invokestatic 304, 3) := by decide +kernel
theorem d16_27 : decode bM16 27 = .ok (.invokestatic 150, 3) := by decide +kernel
theorem d16_30 : decode bM16 30 = .ok (.aload 4, 2) := by decide +kernel
theorem d16_32 : decode bM16 32 = .ok (.areturn, 1) := by decide +kernel
theorem d17_0 : decode bM17 0 = .ok (.iload_n 1, 1) := by decide +kernel
theorem d17_1 : decode bM17 1 = .ok (.ifCond .ne 9, 3) := by decide +kernel
theorem d17_4 : decode bM17 4 = .ok (.iload_n 2, 1) := by decide +kernel
theorem d17_5 : decode bM17 5 = .ok (.aload_n 0, 1) := by decide +kernel
theorem d17_6 : decode bM17 6 = .ok (.arraylength, 1) := by decide +kernel
theorem d17_7 : decode bM17 7 = .ok (.if_icmp .eq 10, 3) := by decide +kernel
theorem d17_10 : decode bM17 10 = .ok (.aload_n 0, 1) := by decide +kernel
theorem d17_11 : decode bM17 11 = .ok (.iload_n 1, 1) := by decide +kernel
theorem d17_12 : decode bM17 12 = .ok (.iload_n 2, 1) := by decide +kernel
theorem d17_13 : decode bM17 13 = .ok (.invokestatic 339, 3) := by decide +kernel
theorem d17_16 : decode bM17 16 = .ok (.areturn, 1) := by decide +kernel
theorem d18_0 : decode bM18 0 = .ok (.aload_n 0, 1) := by decide +kernel
theorem d18_1 : decode bM18 1 = .ok (.invokespecial 1, 3) := by decide +kernel
theorem d18_4 : decode bM18 4 = .ok (.aload_n 1, 1) := by decide +kernel
theorem d18_5 : decode bM18 5 = .ok (.invokevirtual 552, 3) := by decide +kernel
theorem d18_8 : decode bM18 8 = .ok (.astore_n 3, 1) := by decide +kernel
theorem d18_9 : decode bM18 9 = .ok (.aload_n 1, 1) := by decide +kernel
theorem d18_10 : decode bM18 10 = .ok (.invokevirtual 549, 3) := by decide +kernel
theorem d18_13 : decode bM18 13 = .ok (.istore 4, 2) := by decide +kernel
theorem d18_15 : decode bM18 15 = .ok (.aload_n 1, 1) := by decide +kernel
theorem d18_16 : decode bM18 16 = .ok (.invokevirtual 1047, 3) := by decide +kernel
theorem d18_19 : decode bM18 19 = .ok (.ifCond .eq 22, 3) := by decide +kernel
theorem d18_22 : decode bM18 22 = .ok (.aload_n 0, 1) := by decide +kernel
theorem d18_23 : decode bM18 23 = .ok (.iconst 0, 1) := by decide +kernel
theorem d18_24 : decode bM18 24 = .ok (.putfield 15, 3) := by decide +kernel
theorem d18_27 : decode bM18 27 = .ok (.aload_n 0, 1) := by decide +kernel
theorem d18_28 : decode bM18 28 = .ok (.aload_n 3, 1) := by decide +kernel
theorem d18_29 : decode bM18 29 = .ok (.iconst 0, 1) := by decide +kernel
theorem d18_30 : decode bM18 30 = .ok (.iload 4, 2) := by decide +kernel
theorem d18_32 : decode bM18 32 = .ok (.invokestatic 54, 3) := by decide +kernel
theorem d18_35 : decode bM18 35 = .ok (.putfield 9, 3) := by decide +kernel
theorem d18_38 : decode bM18 38 = .ok (.goto 59, 3) := by decide +kernel
theorem d18_97 : decode bM18 97 = .ok (.return_, 1) := by decide +kernel
theorem d19_0 : decode bM19 0 = .ok (.aload_n 0, 1) := by decide +kernel
theorem d19_1 : decode bM19 1 = .ok (.aload_n 1, 1) := by decide +kernel
theorem d19_2 : decode bM19 2 = .ok (.aconst_null, 1) := by decide +kernel
theorem d19_3 : decode bM19 3 = .ok (.invokespecial 489, 3) := by decide +kernel
theorem d19_6 : decode bM19 6 = .ok (.return_, 1) := by decide +kernel
theorem d20_0 : decode bM20 0 = .ok (.new 18, 3) := by decide +kernel
theorem d20_3 : decode bM20 3 = .ok (.dup, 1) := by decide +kernel
theorem d20_4 : decode bM20 4 = .ok (.aload_n 0, 1) := by decide +kernel
theorem d20_5 : decode bM20 5 = .ok (.invokespecial 137, 3) := by decide +kernel
theorem d20_8 : decode bM20 8 = .ok (.areturn, 1) := by decide +kernel
theorem d21_0 : decode bM21 0 = .ok (.getstatic 38, 3) := by decide +kernel
theorem d21_3 : decode bM21 3 = .ok (.ifCond .eq 10, 3) := by decide +kernel
theorem d21_6 : decode bM21 6 = .ok (.aload_n 0, 1) := by decide +kernel
theorem d21_7 : decode bM21 7 = .ok (.getfield 15, 3) := by decide +kernel
theorem d21_10 : decode bM21 10 = .ok (.goto 4, 3) := by decide +kernel
theorem d21_14 : decode bM21 14 = .ok (.ireturn, 1) := by decide +kernel
theorem d22_0 : decode bM22 0 = .ok (.aload_n 0, 1) := by decide +kernel
theorem d22_1 : decode bM22 1 = .ok (.getfield 9, 3) := by decide +kernel
theorem d22_4 : decode bM22 4 = .ok (.arraylength, 1) := by decide +kernel
theorem d22_5 : decode bM22 5 = .ok (.aload_n 0, 1) := by decide +kernel
theorem d22_6 : decode bM22 6 = .ok (.invokevirtual 335, 3) := by decide +kernel
theorem d22_9 : decode bM22 9 = .ok (.ishr, 1) := by decide +kernel
theorem d22_10 : decode bM22 10 = .ok (.ireturn, 1) := by decide +kernel
theorem d23_0 : decode bM23 0 = .ok (.aload_n 0, 1) := by decide +kernel
theorem d23_1 : decode bM23 1 = .ok (.invokespecial 3, 3) := by decide +kernel
theorem d23_4 : decode bM23 4 = .ok (.aload_n 0, 1) := by decide +kernel
theorem d23_5 : decode bM23 5 = .ok (.sipush 200, 3) := by decide +kernel
theorem d23_8 : decode bM23 8 = .ok (.anewarray 9, 3) := by decide +kernel
theorem d23_11 : decode bM23 11 = .ok (.putfield 11, 3) := by decide +kernel
theorem d23_14 : decode bM23 14 = .ok (.aload_n 0, 1) := by decide +kernel
theorem d23_15 : decode bM23 15 = .ok (.bipush 40, 2) := by decide +kernel
theorem d23_17 : decode bM23 17 = .ok (.anewarray 9, 3) := by decide +kernel
theorem d23_20 : decode bM23 20 = .ok (.putfield 17, 3) := by decide +kernel
theorem d23_23 : decode bM23 23 = .ok (.aload_n 0, 1) := by decide +kernel
theorem d23_24 : decode bM23 24 = .ok (.bipush 40, 2) := by decide +kernel
theorem d23_26 : decode bM23 26 = .ok (.anewarray 9, 3) := by decide +kernel
theorem d23_29 : decode bM23 29 = .ok (.putfield 20, 3) := by decide +kernel
theorem d23_32 : decode bM23 32 = .ok (.return_, 1) := by decide +kernel
theorem d24_0 : decode bM24 0 = .ok (.iload_n 1, 1) := by decide +kernel
theorem d24_1 : decode bM24 1 = .ok (.ifCond .lt 24, 3) := by decide +kernel
theorem d24_4 : decode bM24 4 = .ok (.iload_n 1, 1) := by decide +kernel
theorem d24_5 : decode bM24 5 = .ok (.aload_n 0, 1) := by decide +kernel
theorem d24_6 : decode bM24 6 = .ok (.getfield 23, 3) := by decide +kernel
theorem d24_9 : decode bM24 9 = .ok (.if_icmp .ge 16, 3) := by decide +kernel
theorem d24_25 : decode bM24 25 = .ok (.aconst_null, 1) := by decide +kernel
theorem d24_26 : decode bM24 26 = .ok (.areturn, 1) := by decide +kernel
theorem d25_0 : decode bM25 0 = .ok (.iconst 0, 1) := by decide +kernel
theorem d25_1 : decode bM25 1 = .ok (.istore_n 1, 1) := by decide +kernel
theorem d25_2 : decode bM25 2 = .ok (.iload_n 1, 1) := by decide +kernel
theorem d25_3 : decode bM25 3 = .ok (.aload_n 0, 1) := by decide +kernel
theorem d25_4 : decode bM25 4 = .ok (.getfield 30, 3) := by decide +kernel
theorem d25_7 : decode bM25 7 = .ok (.if_icmp .ge 39, 3) := by decide +kernel
theorem d25_46 : decode bM25 46 = .ok (.aload_n 0, 1) := by decide +kernel
theorem d25_47 : decode bM25 47 = .ok (.aload_n 0, 1) := by decide +kernel
theorem d25_48 : decode bM25 48 = .ok (.getfield 30, 3) := by decide +kernel
theorem d25_51 : decode bM25 51 = .ok (.putfield 66, 3) := by decide +kernel
theorem d25_54 : decode bM25 54 = .ok (.return_, 1) := by decide +kernel
theorem d26_0 : decode bM26 0 = .ok (.iconst 0, 1) := by decide +kernel
theorem d26_1 : decode bM26 1 = .ok (.istore_n 1, 1) := by decide +kernel
theorem d26_2 : decode bM26 2 = .ok (.iload_n 1, 1) := by decide +kernel
theorem d26_3 : decode bM26 3 = .ok (.aload_n 0, 1) := by decide +kernel
theorem d26_4 : decode bM26 4 = .ok (.getfield 30, 3) := by decide +kernel
theorem d26_7 : decode bM26 7 = .ok (.if_icmp .ge 19, 3) := by decide +kernel
theorem d26_26 : decode bM26 26 = .ok (.return_, 1) := by decide +kernel
theorem d27_0 : decode bM27 0 = .ok (.iload_n 1, 1) := by decide +kernel
theorem d27_1 : decode bM27 1 = .ok (.istore_n 3, 1) := by decide +kernel
theorem d27_2 : decode bM27 2 = .ok (.iload_n 3, 1) := by decide +kernel
theorem d27_3 : decode bM27 3 = .ok (.iload_n 2, 1) := by decide +kernel
theorem d27_4 : decode bM27 4 = .ok (.if_icmp .ge 19, 3) := by decide +kernel
theorem d27_23 : decode bM27 23 = .ok (.iload_n 2, 1) := by decide +kernel
theorem d27_24 : decode bM27 24 = .ok (.istore_n 3, 1) := by decide +kernel
theorem d27_25 : decode bM27 25 = .ok (.iload_n 3, 1) := by decide +kernel
theorem d27_26 : decode bM27 26 = .ok (.aload_n 0, 1) := by decide +kernel
theorem d27_27 : decode bM27 27 = .ok (.getfield 30, 3) := by decide +kernel
theorem d27_30 : decode bM27 30 = .ok (.if_icmp .ge 25, 3) := by decide +kernel
theorem d27_55 : decode bM27 55 = .ok (.aload_n 0, 1) := by decide +kernel
theorem d27_56 : decode bM27 56 = .ok (.dup, 1) := by decide +kernel
theorem d27_57 : decode bM27 57 = .ok (.getfield 30, 3) := by decide +kernel
theorem d27_60 : decode bM27 60 = .ok (.iload_n 2, 1) := by decide +kernel
theorem d27_61 : decode bM27 61 = .ok (.iload_n 1, 1) := by decide +kernel
theorem d27_62 : decode bM27 62 = .ok (.isub, 1) := by decide +kernel
theorem d27_63 : decode bM27 63 = .ok (.isub, 1) := by decide +kernel
theorem d27_64 : decode bM27 64 = .ok (.putfield 30, 3) := by decide +kernel
theorem d27_67 : decode bM27 67 = .ok (.aload_n 0, 1) := by decide +kernel
theorem d27_68 : decode bM27 68 = .ok (.invokevirtual 52, 3) := by decide +kernel
theorem d27_71 : decode bM27 71 = .ok (.return_, 1) := by decide +kernel
theorem d28_0 : decode bM28 0 = .ok (.aload_n 0, 1) := by decide +kernel
theorem d28_1 : decode bM28 1 = .ok (.iconst 0, 1) := by decide +kernel
theorem d28_2 : decode bM28 2 = .ok (.aload_n 0, 1) := by decide +kernel
theorem d28_3 : decode bM28 3 = .ok (.getfield 30, 3) := by decide +kernel
theorem d28_6 : decode bM28 6 = .ok (.invokevirtual 55, 3) := by decide +kernel
theorem d28_9 : decode bM28 9 = .ok (.return_, 1) := by decide +kernel
theorem d29_0 : decode bM29 0 = .ok (.aload_n 0, 1) := by decide +kernel
theorem d29_1 : decode bM29 1 = .ok (.invokevirtual 69, 3) := by decide +kernel
theorem d29_4 : decode bM29 4 = .ok (.iconst 0, 1) := by decide +kernel
theorem d29_5 : decode bM29 5 = .ok (.istore_n 1, 1) := by decide +kernel
theorem d29_6 : decode bM29 6 = .ok (.iload_n 1, 1) := by decide +kernel
theorem d29_7 : decode bM29 7 = .ok (.aload_n 0, 1) := by decide +kernel
theorem d29_8 : decode bM29 8 = .ok (.getfield 66, 3) := by decide +kernel
theorem d29_11 : decode bM29 11 = .ok (.if_icmp .ge 39, 3) := by decide +kernel
theorem d29_50 : decode bM29 50 = .ok (.aload_n 0, 1) := by decide +kernel
theorem d29_51 : decode bM29 51 = .ok (.aload_n 0, 1) := by decide +kernel
theorem d29_52 : decode bM29 52 = .ok (.getfield 66, 3) := by decide +kernel
theorem d29_55 : decode bM29 55 = .ok (.putfield 30, 3) := by decide +kernel
theorem d29_58 : decode bM29 58 = .ok (.aload_n 0, 1) := by decide +kernel
theorem d29_59 : decode bM29 59 = .ok (.invokevirtual 52, 3) := by decide +kernel
theorem d29_62 : decode bM29 62 = .ok (.return_, 1) := by decide +kernel
theorem d30_0 : decode bM30 0 = .ok (.aload_n 0, 1) := by decide +kernel
theorem d30_1 : decode bM30 1 = .ok (.invokespecial 3, 3) := by decide +kernel
theorem d30_4 : decode bM30 4 = .ok (.aload_n 0, 1) := by decide +kernel
theorem d30_5 : decode bM30 5 = .ok (.aload_n 1, 1) := by decide +kernel
theorem d30_6 : decode bM30 6 = .ok (.putfield 9, 3) := by decide +kernel
theorem d30_9 : decode bM30 9 = .ok (.aload_n 0, 1) := by decide +kernel
theorem d30_10 : decode bM30 10 = .ok (.iconst 0, 1) := by decide +kernel
theorem d30_11 : decode bM30 11 = .ok (.putfield 15, 3) := by decide +kernel
theorem d30_14 : decode bM30 14 = .ok (.aload_n 0, 1) := by decide +kernel
theorem d30_15 : decode bM30 15 = .ok (.iconst (-1), 1) := by decide +kernel
theorem d30_16 : decode bM30 16 = .ok (.putfield 19, 3) := by decide +kernel
theorem d30_19 : decode bM30 19 = .ok (.return_, 1) := by decide +kernel
theorem d31_0 : decode bM31 0 = .ok (.aload_n 0, 1) := by decide +kernel
theorem d31_1 : decode bM31 1 = .ok (.aload_n 1, 1) := by decide +kernel
theorem d31_2 : decode bM31 2 = .ok (.invokespecial 3, 3) := by decide +kernel
theorem d31_5 : decode bM31 5 = .ok (.aload_n 0, 1) := by decide +kernel
theorem d31_6 : decode bM31 6 = .ok (.new 9, 3) := by decide +kernel
theorem d31_9 : decode bM31 9 = .ok (.dup, 1) := by decide +kernel
theorem d31_10 : decode bM31 10 = .ok (.invokespecial 11, 3) := by decide +kernel
theorem d31_13 : decode bM31 13 = .ok (.putfield 14, 3) := by decide +kernel
theorem d31_16 : decode bM31 16 = .ok (.aload_n 0, 1) := by decide +kernel
theorem d31_17 : decode bM31 17 = .ok (.aload_n 2, 1) := by decide +kernel
theorem d31_18 : decode bM31 18 = .ok (.putfield 20, 3) := by decide +kernel
theorem d31_21 : decode bM31 21 = .ok (.aload_n 0, 1) := by decide +kernel
theorem d31_22 : decode bM31 22 = .ok (.iconst 0, 1) := by decide +kernel
theorem d31_23 : decode bM31 23 = .ok (.putfield 24, 3) := by decide +kernel
theorem d31_26 : decode bM31 26 = .ok (.return_, 1) := by decide +kernel
theorem d32_0 : decode bM32 0 = .ok (.iload_n 1, 1) := by decide +kernel
theorem d32_1 : decode bM32 1 = .ok (.aload_n 0, 1) := by decide +kernel
theorem d32_2 : decode bM32 2 = .ok (.getfield 9, 3) := by decide +kernel
theorem d32_5 : decode bM32 5 = .ok (.invokevirtual 22, 3) := by decide +kernel
theorem d32_8 : decode bM32 8 = .ok (.if_icmp .ge 14, 3) := by decide +kernel
theorem d32_22 : decode bM32 22 = .ok (.iconst 0, 1) := by decide +kernel
theorem d32_23 : decode bM32 23 = .ok (.ireturn, 1) := by decide +kernel
theorem d33_0 : decode bM33 0 = .ok (.aload_n 0, 1) := by decide +kernel
theorem d33_1 : decode bM33 1 = .ok (.iload_n 1, 1) := by decide +kernel
theorem d33_2 : decode bM33 2 = .ok (.putfield 19, 3) := by decide +kernel
theorem d33_5 : decode bM33 5 = .ok (.iconst 0, 1) := by decide +kernel
theorem d33_6 : decode bM33 6 = .ok (.ireturn, 1) := by decide +kernel
theorem d34_0 : decode bM34 0 = .ok (.aload_n 0, 1) := by decide +kernel
theorem d34_1 : decode bM34 1 = .ok (.getfield 19, 3) := by decide +kernel
theorem d34_4 : decode bM34 4 = .ok (.iconst (-1), 1) := by decide +kernel
theorem d34_5 : decode bM34 5 = .ok (.if_icmp .eq 7, 3) := by decide +kernel
theorem d34_8 : decode bM34 8 = .ok (.iconst 1, 1) := by decide +kernel
theorem d34_9 : decode bM34 9 = .ok (.goto 4, 3) := by decide +kernel
theorem d34_13 : decode bM34 13 = .ok (.ireturn, 1) := by decide +kernel
theorem d35_0 : decode bM35 0 = .ok (.aload_n 0, 1) := by decide +kernel
theorem d35_1 : decode bM35 1 = .ok (.iconst 0, 1) := by decide +kernel
theorem d35_2 : decode bM35 2 = .ok (.invokevirtual 56, 3) := by decide +kernel
theorem d35_5 : decode bM35 5 = .ok (.bipush 60, 2) := by decide +kernel
theorem d35_7 : decode bM35 7 = .ok (.if_icmp .eq 9, 3) := by decide +kernel
theorem d35_10 : decode bM35 10 = .ok (.aload_n 0, 1) := by decide +kernel
theorem d35_11 : decode bM35 11 = .ok (.iconst 0, 1) := by decide +kernel
theorem d35_12 : decode bM35 12 = .ok (.invokevirtual 60, 3) := by decide +kernel
theorem d35_15 : decode bM35 15 = .ok (.ireturn, 1) := by decide +kernel
theorem d36_0 : decode bM36 0 = .ok (.aload_n 0, 1) := by decide +kernel
theorem d36_1 : decode bM36 1 = .ok (.invokespecial 3, 3) := by decide +kernel
theorem d36_4 : decode bM36 4 = .ok (.aload_n 0, 1) := by decide +kernel
theorem d36_5 : decode bM36 5 = .ok (.iload_n 1, 1) := by decide +kernel
theorem d36_6 : decode bM36 6 = .ok (.putfield 9, 3) := by decide +kernel
theorem d36_9 : decode bM36 9 = .ok (.aload_n 0, 1) := by decide +kernel
theorem d36_10 : decode bM36 10 = .ok (.iconst 0, 1) := by decide +kernel
theorem d36_11 : decode bM36 11 = .ok (.putfield 15, 3) := by decide +kernel
theorem d36_14 : decode bM36 14 = .ok (.aload_n 0, 1) := by decide +kernel
theorem d36_15 : decode bM36 15 = .ok (.iconst 0, 1) := by decide +kernel
theorem d36_16 : decode bM36 16 = .ok (.putfield 18, 3) := by decide +kernel
theorem d36_19 : decode bM36 19 = .ok (.return_, 1) := by decide +kernel
theorem d37_0 : decode bM37 0 = .ok (.aload_n 1, 1) := by decide +kernel
theorem d37_1 : decode bM37 1 = .ok (.astore_n 3, 1) := by decide +kernel
theorem d37_2 : decode bM37 2 = .ok (.aload_n 3, 1) := by decide +kernel
theorem d37_3 : decode bM37 3 = .ok (.ifnull 36, 3) := by decide +kernel
theorem d37_39 : decode bM37 39 = .ok (.return_, 1) := by decide +kernel
theorem d38_0 : decode bM38 0 = .ok (.aconst_null, 1) := by decide +kernel
theorem d38_1 : decode bM38 1 = .ok (.astore_n 2, 1) := by decide +kernel
theorem d38_2 : decode bM38 2 = .ok (.iconst 0, 1) := by decide +kernel
theorem d38_3 : decode bM38 3 = .ok (.istore_n 3, 1) := by decide +kernel
theorem d38_4 : decode bM38 4 = .ok (.iload_n 3, 1) := by decide +kernel
theorem d38_5 : decode bM38 5 = .ok (.aload_n 1, 1) := by decide +kernel
theorem d38_6 : decode bM38 6 = .ok (.getfield 21, 3) := by decide +kernel
theorem d38_9 : decode bM38 9 = .ok (.if_icmp .ge 130, 3) := by decide +kernel
theorem d38_139 : decode bM38 139 = .ok (.aload_n 0, 1) := by decide +kernel
theorem d38_140 : decode bM38 140 = .ok (.aload_n 2, 1) := by decide +kernel
theorem d38_141 : decode bM38 141 = .ok (.aconst_null, 1) := by decide +kernel
theorem d38_142 : decode bM38 142 = .ok (.invokevirtual 36, 3) := by decide +kernel
theorem d38_145 : decode bM38 145 = .ok (.return_, 1) := by decide +kernel
theorem d39_0 : decode bM39 0 = .ok (.aload_n 0, 1) := by decide +kernel
theorem d39_1 : decode bM39 1 = .ok (.invokespecial 1, 3) := by decide +kernel
theorem d39_4 : decode bM39 4 = .ok (.aload_n 0, 1) := by decide +kernel
theorem d39_5 : decode bM39 5 = .ok (.new 7, 3) := by decide +kernel
theorem d39_8 : decode bM39 8 = .ok (.dup, 1) := by decide +kernel
theorem d39_9 : decode bM39 9 = .ok (.invokespecial 9, 3) := by decide +kernel
theorem d39_12 : decode bM39 12 = .ok (.putfield 10, 3) := by decide +kernel
theorem d39_15 : decode bM39 15 = .ok (.aload_n 0, 1) := by decide +kernel
theorem d39_16 : decode bM39 16 = .ok (.new 7, 3) := by decide +kernel
theorem d39_19 : decode bM39 19 = .ok (.dup, 1) := by decide +kernel
theorem d39_20 : decode bM39 20 = .ok (.invokespecial 9, 3) := by decide +kernel
theorem d39_23 : decode bM39 23 = .ok (.putfield 16, 3) := by decide +kernel
theorem d39_26 : decode bM39 26 = .ok (.aload_n 0, 1) := by decide +kernel
theorem d39_27 : decode bM39 27 = .ok (.new 19, 3) := by decide +kernel
theorem d39_30 : decode bM39 30 = .ok (.dup, 1) := by decide +kernel
theorem d39_31 : decode bM39 31 = .ok (.invokespecial 21, 3) := by decide +kernel
theorem d39_34 : decode bM39 34 = .ok (.putfield 22, 3) := by decide +kernel
theorem d39_37 : decode bM39 37 = .ok (.aload_n 0, 1) := by decide +kernel
theorem d39_38 : decode bM39 38 = .ok (.bipush 40, 2) := by decide +kernel
theorem d39_40 : decode bM39 40 = .ok (.newarray .int, 2) := by decide +kernel
theorem d39_42 : decode bM39 42 = .ok (.putfield 26, 3) := by decide +kernel
theorem d39_45 : decode bM39 45 = .ok (.aload_n 0, 1) := by decide +kernel
theorem d39_46 : decode bM39 46 = .ok (.iconst 0, 1) := by decide +kernel
theorem d39_47 : decode bM39 47 = .ok (.putfield 30, 3) := by decide +kernel
theorem d39_50 : decode bM39 50 = .ok (.aload_n 0, 1) := by decide +kernel
theorem d39_51 : decode bM39 51 = .ok (.iconst 0, 1) := by decide +kernel
theorem d39_52 : decode bM39 52 = .ok (.putfield 34, 3) := by decide +kernel
theorem d39_55 : decode bM39 55 = .ok (.return_, 1) := by decide +kernel
theorem d40_0 : decode bM40 0 = .ok (.aload_n 0, 1) := by decide +kernel
theorem d40_1 : decode bM40 1 = .ok (.getfield 10, 3) := by decide +kernel
theorem d40_4 : decode bM40 4 = .ok (.invokevirtual 233, 3) := by decide +kernel
theorem d40_7 : decode bM40 7 = .ok (.astore_n 1, 1) := by decide +kernel
theorem d40_8 : decode bM40 8 = .ok (.aload_n 0, 1) := by decide +kernel
theorem d40_9 : decode bM40 9 = .ok (.getfield 10, 3) := by decide +kernel
theorem d40_12 : decode bM40 12 = .ok (.iconst 0, 1) := by decide +kernel
theorem d40_13 : decode bM40 13 = .ok (.invokevirtual 190, 3) := by decide +kernel
theorem d40_16 : decode bM40 16 = .ok (.aload_n 1, 1) := by decide +kernel
theorem d40_17 : decode bM40 17 = .ok (.areturn, 1) := by decide +kernel
theorem d41_0 : decode bM41 0 = .ok (.aload_n 0, 1) := by decide +kernel
theorem d41_1 : decode bM41 1 = .ok (.getfield 22, 3) := by decide +kernel
theorem d41_4 : decode bM41 4 = .ok (.invokevirtual 236, 3) := by decide +kernel
theorem d41_7 : decode bM41 7 = .ok (.aload_n 0, 1) := by decide +kernel
theorem d41_8 : decode bM41 8 = .ok (.iconst 0, 1) := by decide +kernel
theorem d41_9 : decode bM41 9 = .ok (.putfield 34, 3) := by decide +kernel
theorem d41_12 : decode bM41 12 = .ok (.return_, 1) := by decide +kernel
theorem d42_0 : decode bM42 0 = .ok (.iload_n 1, 1) := by decide +kernel
theorem d42_1 : decode bM42 1 = .ok (.bipush 32, 2) := by decide +kernel
theorem d42_3 : decode bM42 3 = .ok (.if_icmp .lt 21, 3) := by decide +kernel
theorem d42_6 : decode bM42 6 = .ok (.iload_n 1, 1) := by decide +kernel
theorem d42_7 : decode bM42 7 = .ok (.bipush 126, 2) := by decide +kernel
theorem d42_9 : decode bM42 9 = .ok (.if_icmp .gt 15, 3) := by decide +kernel
theorem d42_12 : decode bM42 12 = .ok (.aload_n 0, 1) := by decide +kernel
theorem d42_13 : decode bM42 13 = .ok (.getfield 10, 3) := by decide +kernel
theorem d42_16 : decode bM42 16 = .ok (.invokevirtual 37, 3) := by decide +kernel
theorem d42_19 : decode bM42 19 = .ok (.bipush 120, 2) := by decide +kernel
theorem d42_21 : decode bM42 21 = .ok (.if_icmp .lt 5, 3) := by decide +kernel
theorem d42_24 : decode bM42 24 = .ok (.iconst 0, 1) := by decide +kernel
theorem d42_25 : decode bM42 25 = .ok (.ireturn, 1) := by decide +kernel
theorem d42_26 : decode bM42 26 = .ok (.aload_n 0, 1) := by decide +kernel
theorem d42_27 : decode bM42 27 = .ok (.getfield 10, 3) := by decide +kernel
theorem d42_30 : decode bM42 30 = .ok (.iload_n 1, 1) := by decide +kernel
theorem d42_31 : decode bM42 31 = .ok (.invokevirtual 41, 3) := by decide +kernel
theorem d42_34 : decode bM42 34 = .ok (.pop, 1) := by decide +kernel
theorem d42_35 : decode bM42 35 = .ok (.iconst 1, 1) := by decide +kernel
theorem d42_36 : decode bM42 36 = .ok (.ireturn, 1) := by decide +kernel
theorem d43_0 : decode bM43 0 = .ok (.new 45, 3) := by decide +kernel
theorem d43_3 : decode bM43 3 = .ok (.dup, 1) := by decide +kernel
theorem d43_4 : decode bM43 4 = .ok (.aload_n 0, 1) := by decide +kernel
theorem d43_5 : decode bM43 5 = .ok (.invokevirtual 47, 3) := by decide +kernel
theorem d43_8 : decode bM43 8 = .ok (.aload_n 0, 1) := by decide +kernel
theorem d43_9 : decode bM43 9 = .ok (.getfield 16, 3) := by decide +kernel
theorem d43_12 : decode bM43 12 = .ok (.invokespecial 51, 3) := by decide +kernel
theorem d43_15 : decode bM43 15 = .ok (.astore_n 1, 1) := by decide +kernel
theorem d43_16 : decode bM43 16 = .ok (.aload_n 1, 1) := by decide +kernel
theorem d43_17 : decode bM43 17 = .ok (.invokevirtual 54, 3) := by decide +kernel
theorem d43_20 : decode bM43 20 = .ok (.pop, 1) := by decide +kernel
theorem d43_21 : decode bM43 21 = .ok (.aload_n 1, 1) := by decide +kernel
theorem d43_22 : decode bM43 22 = .ok (.invokevirtual 58, 3) := by decide +kernel
theorem d43_25 : decode bM43 25 = .ok (.ifCond .eq 10, 3) := by decide +kernel
theorem d43_28 : decode bM43 28 = .ok (.iconst (-1), 1) := by decide +kernel
theorem d43_29 : decode bM43 29 = .ok (.aload_n 1, 1) := by decide +kernel
theorem d43_30 : decode bM43 30 = .ok (.getfield 61, 3) := by decide +kernel
theorem d43_33 : decode bM43 33 = .ok (.isub, 1) := by decide +kernel
theorem d43_34 : decode bM43 34 = .ok (.ireturn, 1) := by decide +kernel
theorem d44_0 : decode bM44 0 = .ok (.aload_n 0, 1) := by decide +kernel
theorem d44_1 : decode bM44 1 = .ok (.invokevirtual 47, 3) := by decide +kernel
theorem d44_4 : decode bM44 4 = .ok (.astore_n 3, 1) := by decide +kernel
theorem d44_5 : decode bM44 5 = .ok (.aload_n 0, 1) := by decide +kernel
theorem d44_6 : decode bM44 6 = .ok (.getfield 22, 3) := by decide +kernel
theorem d44_9 : decode bM44 9 = .ok (.iload_n 1, 1) := by decide +kernel
theorem d44_10 : decode bM44 10 = .ok (.invokevirtual 90, 3) := by decide +kernel
theorem d44_13 : decode bM44 13 = .ok (.astore 4, 2) := by decide +kernel
theorem d44_15 : decode bM44 15 = .ok (.aload 4, 2) := by decide +kernel
theorem d44_17 : decode bM44 17 = .ok (.ifnonnull 7, 3) := by decide +kernel
theorem d44_20 : decode bM44 20 = .ok (.sipush (-1000), 3) := by decide +kernel
theorem d44_23 : decode bM44 23 = .ok (.ireturn, 1) := by decide +kernel
theorem d45_0 : decode bM45 0 = .ok (.aload_n 0, 1) := by decide +kernel
theorem d45_1 : decode bM45 1 = .ok (.getfield 22, 3) := by decide +kernel
theorem d45_4 : decode bM45 4 = .ok (.iload_n 1, 1) := by decide +kernel
theorem d45_5 : decode bM45 5 = .ok (.invokevirtual 90, 3) := by decide +kernel
theorem d45_8 : decode bM45 8 = .ok (.astore_n 2, 1) := by decide +kernel
theorem d45_9 : decode bM45 9 = .ok (.aload_n 2, 1) := by decide +kernel
theorem d45_10 : decode bM45 10 = .ok (.ifnonnull 7, 3) := by decide +kernel
theorem d45_13 : decode bM45 13 = .ok (.sipush (-1000), 3) := by decide +kernel
theorem d45_16 : decode bM45 16 = .ok (.ireturn, 1) := by decide +kernel
theorem d46_0 : decode bM46 0 = .ok (.aload_n 0, 1) := by decide +kernel
theorem d46_1 : decode bM46 1 = .ok (.invokevirtual 47, 3) := by decide +kernel
theorem d46_4 : decode bM46 4 = .ok (.astore_n 2, 1) := by decide +kernel
theorem d46_5 : decode bM46 5 = .ok (.aload_n 0, 1) := by decide +kernel
theorem d46_6 : decode bM46 6 = .ok (.getfield 22, 3) := by decide +kernel
theorem d46_9 : decode bM46 9 = .ok (.iload_n 1, 1) := by decide +kernel
theorem d46_10 : decode bM46 10 = .ok (.invokevirtual 90, 3) := by decide +kernel
theorem d46_13 : decode bM46 13 = .ok (.astore_n 3, 1) := by decide +kernel
theorem d46_14 : decode bM46 14 = .ok (.aload_n 3, 1) := by decide +kernel
theorem d46_15 : decode bM46 15 = .ok (.ifnull 14, 3) := by decide +kernel
theorem d46_29 : decode bM46 29 = .ok (.iconst 0, 1) := by decide +kernel
theorem d46_30 : decode bM46 30 = .ok (.ireturn, 1) := by decide +kernel
theorem d47_0 : decode bM47 0 = .ok (.aload_n 0, 1) := by decide +kernel
theorem d47_1 : decode bM47 1 = .ok (.invokevirtual 47, 3) := by decide +kernel
theorem d47_4 : decode bM47 4 = .ok (.astore_n 2, 1) := by decide +kernel
theorem d47_5 : decode bM47 5 = .ok (.aload_n 0, 1) := by decide +kernel
theorem d47_6 : decode bM47 6 = .ok (.getfield 22, 3) := by decide +kernel
theorem d47_9 : decode bM47 9 = .ok (.iload_n 1, 1) := by decide +kernel
theorem d47_10 : decode bM47 10 = .ok (.invokevirtual 90, 3) := by decide +kernel
theorem d47_13 : decode bM47 13 = .ok (.astore_n 3, 1) := by decide +kernel
theorem d47_14 : decode bM47 14 = .ok (.aload_n 3, 1) := by decide +kernel
theorem d47_15 : decode bM47 15 = .ok (.ifnonnull 7, 3) := by decide +kernel
theorem d47_18 : decode bM47 18 = .ok (.sipush (-1000), 3) := by decide +kernel
theorem d47_21 : decode bM47 21 = .ok (.ireturn, 1) := by decide +kernel
theorem d48_0 : decode bM48 0 = .ok (.iload_n 1, 1) := by decide +kernel
theorem d48_1 : decode bM48 1 = .ok (.ifCond .lt 20, 3) := by decide +kernel
theorem d48_4 : decode bM48 4 = .ok (.iload_n 1, 1) := by decide +kernel
theorem d48_5 : decode bM48 5 = .ok (.aload_n 0, 1) := by decide +kernel
theorem d48_6 : decode bM48 6 = .ok (.getfield 30, 3) := by decide +kernel
theorem d48_9 : decode bM48 9 = .ok (.if_icmp .ge 12, 3) := by decide +kernel
theorem d48_21 : decode bM48 21 = .ok (.sipush (-1000), 3) := by decide +kernel
theorem d48_24 : decode bM48 24 = .ok (.ireturn, 1) := by decide +kernel
theorem d49_0 : decode bM49 0 = .ok (.aload_n 0, 1) := by decide +kernel
theorem d49_1 : decode bM49 1 = .ok (.getfield 34, 3) := by decide +kernel
theorem d49_4 : decode bM49 4 = .ok (.istore_n 1, 1) := by decide +kernel
theorem d49_5 : decode bM49 5 = .ok (.aload_n 0, 1) := by decide +kernel
theorem d49_6 : decode bM49 6 = .ok (.invokevirtual 87, 3) := by decide +kernel
theorem d49_9 : decode bM49 9 = .ok (.iload_n 1, 1) := by decide +kernel
theorem d49_10 : decode bM49 10 = .ok (.ireturn, 1) := by decide +kernel
theorem d50_0 : decode bM50 0 = .ok (.aload_n 0, 1) := by decide +kernel
theorem d50_1 : decode bM50 1 = .ok (.getfield 34, 3) := by decide +kernel
theorem d50_4 : decode bM50 4 = .ok (.istore_n 1, 1) := by decide +kernel
theorem d50_5 : decode bM50 5 = .ok (.aload_n 0, 1) := by decide +kernel
theorem d50_6 : decode bM50 6 = .ok (.getfield 10, 3) := by decide +kernel
theorem d50_9 : decode bM50 9 = .ok (.iconst 0, 1) := by decide +kernel
theorem d50_10 : decode bM50 10 = .ok (.invokevirtual 190, 3) := by decide +kernel
theorem d50_13 : decode bM50 13 = .ok (.aload_n 0, 1) := by decide +kernel
theorem d50_14 : decode bM50 14 = .ok (.getfield 22, 3) := by decide +kernel
theorem d50_17 : decode bM50 17 = .ok (.invokevirtual 194, 3) := by decide +kernel
theorem d50_20 : decode bM50 20 = .ok (.aload_n 0, 1) := by decide +kernel
theorem d50_21 : decode bM50 21 = .ok (.invokevirtual 87, 3) := by decide +kernel
theorem d50_24 : decode bM50 24 = .ok (.iload_n 1, 1) := by decide +kernel
theorem d50_25 : decode bM50 25 = .ok (.ireturn, 1) := by decide +kernel
theorem d51_0 : decode bM51 0 = .ok (.aload_n 0, 1) := by decide +kernel
theorem d51_1 : decode bM51 1 = .ok (.getfield 22, 3) := by decide +kernel
theorem d51_4 : decode bM51 4 = .ok (.iload_n 1, 1) := by decide +kernel
theorem d51_5 : decode bM51 5 = .ok (.invokevirtual 90, 3) := by decide +kernel
theorem d51_8 : decode bM51 8 = .ok (.astore_n 2, 1) := by decide +kernel
theorem d51_9 : decode bM51 9 = .ok (.aload_n 2, 1) := by decide +kernel
theorem d51_10 : decode bM51 10 = .ok (.ifnonnull 9, 3) := by decide +kernel
theorem d51_13 : decode bM51 13 = .ok (.sipush (-1000), 3) := by decide +kernel
theorem d51_16 : decode bM51 16 = .ok (.goto 7, 3) := by decide +kernel
theorem d51_23 : decode bM51 23 = .ok (.ireturn, 1) := by decide +kernel
theorem d52_0 : decode bM52 0 = .ok (.aload_n 0, 1) := by decide +kernel
theorem d52_1 : decode bM52 1 = .ok (.getfield 22, 3) := by decide +kernel
theorem d52_4 : decode bM52 4 = .ok (.iload_n 1, 1) := by decide +kernel
theorem d52_5 : decode bM52 5 = .ok (.invokevirtual 90, 3) := by decide +kernel
theorem d52_8 : decode bM52 8 = .ok (.astore_n 3, 1) := by decide +kernel
theorem d52_9 : decode bM52 9 = .ok (.aload_n 3, 1) := by decide +kernel
theorem d52_10 : decode bM52 10 = .ok (.ifnonnull 7, 3) := by decide +kernel
theorem d52_13 : decode bM52 13 = .ok (.sipush (-1000), 3) := by decide +kernel
theorem d52_16 : decode bM52 16 = .ok (.ireturn, 1) := by decide +kernel
theorem d53_0 : decode bM53 0 = .ok (.aload_n 0, 1) := by decide +kernel
theorem d53_1 : decode bM53 1 = .ok (.getfield 22, 3) := by decide +kernel
theorem d53_4 : decode bM53 4 = .ok (.iload_n 1, 1) := by decide +kernel
theorem d53_5 : decode bM53 5 = .ok (.invokevirtual 90, 3) := by decide +kernel
theorem d53_8 : decode bM53 8 = .ok (.astore_n 3, 1) := by decide +kernel
theorem d53_9 : decode bM53 9 = .ok (.aload_n 3, 1) := by decide +kernel
theorem d53_10 : decode bM53 10 = .ok (.ifnull 18, 3) := by decide +kernel
theorem d53_28 : decode bM53 28 = .ok (.iconst 0, 1) := by decide +kernel
theorem d53_29 : decode bM53 29 = .ok (.goto 11, 3) := by decide +kernel
theorem d53_40 : decode bM53 40 = .ok (.ireturn, 1) := by decide +kernel
theorem d54_0 : decode bM54 0 = .ok (.aload_n 0, 1) := by decide +kernel
theorem d54_1 : decode bM54 1 = .ok (.getfield 22, 3) := by decide +kernel
theorem d54_4 : decode bM54 4 = .ok (.iload_n 1, 1) := by decide +kernel
theorem d54_5 : decode bM54 5 = .ok (.invokevirtual 90, 3) := by decide +kernel
theorem d54_8 : decode bM54 8 = .ok (.astore_n 3, 1) := by decide +kernel
theorem d54_9 : decode bM54 9 = .ok (.aload_n 3, 1) := by decide +kernel
theorem d54_10 : decode bM54 10 = .ok (.ifnull 16, 3) := by decide +kernel
theorem d54_26 : decode bM54 26 = .ok (.iconst 0, 1) := by decide +kernel
theorem d54_27 : decode bM54 27 = .ok (.goto 9, 3) := by decide +kernel
theorem d54_36 : decode bM54 36 = .ok (.ireturn, 1) := by decide +kernel
theorem d55_0 : decode bM55 0 = .ok (.aload_n 0, 1) := by decide +kernel
theorem d55_1 : decode bM55 1 = .ok (.getfield 22, 3) := by decide +kernel
theorem d55_4 : decode bM55 4 = .ok (.getfield 200, 3) := by decide +kernel
theorem d55_7 : decode bM55 7 = .ok (.ifCond .ne 9, 3) := by decide +kernel
theorem d55_10 : decode bM55 10 = .ok (.sipush (-1000), 3) := by decide +kernel
theorem d55_13 : decode bM55 13 = .ok (.goto 15, 3) := by decide +kernel
theorem d55_28 : decode bM55 28 = .ok (.ireturn, 1) := by decide +kernel
theorem d56_0 : decode bM56 0 = .ok (.aload_n 0, 1) := by decide +kernel
theorem d56_1 : decode bM56 1 = .ok (.getfield 22, 3) := by decide +kernel
theorem d56_4 : decode bM56 4 = .ok (.getfield 200, 3) := by decide +kernel
theorem d56_7 : decode bM56 7 = .ok (.ireturn, 1) := by decide +kernel
theorem d57_0 : decode bM57 0 = .ok (.new 220, 3) := by decide +kernel
theorem d57_3 : decode bM57 3 = .ok (.dup, 1) := by decide +kernel
theorem d57_4 : decode bM57 4 = .ok (.iconst (-1), 1) := by decide +kernel
theorem d57_5 : decode bM57 5 = .ok (.invokespecial 222, 3) := by decide +kernel
theorem d57_8 : decode bM57 8 = .ok (.astore_n 1, 1) := by decide +kernel
theorem d57_9 : decode bM57 9 = .ok (.aload_n 1, 1) := by decide +kernel
theorem d57_10 : decode bM57 10 = .ok (.aload_n 0, 1) := by decide +kernel
theorem d57_11 : decode bM57 11 = .ok (.getfield 22, 3) := by decide +kernel
theorem d57_14 : decode bM57 14 = .ok (.invokevirtual 224, 3) := by decide +kernel
theorem d57_17 : decode bM57 17 = .ok (.aload_n 1, 1) := by decide +kernel
theorem d57_18 : decode bM57 18 = .ok (.getfield 227, 3) := by decide +kernel
theorem d57_21 : decode bM57 21 = .ok (.ireturn, 1) := by decide +kernel
theorem d58_0 : decode bM58 0 = .ok (.new 220, 3) := by decide +kernel
theorem d58_3 : decode bM58 3 = .ok (.dup, 1) := by decide +kernel
theorem d58_4 : decode bM58 4 = .ok (.iload_n 1, 1) := by decide +kernel
theorem d58_5 : decode bM58 5 = .ok (.invokespecial 222, 3) := by decide +kernel
theorem d58_8 : decode bM58 8 = .ok (.astore_n 2, 1) := by decide +kernel
theorem d58_9 : decode bM58 9 = .ok (.aload_n 2, 1) := by decide +kernel
theorem d58_10 : decode bM58 10 = .ok (.aload_n 0, 1) := by decide +kernel
theorem d58_11 : decode bM58 11 = .ok (.getfield 22, 3) := by decide +kernel
theorem d58_14 : decode bM58 14 = .ok (.invokevirtual 224, 3) := by decide +kernel
theorem d58_17 : decode bM58 17 = .ok (.aload_n 2, 1) := by decide +kernel
theorem d58_18 : decode bM58 18 = .ok (.getfield 230, 3) := by decide +kernel
theorem d58_21 : decode bM58 21 = .ok (.ireturn, 1) := by decide +kernel
theorem d59_0 : decode bM59 0 = .ok (.aload_n 0, 1) := by decide +kernel
theorem d59_1 : decode bM59 1 = .ok (.invokespecial 1, 3) := by decide +kernel
theorem d59_4 : decode bM59 4 = .ok (.aload_n 0, 1) := by decide +kernel
theorem d59_5 : decode bM59 5 = .ok (.sipush 5161, 3) := by decide +kernel
theorem d59_8 : decode bM59 8 = .ok (.newarray .int, 2) := by decide +kernel
theorem d59_10 : decode bM59 10 = .ok (.putfield 7, 3) := by decide +kernel
theorem d59_13 : decode bM59 13 = .ok (.aload_n 0, 1) := by decide +kernel
theorem d59_14 : decode bM59 14 = .ok (.sipush 5161, 3) := by decide +kernel
theorem d59_17 : decode bM59 17 = .ok (.newarray .int, 2) := by decide +kernel
theorem d59_19 : decode bM59 19 = .ok (.putfield 13, 3) := by decide +kernel
theorem d59_22 : decode bM59 22 = .ok (.aload_n 0, 1) := by decide +kernel
theorem d59_23 : decode bM59 23 = .ok (.sipush 5120, 3) := by decide +kernel
theorem d59_26 : decode bM59 26 = .ok (.newarray .int, 2) := by decide +kernel
theorem d59_28 : decode bM59 28 = .ok (.putfield 16, 3) := by decide +kernel
theorem d59_31 : decode bM59 31 = .ok (.aload_n 0, 1) := by decide +kernel
theorem d59_32 : decode bM59 32 = .ok (.bipush 40, 2) := by decide +kernel
theorem d59_34 : decode bM59 34 = .ok (.newarray .int, 2) := by decide +kernel
theorem d59_36 : decode bM59 36 = .ok (.putfield 19, 3) := by decide +kernel
theorem d59_39 : decode bM59 39 = .ok (.aload_n 0, 1) := by decide +kernel
theorem d59_40 : decode bM59 40 = .ok (.bipush 120, 2) := by decide +kernel
theorem d59_42 : decode bM59 42 = .ok (.newarray .char, 2) := by decide +kernel
theorem d59_44 : decode bM59 44 = .ok (.putfield 22, 3) := by decide +kernel
theorem d59_47 : decode bM59 47 = .ok (.aload_n 0, 1) := by decide +kernel
theorem d59_48 : decode bM59 48 = .ok (.bipush 8, 2) := by decide +kernel
theorem d59_50 : decode bM59 50 = .ok (.newarray .int, 2) := by decide +kernel
theorem d59_52 : decode bM59 52 = .ok (.putfield 26, 3) := by decide +kernel
theorem d59_55 : decode bM59 55 = .ok (.aload_n 0, 1) := by decide +kernel
theorem d59_56 : decode bM59 56 = .ok (.bipush 8, 2) := by decide +kernel
theorem d59_58 : decode bM59 58 = .ok (.newarray .int, 2) := by decide +kernel
theorem d59_60 : decode bM59 60 = .ok (.putfield 29, 3) := by decide +kernel
theorem d59_63 : decode bM59 63 = .ok (.aload_n 0, 1) := by decide +kernel
theorem d59_64 : decode bM59 64 = .ok (.bipush 8, 2) := by decide +kernel
theorem d59_66 : decode bM59 66 = .ok (.newarray .int, 2) := by decide +kernel
theorem d59_68 : decode bM59 68 = .ok (.putfield 32, 3) := by decide +kernel
theorem d59_71 : decode bM59 71 = .ok (.aload_n 0, 1) := by decide +kernel
theorem d59_72 : decode bM59 72 = .ok (.bipush 30, 2) := by decide +kernel
theorem d59_74 : decode bM59 74 = .ok (.newarray .int, 2) := by decide +kernel
theorem d59_76 : decode bM59 76 = .ok (.putfield 35, 3) := by decide +kernel
theorem d59_79 : decode bM59 79 = .ok (.aload_n 0, 1) := by decide +kernel
theorem d59_80 : decode bM59 80 = .ok (.bipush 30, 2) := by decide +kernel
theorem d59_82 : decode bM59 82 = .ok (.newarray .int, 2) := by decide +kernel
theorem d59_84 : decode bM59 84 = .ok (.putfield 38, 3) := by decide +kernel
theorem d59_87 : decode bM59 87 = .ok (.aload_n 0, 1) := by decide +kernel
theorem d59_88 : decode bM59 88 = .ok (.bipush 40, 2) := by decide +kernel
theorem d59_90 : decode bM59 90 = .ok (.newarray .int, 2) := by decide +kernel
theorem d59_92 : decode bM59 92 = .ok (.putfield 41, 3) := by decide +kernel
theorem d59_95 : decode bM59 95 = .ok (.aload_n 0, 1) := by decide +kernel
theorem d59_96 : decode bM59 96 = .ok (.sipush 130, 3) := by decide +kernel
theorem d59_99 : decode bM59 99 = .ok (.newarray .int, 2) := by decide +kernel
theorem d59_101 : decode bM59 101 = .ok (.putfield 44, 3) := by decide +kernel
theorem d59_104 : decode bM59 104 = .ok (.aload_n 0, 1) := by decide +kernel
theorem d59_105 : decode bM59 105 = .ok (.sipush 130, 3) := by decide +kernel
theorem d59_108 : decode bM59 108 = .ok (.newarray .int, 2) := by decide +kernel
theorem d59_110 : decode bM59 110 = .ok (.putfield 47, 3) := by decide +kernel
theorem d59_113 : decode bM59 113 = .ok (.aload_n 0, 1) := by decide +kernel
theorem d59_114 : decode bM59 114 = .ok (.sipush 130, 3) := by decide +kernel
theorem d59_117 : decode bM59 117 = .ok (.newarray .int, 2) := by decide +kernel
theorem d59_119 : decode bM59 119 = .ok (.putfield 50, 3) := by decide +kernel
theorem d59_122 : decode bM59 122 = .ok (.aload_n 0, 1) := by decide +kernel
theorem d59_123 : decode bM59 123 = .ok (.sipush 130, 3) := by decide +kernel
theorem d59_126 : decode bM59 126 = .ok (.newarray .int, 2) := by decide +kernel
theorem d59_128 : decode bM59 128 = .ok (.putfield 53, 3) := by decide +kernel
theorem d59_131 : decode bM59 131 = .ok (.aload_n 0, 1) := by decide +kernel
theorem d59_132 : decode bM59 132 = .ok (.sipush 130, 3) := by decide +kernel
theorem d59_135 : decode bM59 135 = .ok (.newarray .int, 2) := by decide +kernel
theorem d59_137 : decode bM59 137 = .ok (.putfield 56, 3) := by decide +kernel
theorem d59_140 : decode bM59 140 = .ok (.aload_n 0, 1) := by decide +kernel
theorem d59_141 : decode bM59 141 = .ok (.sipush 130, 3) := by decide +kernel
theorem d59_144 : decode bM59 144 = .ok (.newarray .int, 2) := by decide +kernel
theorem d59_146 : decode bM59 146 = .ok (.putfield 59, 3) := by decide +kernel
theorem d59_149 : decode bM59 149 = .ok (.aload_n 0, 1) := by decide +kernel
theorem d59_150 : decode bM59 150 = .ok (.bipush 65, 2) := by decide +kernel
theorem d59_152 : decode bM59 152 = .ok (.newarray .int, 2) := by decide +kernel
theorem d59_154 : decode bM59 154 = .ok (.putfield 62, 3) := by decide +kernel
theorem d59_157 : decode bM59 157 = .ok (.aload_n 0, 1) := by decide +kernel
theorem d59_158 : decode bM59 158 = .ok (.bipush 65, 2) := by decide +kernel
theorem d59_160 : decode bM59 160 = .ok (.newarray .int, 2) := by decide +kernel
theorem d59_162 : decode bM59 162 = .ok (.putfield 65, 3) := by decide +kernel
theorem d59_165 : decode bM59 165 = .ok (.aload_n 0, 1) := by decide +kernel
theorem d59_166 : decode bM59 166 = .ok (.bipush 65, 2) := by decide +kernel
theorem d59_168 : decode bM59 168 = .ok (.newarray .int, 2) := by decide +kernel
theorem d59_170 : decode bM59 170 = .ok (.putfield 68, 3) := by decide +kernel
theorem d59_173 : decode bM59 173 = .ok (.aload_n 0, 1) := by decide +kernel
theorem d59_174 : decode bM59 174 = .ok (.bipush 65, 2) := by decide +kernel
theorem d59_176 : decode bM59 176 = .ok (.newarray .int, 2) := by decide +kernel
theorem d59_178 : decode bM59 178 = .ok (.putfield 71, 3) := by decide +kernel
theorem d59_181 : decode bM59 181 = .ok (.aload_n 0, 1) := by decide +kernel
theorem d59_182 : decode bM59 182 = .ok (.bipush 65, 2) := by decide +kernel
theorem d59_184 : decode bM59 184 = .ok (.newarray .int, 2) := by decide +kernel
theorem d59_186 : decode bM59 186 = .ok (.putfield 74, 3) := by decide +kernel
theorem d59_189 : decode bM59 189 = .ok (.aload_n 0, 1) := by decide +kernel
theorem d59_190 : decode bM59 190 = .ok (.bipush 65, 2) := by decide +kernel
theorem d59_192 : decode bM59 192 = .ok (.newarray .int, 2) := by decide +kernel
theorem d59_194 : decode bM59 194 = .ok (.putfield 77, 3) := by decide +kernel
theorem d59_197 : decode bM59 197 = .ok (.aload_n 0, 1) := by decide +kernel
theorem d59_198 : decode bM59 198 = .ok (.bipush 65, 2) := by decide +kernel
theorem d59_200 : decode bM59 200 = .ok (.newarray .int, 2) := by decide +kernel
theorem d59_202 : decode bM59 202 = .ok (.putfield 80, 3) := by decide +kernel
theorem d59_205 : decode bM59 205 = .ok (.aload_n 0, 1) := by decide +kernel
theorem d59_206 : decode bM59 206 = .ok (.bipush 65, 2) := by decide +kernel
theorem d59_208 : decode bM59 208 = .ok (.newarray .int, 2) := by decide +kernel
theorem d59_210 : decode bM59 210 = .ok (.putfield 83, 3) := by decide +kernel
theorem d59_213 : decode bM59 213 = .ok (.aload_n 0, 1) := by decide +kernel
theorem d59_214 : decode bM59 214 = .ok (.bipush 65, 2) := by decide +kernel
theorem d59_216 : decode bM59 216 = .ok (.newarray .boolean, 2) := by decide +kernel
theorem d59_218 : decode bM59 218 = .ok (.putfield 86, 3) := by decide +kernel
theorem d59_221 : decode bM59 221 = .ok (.aload_n 0, 1) := by decide +kernel
theorem d59_222 : decode bM59 222 = .ok (.bipush 65, 2) := by decide +kernel
theorem d59_224 : decode bM59 224 = .ok (.newarray .boolean, 2) := by decide +kernel
theorem d59_226 : decode bM59 226 = .ok (.putfield 90, 3) := by decide +kernel
theorem d59_229 : decode bM59 229 = .ok (.aload_n 0, 1) := by decide +kernel
theorem d59_230 : decode bM59 230 = .ok (.bipush 65, 2) := by decide +kernel
theorem d59_232 : decode bM59 232 = .ok (.newarray .long, 2) := by decide +kernel
theorem d59_234 : decode bM59 234 = .ok (.putfield 93, 3) := by decide +kernel
theorem d59_237 : decode bM59 237 = .ok (.aload_n 0, 1) := by decide +kernel
theorem d59_238 : decode bM59 238 = .ok (.bipush 65, 2) := by decide +kernel
theorem d59_240 : decode bM59 240 = .ok (.newarray .int, 2) := by decide +kernel
theorem d59_242 : decode bM59 242 = .ok (.putfield 97, 3) := by decide +kernel
theorem d59_245 : decode bM59 245 = .ok (.aload_n 0, 1) := by decide +kernel
theorem d59_246 : decode bM59 246 = .ok (.iconst 5, 1) := by decide +kernel
theorem d59_247 : decode bM59 247 = .ok (.newarray .int, 2) := by decide +kernel
theorem d59_249 : decode bM59 249 = .ok (.putfield 100, 3) := by decide +kernel
theorem d59_252 : decode bM59 252 = .ok (.aload_n 0, 1) := by decide +kernel
theorem d59_253 : decode bM59 253 = .ok (.iconst 5, 1) := by decide +kernel
theorem d59_254 : decode bM59 254 = .ok (.newarray .int, 2) := by decide +kernel
theorem d59_256 : decode bM59 256 = .ok (.putfield 103, 3) := by decide +kernel
theorem d59_259 : decode bM59 259 = .ok (.aload_n 0, 1) := by decide +kernel
theorem d59_260 : decode bM59 260 = .ok (.iconst 5, 1) := by decide +kernel
theorem d59_261 : decode bM59 261 = .ok (.newarray .int, 2) := by decide +kernel
theorem d59_263 : decode bM59 263 = .ok (.putfield 106, 3) := by decide +kernel
theorem d59_266 : decode bM59 266 = .ok (.aload_n 0, 1) := by decide +kernel
theorem d59_267 : decode bM59 267 = .ok (.bipush 41, 2) := by decide +kernel
theorem d59_269 : decode bM59 269 = .ok (.newarray .int, 2) := by decide +kernel
theorem d59_271 : decode bM59 271 = .ok (.putfield 109, 3) := by decide +kernel
theorem d59_274 : decode bM59 274 = .ok (.aload_n 0, 1) := by decide +kernel
theorem d59_275 : decode bM59 275 = .ok (.bipush 40, 2) := by decide +kernel
theorem d59_277 : decode bM59 277 = .ok (.newarray .int, 2) := by decide +kernel
theorem d59_279 : decode bM59 279 = .ok (.putfield 112, 3) := by decide +kernel
theorem d59_282 : decode bM59 282 = .ok (.return_, 1) := by decide +kernel
theorem d60_0 : decode bM60 0 = .ok (.aload_n 0, 1) := by decide +kernel
theorem d60_1 : decode bM60 1 = .ok (.getfield 7, 3) := by decide +kernel
theorem d60_4 : decode bM60 4 = .ok (.sipush 5160, 3) := by decide +kernel
theorem d60_7 : decode bM60 7 = .ok (.iaload, 1) := by decide +kernel
theorem d60_8 : decode bM60 8 = .ok (.ireturn, 1) := by decide +kernel
theorem d61_0 : decode bM61 0 = .ok (.iconst 0, 1) := by decide +kernel
theorem d61_1 : decode bM61 1 = .ok (.istore_n 2, 1) := by decide +kernel
theorem d61_2 : decode bM61 2 = .ok (.iload_n 2, 1) := by decide +kernel
theorem d61_3 : decode bM61 3 = .ok (.aload_n 0, 1) := by decide +kernel
theorem d61_4 : decode bM61 4 = .ok (.invokevirtual 115, 3) := by decide +kernel
theorem d61_7 : decode bM61 7 = .ok (.if_icmp .ge 31, 3) := by decide +kernel
theorem d61_38 : decode bM61 38 = .ok (.iconst (-1), 1) := by decide +kernel
theorem d61_39 : decode bM61 39 = .ok (.ireturn, 1) := by decide +kernel
theorem d62_0 : decode bM62 0 = .ok (.iload_n 1, 1) := by decide +kernel
theorem d62_1 : decode bM62 1 = .ok (.bipush 32, 2) := by decide +kernel
theorem d62_3 : decode bM62 3 = .ok (.if_icmp .lt 18, 3) := by decide +kernel
theorem d62_6 : decode bM62 6 = .ok (.iload_n 1, 1) := by decide +kernel
theorem d62_7 : decode bM62 7 = .ok (.bipush 126, 2) := by decide +kernel
theorem d62_9 : decode bM62 9 = .ok (.if_icmp .gt 12, 3) := by decide +kernel
theorem d62_12 : decode bM62 12 = .ok (.aload_n 0, 1) := by decide +kernel
theorem d62_13 : decode bM62 13 = .ok (.getfield 133, 3) := by decide +kernel
theorem d62_16 : decode bM62 16 = .ok (.bipush 120, 2) := by decide +kernel
theorem d62_18 : decode bM62 18 = .ok (.if_icmp .lt 5, 3) := by decide +kernel
theorem d62_21 : decode bM62 21 = .ok (.iconst 0, 1) := by decide +kernel
theorem d62_22 : decode bM62 22 = .ok (.ireturn, 1) := by decide +kernel
theorem d62_23 : decode bM62 23 = .ok (.aload_n 0, 1) := by decide +kernel
theorem d62_24 : decode bM62 24 = .ok (.getfield 22, 3) := by decide +kernel
theorem d62_27 : decode bM62 27 = .ok (.aload_n 0, 1) := by decide +kernel
theorem d62_28 : decode bM62 28 = .ok (.getfield 133, 3) := by decide +kernel
theorem d62_31 : decode bM62 31 = .ok (.iload_n 1, 1) := by decide +kernel
theorem d62_32 : decode bM62 32 = .ok (.castore, 1) := by decide +kernel
theorem d62_33 : decode bM62 33 = .ok (.aload_n 0, 1) := by decide +kernel
theorem d62_34 : decode bM62 34 = .ok (.dup, 1) := by decide +kernel
theorem d62_35 : decode bM62 35 = .ok (.getfield 133, 3) := by decide +kernel
theorem d62_38 : decode bM62 38 = .ok (.iconst 1, 1) := by decide +kernel
theorem d62_39 : decode bM62 39 = .ok (.iadd, 1) := by decide +kernel
theorem d62_40 : decode bM62 40 = .ok (.putfield 133, 3) := by decide +kernel
theorem d62_43 : decode bM62 43 = .ok (.iconst 1, 1) := by decide +kernel
theorem d62_44 : decode bM62 44 = .ok (.ireturn, 1) := by decide +kernel
theorem d63_0 : decode bM63 0 = .ok (.aload_n 0, 1) := by decide +kernel
theorem d63_1 : decode bM63 1 = .ok (.getfield 137, 3) := by decide +kernel
theorem d63_4 : decode bM63 4 = .ok (.ifCond .ge 23, 3) := by decide +kernel
theorem d63_7 : decode bM63 7 = .ok (.aload_n 0, 1) := by decide +kernel
theorem d63_8 : decode bM63 8 = .ok (.iload_n 1, 1) := by decide +kernel
theorem d63_9 : decode bM63 9 = .ok (.aload_n 0, 1) := by decide +kernel
theorem d63_10 : decode bM63 10 = .ok (.getfield 133, 3) := by decide +kernel
theorem d63_13 : decode bM63 13 = .ok (.if_icmp .ge 7, 3) := by decide +kernel
theorem d63_20 : decode bM63 20 = .ok (.aload_n 0, 1) := by decide +kernel
theorem d63_21 : decode bM63 21 = .ok (.getfield 133, 3) := by decide +kernel
theorem d63_24 : decode bM63 24 = .ok (.putfield 137, 3) := by decide +kernel
theorem d63_27 : decode bM63 27 = .ok (.return_, 1) := by decide +kernel
theorem d64_0 : decode bM64 0 = .ok (.aload_n 0, 1) := by decide +kernel
theorem d64_1 : decode bM64 1 = .ok (.iconst 0, 1) := by decide +kernel
theorem d64_2 : decode bM64 2 = .ok (.putfield 197, 3) := by decide +kernel
theorem d64_5 : decode bM64 5 = .ok (.aload_n 0, 1) := by decide +kernel
theorem d64_6 : decode bM64 6 = .ok (.iconst (-1), 1) := by decide +kernel
theorem d64_7 : decode bM64 7 = .ok (.putfield 137, 3) := by decide +kernel
theorem d64_10 : decode bM64 10 = .ok (.aload_n 0, 1) := by decide +kernel
theorem d64_11 : decode bM64 11 = .ok (.iconst 0, 1) := by decide +kernel
theorem d64_12 : decode bM64 12 = .ok (.putfield 152, 3) := by decide +kernel
theorem d64_15 : decode bM64 15 = .ok (.aload_n 0, 1) := by decide +kernel
theorem d64_16 : decode bM64 16 = .ok (.iconst 0, 1) := by decide +kernel
theorem d64_17 : decode bM64 17 = .ok (.putfield 161, 3) := by decide +kernel
theorem d64_20 : decode bM64 20 = .ok (.aload_n 0, 1) := by decide +kernel
theorem d64_21 : decode bM64 21 = .ok (.iconst (-1), 1) := by decide +kernel
theorem d64_22 : decode bM64 22 = .ok (.putfield 155, 3) := by decide +kernel
theorem d64_25 : decode bM64 25 = .ok (.aload_n 0, 1) := by decide +kernel
theorem d64_26 : decode bM64 26 = .ok (.iload_n 2, 1) := by decide +kernel
theorem d64_27 : decode bM64 27 = .ok (.putfield 204, 3) := by decide +kernel
theorem d64_30 : decode bM64 30 = .ok (.aload_n 0, 1) := by decide +kernel
theorem d64_31 : decode bM64 31 = .ok (.iconst 0, 1) := by decide +kernel
theorem d64_32 : decode bM64 32 = .ok (.putfield 158, 3) := by decide +kernel
theorem d64_35 : decode bM64 35 = .ok (.aload_n 0, 1) := by decide +kernel
theorem d64_36 : decode bM64 36 = .ok (.getfield 137, 3) := by decide +kernel
theorem d64_39 : decode bM64 39 = .ok (.ifCond .ge 207, 3) := by decide +kernel
theorem d64_42 : decode bM64 42 = .ok (.aload_n 0, 1) := by decide +kernel
theorem d64_43 : decode bM64 43 = .ok (.getfield 197, 3) := by decide +kernel
theorem d64_46 : decode bM64 46 = .ok (.aload_n 0, 1) := by decide +kernel
theorem d64_47 : decode bM64 47 = .ok (.getfield 133, 3) := by decide +kernel
theorem d64_50 : decode bM64 50 = .ok (.if_icmp .ge 196, 3) := by decide +kernel
theorem d64_246 : decode bM64 246 = .ok (.aload_n 0, 1) := by decide +kernel
theorem d64_247 : decode bM64 247 = .ok (.getfield 158, 3) := by decide +kernel
theorem d64_250 : decode bM64 250 = .ok (.ifCond .gt 10, 3) := by decide +kernel
theorem d64_253 : decode bM64 253 = .ok (.aload_n 0, 1) := by decide +kernel
theorem d64_254 : decode bM64 254 = .ok (.getfield 152, 3) := by decide +kernel
theorem d64_257 : decode bM64 257 = .ok (.ifCond .ne 11, 3) := by decide +kernel
theorem d64_260 : decode bM64 260 = .ok (.aload_n 0, 1) := by decide +kernel
theorem d64_261 : decode bM64 261 = .ok (.aload_n 0, 1) := by decide +kernel
theorem d64_262 : decode bM64 262 = .ok (.getfield 133, 3) := by decide +kernel
theorem d64_265 : decode bM64 265 = .ok (.invokevirtual 144, 3) := by decide +kernel
theorem d64_268 : decode bM64 268 = .ok (.return_, 1) := by decide +kernel
theorem d65_0 : decode bM65 0 = .ok (.aload_n 0, 1) := by decide +kernel
theorem d65_1 : decode bM65 1 = .ok (.iconst 1, 1) := by decide +kernel
theorem d65_2 : decode bM65 2 = .ok (.iconst 0, 1) := by decide +kernel
theorem d65_3 : decode bM65 3 = .ok (.invokevirtual 242, 3) := by decide +kernel
theorem d65_6 : decode bM65 6 = .ok (.aload_n 0, 1) := by decide +kernel
theorem d65_7 : decode bM65 7 = .ok (.getfield 137, 3) := by decide +kernel
theorem d65_10 : decode bM65 10 = .ok (.ifCond .lt 10, 3) := by decide +kernel
theorem d65_13 : decode bM65 13 = .ok (.iconst (-1), 1) := by decide +kernel
theorem d65_14 : decode bM65 14 = .ok (.aload_n 0, 1) := by decide +kernel
theorem d65_15 : decode bM65 15 = .ok (.getfield 137, 3) := by decide +kernel
theorem d65_18 : decode bM65 18 = .ok (.isub, 1) := by decide +kernel
theorem d65_19 : decode bM65 19 = .ok (.ireturn, 1) := by decide +kernel
theorem d66_0 : decode bM66 0 = .ok (.aload_n 0, 1) := by decide +kernel
theorem d66_1 : decode bM66 1 = .ok (.invokevirtual 253, 3) := by decide +kernel
theorem d66_4 : decode bM66 4 = .ok (.istore_n 1, 1) := by decide +kernel
theorem d66_5 : decode bM66 5 = .ok (.aload_n 0, 1) := by decide +kernel
theorem d66_6 : decode bM66 6 = .ok (.iconst 0, 1) := by decide +kernel
theorem d66_7 : decode bM66 7 = .ok (.putfield 133, 3) := by decide +kernel
theorem d66_10 : decode bM66 10 = .ok (.iload_n 1, 1) := by decide +kernel
theorem d66_11 : decode bM66 11 = .ok (.ireturn, 1) := by decide +kernel
theorem d67_0 : decode bM67 0 = .ok (.aload_n 0, 1) := by decide +kernel
theorem d67_1 : decode bM67 1 = .ok (.iload_n 1, 1) := by decide +kernel
theorem d67_2 : decode bM67 2 = .ok (.invokevirtual 275, 3) := by decide +kernel
theorem d67_5 : decode bM67 5 = .ok (.istore_n 3, 1) := by decide +kernel
theorem d67_6 : decode bM67 6 = .ok (.iload_n 3, 1) := by decide +kernel
theorem d67_7 : decode bM67 7 = .ok (.ifCond .ge 9, 3) := by decide +kernel
theorem d67_10 : decode bM67 10 = .ok (.sipush (-1000), 3) := by decide +kernel
theorem d67_13 : decode bM67 13 = .ok (.goto 9, 3) := by decide +kernel
theorem d67_22 : decode bM67 22 = .ok (.istore 4, 2) := by decide +kernel
theorem d67_24 : decode bM67 24 = .ok (.aload_n 0, 1) := by decide +kernel
theorem d67_25 : decode bM67 25 = .ok (.iconst 0, 1) := by decide +kernel
theorem d67_26 : decode bM67 26 = .ok (.putfield 133, 3) := by decide +kernel
theorem d67_29 : decode bM67 29 = .ok (.iload 4, 2) := by decide +kernel
theorem d67_31 : decode bM67 31 = .ok (.ireturn, 1) := by decide +kernel
theorem d68_0 : decode bM68 0 = .ok (.aload_n 0, 1) := by decide +kernel
theorem d68_1 : decode bM68 1 = .ok (.iload_n 1, 1) := by decide +kernel
theorem d68_2 : decode bM68 2 = .ok (.invokevirtual 275, 3) := by decide +kernel
theorem d68_5 : decode bM68 5 = .ok (.istore_n 2, 1) := by decide +kernel
theorem d68_6 : decode bM68 6 = .ok (.iload_n 2, 1) := by decide +kernel
theorem d68_7 : decode bM68 7 = .ok (.ifCond .lt 12, 3) := by decide +kernel
theorem d68_19 : decode bM68 19 = .ok (.iload_n 2, 1) := by decide +kernel
theorem d68_20 : decode bM68 20 = .ok (.ifCond .ge 9, 3) := by decide +kernel
theorem d68_23 : decode bM68 23 = .ok (.sipush (-1000), 3) := by decide +kernel
theorem d68_26 : decode bM68 26 = .ok (.goto 6, 3) := by decide +kernel
theorem d68_32 : decode bM68 32 = .ok (.ireturn, 1) := by decide +kernel
theorem d69_0 : decode bM69 0 = .ok (.aload_n 0, 1) := by decide +kernel
theorem d69_1 : decode bM69 1 = .ok (.iload_n 1, 1) := by decide +kernel
theorem d69_2 : decode bM69 2 = .ok (.invokevirtual 275, 3) := by decide +kernel
theorem d69_5 : decode bM69 5 = .ok (.istore_n 2, 1) := by decide +kernel
theorem d69_6 : decode bM69 6 = .ok (.iload_n 2, 1) := by decide +kernel
theorem d69_7 : decode bM69 7 = .ok (.ifCond .lt 23, 3) := by decide +kernel
theorem d69_30 : decode bM69 30 = .ok (.iconst 0, 1) := by decide +kernel
theorem d69_31 : decode bM69 31 = .ok (.istore_n 3, 1) := by decide +kernel
theorem d69_32 : decode bM69 32 = .ok (.iload_n 3, 1) := by decide +kernel
theorem d69_33 : decode bM69 33 = .ok (.ifCond .eq 31, 3) := by decide +kernel
theorem d69_64 : decode bM69 64 = .ok (.iconst 0, 1) := by decide +kernel
theorem d69_65 : decode bM69 65 = .ok (.istore 4, 2) := by decide +kernel
theorem d69_67 : decode bM69 67 = .ok (.iload 4, 2) := by decide +kernel
theorem d69_69 : decode bM69 69 = .ok (.aload_n 0, 1) := by decide +kernel
theorem d69_70 : decode bM69 70 = .ok (.getfield 133, 3) := by decide +kernel
theorem d69_73 : decode bM69 73 = .ok (.if_icmp .ge 64, 3) := by decide +kernel
theorem d69_137 : decode bM69 137 = .ok (.iconst 0, 1) := by decide +kernel
theorem d69_138 : decode bM69 138 = .ok (.istore 4, 2) := by decide +kernel
theorem d69_140 : decode bM69 140 = .ok (.iload 4, 2) := by decide +kernel
theorem d69_142 : decode bM69 142 = .ok (.aload_n 0, 1) := by decide +kernel
theorem d69_143 : decode bM69 143 = .ok (.getfield 133, 3) := by decide +kernel
theorem d69_146 : decode bM69 146 = .ok (.if_icmp .ge 29, 3) := by decide +kernel
theorem d69_175 : decode bM69 175 = .ok (.iload_n 3, 1) := by decide +kernel
theorem d69_176 : decode bM69 176 = .ok (.ifCond .eq 23, 3) := by decide +kernel
theorem d69_199 : decode bM69 199 = .ok (.aload_n 0, 1) := by decide +kernel
theorem d69_200 : decode bM69 200 = .ok (.iconst 0, 1) := by decide +kernel
theorem d69_201 : decode bM69 201 = .ok (.putfield 133, 3) := by decide +kernel
theorem d69_204 : decode bM69 204 = .ok (.iload_n 3, 1) := by decide +kernel
theorem d69_205 : decode bM69 205 = .ok (.ireturn, 1) := by decide +kernel
theorem d70_0 : decode bM70 0 = .ok (.aload_n 0, 1) := by decide +kernel
theorem d70_1 : decode bM70 1 = .ok (.iload_n 1, 1) := by decide +kernel
theorem d70_2 : decode bM70 2 = .ok (.invokevirtual 275, 3) := by decide +kernel
theorem d70_5 : decode bM70 5 = .ok (.istore_n 2, 1) := by decide +kernel
theorem d70_6 : decode bM70 6 = .ok (.iload_n 2, 1) := by decide +kernel
theorem d70_7 : decode bM70 7 = .ok (.ifCond .ge 9, 3) := by decide +kernel
theorem d70_10 : decode bM70 10 = .ok (.sipush (-1000), 3) := by decide +kernel
theorem d70_13 : decode bM70 13 = .ok (.goto 8, 3) := by decide +kernel
theorem d70_21 : decode bM70 21 = .ok (.istore_n 3, 1) := by decide +kernel
theorem d70_22 : decode bM70 22 = .ok (.aload_n 0, 1) := by decide +kernel
theorem d70_23 : decode bM70 23 = .ok (.iconst 0, 1) := by decide +kernel
theorem d70_24 : decode bM70 24 = .ok (.putfield 133, 3) := by decide +kernel
theorem d70_27 : decode bM70 27 = .ok (.iload_n 3, 1) := by decide +kernel
theorem d70_28 : decode bM70 28 = .ok (.ireturn, 1) := by decide +kernel
theorem d71_0 : decode bM71 0 = .ok (.aload_n 0, 1) := by decide +kernel
theorem d71_1 : decode bM71 1 = .ok (.iload_n 1, 1) := by decide +kernel
theorem d71_2 : decode bM71 2 = .ok (.invokevirtual 275, 3) := by decide +kernel
theorem d71_5 : decode bM71 5 = .ok (.istore_n 2, 1) := by decide +kernel
theorem d71_6 : decode bM71 6 = .ok (.iload_n 2, 1) := by decide +kernel
theorem d71_7 : decode bM71 7 = .ok (.ifCond .ge 9, 3) := by decide +kernel
theorem d71_10 : decode bM71 10 = .ok (.sipush (-1000), 3) := by decide +kernel
theorem d71_13 : decode bM71 13 = .ok (.goto 9, 3) := by decide +kernel
theorem d71_22 : decode bM71 22 = .ok (.ireturn, 1) := by decide +kernel
theorem d72_0 : decode bM72 0 = .ok (.aload_n 0, 1) := by decide +kernel
theorem d72_1 : decode bM72 1 = .ok (.iload_n 1, 1) := by decide +kernel
theorem d72_2 : decode bM72 2 = .ok (.invokevirtual 275, 3) := by decide +kernel
theorem d72_5 : decode bM72 5 = .ok (.istore_n 3, 1) := by decide +kernel
theorem d72_6 : decode bM72 6 = .ok (.iload_n 3, 1) := by decide +kernel
theorem d72_7 : decode bM72 7 = .ok (.ifCond .ge 7, 3) := by decide +kernel
theorem d72_10 : decode bM72 10 = .ok (.sipush (-1000), 3) := by decide +kernel
theorem d72_13 : decode bM72 13 = .ok (.ireturn, 1) := by decide +kernel
theorem d73_0 : decode bM73 0 = .ok (.aload_n 0, 1) := by decide +kernel
theorem d73_1 : decode bM73 1 = .ok (.iload_n 1, 1) := by decide +kernel
theorem d73_2 : decode bM73 2 = .ok (.invokevirtual 275, 3) := by decide +kernel
theorem d73_5 : decode bM73 5 = .ok (.istore_n 3, 1) := by decide +kernel
theorem d73_6 : decode bM73 6 = .ok (.iload_n 3, 1) := by decide +kernel
theorem d73_7 : decode bM73 7 = .ok (.ifCond .lt 17, 3) := by decide +kernel
theorem d73_24 : decode bM73 24 = .ok (.iconst 0, 1) := by decide +kernel
theorem d73_25 : decode bM73 25 = .ok (.goto 12, 3) := by decide +kernel
theorem d73_37 : decode bM73 37 = .ok (.ireturn, 1) := by decide +kernel
theorem d74_0 : decode bM74 0 = .ok (.aload_n 0, 1) := by decide +kernel
theorem d74_1 : decode bM74 1 = .ok (.iload_n 1, 1) := by decide +kernel
theorem d74_2 : decode bM74 2 = .ok (.invokevirtual 275, 3) := by decide +kernel
theorem d74_5 : decode bM74 5 = .ok (.istore_n 3, 1) := by decide +kernel
theorem d74_6 : decode bM74 6 = .ok (.iload_n 3, 1) := by decide +kernel
theorem d74_7 : decode bM74 7 = .ok (.ifCond .lt 17, 3) := by decide +kernel
theorem d74_24 : decode bM74 24 = .ok (.iconst 0, 1) := by decide +kernel
theorem d74_25 : decode bM74 25 = .ok (.goto 12, 3) := by decide +kernel
theorem d74_37 : decode bM74 37 = .ok (.ireturn, 1) := by decide +kernel
theorem d75_0 : decode bM75 0 = .ok (.iload_n 1, 1) := by decide +kernel
theorem d75_1 : decode bM75 1 = .ok (.ifCond .lt 20, 3) := by decide +kernel
theorem d75_4 : decode bM75 4 = .ok (.iload_n 1, 1) := by decide +kernel
theorem d75_5 : decode bM75 5 = .ok (.aload_n 0, 1) := by decide +kernel
theorem d75_6 : decode bM75 6 = .ok (.getfield 379, 3) := by decide +kernel
theorem d75_9 : decode bM75 9 = .ok (.if_icmp .ge 12, 3) := by decide +kernel
theorem d75_21 : decode bM75 21 = .ok (.sipush (-1000), 3) := by decide +kernel
theorem d75_24 : decode bM75 24 = .ok (.ireturn, 1) := by decide +kernel
theorem d76_0 : decode bM76 0 = .ok (.aload_n 0, 1) := by decide +kernel
theorem d76_1 : decode bM76 1 = .ok (.invokevirtual 115, 3) := by decide +kernel
theorem d76_4 : decode bM76 4 = .ok (.ifCond .ne 9, 3) := by decide +kernel
theorem d76_7 : decode bM76 7 = .ok (.sipush (-1000), 3) := by decide +kernel
theorem d76_10 : decode bM76 10 = .ok (.goto 15, 3) := by decide +kernel
theorem d76_25 : decode bM76 25 = .ok (.ireturn, 1) := by decide +kernel
theorem d77_0 : decode bM77 0 = .ok (.aload_n 0, 1) := by decide +kernel
theorem d77_1 : decode bM77 1 = .ok (.invokevirtual 115, 3) := by decide +kernel
theorem d77_4 : decode bM77 4 = .ok (.ireturn, 1) := by decide +kernel
theorem d78_0 : decode bM78 0 = .ok (.aload_n 0, 1) := by decide +kernel
theorem d78_1 : decode bM78 1 = .ok (.iload_n 1, 1) := by decide +kernel
theorem d78_2 : decode bM78 2 = .ok (.putfield 391, 3) := by decide +kernel
theorem d78_5 : decode bM78 5 = .ok (.aload_n 0, 1) := by decide +kernel
theorem d78_6 : decode bM78 6 = .ok (.iconst 0, 1) := by decide +kernel
theorem d78_7 : decode bM78 7 = .ok (.putfield 388, 3) := by decide +kernel
theorem d78_10 : decode bM78 10 = .ok (.aload_n 0, 1) := by decide +kernel
theorem d78_11 : decode bM78 11 = .ok (.iconst 0, 1) := by decide +kernel
theorem d78_12 : decode bM78 12 = .ok (.putfield 394, 3) := by decide +kernel
theorem d78_15 : decode bM78 15 = .ok (.iconst 0, 1) := by decide +kernel
theorem d78_16 : decode bM78 16 = .ok (.istore_n 2, 1) := by decide +kernel
theorem d78_17 : decode bM78 17 = .ok (.iload_n 2, 1) := by decide +kernel
theorem d78_18 : decode bM78 18 = .ok (.aload_n 0, 1) := by decide +kernel
theorem d78_19 : decode bM78 19 = .ok (.invokevirtual 115, 3) := by decide +kernel
theorem d78_22 : decode bM78 22 = .ok (.if_icmp .ge 197, 3) := by decide +kernel
theorem d78_219 : decode bM78 219 = .ok (.return_, 1) := by decide +kernel
theorem d79_0 : decode bM79 0 = .ok (.aload_n 0, 1) := by decide +kernel
theorem d79_1 : decode bM79 1 = .ok (.iconst (-1), 1) := by decide +kernel
theorem d79_2 : decode bM79 2 = .ok (.invokevirtual 417, 3) := by decide +kernel
theorem d79_5 : decode bM79 5 = .ok (.aload_n 0, 1) := by decide +kernel
theorem d79_6 : decode bM79 6 = .ok (.getfield 388, 3) := by decide +kernel
theorem d79_9 : decode bM79 9 = .ok (.ireturn, 1) := by decide +kernel
theorem d80_0 : decode bM80 0 = .ok (.aload_n 0, 1) := by decide +kernel
theorem d80_1 : decode bM80 1 = .ok (.iload_n 1, 1) := by decide +kernel
theorem d80_2 : decode bM80 2 = .ok (.invokevirtual 417, 3) := by decide +kernel
theorem d80_5 : decode bM80 5 = .ok (.aload_n 0, 1) := by decide +kernel
theorem d80_6 : decode bM80 6 = .ok (.getfield 394, 3) := by decide +kernel
theorem d80_9 : decode bM80 9 = .ok (.ireturn, 1) := by decide +kernel
theorem d81_0 : decode bM81 0 = .ok (.iconst 0, 1) := by decide +kernel
theorem d81_1 : decode bM81 1 = .ok (.istore_n 1, 1) := by decide +kernel
theorem d81_2 : decode bM81 2 = .ok (.iload_n 1, 1) := by decide +kernel
theorem d81_3 : decode bM81 3 = .ok (.sipush 5161, 3) := by decide +kernel
theorem d81_6 : decode bM81 6 = .ok (.if_icmp .ge 21, 3) := by decide +kernel
theorem d81_9 : decode bM81 9 = .ok (.aload_n 0, 1) := by decide +kernel
theorem d81_10 : decode bM81 10 = .ok (.getfield 13, 3) := by decide +kernel
theorem d81_13 : decode bM81 13 = .ok (.iload_n 1, 1) := by decide +kernel
theorem d81_14 : decode bM81 14 = .ok (.aload_n 0, 1) := by decide +kernel
theorem d81_15 : decode bM81 15 = .ok (.getfield 7, 3) := by decide +kernel
theorem d81_18 : decode bM81 18 = .ok (.iload_n 1, 1) := by decide +kernel
theorem d81_19 : decode bM81 19 = .ok (.iaload, 1) := by decide +kernel
theorem d81_20 : decode bM81 20 = .ok (.iastore, 1) := by decide +kernel
theorem d81_21 : decode bM81 21 = .ok (.iinc 1 1, 3) := by decide +kernel
theorem d81_24 : decode bM81 24 = .ok (.goto (-22), 3) := by decide +kernel
theorem d81_27 : decode bM81 27 = .ok (.aload_n 0, 1) := by decide +kernel
theorem d81_28 : decode bM81 28 = .ok (.iconst 0, 1) := by decide +kernel
theorem d81_29 : decode bM81 29 = .ok (.putfield 239, 3) := by decide +kernel
theorem d81_32 : decode bM81 32 = .ok (.return_, 1) := by decide +kernel
theorem d82_0 : decode bM82 0 = .ok (.aload_n 0, 1) := by decide +kernel
theorem d82_1 : decode bM82 1 = .ok (.getfield 239, 3) := by decide +kernel
theorem d82_4 : decode bM82 4 = .ok (.istore_n 1, 1) := by decide +kernel
theorem d82_5 : decode bM82 5 = .ok (.aload_n 0, 1) := by decide +kernel
theorem d82_6 : decode bM82 6 = .ok (.invokevirtual 250, 3) := by decide +kernel
theorem d82_9 : decode bM82 9 = .ok (.iload_n 1, 1) := by decide +kernel
theorem d82_10 : decode bM82 10 = .ok (.ireturn, 1) := by decide +kernel
theorem d83_0 : decode bM83 0 = .ok (.aload_n 0, 1) := by decide +kernel
theorem d83_1 : decode bM83 1 = .ok (.getfield 239, 3) := by decide +kernel
theorem d83_4 : decode bM83 4 = .ok (.istore_n 1, 1) := by decide +kernel
theorem d83_5 : decode bM83 5 = .ok (.iconst 0, 1) := by decide +kernel
theorem d83_6 : decode bM83 6 = .ok (.istore_n 2, 1) := by decide +kernel
theorem d83_7 : decode bM83 7 = .ok (.iload_n 2, 1) := by decide +kernel
theorem d83_8 : decode bM83 8 = .ok (.sipush 5161, 3) := by decide +kernel
theorem d83_11 : decode bM83 11 = .ok (.if_icmp .ge 21, 3) := by decide +kernel
theorem d83_14 : decode bM83 14 = .ok (.aload_n 0, 1) := by decide +kernel
theorem d83_15 : decode bM83 15 = .ok (.getfield 7, 3) := by decide +kernel
theorem d83_18 : decode bM83 18 = .ok (.iload_n 2, 1) := by decide +kernel
theorem d83_19 : decode bM83 19 = .ok (.aload_n 0, 1) := by decide +kernel
theorem d83_20 : decode bM83 20 = .ok (.getfield 13, 3) := by decide +kernel
theorem d83_23 : decode bM83 23 = .ok (.iload_n 2, 1) := by decide +kernel
theorem d83_24 : decode bM83 24 = .ok (.iaload, 1) := by decide +kernel
theorem d83_25 : decode bM83 25 = .ok (.iastore, 1) := by decide +kernel
theorem d83_26 : decode bM83 26 = .ok (.iinc 2 1, 3) := by decide +kernel
theorem d83_29 : decode bM83 29 = .ok (.goto (-22), 3) := by decide +kernel
theorem d83_32 : decode bM83 32 = .ok (.aload_n 0, 1) := by decide +kernel
theorem d83_33 : decode bM83 33 = .ok (.iconst 0, 1) := by decide +kernel
theorem d83_34 : decode bM83 34 = .ok (.putfield 239, 3) := by decide +kernel
theorem d83_37 : decode bM83 37 = .ok (.aload_n 0, 1) := by decide +kernel
theorem d83_38 : decode bM83 38 = .ok (.iconst 0, 1) := by decide +kernel
theorem d83_39 : decode bM83 39 = .ok (.putfield 133, 3) := by decide +kernel
theorem d83_42 : decode bM83 42 = .ok (.iload_n 1, 1) := by decide +kernel
theorem d83_43 : decode bM83 43 = .ok (.ireturn, 1) := by decide +kernel
theorem d84_0 : decode code 0 = .ok (.new 7, 3) := by decide +kernel
theorem d84_3 : decode code 3 = .ok (.dup, 1) := by decide +kernel
theorem d84_4 : decode code 4 = .ok (.invokespecial 9, 3) := by decide +kernel
theorem d84_7 : decode code 7 = .ok (.astore_n 1, 1) := by decide +kernel
theorem d84_8 : decode code 8 = .ok (.new 10, 3) := by decide +kernel
theorem d84_11 : decode code 11 = .ok (.dup, 1) := by decide +kernel
theorem d84_12 : decode code 12 = .ok (.invokespecial 12, 3) := by decide +kernel
theorem d84_15 : decode code 15 = .ok (.astore_n 2, 1) := by decide +kernel
theorem d84_16 : decode code 16 = .ok (.iconst 0, 1) := by decide +kernel
theorem d84_17 : decode code 17 = .ok (.istore_n 3, 1) := by decide +kernel
theorem d84_18 : decode code 18 = .ok (.iload_n 3, 1) := by decide +kernel
theorem d84_19 : decode code 19 = .ok (.aload_n 0, 1) := by decide +kernel
theorem d84_20 : decode code 20 = .ok (.arraylength, 1) := by decide +kernel
theorem d84_21 : decode code 21 = .ok (.iconst 3, 1) := by decide +kernel
theorem d84_22 : decode code 22 = .ok (.isub, 1) := by decide +kernel
theorem d84_23 : decode code 23 = .ok (.if_icmp .gt 472, 3) := by decide +kernel
theorem d84_26 : decode code 26 = .ok (.aload_n 0, 1) := by decide +kernel
theorem d84_27 : decode code 27 = .ok (.iload_n 3, 1) := by decide +kernel
theorem d84_28 : decode code 28 = .ok (.iaload, 1) := by decide +kernel
theorem d84_29 : decode code 29 = .ok (.bipush 31, 2) := by decide +kernel
theorem d84_31 : decode code 31 = .ok (.iand, 1) := by decide +kernel
theorem d84_32 : decode code 32 = .ok (.tableswitch 457 0 16 #[84, 109, 122, 155, 178, 201, 224, 247, 260, 273, 296, 329, 362, 395, 408, 421, 434], 84) := by decide +kernel
theorem d84_116 : decode code 116 = .ok (.aload_n 1, 1) := by decide +kernel
theorem d84_117 : decode code 117 = .ok (.aload_n 0, 1) := by decide +kernel
theorem d84_118 : decode code 118 = .ok (.iload_n 3, 1) := by decide +kernel
theorem d84_119 : decode code 119 = .ok (.iconst 1, 1) := by decide +kernel
theorem d84_120 : decode code 120 = .ok (.iadd, 1) := by decide +kernel
theorem d84_121 : decode code 121 = .ok (.iaload, 1) := by decide +kernel
theorem d84_122 : decode code 122 = .ok (.i2c, 1) := by decide +kernel
theorem d84_123 : decode code 123 = .ok (.invokevirtual 13, 3) := by decide +kernel
theorem d84_126 : decode code 126 = .ok (.aload_n 2, 1) := by decide +kernel
theorem d84_127 : decode code 127 = .ok (.aload_n 0, 1) := by decide +kernel
theorem d84_128 : decode code 128 = .ok (.iload_n 3, 1) := by decide +kernel
theorem d84_129 : decode code 129 = .ok (.iconst 1, 1) := by decide +kernel
theorem d84_130 : decode code 130 = .ok (.iadd, 1) := by decide +kernel
theorem d84_131 : decode code 131 = .ok (.iaload, 1) := by decide +kernel
theorem d84_132 : decode code 132 = .ok (.i2c, 1) := by decide +kernel
theorem d84_133 : decode code 133 = .ok (.invokevirtual 17, 3) := by decide +kernel
theorem d84_136 : decode code 136 = .ok (.if_icmp .eq 353, 3) := by decide +kernel
theorem d84_141 : decode code 141 = .ok (.aload_n 1, 1) := by decide +kernel
theorem d84_142 : decode code 142 = .ok (.invokevirtual 18, 3) := by decide +kernel
theorem d84_145 : decode code 145 = .ok (.aload_n 2, 1) := by decide +kernel
theorem d84_146 : decode code 146 = .ok (.invokevirtual 22, 3) := by decide +kernel
theorem d84_149 : decode code 149 = .ok (.if_icmp .eq 340, 3) := by decide +kernel
theorem d84_154 : decode code 154 = .ok (.aload_n 1, 1) := by decide +kernel
theorem d84_155 : decode code 155 = .ok (.aload_n 0, 1) := by decide +kernel
theorem d84_156 : decode code 156 = .ok (.iload_n 3, 1) := by decide +kernel
theorem d84_157 : decode code 157 = .ok (.iconst 1, 1) := by decide +kernel
theorem d84_158 : decode code 158 = .ok (.iadd, 1) := by decide +kernel
theorem d84_159 : decode code 159 = .ok (.iaload, 1) := by decide +kernel
theorem d84_160 : decode code 160 = .ok (.aload_n 0, 1) := by decide +kernel
theorem d84_161 : decode code 161 = .ok (.iload_n 3, 1) := by decide +kernel
theorem d84_162 : decode code 162 = .ok (.iconst 2, 1) := by decide +kernel
theorem d84_163 : decode code 163 = .ok (.iadd, 1) := by decide +kernel
theorem d84_164 : decode code 164 = .ok (.iaload, 1) := by decide +kernel
theorem d84_165 : decode code 165 = .ok (.invokevirtual 23, 3) := by decide +kernel
theorem d84_168 : decode code 168 = .ok (.aload_n 2, 1) := by decide +kernel
theorem d84_169 : decode code 169 = .ok (.aload_n 0, 1) := by decide +kernel
theorem d84_170 : decode code 170 = .ok (.iload_n 3, 1) := by decide +kernel
theorem d84_171 : decode code 171 = .ok (.iconst 1, 1) := by decide +kernel
theorem d84_172 : decode code 172 = .ok (.iadd, 1) := by decide +kernel
theorem d84_173 : decode code 173 = .ok (.iaload, 1) := by decide +kernel
theorem d84_174 : decode code 174 = .ok (.aload_n 0, 1) := by decide +kernel
theorem d84_175 : decode code 175 = .ok (.iload_n 3, 1) := by decide +kernel
theorem d84_176 : decode code 176 = .ok (.iconst 2, 1) := by decide +kernel
theorem d84_177 : decode code 177 = .ok (.iadd, 1) := by decide +kernel
theorem d84_178 : decode code 178 = .ok (.iaload, 1) := by decide +kernel
theorem d84_179 : decode code 179 = .ok (.invokevirtual 27, 3) := by decide +kernel
theorem d84_182 : decode code 182 = .ok (.if_icmp .eq 307, 3) := by decide +kernel
theorem d84_187 : decode code 187 = .ok (.aload_n 1, 1) := by decide +kernel
theorem d84_188 : decode code 188 = .ok (.aload_n 0, 1) := by decide +kernel
theorem d84_189 : decode code 189 = .ok (.iload_n 3, 1) := by decide +kernel
theorem d84_190 : decode code 190 = .ok (.iconst 1, 1) := by decide +kernel
theorem d84_191 : decode code 191 = .ok (.iadd, 1) := by decide +kernel
theorem d84_192 : decode code 192 = .ok (.iaload, 1) := by decide +kernel
theorem d84_193 : decode code 193 = .ok (.invokevirtual 28, 3) := by decide +kernel
theorem d84_196 : decode code 196 = .ok (.aload_n 2, 1) := by decide +kernel
theorem d84_197 : decode code 197 = .ok (.aload_n 0, 1) := by decide +kernel
theorem d84_198 : decode code 198 = .ok (.iload_n 3, 1) := by decide +kernel
theorem d84_199 : decode code 199 = .ok (.iconst 1, 1) := by decide +kernel
theorem d84_200 : decode code 200 = .ok (.iadd, 1) := by decide +kernel
theorem d84_201 : decode code 201 = .ok (.iaload, 1) := by decide +kernel
theorem d84_202 : decode code 202 = .ok (.invokevirtual 32, 3) := by decide +kernel
theorem d84_205 : decode code 205 = .ok (.if_icmp .eq 284, 3) := by decide +kernel
theorem d84_210 : decode code 210 = .ok (.aload_n 1, 1) := by decide +kernel
theorem d84_211 : decode code 211 = .ok (.aload_n 0, 1) := by decide +kernel
theorem d84_212 : decode code 212 = .ok (.iload_n 3, 1) := by decide +kernel
theorem d84_213 : decode code 213 = .ok (.iconst 1, 1) := by decide +kernel
theorem d84_214 : decode code 214 = .ok (.iadd, 1) := by decide +kernel
theorem d84_215 : decode code 215 = .ok (.iaload, 1) := by decide +kernel
theorem d84_216 : decode code 216 = .ok (.invokevirtual 33, 3) := by decide +kernel
theorem d84_219 : decode code 219 = .ok (.aload_n 2, 1) := by decide +kernel
theorem d84_220 : decode code 220 = .ok (.aload_n 0, 1) := by decide +kernel
theorem d84_221 : decode code 221 = .ok (.iload_n 3, 1) := by decide +kernel
theorem d84_222 : decode code 222 = .ok (.iconst 1, 1) := by decide +kernel
theorem d84_223 : decode code 223 = .ok (.iadd, 1) := by decide +kernel
theorem d84_224 : decode code 224 = .ok (.iaload, 1) := by decide +kernel
theorem d84_225 : decode code 225 = .ok (.invokevirtual 37, 3) := by decide +kernel
theorem d84_228 : decode code 228 = .ok (.if_icmp .eq 261, 3) := by decide +kernel
theorem d84_233 : decode code 233 = .ok (.aload_n 1, 1) := by decide +kernel
theorem d84_234 : decode code 234 = .ok (.aload_n 0, 1) := by decide +kernel
theorem d84_235 : decode code 235 = .ok (.iload_n 3, 1) := by decide +kernel
theorem d84_236 : decode code 236 = .ok (.iconst 1, 1) := by decide +kernel
theorem d84_237 : decode code 237 = .ok (.iadd, 1) := by decide +kernel
theorem d84_238 : decode code 238 = .ok (.iaload, 1) := by decide +kernel
theorem d84_239 : decode code 239 = .ok (.invokevirtual 38, 3) := by decide +kernel
theorem d84_242 : decode code 242 = .ok (.aload_n 2, 1) := by decide +kernel
theorem d84_243 : decode code 243 = .ok (.aload_n 0, 1) := by decide +kernel
theorem d84_244 : decode code 244 = .ok (.iload_n 3, 1) := by decide +kernel
theorem d84_245 : decode code 245 = .ok (.iconst 1, 1) := by decide +kernel
theorem d84_246 : decode code 246 = .ok (.iadd, 1) := by decide +kernel
theorem d84_247 : decode code 247 = .ok (.iaload, 1) := by decide +kernel
theorem d84_248 : decode code 248 = .ok (.invokevirtual 41, 3) := by decide +kernel
theorem d84_251 : decode code 251 = .ok (.if_icmp .eq 238, 3) := by decide +kernel
theorem d84_256 : decode code 256 = .ok (.aload_n 1, 1) := by decide +kernel
theorem d84_257 : decode code 257 = .ok (.aload_n 0, 1) := by decide +kernel
theorem d84_258 : decode code 258 = .ok (.iload_n 3, 1) := by decide +kernel
theorem d84_259 : decode code 259 = .ok (.iconst 1, 1) := by decide +kernel
theorem d84_260 : decode code 260 = .ok (.iadd, 1) := by decide +kernel
theorem d84_261 : decode code 261 = .ok (.iaload, 1) := by decide +kernel
theorem d84_262 : decode code 262 = .ok (.invokevirtual 42, 3) := by decide +kernel
theorem d84_265 : decode code 265 = .ok (.aload_n 2, 1) := by decide +kernel
theorem d84_266 : decode code 266 = .ok (.aload_n 0, 1) := by decide +kernel
theorem d84_267 : decode code 267 = .ok (.iload_n 3, 1) := by decide +kernel
theorem d84_268 : decode code 268 = .ok (.iconst 1, 1) := by decide +kernel
theorem d84_269 : decode code 269 = .ok (.iadd, 1) := by decide +kernel
theorem d84_270 : decode code 270 = .ok (.iaload, 1) := by decide +kernel
theorem d84_271 : decode code 271 = .ok (.invokevirtual 45, 3) := by decide +kernel
theorem d84_274 : decode code 274 = .ok (.if_icmp .eq 215, 3) := by decide +kernel
theorem d84_279 : decode code 279 = .ok (.aload_n 1, 1) := by decide +kernel
theorem d84_280 : decode code 280 = .ok (.invokevirtual 46, 3) := by decide +kernel
theorem d84_283 : decode code 283 = .ok (.aload_n 2, 1) := by decide +kernel
theorem d84_284 : decode code 284 = .ok (.invokevirtual 49, 3) := by decide +kernel
theorem d84_287 : decode code 287 = .ok (.if_icmp .eq 202, 3) := by decide +kernel
theorem d84_292 : decode code 292 = .ok (.aload_n 1, 1) := by decide +kernel
theorem d84_293 : decode code 293 = .ok (.invokevirtual 50, 3) := by decide +kernel
theorem d84_296 : decode code 296 = .ok (.aload_n 2, 1) := by decide +kernel
theorem d84_297 : decode code 297 = .ok (.invokevirtual 53, 3) := by decide +kernel
theorem d84_300 : decode code 300 = .ok (.if_icmp .eq 189, 3) := by decide +kernel
theorem d84_305 : decode code 305 = .ok (.aload_n 1, 1) := by decide +kernel
theorem d84_306 : decode code 306 = .ok (.aload_n 0, 1) := by decide +kernel
theorem d84_307 : decode code 307 = .ok (.iload_n 3, 1) := by decide +kernel
theorem d84_308 : decode code 308 = .ok (.iconst 1, 1) := by decide +kernel
theorem d84_309 : decode code 309 = .ok (.iadd, 1) := by decide +kernel
theorem d84_310 : decode code 310 = .ok (.iaload, 1) := by decide +kernel
theorem d84_311 : decode code 311 = .ok (.invokevirtual 54, 3) := by decide +kernel
theorem d84_314 : decode code 314 = .ok (.aload_n 2, 1) := by decide +kernel
theorem d84_315 : decode code 315 = .ok (.aload_n 0, 1) := by decide +kernel
theorem d84_316 : decode code 316 = .ok (.iload_n 3, 1) := by decide +kernel
theorem d84_317 : decode code 317 = .ok (.iconst 1, 1) := by decide +kernel
theorem d84_318 : decode code 318 = .ok (.iadd, 1) := by decide +kernel
theorem d84_319 : decode code 319 = .ok (.iaload, 1) := by decide +kernel
theorem d84_320 : decode code 320 = .ok (.invokevirtual 57, 3) := by decide +kernel
theorem d84_323 : decode code 323 = .ok (.if_icmp .eq 166, 3) := by decide +kernel
theorem d84_328 : decode code 328 = .ok (.aload_n 1, 1) := by decide +kernel
theorem d84_329 : decode code 329 = .ok (.aload_n 0, 1) := by decide +kernel
theorem d84_330 : decode code 330 = .ok (.iload_n 3, 1) := by decide +kernel
theorem d84_331 : decode code 331 = .ok (.iconst 1, 1) := by decide +kernel
theorem d84_332 : decode code 332 = .ok (.iadd, 1) := by decide +kernel
theorem d84_333 : decode code 333 = .ok (.iaload, 1) := by decide +kernel
theorem d84_334 : decode code 334 = .ok (.aload_n 0, 1) := by decide +kernel
theorem d84_335 : decode code 335 = .ok (.iload_n 3, 1) := by decide +kernel
theorem d84_336 : decode code 336 = .ok (.iconst 2, 1) := by decide +kernel
theorem d84_337 : decode code 337 = .ok (.iadd, 1) := by decide +kernel
theorem d84_338 : decode code 338 = .ok (.iaload, 1) := by decide +kernel
theorem d84_339 : decode code 339 = .ok (.invokevirtual 58, 3) := by decide +kernel
theorem d84_342 : decode code 342 = .ok (.aload_n 2, 1) := by decide +kernel
theorem d84_343 : decode code 343 = .ok (.aload_n 0, 1) := by decide +kernel
theorem d84_344 : decode code 344 = .ok (.iload_n 3, 1) := by decide +kernel
theorem d84_345 : decode code 345 = .ok (.iconst 1, 1) := by decide +kernel
theorem d84_346 : decode code 346 = .ok (.iadd, 1) := by decide +kernel
theorem d84_347 : decode code 347 = .ok (.iaload, 1) := by decide +kernel
theorem d84_348 : decode code 348 = .ok (.aload_n 0, 1) := by decide +kernel
theorem d84_349 : decode code 349 = .ok (.iload_n 3, 1) := by decide +kernel
theorem d84_350 : decode code 350 = .ok (.iconst 2, 1) := by decide +kernel
theorem d84_351 : decode code 351 = .ok (.iadd, 1) := by decide +kernel
theorem d84_352 : decode code 352 = .ok (.iaload, 1) := by decide +kernel
theorem d84_353 : decode code 353 = .ok (.invokevirtual 61, 3) := by decide +kernel
theorem d84_356 : decode code 356 = .ok (.if_icmp .eq 133, 3) := by decide +kernel
theorem d84_361 : decode code 361 = .ok (.aload_n 1, 1) := by decide +kernel
theorem d84_362 : decode code 362 = .ok (.aload_n 0, 1) := by decide +kernel
theorem d84_363 : decode code 363 = .ok (.iload_n 3, 1) := by decide +kernel
theorem d84_364 : decode code 364 = .ok (.iconst 1, 1) := by decide +kernel
theorem d84_365 : decode code 365 = .ok (.iadd, 1) := by decide +kernel
theorem d84_366 : decode code 366 = .ok (.iaload, 1) := by decide +kernel
theorem d84_367 : decode code 367 = .ok (.aload_n 0, 1) := by decide +kernel
theorem d84_368 : decode code 368 = .ok (.iload_n 3, 1) := by decide +kernel
theorem d84_369 : decode code 369 = .ok (.iconst 2, 1) := by decide +kernel
theorem d84_370 : decode code 370 = .ok (.iadd, 1) := by decide +kernel
theorem d84_371 : decode code 371 = .ok (.iaload, 1) := by decide +kernel
theorem d84_372 : decode code 372 = .ok (.invokevirtual 62, 3) := by decide +kernel
theorem d84_375 : decode code 375 = .ok (.aload_n 2, 1) := by decide +kernel
theorem d84_376 : decode code 376 = .ok (.aload_n 0, 1) := by decide +kernel
theorem d84_377 : decode code 377 = .ok (.iload_n 3, 1) := by decide +kernel
theorem d84_378 : decode code 378 = .ok (.iconst 1, 1) := by decide +kernel
theorem d84_379 : decode code 379 = .ok (.iadd, 1) := by decide +kernel
theorem d84_380 : decode code 380 = .ok (.iaload, 1) := by decide +kernel
theorem d84_381 : decode code 381 = .ok (.aload_n 0, 1) := by decide +kernel
theorem d84_382 : decode code 382 = .ok (.iload_n 3, 1) := by decide +kernel
theorem d84_383 : decode code 383 = .ok (.iconst 2, 1) := by decide +kernel
theorem d84_384 : decode code 384 = .ok (.iadd, 1) := by decide +kernel
theorem d84_385 : decode code 385 = .ok (.iaload, 1) := by decide +kernel
theorem d84_386 : decode code 386 = .ok (.invokevirtual 65, 3) := by decide +kernel
theorem d84_389 : decode code 389 = .ok (.if_icmp .eq 100, 3) := by decide +kernel
theorem d84_394 : decode code 394 = .ok (.aload_n 1, 1) := by decide +kernel
theorem d84_395 : decode code 395 = .ok (.aload_n 0, 1) := by decide +kernel
theorem d84_396 : decode code 396 = .ok (.iload_n 3, 1) := by decide +kernel
theorem d84_397 : decode code 397 = .ok (.iconst 1, 1) := by decide +kernel
theorem d84_398 : decode code 398 = .ok (.iadd, 1) := by decide +kernel
theorem d84_399 : decode code 399 = .ok (.iaload, 1) := by decide +kernel
theorem d84_400 : decode code 400 = .ok (.aload_n 0, 1) := by decide +kernel
theorem d84_401 : decode code 401 = .ok (.iload_n 3, 1) := by decide +kernel
theorem d84_402 : decode code 402 = .ok (.iconst 2, 1) := by decide +kernel
theorem d84_403 : decode code 403 = .ok (.iadd, 1) := by decide +kernel
theorem d84_404 : decode code 404 = .ok (.iaload, 1) := by decide +kernel
theorem d84_405 : decode code 405 = .ok (.invokevirtual 66, 3) := by decide +kernel
theorem d84_408 : decode code 408 = .ok (.aload_n 2, 1) := by decide +kernel
theorem d84_409 : decode code 409 = .ok (.aload_n 0, 1) := by decide +kernel
theorem d84_410 : decode code 410 = .ok (.iload_n 3, 1) := by decide +kernel
theorem d84_411 : decode code 411 = .ok (.iconst 1, 1) := by decide +kernel
theorem d84_412 : decode code 412 = .ok (.iadd, 1) := by decide +kernel
theorem d84_413 : decode code 413 = .ok (.iaload, 1) := by decide +kernel
theorem d84_414 : decode code 414 = .ok (.aload_n 0, 1) := by decide +kernel
theorem d84_415 : decode code 415 = .ok (.iload_n 3, 1) := by decide +kernel
theorem d84_416 : decode code 416 = .ok (.iconst 2, 1) := by decide +kernel
theorem d84_417 : decode code 417 = .ok (.iadd, 1) := by decide +kernel
theorem d84_418 : decode code 418 = .ok (.iaload, 1) := by decide +kernel
theorem d84_419 : decode code 419 = .ok (.invokevirtual 69, 3) := by decide +kernel
theorem d84_422 : decode code 422 = .ok (.if_icmp .eq 67, 3) := by decide +kernel
theorem d84_427 : decode code 427 = .ok (.aload_n 1, 1) := by decide +kernel
theorem d84_428 : decode code 428 = .ok (.invokevirtual 70, 3) := by decide +kernel
theorem d84_431 : decode code 431 = .ok (.aload_n 2, 1) := by decide +kernel
theorem d84_432 : decode code 432 = .ok (.invokevirtual 73, 3) := by decide +kernel
theorem d84_435 : decode code 435 = .ok (.if_icmp .eq 54, 3) := by decide +kernel
theorem d84_440 : decode code 440 = .ok (.aload_n 1, 1) := by decide +kernel
theorem d84_441 : decode code 441 = .ok (.invokevirtual 74, 3) := by decide +kernel
theorem d84_444 : decode code 444 = .ok (.aload_n 2, 1) := by decide +kernel
theorem d84_445 : decode code 445 = .ok (.invokevirtual 77, 3) := by decide +kernel
theorem d84_448 : decode code 448 = .ok (.if_icmp .eq 41, 3) := by decide +kernel
theorem d84_453 : decode code 453 = .ok (.aload_n 1, 1) := by decide +kernel
theorem d84_454 : decode code 454 = .ok (.invokevirtual 78, 3) := by decide +kernel
theorem d84_457 : decode code 457 = .ok (.aload_n 2, 1) := by decide +kernel
theorem d84_458 : decode code 458 = .ok (.invokevirtual 81, 3) := by decide +kernel
theorem d84_461 : decode code 461 = .ok (.if_icmp .eq 28, 3) := by decide +kernel
theorem d84_466 : decode code 466 = .ok (.aload_n 1, 1) := by decide +kernel
theorem d84_467 : decode code 467 = .ok (.aload_n 0, 1) := by decide +kernel
theorem d84_468 : decode code 468 = .ok (.iload_n 3, 1) := by decide +kernel
theorem d84_469 : decode code 469 = .ok (.iconst 1, 1) := by decide +kernel
theorem d84_470 : decode code 470 = .ok (.iadd, 1) := by decide +kernel
theorem d84_471 : decode code 471 = .ok (.iaload, 1) := by decide +kernel
theorem d84_472 : decode code 472 = .ok (.invokevirtual 82, 3) := by decide +kernel
theorem d84_475 : decode code 475 = .ok (.aload_n 2, 1) := by decide +kernel
theorem d84_476 : decode code 476 = .ok (.aload_n 0, 1) := by decide +kernel
theorem d84_477 : decode code 477 = .ok (.iload_n 3, 1) := by decide +kernel
theorem d84_478 : decode code 478 = .ok (.iconst 1, 1) := by decide +kernel
theorem d84_479 : decode code 479 = .ok (.iadd, 1) := by decide +kernel
theorem d84_480 : decode code 480 = .ok (.iaload, 1) := by decide +kernel
theorem d84_481 : decode code 481 = .ok (.invokevirtual 85, 3) := by decide +kernel
theorem d84_484 : decode code 484 = .ok (.if_icmp .eq 5, 3) := by decide +kernel
theorem d84_489 : decode code 489 = .ok (.iinc 3 3, 3) := by decide +kernel
theorem d84_492 : decode code 492 = .ok (.goto (-474), 3) := by decide +kernel
theorem d84_495 : decode code 495 = .ok (.iconst 1, 1) := by decide +kernel
theorem d84_496 : decode code 496 = .ok (.ireturn, 1) := by decide +kernel
end
section
set_option maxRecDepth 100000 in
set_option maxHeartbeats 8000000 in
theorem c_ACinit (l : Launch) (D : va_G) (dA : Nat → ClassId) (s0 : State) (hE : ms_EV D dA s0) (h : Nat) : ms_C l D s0 yM0 bM0 1 (Option.none : Option Jvm.ClassFile.FieldType) 1 12 0 0 [.ref h] [(h, .inr (4, [.int 0, .null, .int 0]))] (fun vv ww => vv = none ∧ ww = [(h, .inr (4, [.int 0, .null, .int 0]))]) := by
  refine ms_C.mk hE.1 (by decide) (Nat.le_of_ble_eq_true rfl) [(0, .ref h)] rfl ?_
  intro p e s m below meth c A ls X hin hP hD hS hl
  have hx := X.1
  have hb := X.2.1
  have hml := X.2.2.1
  have hown : s.vm.findClass "java/util/AbstractCollection" = some m.cls := X.2.2.2.1
  have hts := X.2.2.2.2.2.2.1
  have hK := X.2.2.2.2.2.2.2.2.1
  have hA := X.2.2.2.2.2.2.2.2.2.2
  refine lv_aload_n hx hb d0_0 rfl (lv_at hl 0 rfl) ?_
  refine W.objInit hx hb hown (hts _ ms_k333) (hts _ ms_k37) (hts _ ms_k38) rfl (by rw [hml]; exact hl.1) rfl d0_1 (Nat.le_of_ble_eq_true rfl) (Nat.le_of_ble_eq_true rfl) ?_
  refine W.eq (g2 := F0 m 4 ls []) rfl ?_
  exact ms_vret X d0_4 hP hD hS (Nat.le_of_ble_eq_true rfl) (Nat.le_of_ble_eq_true rfl) (⟨rfl, rfl⟩)

set_option maxRecDepth 100000 in
set_option maxHeartbeats 8000000 in
theorem c_ABinit (l : Launch) (D : va_G) (dA : Nat → ClassId) (s0 : State) (hE : ms_EV D dA s0) (h : Nat) : ms_C l D s0 yM1 bM1 1 (Option.none : Option Jvm.ClassFile.FieldType) 2 32 0 0 [.ref h] [(h, .inr (4, [.int 0, .null, .int 0]))] (fun vv ww => vv = none ∧ ww = [(h, .inr (4, [.int 0, .null, .int 0]))]) := by
  refine ms_C.mk hE.1 (by decide) (Nat.le_of_ble_eq_true rfl) [(0, .ref h)] rfl ?_
  intro p e s m below meth c A ls X hin hP hD hS hl
  have hx := X.1
  have hb := X.2.1
  have hml := X.2.2.1
  have hown : s.vm.findClass "java/util/AbstractList" = some m.cls := X.2.2.2.1
  have hts := X.2.2.2.2.2.2.1
  have hK := X.2.2.2.2.2.2.2.2.1
  have hA := X.2.2.2.2.2.2.2.2.2.2
  refine lv_aload_n hx hb d1_0 rfl (lv_at hl 0 rfl) ?_
  refine ms_I (rest := []) (as := []) (wr := []) X hl (c_ACinit l D dA s0 hE h) (List.forall_mem_cons.mpr ⟨ms_k330, List.forall_mem_cons.mpr ⟨ms_k331, List.forall_mem_cons.mpr ⟨ms_k16, List.forall_mem_cons.mpr ⟨ms_k332, fun _ h => absurd h List.not_mem_nil⟩⟩⟩⟩) rfl ⟨by decide +kernel, by decide +kernel, (by decide +kernel : (parseMethodDescriptor "()V").map (fun d => d.parameters.length) = some 0)⟩ hP hD hS [0] [] rfl rfl ⟨by decide, by decide, by decide⟩ ⟨⟨Nat.le_of_ble_eq_true rfl, Nat.le_of_ble_eq_true rfl⟩, Nat.le_of_ble_eq_true rfl, Nat.le_of_ble_eq_true rfl⟩ rfl (Nat.le_of_ble_eq_true rfl) d1_1 (fun vv ww H locs hR hP hD hS => ?_)
  obtain ⟨rfl, rfl⟩ := hR
  have hP : va_P D vwCl [(h, .inr (4, [.int 0, .null, .int 0]))] H := hP
  have hD : va_D A [(h, .inr (4, [.int 0, .null, .int 0]))] := hD
  refine W.eq (g2 := F0 m 4 ls []) rfl ?_
  refine lv_aload_n hx hb d1_4 rfl (lv_at hl 0 rfl) ?_
  refine lv_iconst (v := 0) hx hb d1_5 (by decide) ?_
  refine va_put (D := D) (ci := 4) (v := .int 0) (ty := .int) (C := kR4) (T := kT4) (N := 3) hx hb hts ku4 kt4 kp4 kn4 hown hK hP hD hS 0 rfl rfl 0 (by decide) (hts _ ms_k338) (fun _ h => h) rfl (by decide +kernel) rfl rfl (Nat.le_of_ble_eq_true rfl) d1_6 (fun H locs hP hD hS => ?_)
  have hP : va_P D vwCl [(h, .inr (4, [.int 0, .null, .int 0]))] H := hP
  have hD : va_D A [(h, .inr (4, [.int 0, .null, .int 0]))] := hD
  exact ms_vret X d1_9 hP hD hS (Nat.le_of_ble_eq_true rfl) (Nat.le_of_ble_eq_true rfl) (⟨rfl, rfl⟩)

set_option maxRecDepth 100000 in
set_option maxHeartbeats 8000000 in
theorem c_ALinit (l : Launch) (D : va_G) (dA : Nat → ClassId) (s0 : State) (hE : ms_EV D dA s0) (h : Nat) : ms_C l D s0 yM2 bM2 1 (Option.none : Option Jvm.ClassFile.FieldType) 3 52 0 0 [.ref h] [(h, .inr (4, [.int 0, .null, .int 0]))] (fun vv ww => ∃ (a : Nat), vv = none ∧ ww = [(h, .inr (4, [.int 0, .ref a, .int 0]))]) := by
  refine ms_C.mk hE.1 (by decide) (Nat.le_of_ble_eq_true rfl) [(0, .ref h)] rfl ?_
  intro p e s m below meth c A ls X hin hP hD hS hl
  have hx := X.1
  have hb := X.2.1
  have hml := X.2.2.1
  have hown : s.vm.findClass "java/util/ArrayList" = some m.cls := X.2.2.2.1
  have hts := X.2.2.2.2.2.2.1
  have hK := X.2.2.2.2.2.2.2.2.1
  have hA := X.2.2.2.2.2.2.2.2.2.2
  refine lv_aload_n hx hb d2_0 rfl (lv_at hl 0 rfl) ?_
  refine ms_I (rest := []) (as := []) (wr := []) X hl (c_ABinit l D dA s0 hE h) (List.forall_mem_cons.mpr ⟨ms_k327, List.forall_mem_cons.mpr ⟨ms_k328, List.forall_mem_cons.mpr ⟨ms_k17, List.forall_mem_cons.mpr ⟨ms_k329, fun _ h => absurd h List.not_mem_nil⟩⟩⟩⟩) rfl ⟨by decide +kernel, by decide +kernel, (by decide +kernel : (parseMethodDescriptor "()V").map (fun d => d.parameters.length) = some 0)⟩ hP hD hS [0] [] rfl rfl ⟨by decide, by decide, by decide⟩ ⟨⟨Nat.le_of_ble_eq_true rfl, Nat.le_of_ble_eq_true rfl⟩, Nat.le_of_ble_eq_true rfl, Nat.le_of_ble_eq_true rfl⟩ rfl (Nat.le_of_ble_eq_true rfl) d2_1 (fun vv ww H locs hR hP hD hS => ?_)
  obtain ⟨rfl, rfl⟩ := hR
  have hP : va_P D vwCl [(h, .inr (4, [.int 0, .null, .int 0]))] H := hP
  have hD : va_D A [(h, .inr (4, [.int 0, .null, .int 0]))] := hD
  refine W.eq (g2 := F0 m 4 ls []) rfl ?_
  refine lv_aload_n hx hb d2_4 rfl (lv_at hl 0 rfl) ?_
  obtain ⟨eD, hZe⟩ := hE.2.2.2
  refine va_gets (own := "java/util/ArrayList") hx hb (ms_z hZe X) hS hown (hts _ ms_k334) (fun _ h => h) d2_5 ?_
  refine va_put (D := D) (ci := 4) (v := .ref eD) (ty := (.array (.object "java/lang/Object"))) (C := kR4) (T := kT4) (N := 3) hx hb hts ku4 kt4 kp4 kn4 hown hK hP hD hS 0 rfl rfl 1 (by decide) (hts _ ms_k336) (fun _ h => h) rfl (by decide +kernel) rfl rfl (Nat.le_of_ble_eq_true rfl) d2_8 (fun H locs hP hD hS => ?_)
  have hP : va_P D vwCl [(h, .inr (4, [.int 0, .ref eD, .int 0]))] H := hP
  have hD : va_D A [(h, .inr (4, [.int 0, .ref eD, .int 0]))] := hD
  exact ms_vret X d2_11 hP hD hS (Nat.le_of_ble_eq_true rfl) (Nat.le_of_ble_eq_true rfl) (⟨eD, rfl, rfl⟩)

set_option maxRecDepth 100000 in
set_option maxHeartbeats 8000000 in
theorem c_ASBinit (l : Launch) (D : va_G) (dA : Nat → ClassId) (s0 : State) (hE : ms_EV D dA s0) (h : Nat) : ms_C l D s0 yM3 bM3 2 (Option.none : Option Jvm.ClassFile.FieldType) 1 12 1 16 [.ref h, .int 16] [(h, .inr (3, [.null, .int 0, .int 0, .int 0]))] (fun vv ww => ∃ (v : Nat), vv = none ∧ ww = [(h, .inr (3, [.ref v, .int 0, .int 0, .int 0])), (v, .inl (dA 2, 16, .inl (fun _ => 0)))]) := by
  refine ms_C.mk hE.1 (by decide) (Nat.le_of_ble_eq_true rfl) [(0, .ref h), (1, .int 16)] rfl ?_
  intro p e s m below meth c A ls X hin hP hD hS hl
  have hx := X.1
  have hb := X.2.1
  have hml := X.2.2.1
  have hown : s.vm.findClass "java/lang/AbstractStringBuilder" = some m.cls := X.2.2.2.1
  have hts := X.2.2.2.2.2.2.1
  have hK := X.2.2.2.2.2.2.2.2.1
  have hA := X.2.2.2.2.2.2.2.2.2.2
  refine lv_aload_n hx hb d3_0 rfl (lv_at hl 0 rfl) ?_
  refine W.objInit hx hb hown (hts _ ms_k47) (hts _ ms_k37) (hts _ ms_k38) rfl (by rw [hml]; exact hl.1) rfl d3_1 (Nat.le_of_ble_eq_true rfl) (Nat.le_of_ble_eq_true rfl) ?_
  refine W.eq (g2 := F0 m 4 ls []) rfl ?_
  refine va_gets (own := "java/lang/AbstractStringBuilder") hx hb (ms_z hE.2.2.1 X) hS hown (hts _ ms_k48) (fun _ h => h) d3_4 ?_
  refine lv_if_eq hx hb d3_7 rfl (fun h9 => absurd h9 (by decide)) (fun _ => ?_)
  refine lv_aload_n hx hb d3_10 rfl (lv_at hl 0 rfl) ?_
  refine lv_iload_n hx hb d3_11 rfl (lv_at hl 1 rfl) ?_
  refine ms_newa (atype := .byte) (ty := .byte) (a0 := (16, .inl (fun _ => 0))) X ms_k71 rfl 2 rfl (fun _ h => h) hP hD hS (fun _ => rfl) (by decide) (by decide) (by decide) (Nat.le_of_ble_eq_true rfl) (Nat.le_of_ble_eq_true rfl) d3_12 (fun q1 H hP hD hS => ?_)
  have hP : va_P D vwCl [(h, .inr (3, [.null, .int 0, .int 0, .int 0])), (q1, .inl (dA 2, 16, .inl (fun _ => 0)))] H := hP
  have hD : va_D A [(h, .inr (3, [.null, .int 0, .int 0, .int 0])), (q1, .inl (dA 2, 16, .inl (fun _ => 0)))] := hD
  refine va_put (D := D) (ci := 3) (v := .ref q1) (ty := (.array .byte)) (C := kR3) (T := kT3) (N := 4) hx hb hts ku3 kt3 kp3 kn3 hown hK hP hD hS 0 rfl rfl 0 (by decide) (hts _ ms_k57) (fun _ h => h) rfl (by decide +kernel) rfl rfl (Nat.le_of_ble_eq_true rfl) d3_14 (fun H locs hP hD hS => ?_)
  have hP : va_P D vwCl [(h, .inr (3, [.ref q1, .int 0, .int 0, .int 0])), (q1, .inl (dA 2, 16, .inl (fun _ => 0)))] H := hP
  have hD : va_D A [(h, .inr (3, [.ref q1, .int 0, .int 0, .int 0])), (q1, .inl (dA 2, 16, .inl (fun _ => 0)))] := hD
  refine lv_aload_n hx hb d3_17 rfl (lv_at hl 0 rfl) ?_
  refine lv_iconst (v := 0) hx hb d3_18 (by decide) ?_
  refine va_put (D := D) (ci := 3) (v := .int 0) (ty := .byte) (C := kR3) (T := kT3) (N := 4) hx hb hts ku3 kt3 kp3 kn3 hown hK hP hD hS 0 rfl rfl 1 (by decide) (hts _ ms_k58) (fun _ h => h) rfl (by decide +kernel) rfl rfl (Nat.le_of_ble_eq_true rfl) d3_19 (fun H locs hP hD hS => ?_)
  have hP : va_P D vwCl [(h, .inr (3, [.ref q1, .int 0, .int 0, .int 0])), (q1, .inl (dA 2, 16, .inl (fun _ => 0)))] H := hP
  have hD : va_D A [(h, .inr (3, [.ref q1, .int 0, .int 0, .int 0])), (q1, .inl (dA 2, 16, .inl (fun _ => 0)))] := hD
  refine lv_goto hx hb d3_22 rfl ?_
  exact ms_vret X d3_38 hP hD hS (Nat.le_of_ble_eq_true rfl) (Nat.le_of_ble_eq_true rfl) (⟨q1, rfl, rfl⟩)

set_option maxRecDepth 100000 in
set_option maxHeartbeats 8000000 in
theorem c_SBinit (l : Launch) (D : va_G) (dA : Nat → ClassId) (s0 : State) (hE : ms_EV D dA s0) (h : Nat) : ms_C l D s0 yM4 bM4 1 (Option.none : Option Jvm.ClassFile.FieldType) 2 33 1 16 [.ref h] [(h, .inr (3, [.null, .int 0, .int 0, .int 0]))] (fun vv ww => ∃ (v : Nat), vv = none ∧ ww = [(h, .inr (3, [.ref v, .int 0, .int 0, .int 0])), (v, .inl (dA 2, 16, .inl (fun _ => 0)))]) := by
  refine ms_C.mk hE.1 (by decide) (Nat.le_of_ble_eq_true rfl) [(0, .ref h)] rfl ?_
  intro p e s m below meth c A ls X hin hP hD hS hl
  have hx := X.1
  have hb := X.2.1
  have hml := X.2.2.1
  have hown : s.vm.findClass "java/lang/StringBuilder" = some m.cls := X.2.2.2.1
  have hts := X.2.2.2.2.2.2.1
  have hK := X.2.2.2.2.2.2.2.2.1
  have hA := X.2.2.2.2.2.2.2.2.2.2
  refine lv_aload_n hx hb d4_0 rfl (lv_at hl 0 rfl) ?_
  refine lv_bipush (v := 16) hx hb d4_1 (by decide) ?_
  refine ms_I (rest := []) (as := [.int 16]) (wr := []) X hl (c_ASBinit l D dA s0 hE h) (List.forall_mem_cons.mpr ⟨ms_k44, List.forall_mem_cons.mpr ⟨ms_k45, List.forall_mem_cons.mpr ⟨ms_k2, List.forall_mem_cons.mpr ⟨ms_k46, fun _ h => absurd h List.not_mem_nil⟩⟩⟩⟩) rfl ⟨by decide +kernel, by decide +kernel, (by decide +kernel : (parseMethodDescriptor "(I)V").map (fun d => d.parameters.length) = some 1)⟩ hP hD hS [0] [] rfl rfl ⟨by decide, by decide, by decide⟩ ⟨⟨Nat.le_of_ble_eq_true rfl, Nat.le_of_ble_eq_true rfl⟩, Nat.le_of_ble_eq_true rfl, Nat.le_of_ble_eq_true rfl⟩ rfl (Nat.le_of_ble_eq_true rfl) d4_3 (fun vv ww H locs hR hP hD hS => ?_)
  obtain ⟨v_1, rfl, rfl⟩ := hR
  have hP : va_P D vwCl [(h, .inr (3, [.ref v_1, .int 0, .int 0, .int 0])), (v_1, .inl (dA 2, 16, .inl (fun _ => 0)))] H := hP
  have hD : va_D A [(h, .inr (3, [.ref v_1, .int 0, .int 0, .int 0])), (v_1, .inl (dA 2, 16, .inl (fun _ => 0)))] := hD
  refine W.eq (g2 := F0 m 6 ls []) rfl ?_
  exact ms_vret X d4_6 hP hD hS (Nat.le_of_ble_eq_true rfl) (Nat.le_of_ble_eq_true rfl) (⟨v_1, rfl, rfl⟩)

set_option maxRecDepth 100000 in
set_option maxHeartbeats 8000000 in
theorem c_ASBlen (l : Launch) (D : va_G) (dA : Nat → ClassId) (s0 : State) (hE : ms_EV D dA s0) (h : Nat) (v : Nat) (k : Int32) : ms_C l D s0 yM5 bM5 1 (Option.some Jvm.ClassFile.FieldType.int) 0 0 0 0 [.ref h] [(h, .inr (3, [.ref v, .int 0, .int 0, .int k]))] (fun vv ww => vv = some (.int k) ∧ ww = [(h, .inr (3, [.ref v, .int 0, .int 0, .int k]))]) := by
  refine ms_C.mk hE.1 (by decide) (Nat.le_of_ble_eq_true rfl) [(0, .ref h)] rfl ?_
  intro p e s m below meth c A ls X hin hP hD hS hl
  have hx := X.1
  have hb := X.2.1
  have hml := X.2.2.1
  have hown : s.vm.findClass "java/lang/AbstractStringBuilder" = some m.cls := X.2.2.2.1
  have hts := X.2.2.2.2.2.2.1
  have hK := X.2.2.2.2.2.2.2.2.1
  have hA := X.2.2.2.2.2.2.2.2.2.2
  refine lv_aload_n hx hb d5_0 rfl (lv_at hl 0 rfl) ?_
  refine va_get (D := D) (ci := 3) (v := .int k) (C := kR3) (T := kT3) (N := 4) hx hb hts ku3 hown hK hP 0 rfl rfl 3 (by decide) (hts _ ms_k61) (fun _ h => h) rfl d5_1 ?_
  exact ms_iret X d5_4 hP hD hS (Nat.le_of_ble_eq_true rfl) (Nat.le_of_ble_eq_true rfl) (⟨rfl, rfl⟩)

set_option maxRecDepth 100000 in
set_option maxHeartbeats 8000000 in
theorem c_SBlen (l : Launch) (D : va_G) (dA : Nat → ClassId) (s0 : State) (hE : ms_EV D dA s0) (h : Nat) (v : Nat) (k : Int32) : ms_C l D s0 yM6 bM6 1 (Option.some Jvm.ClassFile.FieldType.int) 1 20 0 0 [.ref h] [(h, .inr (3, [.ref v, .int 0, .int 0, .int k]))] (fun vv ww => vv = some (.int k) ∧ ww = [(h, .inr (3, [.ref v, .int 0, .int 0, .int k]))]) := by
  refine ms_C.mk hE.1 (by decide) (Nat.le_of_ble_eq_true rfl) [(0, .ref h)] rfl ?_
  intro p e s m below meth c A ls X hin hP hD hS hl
  have hx := X.1
  have hb := X.2.1
  have hml := X.2.2.1
  have hown : s.vm.findClass "java/lang/StringBuilder" = some m.cls := X.2.2.2.1
  have hts := X.2.2.2.2.2.2.1
  have hK := X.2.2.2.2.2.2.2.2.1
  have hA := X.2.2.2.2.2.2.2.2.2.2
  refine lv_aload_n hx hb d6_0 rfl (lv_at hl 0 rfl) ?_
  refine ms_SU (C := "java/lang/StringBuilder") (rest := []) (as := []) (wr := []) ((hK.1 3 _ rfl).2) X hl (c_ASBlen l D dA s0 hE h v k) (List.forall_mem_cons.mpr ⟨ms_k133, List.forall_mem_cons.mpr ⟨ms_k1832, List.forall_mem_cons.mpr ⟨ms_k70, List.forall_mem_cons.mpr ⟨ms_k134, List.forall_mem_cons.mpr ⟨ms_k2, List.forall_mem_cons.mpr ⟨ms_k135, fun _ h => absurd h List.not_mem_nil⟩⟩⟩⟩⟩⟩) ⟨by decide +kernel, (by decide +kernel : (parseMethodDescriptor "()I").map (fun d => d.parameters.length) = some 0)⟩ (va_recv hK hP rfl (q0 := 0) rfl) hP hD hS [0] [] rfl rfl ⟨by decide, by decide, by decide⟩ ⟨⟨Nat.le_of_ble_eq_true rfl, Nat.le_of_ble_eq_true rfl⟩, Nat.le_of_ble_eq_true rfl, Nat.le_of_ble_eq_true rfl⟩ rfl (Nat.le_of_ble_eq_true rfl) d6_1 (fun vv ww H locs hR hP hD hS => ?_)
  obtain ⟨rfl, rfl⟩ := hR
  have hP : va_P D vwCl [(h, .inr (3, [.ref v, .int 0, .int 0, .int k]))] H := hP
  have hD : va_D A [(h, .inr (3, [.ref v, .int 0, .int 0, .int k]))] := hD
  refine W.eq (g2 := F0 m 4 ls [.int k]) rfl ?_
  exact ms_iret X d6_4 hP hD hS (Nat.le_of_ble_eq_true rfl) (Nat.le_of_ble_eq_true rfl) (⟨rfl, rfl⟩)

set_option maxRecDepth 100000 in
set_option maxHeartbeats 8000000 in
theorem c_isLat (l : Launch) (D : va_G) (dA : Nat → ClassId) (s0 : State) (hE : ms_EV D dA s0) (h : Nat) (v : Nat) (k : Int32) : ms_C l D s0 yM7 bM7 1 (Option.some Jvm.ClassFile.FieldType.boolean) 0 0 0 0 [.ref h] [(h, .inr (3, [.ref v, .int 0, .int 0, .int k]))] (fun vv ww => vv = some (.int 1) ∧ ww = [(h, .inr (3, [.ref v, .int 0, .int 0, .int k]))]) := by
  refine ms_C.mk hE.1 (by decide) (Nat.le_of_ble_eq_true rfl) [(0, .ref h)] rfl ?_
  intro p e s m below meth c A ls X hin hP hD hS hl
  have hx := X.1
  have hb := X.2.1
  have hml := X.2.2.1
  have hown : s.vm.findClass "java/lang/AbstractStringBuilder" = some m.cls := X.2.2.2.1
  have hts := X.2.2.2.2.2.2.1
  have hK := X.2.2.2.2.2.2.2.2.1
  have hA := X.2.2.2.2.2.2.2.2.2.2
  refine va_gets (own := "java/lang/AbstractStringBuilder") hx hb (ms_z hE.2.2.1 X) hS hown (hts _ ms_k48) (fun _ h => h) d7_0 ?_
  refine lv_if_eq hx hb d7_3 rfl (fun h9 => absurd h9 (by decide)) (fun _ => ?_)
  refine lv_aload_n hx hb d7_6 rfl (lv_at hl 0 rfl) ?_
  refine va_get (D := D) (ci := 3) (v := .int 0) (C := kR3) (T := kT3) (N := 4) hx hb hts ku3 hown hK hP 0 rfl rfl 1 (by decide) (hts _ ms_k58) (fun _ h => h) rfl d7_7 ?_
  refine lv_if_ne hx hb d7_10 rfl (fun h9 => absurd h9 (by decide)) (fun _ => ?_)
  refine lv_iconst (v := 1) hx hb d7_13 (by decide) ?_
  refine lv_goto hx hb d7_14 rfl ?_
  exact ms_zret X d7_18 hP hD hS (Nat.le_of_ble_eq_true rfl) (Nat.le_of_ble_eq_true rfl) (⟨rfl, rfl⟩) (rfl)

set_option maxRecDepth 100000 in
set_option maxHeartbeats 8000000 in
theorem c_getVal (l : Launch) (D : va_G) (dA : Nat → ClassId) (s0 : State) (hE : ms_EV D dA s0) (h : Nat) (v : Nat) (k : Int32) : ms_C l D s0 yM8 bM8 1 (Option.some (Jvm.ClassFile.FieldType.array Jvm.ClassFile.FieldType.byte)) 0 0 0 0 [.ref h] [(h, .inr (3, [.ref v, .int 0, .int 0, .int k]))] (fun vv ww => vv = some (.ref v) ∧ ww = [(h, .inr (3, [.ref v, .int 0, .int 0, .int k]))]) := by
  refine ms_C.mk hE.1 (by decide) (Nat.le_of_ble_eq_true rfl) [(0, .ref h)] rfl ?_
  intro p e s m below meth c A ls X hin hP hD hS hl
  have hx := X.1
  have hb := X.2.1
  have hml := X.2.2.1
  have hown : s.vm.findClass "java/lang/AbstractStringBuilder" = some m.cls := X.2.2.2.1
  have hts := X.2.2.2.2.2.2.1
  have hK := X.2.2.2.2.2.2.2.2.1
  have hA := X.2.2.2.2.2.2.2.2.2.2
  refine lv_aload_n hx hb d8_0 rfl (lv_at hl 0 rfl) ?_
  refine va_get (D := D) (ci := 3) (v := .ref v) (C := kR3) (T := kT3) (N := 4) hx hb hts ku3 hown hK hP 0 rfl rfl 0 (by decide) (hts _ ms_k57) (fun _ h => h) rfl d8_1 ?_
  exact ms_aret X d8_4 hP hD hS (Nat.le_of_ble_eq_true rfl) (Nat.le_of_ble_eq_true rfl) (⟨rfl, rfl⟩) (Or.inr ⟨_, rfl⟩) (Or.inr ⟨_, rfl⟩)

set_option maxRecDepth 100000 in
set_option maxHeartbeats 8000000 in
theorem c_canEnc (l : Launch) (D : va_G) (dA : Nat → ClassId) (s0 : State) (hE : ms_EV D dA s0) (z : Int32) (hz : ¬ 255 < z) : ms_C l D s0 yM9 bM9 1 (Option.some Jvm.ClassFile.FieldType.boolean) 0 0 0 0 [.int z] [] (fun vv ww => vv = some (.int 1) ∧ ww = []) := by
  refine ms_C.mk hE.1 (by decide) (Nat.le_of_ble_eq_true rfl) [(0, .int z)] rfl ?_
  intro p e s m below meth c A ls X hin hP hD hS hl
  have hx := X.1
  have hb := X.2.1
  have hml := X.2.2.1
  have hown : s.vm.findClass "java/lang/StringLatin1" = some m.cls := X.2.2.2.1
  have hts := X.2.2.2.2.2.2.1
  have hK := X.2.2.2.2.2.2.2.2.1
  have hA := X.2.2.2.2.2.2.2.2.2.2
  refine lv_iload_n hx hb d9_0 rfl (lv_at hl 0 rfl) ?_
  refine lv_sipush (v := 255) hx hb d9_1 (by decide) ?_
  refine lv_icmp_gt hx hb d9_4 rfl (fun h9 => absurd h9 (hz)) (fun _ => ?_)
  refine lv_iconst (v := 1) hx hb d9_7 (by decide) ?_
  refine lv_goto hx hb d9_8 rfl ?_
  exact ms_zret X d9_12 hP hD hS (Nat.le_of_ble_eq_true rfl) (Nat.le_of_ble_eq_true rfl) (⟨rfl, rfl⟩) (rfl)

set_option maxRecDepth 100000 in
set_option maxHeartbeats 8000000 in
theorem c_ens0 (l : Launch) (D : va_G) (dA : Nat → ClassId) (s0 : State) (hE : ms_EV D dA s0) (h : Nat) (v : Nat) (k : Int32) (f : Nat → Int32) : ms_C l D s0 yM10 bM10 3 (Option.none : Option Jvm.ClassFile.FieldType) 0 0 0 0 [.ref h, .int 0] [(h, .inr (3, [.ref v, .int 0, .int 0, .int k])), (v, .inl (dA 2, 16, .inl f))] (fun vv ww => vv = none ∧ ww = [(h, .inr (3, [.ref v, .int 0, .int 0, .int k])), (v, .inl (dA 2, 16, .inl f))]) := by
  refine ms_C.mk hE.1 (by decide) (Nat.le_of_ble_eq_true rfl) [(0, .ref h), (1, .int 0)] rfl ?_
  intro p e s m below meth c A ls X hin hP hD hS hl
  have hx := X.1
  have hb := X.2.1
  have hml := X.2.2.1
  have hown : s.vm.findClass "java/lang/AbstractStringBuilder" = some m.cls := X.2.2.2.1
  have hts := X.2.2.2.2.2.2.1
  have hK := X.2.2.2.2.2.2.2.2.1
  have hA := X.2.2.2.2.2.2.2.2.2.2
  refine lv_aload_n hx hb d10_0 rfl (lv_at hl 0 rfl) ?_
  refine va_get (D := D) (ci := 3) (v := .ref v) (C := kR3) (T := kT3) (N := 4) hx hb hts ku3 hown hK hP 0 rfl rfl 0 (by decide) (hts _ ms_k57) (fun _ h => h) rfl d10_1 ?_
  refine va_alen (v := 16) hx hb hK hP 1 2 rfl rfl rfl d10_4 ?_
  refine lv_aload_n hx hb d10_5 rfl (lv_at hl 0 rfl) ?_
  refine va_get (D := D) (ci := 3) (v := .int 0) (C := kR3) (T := kT3) (N := 4) hx hb hts ku3 hown hK hP 0 rfl rfl 1 (by decide) (hts _ ms_k58) (fun _ h => h) rfl d10_6 ?_
  refine lv_ishr hx hb d10_9 ?_
  refine ms_top (y := 16) (by decide) ?_
  refine lv_istore_n hx hb d10_10 rfl hl (by decide) rfl (fun ls hl => ?_)
  have hl : lv_has ls 3 [(2, .int 16), (0, .ref h), (1, .int 0)] := hl
  refine lv_iload_n hx hb d10_11 rfl (lv_at hl 2 rfl) ?_
  refine lv_iload_n hx hb d10_12 rfl (lv_at hl 0 rfl) ?_
  refine lv_isub hx hb d10_13 ?_
  refine ms_top (y := (-16)) (by decide) ?_
  refine lv_if_le hx hb d10_14 rfl (fun _ => ?_) (fun h9 => absurd (by decide) h9)
  exact ms_vret X d10_38 hP hD hS (Nat.le_of_ble_eq_true rfl) (Nat.le_of_ble_eq_true rfl) (⟨rfl, rfl⟩)

set_option maxRecDepth 100000 in
set_option maxHeartbeats 8000000 in
theorem c_ens1 (l : Launch) (D : va_G) (dA : Nat → ClassId) (s0 : State) (hE : ms_EV D dA s0) (h : Nat) (v : Nat) (k : Int32) (f : Nat → Int32) : ms_C l D s0 yM10 bM10 3 (Option.none : Option Jvm.ClassFile.FieldType) 0 0 0 0 [.ref h, .int 1] [(h, .inr (3, [.ref v, .int 0, .int 0, .int k])), (v, .inl (dA 2, 16, .inl f))] (fun vv ww => vv = none ∧ ww = [(h, .inr (3, [.ref v, .int 0, .int 0, .int k])), (v, .inl (dA 2, 16, .inl f))]) := by
  refine ms_C.mk hE.1 (by decide) (Nat.le_of_ble_eq_true rfl) [(0, .ref h), (1, .int 1)] rfl ?_
  intro p e s m below meth c A ls X hin hP hD hS hl
  have hx := X.1
  have hb := X.2.1
  have hml := X.2.2.1
  have hown : s.vm.findClass "java/lang/AbstractStringBuilder" = some m.cls := X.2.2.2.1
  have hts := X.2.2.2.2.2.2.1
  have hK := X.2.2.2.2.2.2.2.2.1
  have hA := X.2.2.2.2.2.2.2.2.2.2
  refine lv_aload_n hx hb d10_0 rfl (lv_at hl 0 rfl) ?_
  refine va_get (D := D) (ci := 3) (v := .ref v) (C := kR3) (T := kT3) (N := 4) hx hb hts ku3 hown hK hP 0 rfl rfl 0 (by decide) (hts _ ms_k57) (fun _ h => h) rfl d10_1 ?_
  refine va_alen (v := 16) hx hb hK hP 1 2 rfl rfl rfl d10_4 ?_
  refine lv_aload_n hx hb d10_5 rfl (lv_at hl 0 rfl) ?_
  refine va_get (D := D) (ci := 3) (v := .int 0) (C := kR3) (T := kT3) (N := 4) hx hb hts ku3 hown hK hP 0 rfl rfl 1 (by decide) (hts _ ms_k58) (fun _ h => h) rfl d10_6 ?_
  refine lv_ishr hx hb d10_9 ?_
  refine ms_top (y := 16) (by decide) ?_
  refine lv_istore_n hx hb d10_10 rfl hl (by decide) rfl (fun ls hl => ?_)
  have hl : lv_has ls 3 [(2, .int 16), (0, .ref h), (1, .int 1)] := hl
  refine lv_iload_n hx hb d10_11 rfl (lv_at hl 2 rfl) ?_
  refine lv_iload_n hx hb d10_12 rfl (lv_at hl 0 rfl) ?_
  refine lv_isub hx hb d10_13 ?_
  refine ms_top (y := (-15)) (by decide) ?_
  refine lv_if_le hx hb d10_14 rfl (fun _ => ?_) (fun h9 => absurd (by decide) h9)
  exact ms_vret X d10_38 hP hD hS (Nat.le_of_ble_eq_true rfl) (Nat.le_of_ble_eq_true rfl) (⟨rfl, rfl⟩)

set_option maxRecDepth 100000 in
set_option maxHeartbeats 8000000 in
theorem c_ASBset (l : Launch) (D : va_G) (dA : Nat → ClassId) (s0 : State) (hE : ms_EV D dA s0) (h : Nat) (v : Nat) (f : Nat → Int32) : ms_C l D s0 yM11 bM11 2 (Option.none : Option Jvm.ClassFile.FieldType) 1 22 0 0 [.ref h, .int 0] [(h, .inr (3, [.ref v, .int 0, .int 0, .int 0])), (v, .inl (dA 2, 16, .inl f))] (fun vv ww => vv = none ∧ ww = [(h, .inr (3, [.ref v, .int 0, .int 0, .int 0])), (v, .inl (dA 2, 16, .inl f))]) := by
  refine ms_C.mk hE.1 (by decide) (Nat.le_of_ble_eq_true rfl) [(0, .ref h), (1, .int 0)] rfl ?_
  intro p e s m below meth c A ls X hin hP hD hS hl
  have hx := X.1
  have hb := X.2.1
  have hml := X.2.2.1
  have hown : s.vm.findClass "java/lang/AbstractStringBuilder" = some m.cls := X.2.2.2.1
  have hts := X.2.2.2.2.2.2.1
  have hK := X.2.2.2.2.2.2.2.2.1
  have hA := X.2.2.2.2.2.2.2.2.2.2
  refine lv_iload_n hx hb d11_0 rfl (lv_at hl 1 rfl) ?_
  refine lv_if_ge hx hb d11_1 rfl (fun _ => ?_) (fun h9 => absurd (by decide) h9)
  refine lv_aload_n hx hb d11_13 rfl (lv_at hl 0 rfl) ?_
  refine lv_iload_n hx hb d11_14 rfl (lv_at hl 1 rfl) ?_
  refine ms_U (C := "java/lang/StringBuilder") (x := ⟨"java/lang/AbstractStringBuilder", "ensureCapacityInternal", "(I)V"⟩) (owner := "java/lang/AbstractStringBuilder") (rest := []) (as := [.int 0]) (wr := []) X hl (c_ens0 l D dA s0 hE h v 0 f) (List.forall_mem_cons.mpr ⟨ms_k143, List.forall_mem_cons.mpr ⟨ms_k1834, List.forall_mem_cons.mpr ⟨ms_x0, List.forall_mem_cons.mpr ⟨ms_k145, List.forall_mem_cons.mpr ⟨ms_k2, List.forall_mem_cons.mpr ⟨ms_k146, fun _ h => absurd h List.not_mem_nil⟩⟩⟩⟩⟩⟩) rfl ⟨by decide +kernel, by decide +kernel, (by decide +kernel : (parseMethodDescriptor "(I)V").map (fun d => d.parameters.length) = some 1)⟩ (va_recv hK hP rfl (q0 := 0) rfl) hP hD hS [0, 1] [] rfl rfl ⟨by decide, by decide, by decide⟩ ⟨⟨Nat.le_of_ble_eq_true rfl, Nat.le_of_ble_eq_true rfl⟩, Nat.le_of_ble_eq_true rfl, Nat.le_of_ble_eq_true rfl⟩ rfl (Nat.le_of_ble_eq_true rfl) d11_15 (fun vv ww H locs hR hP hD hS => ?_)
  obtain ⟨rfl, rfl⟩ := hR
  have hP : va_P D vwCl [(h, .inr (3, [.ref v, .int 0, .int 0, .int 0])), (v, .inl (dA 2, 16, .inl f))] H := hP
  have hD : va_D A [(h, .inr (3, [.ref v, .int 0, .int 0, .int 0])), (v, .inl (dA 2, 16, .inl f))] := hD
  refine W.eq (g2 := F0 m 18 ls []) rfl ?_
  refine lv_aload_n hx hb d11_18 rfl (lv_at hl 0 rfl) ?_
  refine va_get (D := D) (ci := 3) (v := .int 0) (C := kR3) (T := kT3) (N := 4) hx hb hts ku3 hown hK hP 0 rfl rfl 3 (by decide) (hts _ ms_k61) (fun _ h => h) rfl d11_19 ?_
  refine lv_iload_n hx hb d11_22 rfl (lv_at hl 1 rfl) ?_
  refine lv_icmp_ge hx hb d11_23 rfl (fun _ => ?_) (fun h9 => absurd (by decide) h9)
  refine lv_aload_n hx hb d11_63 rfl (lv_at hl 0 rfl) ?_
  refine va_get (D := D) (ci := 3) (v := .int 0) (C := kR3) (T := kT3) (N := 4) hx hb hts ku3 hown hK hP 0 rfl rfl 3 (by decide) (hts _ ms_k61) (fun _ h => h) rfl d11_64 ?_
  refine lv_iload_n hx hb d11_67 rfl (lv_at hl 1 rfl) ?_
  refine lv_icmp_le hx hb d11_68 rfl (fun _ => ?_) (fun h9 => absurd (by decide) h9)
  refine lv_aload_n hx hb d11_76 rfl (lv_at hl 0 rfl) ?_
  refine lv_iload_n hx hb d11_77 rfl (lv_at hl 1 rfl) ?_
  refine va_put (D := D) (ci := 3) (v := .int 0) (ty := .int) (C := kR3) (T := kT3) (N := 4) hx hb hts ku3 kt3 kp3 kn3 hown hK hP hD hS 0 rfl rfl 3 (by decide) (hts _ ms_k61) (fun _ h => h) rfl (by decide +kernel) rfl rfl (Nat.le_of_ble_eq_true rfl) d11_78 (fun H locs hP hD hS => ?_)
  have hP : va_P D vwCl [(h, .inr (3, [.ref v, .int 0, .int 0, .int 0])), (v, .inl (dA 2, 16, .inl f))] H := hP
  have hD : va_D A [(h, .inr (3, [.ref v, .int 0, .int 0, .int 0])), (v, .inl (dA 2, 16, .inl f))] := hD
  exact ms_vret X d11_81 hP hD hS (Nat.le_of_ble_eq_true rfl) (Nat.le_of_ble_eq_true rfl) (⟨rfl, rfl⟩)

set_option maxRecDepth 100000 in
set_option maxHeartbeats 8000000 in
theorem c_SBset (l : Launch) (D : va_G) (dA : Nat → ClassId) (s0 : State) (hE : ms_EV D dA s0) (h : Nat) (v : Nat) (f : Nat → Int32) : ms_C l D s0 yM12 bM12 2 (Option.none : Option Jvm.ClassFile.FieldType) 2 43 0 0 [.ref h, .int 0] [(h, .inr (3, [.ref v, .int 0, .int 0, .int 0])), (v, .inl (dA 2, 16, .inl f))] (fun vv ww => vv = none ∧ ww = [(h, .inr (3, [.ref v, .int 0, .int 0, .int 0])), (v, .inl (dA 2, 16, .inl f))]) := by
  refine ms_C.mk hE.1 (by decide) (Nat.le_of_ble_eq_true rfl) [(0, .ref h), (1, .int 0)] rfl ?_
  intro p e s m below meth c A ls X hin hP hD hS hl
  have hx := X.1
  have hb := X.2.1
  have hml := X.2.2.1
  have hown : s.vm.findClass "java/lang/StringBuilder" = some m.cls := X.2.2.2.1
  have hts := X.2.2.2.2.2.2.1
  have hK := X.2.2.2.2.2.2.2.2.1
  have hA := X.2.2.2.2.2.2.2.2.2.2
  refine lv_aload_n hx hb d12_0 rfl (lv_at hl 0 rfl) ?_
  refine lv_iload_n hx hb d12_1 rfl (lv_at hl 1 rfl) ?_
  refine ms_SU (C := "java/lang/StringBuilder") (rest := []) (as := [.int 0]) (wr := []) ((hK.1 3 _ rfl).2) X hl (c_ASBset l D dA s0 hE h v f) (List.forall_mem_cons.mpr ⟨ms_k299, List.forall_mem_cons.mpr ⟨ms_k1838, List.forall_mem_cons.mpr ⟨ms_k70, List.forall_mem_cons.mpr ⟨ms_k300, List.forall_mem_cons.mpr ⟨ms_k2, List.forall_mem_cons.mpr ⟨ms_k301, fun _ h => absurd h List.not_mem_nil⟩⟩⟩⟩⟩⟩) ⟨by decide +kernel, (by decide +kernel : (parseMethodDescriptor "(I)V").map (fun d => d.parameters.length) = some 1)⟩ (va_recv hK hP rfl (q0 := 0) rfl) hP hD hS [0, 1] [] rfl rfl ⟨by decide, by decide, by decide⟩ ⟨⟨Nat.le_of_ble_eq_true rfl, Nat.le_of_ble_eq_true rfl⟩, Nat.le_of_ble_eq_true rfl, Nat.le_of_ble_eq_true rfl⟩ rfl (Nat.le_of_ble_eq_true rfl) d12_2 (fun vv ww H locs hR hP hD hS => ?_)
  obtain ⟨rfl, rfl⟩ := hR
  have hP : va_P D vwCl [(h, .inr (3, [.ref v, .int 0, .int 0, .int 0])), (v, .inl (dA 2, 16, .inl f))] H := hP
  have hD : va_D A [(h, .inr (3, [.ref v, .int 0, .int 0, .int 0])), (v, .inl (dA 2, 16, .inl f))] := hD
  refine W.eq (g2 := F0 m 5 ls []) rfl ?_
  exact ms_vret X d12_5 hP hD hS (Nat.le_of_ble_eq_true rfl) (Nat.le_of_ble_eq_true rfl) (⟨rfl, rfl⟩)

set_option maxRecDepth 100000 in
set_option maxHeartbeats 8000000 in
theorem c_ASBapp (l : Launch) (D : va_G) (dA : Nat → ClassId) (s0 : State) (hE : ms_EV D dA s0) (h : Nat) (v : Nat) (f : Nat → Int32) (z : Int32) (hz : ¬ 255 < z) : ms_C l D s0 yM13 bM13 2 (Option.some (Jvm.ClassFile.FieldType.object "java/lang/AbstractStringBuilder")) 1 22 0 0 [.ref h, .int z] [(h, .inr (3, [.ref v, .int 0, .int 0, .int 0])), (v, .inl (dA 2, 16, .inl f))] (fun vv _ => vv = some (.ref h)) := by
  refine ms_C.mk hE.1 (by decide) (Nat.le_of_ble_eq_true rfl) [(0, .ref h), (1, .int z)] rfl ?_
  intro p e s m below meth c A ls X hin hP hD hS hl
  have hx := X.1
  have hb := X.2.1
  have hml := X.2.2.1
  have hown : s.vm.findClass "java/lang/AbstractStringBuilder" = some m.cls := X.2.2.2.1
  have hts := X.2.2.2.2.2.2.1
  have hK := X.2.2.2.2.2.2.2.2.1
  have hA := X.2.2.2.2.2.2.2.2.2.2
  refine lv_aload_n hx hb d13_0 rfl (lv_at hl 0 rfl) ?_
  refine lv_aload_n hx hb d13_1 rfl (lv_at hl 0 rfl) ?_
  refine va_get (D := D) (ci := 3) (v := .int 0) (C := kR3) (T := kT3) (N := 4) hx hb hts ku3 hown hK hP 0 rfl rfl 3 (by decide) (hts _ ms_k61) (fun _ h => h) rfl d13_2 ?_
  refine lv_iconst (v := 1) hx hb d13_5 (by decide) ?_
  refine lv_iadd hx hb d13_6 ?_
  refine ms_top (y := 1) (by decide) ?_
  refine ms_U (C := "java/lang/StringBuilder") (x := ⟨"java/lang/AbstractStringBuilder", "ensureCapacityInternal", "(I)V"⟩) (owner := "java/lang/AbstractStringBuilder") (rest := []) (as := [.int 1]) (wr := []) X hl (c_ens1 l D dA s0 hE h v 0 f) (List.forall_mem_cons.mpr ⟨ms_k143, List.forall_mem_cons.mpr ⟨ms_k1834, List.forall_mem_cons.mpr ⟨ms_x0, List.forall_mem_cons.mpr ⟨ms_k145, List.forall_mem_cons.mpr ⟨ms_k2, List.forall_mem_cons.mpr ⟨ms_k146, fun _ h => absurd h List.not_mem_nil⟩⟩⟩⟩⟩⟩) rfl ⟨by decide +kernel, by decide +kernel, (by decide +kernel : (parseMethodDescriptor "(I)V").map (fun d => d.parameters.length) = some 1)⟩ (va_recv hK hP rfl (q0 := 0) rfl) hP hD hS [0, 1] [] rfl rfl ⟨by decide, by decide, by decide⟩ ⟨⟨Nat.le_of_ble_eq_true rfl, Nat.le_of_ble_eq_true rfl⟩, Nat.le_of_ble_eq_true rfl, Nat.le_of_ble_eq_true rfl⟩ rfl (Nat.le_of_ble_eq_true rfl) d13_7 (fun vv ww H locs hR hP hD hS => ?_)
  obtain ⟨rfl, rfl⟩ := hR
  have hP : va_P D vwCl [(h, .inr (3, [.ref v, .int 0, .int 0, .int 0])), (v, .inl (dA 2, 16, .inl f))] H := hP
  have hD : va_D A [(h, .inr (3, [.ref v, .int 0, .int 0, .int 0])), (v, .inl (dA 2, 16, .inl f))] := hD
  refine W.eq (g2 := F0 m 10 ls []) rfl ?_
  refine lv_aload_n hx hb d13_10 rfl (lv_at hl 0 rfl) ?_
  refine ms_U (C := "java/lang/StringBuilder") (x := ⟨"java/lang/AbstractStringBuilder", "isLatin1", "()Z"⟩) (owner := "java/lang/AbstractStringBuilder") (rest := []) (as := []) (wr := [(v, .inl (dA 2, 16, .inl f))]) X hl (c_isLat l D dA s0 hE h v 0) (List.forall_mem_cons.mpr ⟨ms_k178, List.forall_mem_cons.mpr ⟨ms_k180, List.forall_mem_cons.mpr ⟨ms_k181, List.forall_mem_cons.mpr ⟨ms_k179, List.forall_mem_cons.mpr ⟨ms_k2, List.forall_mem_cons.mpr ⟨ms_k182, fun _ h => absurd h List.not_mem_nil⟩⟩⟩⟩⟩⟩) rfl ⟨by decide +kernel, by decide +kernel, (by decide +kernel : (parseMethodDescriptor "()Z").map (fun d => d.parameters.length) = some 0)⟩ (va_recv hK hP rfl (q0 := 0) rfl) hP hD hS [0] [1] rfl rfl ⟨by decide, by decide, by decide⟩ ⟨⟨Nat.le_of_ble_eq_true rfl, Nat.le_of_ble_eq_true rfl⟩, Nat.le_of_ble_eq_true rfl, Nat.le_of_ble_eq_true rfl⟩ rfl (Nat.le_of_ble_eq_true rfl) d13_11 (fun vv ww H locs hR hP hD hS => ?_)
  obtain ⟨rfl, rfl⟩ := hR
  have hP : va_P D vwCl [(v, .inl (dA 2, 16, .inl f)), (h, .inr (3, [.ref v, .int 0, .int 0, .int 0]))] H := hP
  have hD : va_D A [(v, .inl (dA 2, 16, .inl f)), (h, .inr (3, [.ref v, .int 0, .int 0, .int 0]))] := hD
  refine W.eq (g2 := F0 m 14 ls [.int 1]) rfl ?_
  refine lv_if_eq hx hb d13_14 rfl (fun h9 => absurd h9 (by decide)) (fun _ => ?_)
  refine lv_iload_n hx hb d13_17 rfl (lv_at hl 1 rfl) ?_
  refine ms_S (rest := []) (as := [.int z]) (wr := [(v, .inl (dA 2, 16, .inl f)), (h, .inr (3, [.ref v, .int 0, .int 0, .int 0]))]) X hl (c_canEnc l D dA s0 hE z (hz)) (List.forall_mem_cons.mpr ⟨ms_k183, List.forall_mem_cons.mpr ⟨ms_k184, List.forall_mem_cons.mpr ⟨ms_k12, List.forall_mem_cons.mpr ⟨ms_k185, fun _ h => absurd h List.not_mem_nil⟩⟩⟩⟩) ⟨by decide +kernel, by decide +kernel, (by decide +kernel : (parseMethodDescriptor "(C)Z").map (fun d => d.parameters.length) = some 1)⟩ hP hD hS [] [0, 1] rfl rfl ⟨by decide, by decide, by decide⟩ ⟨⟨Nat.le_of_ble_eq_true rfl, Nat.le_of_ble_eq_true rfl⟩, Nat.le_of_ble_eq_true rfl, Nat.le_of_ble_eq_true rfl⟩ rfl (Nat.le_of_ble_eq_true rfl) d13_18 (fun vv ww H locs hR hP hD hS => ?_)
  obtain ⟨rfl, rfl⟩ := hR
  have hP : va_P D vwCl [(v, .inl (dA 2, 16, .inl f)), (h, .inr (3, [.ref v, .int 0, .int 0, .int 0]))] H := hP
  have hD : va_D A [(v, .inl (dA 2, 16, .inl f)), (h, .inr (3, [.ref v, .int 0, .int 0, .int 0]))] := hD
  refine W.eq (g2 := F0 m 21 ls [.int 1]) rfl ?_
  refine lv_if_eq hx hb d13_21 rfl (fun h9 => absurd h9 (by decide)) (fun _ => ?_)
  refine lv_aload_n hx hb d13_24 rfl (lv_at hl 0 rfl) ?_
  refine va_get (D := D) (ci := 3) (v := .ref v) (C := kR3) (T := kT3) (N := 4) hx hb hts ku3 hown hK hP 1 rfl rfl 0 (by decide) (hts _ ms_k57) (fun _ h => h) rfl d13_25 ?_
  refine lv_aload_n hx hb d13_28 rfl (lv_at hl 0 rfl) ?_
  refine lv_dup hx hb d13_29 rfl ?_
  refine va_get (D := D) (ci := 3) (v := .int 0) (C := kR3) (T := kT3) (N := 4) hx hb hts ku3 hown hK hP 1 rfl rfl 3 (by decide) (hts _ ms_k61) (fun _ h => h) rfl d13_30 ?_
  refine lv_dup_x1 hx hb d13_33 rfl rfl ?_
  refine lv_iconst (v := 1) hx hb d13_34 (by decide) ?_
  refine lv_iadd hx hb d13_35 ?_
  refine ms_top (y := 1) (by decide) ?_
  refine va_put (D := D) (ci := 3) (v := .int 1) (ty := .int) (C := kR3) (T := kT3) (N := 4) hx hb hts ku3 kt3 kp3 kn3 hown hK hP hD hS 1 rfl rfl 3 (by decide) (hts _ ms_k61) (fun _ h => h) rfl (by decide +kernel) rfl rfl (Nat.le_of_ble_eq_true rfl) d13_36 (fun H locs hP hD hS => ?_)
  have hP : va_P D vwCl [(v, .inl (dA 2, 16, .inl f)), (h, .inr (3, [.ref v, .int 0, .int 0, .int 1]))] H := hP
  have hD : va_D A [(v, .inl (dA 2, 16, .inl f)), (h, .inr (3, [.ref v, .int 0, .int 0, .int 1]))] := hD
  refine lv_iload_n hx hb d13_39 rfl (lv_at hl 1 rfl) ?_
  refine lv_i2b (v := z.toInt8.toInt32) hx hb d13_40 (rfl) ?_
  refine va_bast hx hb hK hP hD hS 0 2 rfl rfl (by unfold vp_in; decide) d13_41 (fun H locs hP hD hS => ?_)
  have hP : va_P D vwCl [(v, .inl (dA 2, 16, .inl (upd f 0 (vp_nar .byte z.toInt8.toInt32)))), (h, .inr (3, [.ref v, .int 0, .int 0, .int 1]))] H := hP
  have hD : va_D A [(v, .inl (dA 2, 16, .inl (upd f 0 (vp_nar .byte z.toInt8.toInt32)))), (h, .inr (3, [.ref v, .int 0, .int 0, .int 1]))] := hD
  refine lv_goto hx hb d13_42 rfl ?_
  refine lv_aload_n hx hb d13_75 rfl (lv_at hl 0 rfl) ?_
  exact ms_aret X d13_76 hP hD hS (Nat.le_of_ble_eq_true rfl) (Nat.le_of_ble_eq_true rfl) rfl (Or.inl ⟨_, rfl⟩) (Or.inr ⟨_, rfl⟩)

set_option maxRecDepth 100000 in
set_option maxHeartbeats 8000000 in
theorem c_SBapp (l : Launch) (D : va_G) (dA : Nat → ClassId) (s0 : State) (hE : ms_EV D dA s0) (h : Nat) (v : Nat) (f : Nat → Int32) (z : Int32) (hz : ¬ 255 < z) : ms_C l D s0 yM14 bM14 2 (Option.some (Jvm.ClassFile.FieldType.object "java/lang/StringBuilder")) 2 43 0 0 [.ref h, .int z] [(h, .inr (3, [.ref v, .int 0, .int 0, .int 0])), (v, .inl (dA 2, 16, .inl f))] (fun vv _ => vv = some (.ref h)) := by
  refine ms_C.mk hE.1 (by decide) (Nat.le_of_ble_eq_true rfl) [(0, .ref h), (1, .int z)] rfl ?_
  intro p e s m below meth c A ls X hin hP hD hS hl
  have hx := X.1
  have hb := X.2.1
  have hml := X.2.2.1
  have hown : s.vm.findClass "java/lang/StringBuilder" = some m.cls := X.2.2.2.1
  have hts := X.2.2.2.2.2.2.1
  have hK := X.2.2.2.2.2.2.2.2.1
  have hA := X.2.2.2.2.2.2.2.2.2.2
  refine lv_aload_n hx hb d14_0 rfl (lv_at hl 0 rfl) ?_
  refine lv_iload_n hx hb d14_1 rfl (lv_at hl 1 rfl) ?_
  refine ms_SU (C := "java/lang/StringBuilder") (rest := []) (as := [.int z]) (wr := []) ((hK.1 3 _ rfl).2) X hl (c_ASBapp l D dA s0 hE h v f z (hz)) (List.forall_mem_cons.mpr ⟨ms_k140, List.forall_mem_cons.mpr ⟨ms_k1833, List.forall_mem_cons.mpr ⟨ms_k70, List.forall_mem_cons.mpr ⟨ms_k141, List.forall_mem_cons.mpr ⟨ms_k2, List.forall_mem_cons.mpr ⟨ms_k142, fun _ h => absurd h List.not_mem_nil⟩⟩⟩⟩⟩⟩) ⟨by decide +kernel, (by decide +kernel : (parseMethodDescriptor "(C)Ljava/lang/AbstractStringBuilder;").map (fun d => d.parameters.length) = some 1)⟩ (va_recv hK hP rfl (q0 := 0) rfl) hP hD hS [0, 1] [] rfl rfl ⟨by decide, by decide, by decide⟩ ⟨⟨Nat.le_of_ble_eq_true rfl, Nat.le_of_ble_eq_true rfl⟩, Nat.le_of_ble_eq_true rfl, Nat.le_of_ble_eq_true rfl⟩ rfl (Nat.le_of_ble_eq_true rfl) d14_2 (fun vv ww H locs hR hP hD hS => ?_)
  cases hR
  have hP : va_P D vwCl ([] ++ ww) H := hP
  have hD : va_D A ([] ++ ww) := hD
  refine W.eq (g2 := F0 m 5 ls [.ref h]) rfl ?_
  refine lv_pop hx hb d14_5 rfl ?_
  refine lv_aload_n hx hb d14_6 rfl (lv_at hl 0 rfl) ?_
  exact ms_aret X d14_7 hP hD hS (Nat.le_of_ble_eq_true rfl) (Nat.le_of_ble_eq_true rfl) rfl (Or.inl ⟨_, rfl⟩) (Or.inr ⟨_, rfl⟩)

set_option maxRecDepth 100000 in
set_option maxHeartbeats 8000000 in
theorem c_ckLen (l : Launch) (D : va_G) (dA : Nat → ClassId) (s0 : State) (hE : ms_EV D dA s0) : ms_C l D s0 yM15 bM15 2 (Option.none : Option Jvm.ClassFile.FieldType) 0 0 0 0 [.int 0, .int 0] [] (fun vv ww => vv = none ∧ ww = []) := by
  refine ms_C.mk hE.1 (by decide) (Nat.le_of_ble_eq_true rfl) [(0, .int 0), (1, .int 0)] rfl ?_
  intro p e s m below meth c A ls X hin hP hD hS hl
  have hx := X.1
  have hb := X.2.1
  have hml := X.2.2.1
  have hown : s.vm.findClass "java/util/Arrays" = some m.cls := X.2.2.2.1
  have hts := X.2.2.2.2.2.2.1
  have hK := X.2.2.2.2.2.2.2.2.1
  have hA := X.2.2.2.2.2.2.2.2.2.2
  refine lv_iload_n hx hb d15_0 rfl (lv_at hl 1 rfl) ?_
  refine lv_iload_n hx hb d15_1 rfl (lv_at hl 0 rfl) ?_
  refine lv_icmp_ge hx hb d15_2 rfl (fun _ => ?_) (fun h9 => absurd (by decide) h9)
  exact ms_vret X d15_37 hP hD hS (Nat.le_of_ble_eq_true rfl) (Nat.le_of_ble_eq_true rfl) (⟨rfl, rfl⟩)

set_option maxRecDepth 100000 in
set_option maxHeartbeats 8000000 in
theorem c_cpRB (l : Launch) (D : va_G) (dA : Nat → ClassId) (s0 : State) (hE : ms_EV D dA s0) (v : Nat) (f : Nat → Int32) : ms_C l D s0 yM16 bM16 5 (Option.some (Jvm.ClassFile.FieldType.array Jvm.ClassFile.FieldType.byte)) 1 100 1 0 [.ref v, .int 0, .int 0] [(v, .inl (dA 2, 16, .inl f))] (fun vv ww => ∃ (u : Nat) (g : Nat → Int32), vv = some (.ref u) ∧ ww = [(v, .inl (dA 2, 16, .inl f)), (u, .inl (dA 2, 0, .inl g))]) := by
  refine ms_C.mk hE.1 (by decide) (Nat.le_of_ble_eq_true rfl) [(0, .ref v), (1, .int 0), (2, .int 0)] rfl ?_
  intro p e s m below meth c A ls X hin hP hD hS hl
  have hx := X.1
  have hb := X.2.1
  have hml := X.2.2.1
  have hown : s.vm.findClass "java/util/Arrays" = some m.cls := X.2.2.2.1
  have hts := X.2.2.2.2.2.2.1
  have hK := X.2.2.2.2.2.2.2.2.1
  have hA := X.2.2.2.2.2.2.2.2.2.2
  refine lv_iload_n hx hb d16_0 rfl (lv_at hl 1 rfl) ?_
  refine lv_iload_n hx hb d16_1 rfl (lv_at hl 2 rfl) ?_
  refine ms_S (rest := []) (as := [.int 0, .int 0]) (wr := [(v, .inl (dA 2, 16, .inl f))]) X hl (c_ckLen l D dA s0 hE ) (List.forall_mem_cons.mpr ⟨ms_k267, List.forall_mem_cons.mpr ⟨ms_k268, List.forall_mem_cons.mpr ⟨ms_k10, List.forall_mem_cons.mpr ⟨ms_k269, fun _ h => absurd h List.not_mem_nil⟩⟩⟩⟩) ⟨by decide +kernel, by decide +kernel, (by decide +kernel : (parseMethodDescriptor "(II)V").map (fun d => d.parameters.length) = some 2)⟩ hP hD hS [] [0] rfl rfl ⟨by decide, by decide, by decide⟩ ⟨⟨Nat.le_of_ble_eq_true rfl, Nat.le_of_ble_eq_true rfl⟩, Nat.le_of_ble_eq_true rfl, Nat.le_of_ble_eq_true rfl⟩ rfl (Nat.le_of_ble_eq_true rfl) d16_2 (fun vv ww H locs hR hP hD hS => ?_)
  obtain ⟨rfl, rfl⟩ := hR
  have hP : va_P D vwCl [(v, .inl (dA 2, 16, .inl f))] H := hP
  have hD : va_D A [(v, .inl (dA 2, 16, .inl f))] := hD
  refine W.eq (g2 := F0 m 5 ls []) rfl ?_
  refine lv_iload_n hx hb d16_5 rfl (lv_at hl 2 rfl) ?_
  refine lv_iload_n hx hb d16_6 rfl (lv_at hl 1 rfl) ?_
  refine lv_isub hx hb d16_7 ?_
  refine ms_top (y := 0) (by decide) ?_
  refine lv_istore_n hx hb d16_8 rfl hl (by decide) rfl (fun ls hl => ?_)
  have hl : lv_has ls 5 [(3, .int 0), (0, .ref v), (1, .int 0), (2, .int 0)] := hl
  refine lv_iload_n hx hb d16_9 rfl (lv_at hl 0 rfl) ?_
  refine ms_newa (atype := .byte) (ty := .byte) (a0 := (0, .inl (fun _ => 0))) X ms_k71 rfl 2 rfl (fun _ h => h) hP hD hS (fun _ => rfl) (by decide) (by decide) (by decide) (Nat.le_of_ble_eq_true rfl) (Nat.le_of_ble_eq_true rfl) d16_10 (fun q1 H hP hD hS => ?_)
  have hP : va_P D vwCl [(v, .inl (dA 2, 16, .inl f)), (q1, .inl (dA 2, 0, .inl (fun _ => 0)))] H := hP
  have hD : va_D A [(v, .inl (dA 2, 16, .inl f)), (q1, .inl (dA 2, 0, .inl (fun _ => 0)))] := hD
  refine lv_astore hx hb d16_12 hl (by decide) rfl (fun ls hl => ?_)
  have hl : lv_has ls 5 [(4, .ref q1), (3, .int 0), (0, .ref v), (1, .int 0), (2, .int 0)] := hl
  refine lv_aload_n hx hb d16_14 rfl (lv_at hl 2 rfl) ?_
  refine lv_iload_n hx hb d16_15 rfl (lv_at hl 3 rfl) ?_
  refine lv_aload hx hb d16_16 (lv_at hl 0 rfl) ?_
  refine lv_iconst (v := 0) hx hb d16_18 (by decide) ?_
  refine lv_aload_n hx hb d16_19 rfl (lv_at hl 2 rfl) ?_
  refine va_alen (v := 16) hx hb hK hP 0 2 rfl rfl rfl d16_20 ?_
  refine lv_iload_n hx hb d16_21 rfl (lv_at hl 3 rfl) ?_
  refine lv_isub hx hb d16_22 ?_
  refine ms_top (y := 16) (by decide) ?_
  refine lv_iload_n hx hb d16_23 rfl (lv_at hl 1 rfl) ?_
  refine va_mmin hx hb (by rw [hml]; exact hl.1.symm) hown (hts _ ms_k172) (hts _ ms_k173) (hts _ ms_k9) (hts _ ms_k174) (Nat.le_of_ble_eq_true rfl) (Nat.le_of_ble_eq_true rfl) (Nat.le_of_ble_eq_true rfl) (Nat.le_of_ble_eq_true rfl) d16_24 ?_
  refine ms_top (y := 0) (by decide) ?_
  refine va_copyi (ty := .byte) hx hb (by rw [hml]; exact hl.1.symm) hown (hts _ ms_k175) (hts _ ms_k177) (hts _ ms_k176) (hts _ ms_k11) hK hP hD hS 0 1 2 2 rfl rfl rfl rfl rfl (by decide) (by decide) (by decide) (by decide) (by decide) (fun i hi => absurd hi (Nat.not_lt_zero _)) (Nat.le_of_ble_eq_true rfl) (Nat.le_of_ble_eq_true (by decide +kernel)) d16_27 (fun H locs hP hD hS => ?_)
  have hP : va_P D vwCl [(v, .inl (dA 2, 16, .inl f)), (q1, .inl (dA 2, 0, .inl (va_cpy f (fun _ => 0) 0 0 0)))] H := hP
  have hD : va_D A [(v, .inl (dA 2, 16, .inl f)), (q1, .inl (dA 2, 0, .inl (va_cpy f (fun _ => 0) 0 0 0)))] := hD
  refine lv_aload hx hb d16_30 (lv_at hl 0 rfl) ?_
  exact ms_aret X d16_32 hP hD hS (Nat.le_of_ble_eq_true rfl) (Nat.le_of_ble_eq_true rfl) (⟨q1, (va_cpy f (fun _ => 0) 0 0 0), rfl, rfl⟩) (Or.inr ⟨_, rfl⟩) (Or.inr ⟨_, rfl⟩)

set_option maxRecDepth 100000 in
set_option maxHeartbeats 8000000 in
theorem c_cpR (l : Launch) (D : va_G) (dA : Nat → ClassId) (s0 : State) (hE : ms_EV D dA s0) (v : Nat) (f : Nat → Int32) : ms_C l D s0 yM17 bM17 3 (Option.some (Jvm.ClassFile.FieldType.array Jvm.ClassFile.FieldType.byte)) 2 124 1 0 [.ref v, .int 0, .int 0] [(v, .inl (dA 2, 16, .inl f))] (fun vv ww => ∃ (u : Nat) (g : Nat → Int32), vv = some (.ref u) ∧ ww = [(v, .inl (dA 2, 16, .inl f)), (u, .inl (dA 2, 0, .inl g))]) := by
  refine ms_C.mk hE.1 (by decide) (Nat.le_of_ble_eq_true rfl) [(0, .ref v), (1, .int 0), (2, .int 0)] rfl ?_
  intro p e s m below meth c A ls X hin hP hD hS hl
  have hx := X.1
  have hb := X.2.1
  have hml := X.2.2.1
  have hown : s.vm.findClass "java/util/Arrays" = some m.cls := X.2.2.2.1
  have hts := X.2.2.2.2.2.2.1
  have hK := X.2.2.2.2.2.2.2.2.1
  have hA := X.2.2.2.2.2.2.2.2.2.2
  refine lv_iload_n hx hb d17_0 rfl (lv_at hl 1 rfl) ?_
  refine lv_if_ne hx hb d17_1 rfl (fun h9 => absurd h9 (by decide)) (fun _ => ?_)
  refine lv_iload_n hx hb d17_4 rfl (lv_at hl 2 rfl) ?_
  refine lv_aload_n hx hb d17_5 rfl (lv_at hl 0 rfl) ?_
  refine va_alen (v := 16) hx hb hK hP 0 2 rfl rfl rfl d17_6 ?_
  refine lv_icmp_eq hx hb d17_7 rfl (fun h9 => absurd h9 (by decide)) (fun _ => ?_)
  refine lv_aload_n hx hb d17_10 rfl (lv_at hl 0 rfl) ?_
  refine lv_iload_n hx hb d17_11 rfl (lv_at hl 1 rfl) ?_
  refine lv_iload_n hx hb d17_12 rfl (lv_at hl 2 rfl) ?_
  refine ms_S (rest := []) (as := [.ref v, .int 0, .int 0]) (wr := []) X hl (c_cpRB l D dA s0 hE v f) (List.forall_mem_cons.mpr ⟨ms_k264, List.forall_mem_cons.mpr ⟨ms_k265, List.forall_mem_cons.mpr ⟨ms_k10, List.forall_mem_cons.mpr ⟨ms_k266, fun _ h => absurd h List.not_mem_nil⟩⟩⟩⟩) ⟨by decide +kernel, by decide +kernel, (by decide +kernel : (parseMethodDescriptor "([BII)[B").map (fun d => d.parameters.length) = some 3)⟩ hP hD hS [0] [] rfl rfl ⟨by decide, by decide, by decide⟩ ⟨⟨Nat.le_of_ble_eq_true rfl, Nat.le_of_ble_eq_true rfl⟩, Nat.le_of_ble_eq_true rfl, Nat.le_of_ble_eq_true rfl⟩ rfl (Nat.le_of_ble_eq_true rfl) d17_13 (fun vv ww H locs hR hP hD hS => ?_)
  obtain ⟨u_1, g_2, rfl, rfl⟩ := hR
  have hP : va_P D vwCl [(v, .inl (dA 2, 16, .inl f)), (u_1, .inl (dA 2, 0, .inl g_2))] H := hP
  have hD : va_D A [(v, .inl (dA 2, 16, .inl f)), (u_1, .inl (dA 2, 0, .inl g_2))] := hD
  refine W.eq (g2 := F0 m 16 ls [.ref u_1]) rfl ?_
  exact ms_aret X d17_16 hP hD hS (Nat.le_of_ble_eq_true rfl) (Nat.le_of_ble_eq_true rfl) (⟨u_1, g_2, rfl, rfl⟩) (Or.inr ⟨_, rfl⟩) (Or.inr ⟨_, rfl⟩)

set_option maxRecDepth 100000 in
set_option maxHeartbeats 8000000 in
theorem c_Sinit2 (l : Launch) (D : va_G) (dA : Nat → ClassId) (s0 : State) (hE : ms_EV D dA s0) (t : Nat) (h : Nat) (v : Nat) (f : Nat → Int32) : ms_C l D s0 yM18 bM18 5 (Option.none : Option Jvm.ClassFile.FieldType) 3 146 1 0 [.ref t, .ref h, .null] [(t, .inr (5, [.null, .int 0, .int 0, .int 0])), (h, .inr (3, [.ref v, .int 0, .int 0, .int 0])), (v, .inl (dA 2, 16, .inl f))] (fun vv ww => ∃ (u : Nat) (g : Nat → Int32), vv = none ∧ ww = [(h, .inr (3, [.ref v, .int 0, .int 0, .int 0])), (v, .inl (dA 2, 16, .inl f)), (t, .inr (5, [.ref u, .int 0, .int 0, .int 0])), (u, .inl (dA 2, 0, .inl g))]) := by
  refine ms_C.mk hE.1 (by decide) (Nat.le_of_ble_eq_true rfl) [(0, .ref t), (1, .ref h), (2, .null)] rfl ?_
  intro p e s m below meth c A ls X hin hP hD hS hl
  have hx := X.1
  have hb := X.2.1
  have hml := X.2.2.1
  have hown : s.vm.findClass "java/lang/String" = some m.cls := X.2.2.2.1
  have hts := X.2.2.2.2.2.2.1
  have hK := X.2.2.2.2.2.2.2.2.1
  have hA := X.2.2.2.2.2.2.2.2.2.2
  refine lv_aload_n hx hb d18_0 rfl (lv_at hl 0 rfl) ?_
  refine W.objInit hx hb hown (hts _ ms_k253) (hts _ ms_k37) (hts _ ms_k38) rfl (by rw [hml]; exact hl.1) rfl d18_1 (Nat.le_of_ble_eq_true rfl) (Nat.le_of_ble_eq_true rfl) ?_
  refine W.eq (g2 := F0 m 4 ls []) rfl ?_
  refine lv_aload_n hx hb d18_4 rfl (lv_at hl 1 rfl) ?_
  refine ms_U (C := "java/lang/StringBuilder") (x := ⟨"java/lang/AbstractStringBuilder", "getValue", "()[B"⟩) (owner := "java/lang/AbstractStringBuilder") (rest := []) (as := []) (wr := [(t, .inr (5, [.null, .int 0, .int 0, .int 0])), (v, .inl (dA 2, 16, .inl f))]) X hl (c_getVal l D dA s0 hE h v 0) (List.forall_mem_cons.mpr ⟨ms_k254, List.forall_mem_cons.mpr ⟨ms_k256, List.forall_mem_cons.mpr ⟨ms_k257, List.forall_mem_cons.mpr ⟨ms_k255, List.forall_mem_cons.mpr ⟨ms_k2, List.forall_mem_cons.mpr ⟨ms_k258, fun _ h => absurd h List.not_mem_nil⟩⟩⟩⟩⟩⟩) rfl ⟨by decide +kernel, by decide +kernel, (by decide +kernel : (parseMethodDescriptor "()[B").map (fun d => d.parameters.length) = some 0)⟩ (va_recv hK hP rfl (q0 := 1) rfl) hP hD hS [1] [0, 2] rfl rfl ⟨by decide, by decide, by decide⟩ ⟨⟨Nat.le_of_ble_eq_true rfl, Nat.le_of_ble_eq_true rfl⟩, Nat.le_of_ble_eq_true rfl, Nat.le_of_ble_eq_true rfl⟩ rfl (Nat.le_of_ble_eq_true rfl) d18_5 (fun vv ww H locs hR hP hD hS => ?_)
  obtain ⟨rfl, rfl⟩ := hR
  have hP : va_P D vwCl [(t, .inr (5, [.null, .int 0, .int 0, .int 0])), (v, .inl (dA 2, 16, .inl f)), (h, .inr (3, [.ref v, .int 0, .int 0, .int 0]))] H := hP
  have hD : va_D A [(t, .inr (5, [.null, .int 0, .int 0, .int 0])), (v, .inl (dA 2, 16, .inl f)), (h, .inr (3, [.ref v, .int 0, .int 0, .int 0]))] := hD
  refine W.eq (g2 := F0 m 8 ls [.ref v]) rfl ?_
  refine lv_astore_n hx hb d18_8 rfl hl (by decide) rfl (fun ls hl => ?_)
  have hl : lv_has ls 5 [(3, .ref v), (0, .ref t), (1, .ref h), (2, .null)] := hl
  refine lv_aload_n hx hb d18_9 rfl (lv_at hl 2 rfl) ?_
  refine ms_O (C := "java/lang/StringBuilder") (x := ⟨"java/lang/AbstractStringBuilder", "length", "()I"⟩) (owner := "java/lang/AbstractStringBuilder") (rest := []) (as := []) (wr := [(t, .inr (5, [.null, .int 0, .int 0, .int 0])), (v, .inl (dA 2, 16, .inl f))]) X hl (c_SBlen l D dA s0 hE h v 0) (List.forall_mem_cons.mpr ⟨ms_k259, List.forall_mem_cons.mpr ⟨ms_k1832, List.forall_mem_cons.mpr ⟨ms_k134, List.forall_mem_cons.mpr ⟨ms_k1837, List.forall_mem_cons.mpr ⟨ms_k130, List.forall_mem_cons.mpr ⟨ms_k3, List.forall_mem_cons.mpr ⟨ms_k132, fun _ h => absurd h List.not_mem_nil⟩⟩⟩⟩⟩⟩⟩) ms_k135 ⟨by decide +kernel, by decide +kernel, (by decide +kernel : (parseMethodDescriptor "()I").map (fun d => d.parameters.length) = some 0)⟩ (va_recv hK hP rfl (q0 := 2) rfl) hP hD hS [2] [0, 1] rfl rfl ⟨by decide, by decide, by decide⟩ ⟨⟨Nat.le_of_ble_eq_true rfl, Nat.le_of_ble_eq_true rfl⟩, Nat.le_of_ble_eq_true rfl, Nat.le_of_ble_eq_true rfl⟩ rfl (Nat.le_of_ble_eq_true rfl) d18_10 (fun vv ww H locs hR hP hD hS => ?_)
  obtain ⟨rfl, rfl⟩ := hR
  have hP : va_P D vwCl [(t, .inr (5, [.null, .int 0, .int 0, .int 0])), (v, .inl (dA 2, 16, .inl f)), (h, .inr (3, [.ref v, .int 0, .int 0, .int 0]))] H := hP
  have hD : va_D A [(t, .inr (5, [.null, .int 0, .int 0, .int 0])), (v, .inl (dA 2, 16, .inl f)), (h, .inr (3, [.ref v, .int 0, .int 0, .int 0]))] := hD
  refine W.eq (g2 := F0 m 13 ls [.int 0]) rfl ?_
  refine lv_istore hx hb d18_13 hl (by decide) rfl (fun ls hl => ?_)
  have hl : lv_has ls 5 [(4, .int 0), (3, .ref v), (0, .ref t), (1, .ref h), (2, .null)] := hl
  refine lv_aload_n hx hb d18_15 rfl (lv_at hl 3 rfl) ?_
  refine ms_U (C := "java/lang/StringBuilder") (x := ⟨"java/lang/AbstractStringBuilder", "isLatin1", "()Z"⟩) (owner := "java/lang/AbstractStringBuilder") (rest := []) (as := []) (wr := [(t, .inr (5, [.null, .int 0, .int 0, .int 0])), (v, .inl (dA 2, 16, .inl f))]) X hl (c_isLat l D dA s0 hE h v 0) (List.forall_mem_cons.mpr ⟨ms_k260, List.forall_mem_cons.mpr ⟨ms_k180, List.forall_mem_cons.mpr ⟨ms_k181, List.forall_mem_cons.mpr ⟨ms_k179, List.forall_mem_cons.mpr ⟨ms_k2, List.forall_mem_cons.mpr ⟨ms_k182, fun _ h => absurd h List.not_mem_nil⟩⟩⟩⟩⟩⟩) rfl ⟨by decide +kernel, by decide +kernel, (by decide +kernel : (parseMethodDescriptor "()Z").map (fun d => d.parameters.length) = some 0)⟩ (va_recv hK hP rfl (q0 := 2) rfl) hP hD hS [2] [0, 1] rfl rfl ⟨by decide, by decide, by decide⟩ ⟨⟨Nat.le_of_ble_eq_true rfl, Nat.le_of_ble_eq_true rfl⟩, Nat.le_of_ble_eq_true rfl, Nat.le_of_ble_eq_true rfl⟩ rfl (Nat.le_of_ble_eq_true rfl) d18_16 (fun vv ww H locs hR hP hD hS => ?_)
  obtain ⟨rfl, rfl⟩ := hR
  have hP : va_P D vwCl [(t, .inr (5, [.null, .int 0, .int 0, .int 0])), (v, .inl (dA 2, 16, .inl f)), (h, .inr (3, [.ref v, .int 0, .int 0, .int 0]))] H := hP
  have hD : va_D A [(t, .inr (5, [.null, .int 0, .int 0, .int 0])), (v, .inl (dA 2, 16, .inl f)), (h, .inr (3, [.ref v, .int 0, .int 0, .int 0]))] := hD
  refine W.eq (g2 := F0 m 19 ls [.int 1]) rfl ?_
  refine lv_if_eq hx hb d18_19 rfl (fun h9 => absurd h9 (by decide)) (fun _ => ?_)
  refine lv_aload_n hx hb d18_22 rfl (lv_at hl 2 rfl) ?_
  refine lv_iconst (v := 0) hx hb d18_23 (by decide) ?_
  refine va_putF (D := D) (ci := 5) (v := .int 0) (ty := .byte) (C := kR5) (T := kT5) (N := 4) hx hb hts ku5 kt5 kp5 kn5 hown hK hP hD hS 0 rfl rfl 1 (by decide) (hts _ ms_k285) (fun _ h => h) rfl hin rfl (by decide +kernel) rfl rfl (Nat.le_of_ble_eq_true rfl) d18_24 (fun H locs hP hD hS => ?_)
  have hP : va_P D vwCl [(t, .inr (5, [.null, .int 0, .int 0, .int 0])), (v, .inl (dA 2, 16, .inl f)), (h, .inr (3, [.ref v, .int 0, .int 0, .int 0]))] H := hP
  have hD : va_D A [(t, .inr (5, [.null, .int 0, .int 0, .int 0])), (v, .inl (dA 2, 16, .inl f)), (h, .inr (3, [.ref v, .int 0, .int 0, .int 0]))] := hD
  refine lv_aload_n hx hb d18_27 rfl (lv_at hl 2 rfl) ?_
  refine lv_aload_n hx hb d18_28 rfl (lv_at hl 1 rfl) ?_
  refine lv_iconst (v := 0) hx hb d18_29 (by decide) ?_
  refine lv_iload hx hb d18_30 (lv_at hl 0 rfl) ?_
  refine ms_S (rest := [.ref t]) (as := [.ref v, .int 0, .int 0]) (wr := [(t, .inr (5, [.null, .int 0, .int 0, .int 0])), (h, .inr (3, [.ref v, .int 0, .int 0, .int 0]))]) X hl (c_cpR l D dA s0 hE v f) (List.forall_mem_cons.mpr ⟨ms_k261, List.forall_mem_cons.mpr ⟨ms_k262, List.forall_mem_cons.mpr ⟨ms_k10, List.forall_mem_cons.mpr ⟨ms_k263, fun _ h => absurd h List.not_mem_nil⟩⟩⟩⟩) ⟨by decide +kernel, by decide +kernel, (by decide +kernel : (parseMethodDescriptor "([BII)[B").map (fun d => d.parameters.length) = some 3)⟩ hP hD hS [1] [0, 2] rfl rfl ⟨by decide, by decide, by decide⟩ ⟨⟨Nat.le_of_ble_eq_true rfl, Nat.le_of_ble_eq_true rfl⟩, Nat.le_of_ble_eq_true rfl, Nat.le_of_ble_eq_true rfl⟩ rfl (Nat.le_of_ble_eq_true rfl) d18_32 (fun vv ww H locs hR hP hD hS => ?_)
  obtain ⟨u_1, g_2, rfl, rfl⟩ := hR
  have hP : va_P D vwCl [(t, .inr (5, [.null, .int 0, .int 0, .int 0])), (h, .inr (3, [.ref v, .int 0, .int 0, .int 0])), (v, .inl (dA 2, 16, .inl f)), (u_1, .inl (dA 2, 0, .inl g_2))] H := hP
  have hD : va_D A [(t, .inr (5, [.null, .int 0, .int 0, .int 0])), (h, .inr (3, [.ref v, .int 0, .int 0, .int 0])), (v, .inl (dA 2, 16, .inl f)), (u_1, .inl (dA 2, 0, .inl g_2))] := hD
  refine W.eq (g2 := F0 m 35 ls [.ref u_1, .ref t]) rfl ?_
  refine va_putF (D := D) (ci := 5) (v := .ref u_1) (ty := (.array .byte)) (C := kR5) (T := kT5) (N := 4) hx hb hts ku5 kt5 kp5 kn5 hown hK hP hD hS 0 rfl rfl 0 (by decide) (hts _ ms_k284) (fun _ h => h) rfl hin rfl (by decide +kernel) rfl rfl (Nat.le_of_ble_eq_true rfl) d18_35 (fun H locs hP hD hS => ?_)
  have hP : va_P D vwCl [(t, .inr (5, [.ref u_1, .int 0, .int 0, .int 0])), (h, .inr (3, [.ref v, .int 0, .int 0, .int 0])), (v, .inl (dA 2, 16, .inl f)), (u_1, .inl (dA 2, 0, .inl g_2))] H := hP
  have hD : va_D A [(t, .inr (5, [.ref u_1, .int 0, .int 0, .int 0])), (h, .inr (3, [.ref v, .int 0, .int 0, .int 0])), (v, .inl (dA 2, 16, .inl f)), (u_1, .inl (dA 2, 0, .inl g_2))] := hD
  refine lv_goto hx hb d18_38 rfl ?_
  have hP := hP.sub (ws' := [(h, .inr (3, [.ref v, .int 0, .int 0, .int 0])), (v, .inl (dA 2, 16, .inl f)), (t, .inr (5, [.ref u_1, .int 0, .int 0, .int 0])), (u_1, .inl (dA 2, 0, .inl g_2))]) [1, 2, 0, 3] rfl
  have hD := hD.sub (ws' := [(h, .inr (3, [.ref v, .int 0, .int 0, .int 0])), (v, .inl (dA 2, 16, .inl f)), (t, .inr (5, [.ref u_1, .int 0, .int 0, .int 0])), (u_1, .inl (dA 2, 0, .inl g_2))]) [1, 2, 0, 3] (by decide) rfl
  exact ms_vret X d18_97 hP hD hS (Nat.le_of_ble_eq_true rfl) (Nat.le_of_ble_eq_true rfl) (⟨u_1, g_2, rfl, rfl⟩)

set_option maxRecDepth 100000 in
set_option maxHeartbeats 8000000 in
theorem c_Sinit1 (l : Launch) (D : va_G) (dA : Nat → ClassId) (s0 : State) (hE : ms_EV D dA s0) (t : Nat) (h : Nat) (v : Nat) (f : Nat → Int32) : ms_C l D s0 yM19 bM19 2 (Option.none : Option Jvm.ClassFile.FieldType) 4 170 1 0 [.ref t, .ref h] [(t, .inr (5, [.null, .int 0, .int 0, .int 0])), (h, .inr (3, [.ref v, .int 0, .int 0, .int 0])), (v, .inl (dA 2, 16, .inl f))] (fun vv ww => ∃ (u : Nat) (g : Nat → Int32), vv = none ∧ ww = [(h, .inr (3, [.ref v, .int 0, .int 0, .int 0])), (v, .inl (dA 2, 16, .inl f)), (t, .inr (5, [.ref u, .int 0, .int 0, .int 0])), (u, .inl (dA 2, 0, .inl g))]) := by
  refine ms_C.mk hE.1 (by decide) (Nat.le_of_ble_eq_true rfl) [(0, .ref t), (1, .ref h)] rfl ?_
  intro p e s m below meth c A ls X hin hP hD hS hl
  have hx := X.1
  have hb := X.2.1
  have hml := X.2.2.1
  have hown : s.vm.findClass "java/lang/String" = some m.cls := X.2.2.2.1
  have hts := X.2.2.2.2.2.2.1
  have hK := X.2.2.2.2.2.2.2.2.1
  have hA := X.2.2.2.2.2.2.2.2.2.2
  refine lv_aload_n hx hb d19_0 rfl (lv_at hl 0 rfl) ?_
  refine lv_aload_n hx hb d19_1 rfl (lv_at hl 1 rfl) ?_
  refine lv_null hx hb d19_2 ?_
  refine ms_I (rest := []) (as := [.ref h, .null]) (wr := []) X hl (c_Sinit2 l D dA s0 hE t h v f) (List.forall_mem_cons.mpr ⟨ms_k250, List.forall_mem_cons.mpr ⟨ms_k251, List.forall_mem_cons.mpr ⟨ms_k4, List.forall_mem_cons.mpr ⟨ms_k252, fun _ h => absurd h List.not_mem_nil⟩⟩⟩⟩) rfl ⟨by decide +kernel, by decide +kernel, (by decide +kernel : (parseMethodDescriptor "(Ljava/lang/AbstractStringBuilder;Ljava/lang/Void;)V").map (fun d => d.parameters.length) = some 2)⟩ hP hD hS [0, 1, 2] [] rfl rfl ⟨by decide, by decide, by decide⟩ ⟨⟨Nat.le_of_ble_eq_true rfl, Nat.le_of_ble_eq_true rfl⟩, Nat.le_of_ble_eq_true rfl, Nat.le_of_ble_eq_true rfl⟩ rfl (Nat.le_of_ble_eq_true rfl) d19_3 (fun vv ww H locs hR hP hD hS => ?_)
  obtain ⟨u_1, g_2, rfl, rfl⟩ := hR
  have hP : va_P D vwCl [(h, .inr (3, [.ref v, .int 0, .int 0, .int 0])), (v, .inl (dA 2, 16, .inl f)), (t, .inr (5, [.ref u_1, .int 0, .int 0, .int 0])), (u_1, .inl (dA 2, 0, .inl g_2))] H := hP
  have hD : va_D A [(h, .inr (3, [.ref v, .int 0, .int 0, .int 0])), (v, .inl (dA 2, 16, .inl f)), (t, .inr (5, [.ref u_1, .int 0, .int 0, .int 0])), (u_1, .inl (dA 2, 0, .inl g_2))] := hD
  refine W.eq (g2 := F0 m 6 ls []) rfl ?_
  exact ms_vret X d19_6 hP hD hS (Nat.le_of_ble_eq_true rfl) (Nat.le_of_ble_eq_true rfl) (⟨u_1, g_2, rfl, rfl⟩)

set_option maxRecDepth 100000 in
set_option maxHeartbeats 8000000 in
theorem c_toStr (l : Launch) (D : va_G) (dA : Nat → ClassId) (s0 : State) (hE : ms_EV D dA s0) (h : Nat) (v : Nat) (f : Nat → Int32) : ms_C l D s0 yM20 bM20 1 (Option.some (Jvm.ClassFile.FieldType.object "java/lang/String")) 5 191 2 4 [.ref h] [(h, .inr (3, [.ref v, .int 0, .int 0, .int 0])), (v, .inl (dA 2, 16, .inl f))] (fun vv ww => ∃ (t : Nat) (u : Nat) (g : Nat → Int32), vv = some (.ref t) ∧ ww = [(h, .inr (3, [.ref v, .int 0, .int 0, .int 0])), (v, .inl (dA 2, 16, .inl f)), (t, .inr (5, [.ref u, .int 0, .int 0, .int 0])), (u, .inl (dA 2, 0, .inl g))]) := by
  refine ms_C.mk hE.1 (by decide) (Nat.le_of_ble_eq_true rfl) [(0, .ref h)] rfl ?_
  intro p e s m below meth c A ls X hin hP hD hS hl
  have hx := X.1
  have hb := X.2.1
  have hml := X.2.2.1
  have hown : s.vm.findClass "java/lang/StringBuilder" = some m.cls := X.2.2.2.1
  have hts := X.2.2.2.2.2.2.1
  have hK := X.2.2.2.2.2.2.2.2.1
  have hA := X.2.2.2.2.2.2.2.2.2.2
  refine va_new (ci := 5) (fs := [.null, .int 0, .int 0, .int 0]) (C := kR5) (T := kT5) (N := 4) hx hb hts ku5 kt5 kp5 hown (hts _ ms_k245) (hts _ ms_k246) (hts _ ms_k4) hK hP hD hS hA rfl kz5 (Nat.le_of_ble_eq_true rfl) (Nat.le_of_ble_eq_true rfl) d20_0 (fun q1 H hP hD hS => ?_)
  have hP : va_P D vwCl [(h, .inr (3, [.ref v, .int 0, .int 0, .int 0])), (v, .inl (dA 2, 16, .inl f)), (q1, .inr (5, [.null, .int 0, .int 0, .int 0]))] H := hP
  have hD : va_D A [(h, .inr (3, [.ref v, .int 0, .int 0, .int 0])), (v, .inl (dA 2, 16, .inl f)), (q1, .inr (5, [.null, .int 0, .int 0, .int 0]))] := hD
  refine lv_dup hx hb d20_3 rfl ?_
  refine lv_aload_n hx hb d20_4 rfl (lv_at hl 0 rfl) ?_
  refine ms_I (rest := [.ref q1]) (as := [.ref h]) (wr := []) X hl (c_Sinit1 l D dA s0 hE q1 h v f) (List.forall_mem_cons.mpr ⟨ms_k247, List.forall_mem_cons.mpr ⟨ms_k248, List.forall_mem_cons.mpr ⟨ms_k4, List.forall_mem_cons.mpr ⟨ms_k249, fun _ h => absurd h List.not_mem_nil⟩⟩⟩⟩) rfl ⟨by decide +kernel, by decide +kernel, (by decide +kernel : (parseMethodDescriptor "(Ljava/lang/StringBuilder;)V").map (fun d => d.parameters.length) = some 1)⟩ hP hD hS [2, 0, 1] [] rfl rfl ⟨by decide, by decide, by decide⟩ ⟨⟨Nat.le_of_ble_eq_true rfl, Nat.le_of_ble_eq_true rfl⟩, Nat.le_of_ble_eq_true rfl, Nat.le_of_ble_eq_true rfl⟩ rfl (Nat.le_of_ble_eq_true rfl) d20_5 (fun vv ww H locs hR hP hD hS => ?_)
  obtain ⟨u_2, g_3, rfl, rfl⟩ := hR
  have hP : va_P D vwCl [(h, .inr (3, [.ref v, .int 0, .int 0, .int 0])), (v, .inl (dA 2, 16, .inl f)), (q1, .inr (5, [.ref u_2, .int 0, .int 0, .int 0])), (u_2, .inl (dA 2, 0, .inl g_3))] H := hP
  have hD : va_D A [(h, .inr (3, [.ref v, .int 0, .int 0, .int 0])), (v, .inl (dA 2, 16, .inl f)), (q1, .inr (5, [.ref u_2, .int 0, .int 0, .int 0])), (u_2, .inl (dA 2, 0, .inl g_3))] := hD
  refine W.eq (g2 := F0 m 8 ls [.ref q1]) rfl ?_
  exact ms_aret X d20_8 hP hD hS (Nat.le_of_ble_eq_true rfl) (Nat.le_of_ble_eq_true rfl) (⟨q1, u_2, g_3, rfl, rfl⟩) (Or.inl ⟨_, rfl⟩) (Or.inr ⟨_, rfl⟩)

set_option maxRecDepth 100000 in
set_option maxHeartbeats 8000000 in
theorem c_Scoder (l : Launch) (D : va_G) (dA : Nat → ClassId) (s0 : State) (hE : ms_EV D dA s0) (t : Nat) (u : Nat) : ms_C l D s0 yM21 bM21 1 (Option.some Jvm.ClassFile.FieldType.byte) 0 0 0 0 [.ref t] [(t, .inr (5, [.ref u, .int 0, .int 0, .int 0]))] (fun vv ww => vv = some (.int 0) ∧ ww = [(t, .inr (5, [.ref u, .int 0, .int 0, .int 0]))]) := by
  refine ms_C.mk hE.1 (by decide) (Nat.le_of_ble_eq_true rfl) [(0, .ref t)] rfl ?_
  intro p e s m below meth c A ls X hin hP hD hS hl
  have hx := X.1
  have hb := X.2.1
  have hml := X.2.2.1
  have hown : s.vm.findClass "java/lang/String" = some m.cls := X.2.2.2.1
  have hts := X.2.2.2.2.2.2.1
  have hK := X.2.2.2.2.2.2.2.2.1
  have hA := X.2.2.2.2.2.2.2.2.2.2
  refine va_gets (own := "java/lang/String") hx hb (ms_z hE.2.2.1 X) hS hown (hts _ ms_k270) (fun _ h => h) d21_0 ?_
  refine lv_if_eq hx hb d21_3 rfl (fun h9 => absurd h9 (by decide)) (fun _ => ?_)
  refine lv_aload_n hx hb d21_6 rfl (lv_at hl 0 rfl) ?_
  refine va_get (D := D) (ci := 5) (v := .int 0) (C := kR5) (T := kT5) (N := 4) hx hb hts ku5 hown hK hP 0 rfl rfl 1 (by decide) (hts _ ms_k285) (fun _ h => h) rfl d21_7 ?_
  refine lv_goto hx hb d21_10 rfl ?_
  exact ms_zret X d21_14 hP hD hS (Nat.le_of_ble_eq_true rfl) (Nat.le_of_ble_eq_true rfl) (⟨rfl, rfl⟩) (rfl)

set_option maxRecDepth 100000 in
set_option maxHeartbeats 8000000 in
theorem c_Slen (l : Launch) (D : va_G) (dA : Nat → ClassId) (s0 : State) (hE : ms_EV D dA s0) (t : Nat) (u : Nat) (g : Nat → Int32) : ms_C l D s0 yM22 bM22 1 (Option.some Jvm.ClassFile.FieldType.int) 1 20 0 0 [.ref t] [(t, .inr (5, [.ref u, .int 0, .int 0, .int 0])), (u, .inl (dA 2, 0, .inl g))] (fun vv ww => vv = some (.int 0) ∧ ww = [(t, .inr (5, [.ref u, .int 0, .int 0, .int 0])), (u, .inl (dA 2, 0, .inl g))]) := by
  refine ms_C.mk hE.1 (by decide) (Nat.le_of_ble_eq_true rfl) [(0, .ref t)] rfl ?_
  intro p e s m below meth c A ls X hin hP hD hS hl
  have hx := X.1
  have hb := X.2.1
  have hml := X.2.2.1
  have hown : s.vm.findClass "java/lang/String" = some m.cls := X.2.2.2.1
  have hts := X.2.2.2.2.2.2.1
  have hK := X.2.2.2.2.2.2.2.2.1
  have hA := X.2.2.2.2.2.2.2.2.2.2
  refine lv_aload_n hx hb d22_0 rfl (lv_at hl 0 rfl) ?_
  refine va_get (D := D) (ci := 5) (v := .ref u) (C := kR5) (T := kT5) (N := 4) hx hb hts ku5 hown hK hP 0 rfl rfl 0 (by decide) (hts _ ms_k284) (fun _ h => h) rfl d22_1 ?_
  refine va_alen (v := 0) hx hb hK hP 1 2 rfl rfl rfl d22_4 ?_
  refine lv_aload_n hx hb d22_5 rfl (lv_at hl 0 rfl) ?_
  refine ms_V (C := "java/lang/String") (rest := [.int 0]) (as := []) (wr := [(u, .inl (dA 2, 0, .inl g))]) X hl (c_Scoder l D dA s0 hE t u) (List.forall_mem_cons.mpr ⟨ms_k394, List.forall_mem_cons.mpr ⟨ms_k395, List.forall_mem_cons.mpr ⟨ms_k396, List.forall_mem_cons.mpr ⟨ms_k4, List.forall_mem_cons.mpr ⟨ms_k397, fun _ h => absurd h List.not_mem_nil⟩⟩⟩⟩⟩) ⟨rfl, by decide +kernel, by decide +kernel, (by decide +kernel : (parseMethodDescriptor "()B").map (fun d => d.parameters.length) = some 0)⟩ (va_recv hK hP rfl (q0 := 0) rfl) hP hD hS [0] [1] rfl rfl ⟨by decide, by decide, by decide⟩ ⟨⟨Nat.le_of_ble_eq_true rfl, Nat.le_of_ble_eq_true rfl⟩, Nat.le_of_ble_eq_true rfl, Nat.le_of_ble_eq_true rfl⟩ rfl (Nat.le_of_ble_eq_true rfl) d22_6 (fun vv ww H locs hR hP hD hS => ?_)
  obtain ⟨rfl, rfl⟩ := hR
  have hP : va_P D vwCl [(u, .inl (dA 2, 0, .inl g)), (t, .inr (5, [.ref u, .int 0, .int 0, .int 0]))] H := hP
  have hD : va_D A [(u, .inl (dA 2, 0, .inl g)), (t, .inr (5, [.ref u, .int 0, .int 0, .int 0]))] := hD
  refine W.eq (g2 := F0 m 9 ls [.int 0, .int 0]) rfl ?_
  refine lv_ishr hx hb d22_9 ?_
  refine ms_top (y := 0) (by decide) ?_
  have hP := hP.sub (ws' := [(t, .inr (5, [.ref u, .int 0, .int 0, .int 0])), (u, .inl (dA 2, 0, .inl g))]) [1, 0] rfl
  have hD := hD.sub (ws' := [(t, .inr (5, [.ref u, .int 0, .int 0, .int 0])), (u, .inl (dA 2, 0, .inl g))]) [1, 0] (by decide) rfl
  exact ms_iret X d22_10 hP hD hS (Nat.le_of_ble_eq_true rfl) (Nat.le_of_ble_eq_true rfl) (⟨rfl, rfl⟩)
end
section
set_option maxRecDepth 100000 in
set_option maxHeartbeats 8000000 in
theorem c_Tinit (l : Launch) (D : va_G) (dA : Nat → ClassId) (s0 : State) (hE : ms_EV D dA s0) (h : Nat) : ms_C l D s0 yM23 bM23 1 (Option.none : Option Jvm.ClassFile.FieldType) 1 12 3 280 [.ref h] [(h, .inr (1, [.null, .int 0, .null, .int 0, .null, .int 0]))] (fun vv ww => ∃ (a1 : Nat) (a2 : Nat) (a3 : Nat), vv = none ∧ ww = [(h, .inr (1, [.ref a1, .int 0, .ref a2, .int 0, .ref a3, .int 0])), (a1, .inl (dA 5, 200, .inr (.inr (.inr (.inr (fun _ => none)))))), (a2, .inl (dA 5, 40, .inr (.inr (.inr (.inr (fun _ => none)))))), (a3, .inl (dA 5, 40, .inr (.inr (.inr (.inr (fun _ => none))))))]) := by
  refine ms_C.mk hE.1 (by decide) (Nat.le_of_ble_eq_true rfl) [(0, .ref h)] rfl ?_
  intro p e s m below meth c A ls X hin hP hD hS hl
  have hx := X.1
  have hb := X.2.1
  have hml := X.2.2.1
  have hown : s.vm.findClass "MarkupStore$Tree" = some m.cls := X.2.2.2.1
  have hts := X.2.2.2.2.2.2.1
  have hK := X.2.2.2.2.2.2.2.2.1
  have hA := X.2.2.2.2.2.2.2.2.2.2
  refine lv_aload_n hx hb d23_0 rfl (lv_at hl 0 rfl) ?_
  refine W.objInit hx hb hown (hts _ ms_k77) (hts _ ms_k37) (hts _ ms_k38) rfl (by rw [hml]; exact hl.1) rfl d23_1 (Nat.le_of_ble_eq_true rfl) (Nat.le_of_ble_eq_true rfl) ?_
  refine W.eq (g2 := F0 m 4 ls []) rfl ?_
  refine lv_aload_n hx hb d23_4 rfl (lv_at hl 0 rfl) ?_
  refine lv_sipush (v := 200) hx hb d23_5 (by decide) ?_
  refine ms_newq (N' := 200) (C := "MarkupStore$Node") X ms_k78 (ms_ao hE.2.1 X) 5 rfl (fun _ h => by obtain ⟨_, _, _, _, _, h4⟩ := h; exact h4) hP hD hS (by decide) (by decide) (by decide) (Nat.le_of_ble_eq_true rfl) (Nat.le_of_ble_eq_true rfl) d23_8 (fun q1 H hP hD hS => ?_)
  have hP : va_P D vwCl [(h, .inr (1, [.null, .int 0, .null, .int 0, .null, .int 0])), (q1, .inl (dA 5, 200, .inr (.inr (.inr (.inr (fun _ => none))))))] H := hP
  have hD : va_D A [(h, .inr (1, [.null, .int 0, .null, .int 0, .null, .int 0])), (q1, .inl (dA 5, 200, .inr (.inr (.inr (.inr (fun _ => none))))))] := hD
  refine va_putF (D := D) (ci := 1) (v := .ref q1) (ty := (.array (.object "MarkupStore$Node"))) (C := kR1) (T := kT1) (N := 6) hx hb hts ku1 kt1 kp1 kn1 hown hK hP hD hS 0 rfl rfl 0 (by decide) (hts _ ms_k80) (fun _ h => h) rfl hin rfl (by decide +kernel) rfl rfl (Nat.le_of_ble_eq_true rfl) d23_11 (fun H locs hP hD hS => ?_)
  have hP : va_P D vwCl [(h, .inr (1, [.ref q1, .int 0, .null, .int 0, .null, .int 0])), (q1, .inl (dA 5, 200, .inr (.inr (.inr (.inr (fun _ => none))))))] H := hP
  have hD : va_D A [(h, .inr (1, [.ref q1, .int 0, .null, .int 0, .null, .int 0])), (q1, .inl (dA 5, 200, .inr (.inr (.inr (.inr (fun _ => none))))))] := hD
  refine lv_aload_n hx hb d23_14 rfl (lv_at hl 0 rfl) ?_
  refine lv_bipush (v := 40) hx hb d23_15 (by decide) ?_
  refine ms_newq (N' := 40) (C := "MarkupStore$Node") X ms_k78 (ms_ao hE.2.1 X) 5 rfl (fun _ h => by obtain ⟨_, _, _, _, _, h4⟩ := h; exact h4) hP hD hS (by decide) (by decide) (by decide) (Nat.le_of_ble_eq_true rfl) (Nat.le_of_ble_eq_true rfl) d23_17 (fun q2 H hP hD hS => ?_)
  have hP : va_P D vwCl [(h, .inr (1, [.ref q1, .int 0, .null, .int 0, .null, .int 0])), (q1, .inl (dA 5, 200, .inr (.inr (.inr (.inr (fun _ => none)))))), (q2, .inl (dA 5, 40, .inr (.inr (.inr (.inr (fun _ => none))))))] H := hP
  have hD : va_D A [(h, .inr (1, [.ref q1, .int 0, .null, .int 0, .null, .int 0])), (q1, .inl (dA 5, 200, .inr (.inr (.inr (.inr (fun _ => none)))))), (q2, .inl (dA 5, 40, .inr (.inr (.inr (.inr (fun _ => none))))))] := hD
  refine va_putF (D := D) (ci := 1) (v := .ref q2) (ty := (.array (.object "MarkupStore$Node"))) (C := kR1) (T := kT1) (N := 6) hx hb hts ku1 kt1 kp1 kn1 hown hK hP hD hS 0 rfl rfl 2 (by decide) (hts _ ms_k82) (fun _ h => h) rfl hin rfl (by decide +kernel) rfl rfl (Nat.le_of_ble_eq_true rfl) d23_20 (fun H locs hP hD hS => ?_)
  have hP : va_P D vwCl [(h, .inr (1, [.ref q1, .int 0, .ref q2, .int 0, .null, .int 0])), (q1, .inl (dA 5, 200, .inr (.inr (.inr (.inr (fun _ => none)))))), (q2, .inl (dA 5, 40, .inr (.inr (.inr (.inr (fun _ => none))))))] H := hP
  have hD : va_D A [(h, .inr (1, [.ref q1, .int 0, .ref q2, .int 0, .null, .int 0])), (q1, .inl (dA 5, 200, .inr (.inr (.inr (.inr (fun _ => none)))))), (q2, .inl (dA 5, 40, .inr (.inr (.inr (.inr (fun _ => none))))))] := hD
  refine lv_aload_n hx hb d23_23 rfl (lv_at hl 0 rfl) ?_
  refine lv_bipush (v := 40) hx hb d23_24 (by decide) ?_
  refine ms_newq (N' := 40) (C := "MarkupStore$Node") X ms_k78 (ms_ao hE.2.1 X) 5 rfl (fun _ h => by obtain ⟨_, _, _, _, _, h4⟩ := h; exact h4) hP hD hS (by decide) (by decide) (by decide) (Nat.le_of_ble_eq_true rfl) (Nat.le_of_ble_eq_true rfl) d23_26 (fun q3 H hP hD hS => ?_)
  have hP : va_P D vwCl [(h, .inr (1, [.ref q1, .int 0, .ref q2, .int 0, .null, .int 0])), (q1, .inl (dA 5, 200, .inr (.inr (.inr (.inr (fun _ => none)))))), (q2, .inl (dA 5, 40, .inr (.inr (.inr (.inr (fun _ => none)))))), (q3, .inl (dA 5, 40, .inr (.inr (.inr (.inr (fun _ => none))))))] H := hP
  have hD : va_D A [(h, .inr (1, [.ref q1, .int 0, .ref q2, .int 0, .null, .int 0])), (q1, .inl (dA 5, 200, .inr (.inr (.inr (.inr (fun _ => none)))))), (q2, .inl (dA 5, 40, .inr (.inr (.inr (.inr (fun _ => none)))))), (q3, .inl (dA 5, 40, .inr (.inr (.inr (.inr (fun _ => none))))))] := hD
  refine va_putF (D := D) (ci := 1) (v := .ref q3) (ty := (.array (.object "MarkupStore$Node"))) (C := kR1) (T := kT1) (N := 6) hx hb hts ku1 kt1 kp1 kn1 hown hK hP hD hS 0 rfl rfl 4 (by decide) (hts _ ms_k90) (fun _ h => h) rfl hin rfl (by decide +kernel) rfl rfl (Nat.le_of_ble_eq_true rfl) d23_29 (fun H locs hP hD hS => ?_)
  have hP : va_P D vwCl [(h, .inr (1, [.ref q1, .int 0, .ref q2, .int 0, .ref q3, .int 0])), (q1, .inl (dA 5, 200, .inr (.inr (.inr (.inr (fun _ => none)))))), (q2, .inl (dA 5, 40, .inr (.inr (.inr (.inr (fun _ => none)))))), (q3, .inl (dA 5, 40, .inr (.inr (.inr (.inr (fun _ => none))))))] H := hP
  have hD : va_D A [(h, .inr (1, [.ref q1, .int 0, .ref q2, .int 0, .ref q3, .int 0])), (q1, .inl (dA 5, 200, .inr (.inr (.inr (.inr (fun _ => none)))))), (q2, .inl (dA 5, 40, .inr (.inr (.inr (.inr (fun _ => none)))))), (q3, .inl (dA 5, 40, .inr (.inr (.inr (.inr (fun _ => none))))))] := hD
  exact ms_vret X d23_32 hP hD hS (Nat.le_of_ble_eq_true rfl) (Nat.le_of_ble_eq_true rfl) (⟨q1, q2, q3, rfl, rfl⟩)

set_option maxRecDepth 100000 in
set_option maxHeartbeats 8000000 in
theorem c_find (l : Launch) (D : va_G) (dA : Nat → ClassId) (s0 : State) (hE : ms_EV D dA s0) (h : Nat) (a1 : Nat) (a2 : Nat) (a3 : Nat) (i : Int32) : ms_C l D s0 yM24 bM24 2 (Option.some (Jvm.ClassFile.FieldType.object "MarkupStore$Node")) 0 0 0 0 [.ref h, .int i] [(h, .inr (1, [.ref a1, .int 0, .ref a2, .int 0, .ref a3, .int 0]))] (fun vv ww => vv = some (.null) ∧ ww = [(h, .inr (1, [.ref a1, .int 0, .ref a2, .int 0, .ref a3, .int 0]))]) := by
  refine ms_C.mk hE.1 (by decide) (Nat.le_of_ble_eq_true rfl) [(0, .ref h), (1, .int i)] rfl ?_
  intro p e s m below meth c A ls X hin hP hD hS hl
  have hx := X.1
  have hb := X.2.1
  have hml := X.2.2.1
  have hown : s.vm.findClass "MarkupStore$Tree" = some m.cls := X.2.2.2.1
  have hts := X.2.2.2.2.2.2.1
  have hK := X.2.2.2.2.2.2.2.2.1
  have hA := X.2.2.2.2.2.2.2.2.2.2
  refine lv_iload_n hx hb d24_0 rfl (lv_at hl 1 rfl) ?_
  refine lv_if_lt hx hb d24_1 rfl (fun hc => ?_) (fun hc => ?_)
  · refine lv_null hx hb d24_25 ?_
    exact ms_aret X d24_26 hP hD hS (Nat.le_of_ble_eq_true rfl) (Nat.le_of_ble_eq_true rfl) (⟨rfl, rfl⟩) (Or.inl ⟨_, rfl⟩) (Or.inl rfl)
  · refine lv_iload_n hx hb d24_4 rfl (lv_at hl 1 rfl) ?_
    refine lv_aload_n hx hb d24_5 rfl (lv_at hl 0 rfl) ?_
    refine va_get (D := D) (ci := 1) (v := .int 0) (C := kR1) (T := kT1) (N := 6) hx hb hts ku1 hown hK hP 0 rfl rfl 1 (by decide) (hts _ ms_k81) (fun _ h => h) rfl d24_6 ?_
    refine lv_icmp_ge hx hb d24_9 rfl (fun _ => ?_) (fun h9 => absurd (Int32.not_lt.mp hc) h9)
    refine lv_null hx hb d24_25 ?_
    exact ms_aret X d24_26 hP hD hS (Nat.le_of_ble_eq_true rfl) (Nat.le_of_ble_eq_true rfl) (⟨rfl, rfl⟩) (Or.inl ⟨_, rfl⟩) (Or.inl rfl)

set_option maxRecDepth 100000 in
set_option maxHeartbeats 8000000 in
theorem c_keep (l : Launch) (D : va_G) (dA : Nat → ClassId) (s0 : State) (hE : ms_EV D dA s0) (h : Nat) (a1 : Nat) (a2 : Nat) (a3 : Nat) : ms_C l D s0 yM25 bM25 2 (Option.none : Option Jvm.ClassFile.FieldType) 0 0 0 0 [.ref h] [(h, .inr (1, [.ref a1, .int 0, .ref a2, .int 0, .ref a3, .int 0]))] (fun vv ww => vv = none ∧ ww = [(h, .inr (1, [.ref a1, .int 0, .ref a2, .int 0, .ref a3, .int 0]))]) := by
  refine ms_C.mk hE.1 (by decide) (Nat.le_of_ble_eq_true rfl) [(0, .ref h)] rfl ?_
  intro p e s m below meth c A ls X hin hP hD hS hl
  have hx := X.1
  have hb := X.2.1
  have hml := X.2.2.1
  have hown : s.vm.findClass "MarkupStore$Tree" = some m.cls := X.2.2.2.1
  have hts := X.2.2.2.2.2.2.1
  have hK := X.2.2.2.2.2.2.2.2.1
  have hA := X.2.2.2.2.2.2.2.2.2.2
  refine lv_iconst (v := 0) hx hb d25_0 (by decide) ?_
  refine lv_istore_n hx hb d25_1 rfl hl (by decide) rfl (fun ls hl => ?_)
  have hl : lv_has ls 2 [(1, .int 0), (0, .ref h)] := hl
  refine lv_iload_n hx hb d25_2 rfl (lv_at hl 0 rfl) ?_
  refine lv_aload_n hx hb d25_3 rfl (lv_at hl 1 rfl) ?_
  refine va_get (D := D) (ci := 1) (v := .int 0) (C := kR1) (T := kT1) (N := 6) hx hb hts ku1 hown hK hP 0 rfl rfl 3 (by decide) (hts _ ms_k87) (fun _ h => h) rfl d25_4 ?_
  refine lv_icmp_ge hx hb d25_7 rfl (fun _ => ?_) (fun h9 => absurd (by decide) h9)
  refine lv_aload_n hx hb d25_46 rfl (lv_at hl 1 rfl) ?_
  refine lv_aload_n hx hb d25_47 rfl (lv_at hl 1 rfl) ?_
  refine va_get (D := D) (ci := 1) (v := .int 0) (C := kR1) (T := kT1) (N := 6) hx hb hts ku1 hown hK hP 0 rfl rfl 3 (by decide) (hts _ ms_k87) (fun _ h => h) rfl d25_48 ?_
  refine va_put (D := D) (ci := 1) (v := .int 0) (ty := .int) (C := kR1) (T := kT1) (N := 6) hx hb hts ku1 kt1 kp1 kn1 hown hK hP hD hS 0 rfl rfl 5 (by decide) (hts _ ms_k91) (fun _ h => h) rfl (by decide +kernel) rfl rfl (Nat.le_of_ble_eq_true rfl) d25_51 (fun H locs hP hD hS => ?_)
  have hP : va_P D vwCl [(h, .inr (1, [.ref a1, .int 0, .ref a2, .int 0, .ref a3, .int 0]))] H := hP
  have hD : va_D A [(h, .inr (1, [.ref a1, .int 0, .ref a2, .int 0, .ref a3, .int 0]))] := hD
  exact ms_vret X d25_54 hP hD hS (Nat.le_of_ble_eq_true rfl) (Nat.le_of_ble_eq_true rfl) (⟨rfl, rfl⟩)

set_option maxRecDepth 100000 in
set_option maxHeartbeats 8000000 in
theorem c_setPl (l : Launch) (D : va_G) (dA : Nat → ClassId) (s0 : State) (hE : ms_EV D dA s0) (h : Nat) (a1 : Nat) (a2 : Nat) (a3 : Nat) : ms_C l D s0 yM26 bM26 2 (Option.none : Option Jvm.ClassFile.FieldType) 0 0 0 0 [.ref h] [(h, .inr (1, [.ref a1, .int 0, .ref a2, .int 0, .ref a3, .int 0]))] (fun vv ww => vv = none ∧ ww = [(h, .inr (1, [.ref a1, .int 0, .ref a2, .int 0, .ref a3, .int 0]))]) := by
  refine ms_C.mk hE.1 (by decide) (Nat.le_of_ble_eq_true rfl) [(0, .ref h)] rfl ?_
  intro p e s m below meth c A ls X hin hP hD hS hl
  have hx := X.1
  have hb := X.2.1
  have hml := X.2.2.1
  have hown : s.vm.findClass "MarkupStore$Tree" = some m.cls := X.2.2.2.1
  have hts := X.2.2.2.2.2.2.1
  have hK := X.2.2.2.2.2.2.2.2.1
  have hA := X.2.2.2.2.2.2.2.2.2.2
  refine lv_iconst (v := 0) hx hb d26_0 (by decide) ?_
  refine lv_istore_n hx hb d26_1 rfl hl (by decide) rfl (fun ls hl => ?_)
  have hl : lv_has ls 2 [(1, .int 0), (0, .ref h)] := hl
  refine lv_iload_n hx hb d26_2 rfl (lv_at hl 0 rfl) ?_
  refine lv_aload_n hx hb d26_3 rfl (lv_at hl 1 rfl) ?_
  refine va_get (D := D) (ci := 1) (v := .int 0) (C := kR1) (T := kT1) (N := 6) hx hb hts ku1 hown hK hP 0 rfl rfl 3 (by decide) (hts _ ms_k87) (fun _ h => h) rfl d26_4 ?_
  refine lv_icmp_ge hx hb d26_7 rfl (fun _ => ?_) (fun h9 => absurd (by decide) h9)
  exact ms_vret X d26_26 hP hD hS (Nat.le_of_ble_eq_true rfl) (Nat.le_of_ble_eq_true rfl) (⟨rfl, rfl⟩)

set_option maxRecDepth 100000 in
set_option maxHeartbeats 8000000 in
theorem c_takeOut (l : Launch) (D : va_G) (dA : Nat → ClassId) (s0 : State) (hE : ms_EV D dA s0) (h : Nat) (a1 : Nat) (a2 : Nat) (a3 : Nat) : ms_C l D s0 yM27 bM27 4 (Option.none : Option Jvm.ClassFile.FieldType) 1 21 0 0 [.ref h, .int 0, .int 0] [(h, .inr (1, [.ref a1, .int 0, .ref a2, .int 0, .ref a3, .int 0]))] (fun vv ww => vv = none ∧ ww = [(h, .inr (1, [.ref a1, .int 0, .ref a2, .int 0, .ref a3, .int 0]))]) := by
  refine ms_C.mk hE.1 (by decide) (Nat.le_of_ble_eq_true rfl) [(0, .ref h), (1, .int 0), (2, .int 0)] rfl ?_
  intro p e s m below meth c A ls X hin hP hD hS hl
  have hx := X.1
  have hb := X.2.1
  have hml := X.2.2.1
  have hown : s.vm.findClass "MarkupStore$Tree" = some m.cls := X.2.2.2.1
  have hts := X.2.2.2.2.2.2.1
  have hK := X.2.2.2.2.2.2.2.2.1
  have hA := X.2.2.2.2.2.2.2.2.2.2
  refine lv_iload_n hx hb d27_0 rfl (lv_at hl 1 rfl) ?_
  refine lv_istore_n hx hb d27_1 rfl hl (by decide) rfl (fun ls hl => ?_)
  have hl : lv_has ls 4 [(3, .int 0), (0, .ref h), (1, .int 0), (2, .int 0)] := hl
  refine lv_iload_n hx hb d27_2 rfl (lv_at hl 0 rfl) ?_
  refine lv_iload_n hx hb d27_3 rfl (lv_at hl 3 rfl) ?_
  refine lv_icmp_ge hx hb d27_4 rfl (fun _ => ?_) (fun h9 => absurd (by decide) h9)
  refine lv_iload_n hx hb d27_23 rfl (lv_at hl 3 rfl) ?_
  refine lv_istore_n hx hb d27_24 rfl hl (by decide) rfl (fun ls hl => ?_)
  have hl : lv_has ls 4 [(3, .int 0), (0, .ref h), (1, .int 0), (2, .int 0)] := hl
  refine lv_iload_n hx hb d27_25 rfl (lv_at hl 0 rfl) ?_
  refine lv_aload_n hx hb d27_26 rfl (lv_at hl 1 rfl) ?_
  refine va_get (D := D) (ci := 1) (v := .int 0) (C := kR1) (T := kT1) (N := 6) hx hb hts ku1 hown hK hP 0 rfl rfl 3 (by decide) (hts _ ms_k87) (fun _ h => h) rfl d27_27 ?_
  refine lv_icmp_ge hx hb d27_30 rfl (fun _ => ?_) (fun h9 => absurd (by decide) h9)
  refine lv_aload_n hx hb d27_55 rfl (lv_at hl 1 rfl) ?_
  refine lv_dup hx hb d27_56 rfl ?_
  refine va_get (D := D) (ci := 1) (v := .int 0) (C := kR1) (T := kT1) (N := 6) hx hb hts ku1 hown hK hP 0 rfl rfl 3 (by decide) (hts _ ms_k87) (fun _ h => h) rfl d27_57 ?_
  refine lv_iload_n hx hb d27_60 rfl (lv_at hl 3 rfl) ?_
  refine lv_iload_n hx hb d27_61 rfl (lv_at hl 2 rfl) ?_
  refine lv_isub hx hb d27_62 ?_
  refine ms_top (y := 0) (by decide) ?_
  refine lv_isub hx hb d27_63 ?_
  refine ms_top (y := 0) (by decide) ?_
  refine va_put (D := D) (ci := 1) (v := .int 0) (ty := .int) (C := kR1) (T := kT1) (N := 6) hx hb hts ku1 kt1 kp1 kn1 hown hK hP hD hS 0 rfl rfl 3 (by decide) (hts _ ms_k87) (fun _ h => h) rfl (by decide +kernel) rfl rfl (Nat.le_of_ble_eq_true rfl) d27_64 (fun H locs hP hD hS => ?_)
  have hP : va_P D vwCl [(h, .inr (1, [.ref a1, .int 0, .ref a2, .int 0, .ref a3, .int 0]))] H := hP
  have hD : va_D A [(h, .inr (1, [.ref a1, .int 0, .ref a2, .int 0, .ref a3, .int 0]))] := hD
  refine lv_aload_n hx hb d27_67 rfl (lv_at hl 1 rfl) ?_
  refine ms_V (C := "MarkupStore$Tree") (rest := []) (as := []) (wr := []) X hl (c_setPl l D dA s0 hE h a1 a2 a3) (List.forall_mem_cons.mpr ⟨ms_k723, List.forall_mem_cons.mpr ⟨ms_k725, List.forall_mem_cons.mpr ⟨ms_p14, List.forall_mem_cons.mpr ⟨ms_k6, List.forall_mem_cons.mpr ⟨ms_k726, fun _ h => absurd h List.not_mem_nil⟩⟩⟩⟩⟩) ⟨rfl, by decide +kernel, by decide +kernel, (by decide +kernel : (parseMethodDescriptor "()V").map (fun d => d.parameters.length) = some 0)⟩ (va_recv hK hP rfl (q0 := 0) rfl) hP hD hS [0] [] rfl rfl ⟨by decide, by decide, by decide⟩ ⟨⟨Nat.le_of_ble_eq_true rfl, Nat.le_of_ble_eq_true rfl⟩, Nat.le_of_ble_eq_true rfl, Nat.le_of_ble_eq_true rfl⟩ rfl (Nat.le_of_ble_eq_true rfl) d27_68 (fun vv ww H locs hR hP hD hS => ?_)
  obtain ⟨rfl, rfl⟩ := hR
  have hP : va_P D vwCl [(h, .inr (1, [.ref a1, .int 0, .ref a2, .int 0, .ref a3, .int 0]))] H := hP
  have hD : va_D A [(h, .inr (1, [.ref a1, .int 0, .ref a2, .int 0, .ref a3, .int 0]))] := hD
  refine W.eq (g2 := F0 m 71 ls []) rfl ?_
  exact ms_vret X d27_71 hP hD hS (Nat.le_of_ble_eq_true rfl) (Nat.le_of_ble_eq_true rfl) (⟨rfl, rfl⟩)

set_option maxRecDepth 100000 in
set_option maxHeartbeats 8000000 in
theorem c_clear (l : Launch) (D : va_G) (dA : Nat → ClassId) (s0 : State) (hE : ms_EV D dA s0) (h : Nat) (a1 : Nat) (a2 : Nat) (a3 : Nat) : ms_C l D s0 yM28 bM28 1 (Option.none : Option Jvm.ClassFile.FieldType) 2 44 0 0 [.ref h] [(h, .inr (1, [.ref a1, .int 0, .ref a2, .int 0, .ref a3, .int 0]))] (fun vv ww => vv = none ∧ ww = [(h, .inr (1, [.ref a1, .int 0, .ref a2, .int 0, .ref a3, .int 0]))]) := by
  refine ms_C.mk hE.1 (by decide) (Nat.le_of_ble_eq_true rfl) [(0, .ref h)] rfl ?_
  intro p e s m below meth c A ls X hin hP hD hS hl
  have hx := X.1
  have hb := X.2.1
  have hml := X.2.2.1
  have hown : s.vm.findClass "MarkupStore$Tree" = some m.cls := X.2.2.2.1
  have hts := X.2.2.2.2.2.2.1
  have hK := X.2.2.2.2.2.2.2.2.1
  have hA := X.2.2.2.2.2.2.2.2.2.2
  refine lv_aload_n hx hb d28_0 rfl (lv_at hl 0 rfl) ?_
  refine lv_iconst (v := 0) hx hb d28_1 (by decide) ?_
  refine lv_aload_n hx hb d28_2 rfl (lv_at hl 0 rfl) ?_
  refine va_get (D := D) (ci := 1) (v := .int 0) (C := kR1) (T := kT1) (N := 6) hx hb hts ku1 hown hK hP 0 rfl rfl 3 (by decide) (hts _ ms_k87) (fun _ h => h) rfl d28_3 ?_
  refine ms_V (C := "MarkupStore$Tree") (rest := []) (as := [.int 0, .int 0]) (wr := []) X hl (c_takeOut l D dA s0 hE h a1 a2 a3) (List.forall_mem_cons.mpr ⟨ms_k719, List.forall_mem_cons.mpr ⟨ms_k720, List.forall_mem_cons.mpr ⟨ms_k721, List.forall_mem_cons.mpr ⟨ms_k6, List.forall_mem_cons.mpr ⟨ms_k722, fun _ h => absurd h List.not_mem_nil⟩⟩⟩⟩⟩) ⟨rfl, by decide +kernel, by decide +kernel, (by decide +kernel : (parseMethodDescriptor "(II)V").map (fun d => d.parameters.length) = some 2)⟩ (va_recv hK hP rfl (q0 := 0) rfl) hP hD hS [0] [] rfl rfl ⟨by decide, by decide, by decide⟩ ⟨⟨Nat.le_of_ble_eq_true rfl, Nat.le_of_ble_eq_true rfl⟩, Nat.le_of_ble_eq_true rfl, Nat.le_of_ble_eq_true rfl⟩ rfl (Nat.le_of_ble_eq_true rfl) d28_6 (fun vv ww H locs hR hP hD hS => ?_)
  obtain ⟨rfl, rfl⟩ := hR
  have hP : va_P D vwCl [(h, .inr (1, [.ref a1, .int 0, .ref a2, .int 0, .ref a3, .int 0]))] H := hP
  have hD : va_D A [(h, .inr (1, [.ref a1, .int 0, .ref a2, .int 0, .ref a3, .int 0]))] := hD
  refine W.eq (g2 := F0 m 9 ls []) rfl ?_
  exact ms_vret X d28_9 hP hD hS (Nat.le_of_ble_eq_true rfl) (Nat.le_of_ble_eq_true rfl) (⟨rfl, rfl⟩)

set_option maxRecDepth 100000 in
set_option maxHeartbeats 8000000 in
theorem c_giveB (l : Launch) (D : va_G) (dA : Nat → ClassId) (s0 : State) (hE : ms_EV D dA s0) (h : Nat) (a1 : Nat) (a2 : Nat) (a3 : Nat) : ms_C l D s0 yM29 bM29 2 (Option.none : Option Jvm.ClassFile.FieldType) 3 64 0 0 [.ref h] [(h, .inr (1, [.ref a1, .int 0, .ref a2, .int 0, .ref a3, .int 0]))] (fun vv ww => vv = none ∧ ww = [(h, .inr (1, [.ref a1, .int 0, .ref a2, .int 0, .ref a3, .int 0]))]) := by
  refine ms_C.mk hE.1 (by decide) (Nat.le_of_ble_eq_true rfl) [(0, .ref h)] rfl ?_
  intro p e s m below meth c A ls X hin hP hD hS hl
  have hx := X.1
  have hb := X.2.1
  have hml := X.2.2.1
  have hown : s.vm.findClass "MarkupStore$Tree" = some m.cls := X.2.2.2.1
  have hts := X.2.2.2.2.2.2.1
  have hK := X.2.2.2.2.2.2.2.2.1
  have hA := X.2.2.2.2.2.2.2.2.2.2
  refine lv_aload_n hx hb d29_0 rfl (lv_at hl 0 rfl) ?_
  refine ms_V (C := "MarkupStore$Tree") (rest := []) (as := []) (wr := []) X hl (c_clear l D dA s0 hE h a1 a2 a3) (List.forall_mem_cons.mpr ⟨ms_k1213, List.forall_mem_cons.mpr ⟨ms_k716, List.forall_mem_cons.mpr ⟨ms_k717, List.forall_mem_cons.mpr ⟨ms_k6, List.forall_mem_cons.mpr ⟨ms_k718, fun _ h => absurd h List.not_mem_nil⟩⟩⟩⟩⟩) ⟨rfl, by decide +kernel, by decide +kernel, (by decide +kernel : (parseMethodDescriptor "()V").map (fun d => d.parameters.length) = some 0)⟩ (va_recv hK hP rfl (q0 := 0) rfl) hP hD hS [0] [] rfl rfl ⟨by decide, by decide, by decide⟩ ⟨⟨Nat.le_of_ble_eq_true rfl, Nat.le_of_ble_eq_true rfl⟩, Nat.le_of_ble_eq_true rfl, Nat.le_of_ble_eq_true rfl⟩ rfl (Nat.le_of_ble_eq_true rfl) d29_1 (fun vv ww H locs hR hP hD hS => ?_)
  obtain ⟨rfl, rfl⟩ := hR
  have hP : va_P D vwCl [(h, .inr (1, [.ref a1, .int 0, .ref a2, .int 0, .ref a3, .int 0]))] H := hP
  have hD : va_D A [(h, .inr (1, [.ref a1, .int 0, .ref a2, .int 0, .ref a3, .int 0]))] := hD
  refine W.eq (g2 := F0 m 4 ls []) rfl ?_
  refine lv_iconst (v := 0) hx hb d29_4 (by decide) ?_
  refine lv_istore_n hx hb d29_5 rfl hl (by decide) rfl (fun ls hl => ?_)
  have hl : lv_has ls 2 [(1, .int 0), (0, .ref h)] := hl
  refine lv_iload_n hx hb d29_6 rfl (lv_at hl 0 rfl) ?_
  refine lv_aload_n hx hb d29_7 rfl (lv_at hl 1 rfl) ?_
  refine va_get (D := D) (ci := 1) (v := .int 0) (C := kR1) (T := kT1) (N := 6) hx hb hts ku1 hown hK hP 0 rfl rfl 5 (by decide) (hts _ ms_k91) (fun _ h => h) rfl d29_8 ?_
  refine lv_icmp_ge hx hb d29_11 rfl (fun _ => ?_) (fun h9 => absurd (by decide) h9)
  refine lv_aload_n hx hb d29_50 rfl (lv_at hl 1 rfl) ?_
  refine lv_aload_n hx hb d29_51 rfl (lv_at hl 1 rfl) ?_
  refine va_get (D := D) (ci := 1) (v := .int 0) (C := kR1) (T := kT1) (N := 6) hx hb hts ku1 hown hK hP 0 rfl rfl 5 (by decide) (hts _ ms_k91) (fun _ h => h) rfl d29_52 ?_
  refine va_put (D := D) (ci := 1) (v := .int 0) (ty := .int) (C := kR1) (T := kT1) (N := 6) hx hb hts ku1 kt1 kp1 kn1 hown hK hP hD hS 0 rfl rfl 3 (by decide) (hts _ ms_k87) (fun _ h => h) rfl (by decide +kernel) rfl rfl (Nat.le_of_ble_eq_true rfl) d29_55 (fun H locs hP hD hS => ?_)
  have hP : va_P D vwCl [(h, .inr (1, [.ref a1, .int 0, .ref a2, .int 0, .ref a3, .int 0]))] H := hP
  have hD : va_D A [(h, .inr (1, [.ref a1, .int 0, .ref a2, .int 0, .ref a3, .int 0]))] := hD
  refine lv_aload_n hx hb d29_58 rfl (lv_at hl 1 rfl) ?_
  refine ms_V (C := "MarkupStore$Tree") (rest := []) (as := []) (wr := []) X hl (c_setPl l D dA s0 hE h a1 a2 a3) (List.forall_mem_cons.mpr ⟨ms_k723, List.forall_mem_cons.mpr ⟨ms_k725, List.forall_mem_cons.mpr ⟨ms_p14, List.forall_mem_cons.mpr ⟨ms_k6, List.forall_mem_cons.mpr ⟨ms_k726, fun _ h => absurd h List.not_mem_nil⟩⟩⟩⟩⟩) ⟨rfl, by decide +kernel, by decide +kernel, (by decide +kernel : (parseMethodDescriptor "()V").map (fun d => d.parameters.length) = some 0)⟩ (va_recv hK hP rfl (q0 := 0) rfl) hP hD hS [0] [] rfl rfl ⟨by decide, by decide, by decide⟩ ⟨⟨Nat.le_of_ble_eq_true rfl, Nat.le_of_ble_eq_true rfl⟩, Nat.le_of_ble_eq_true rfl, Nat.le_of_ble_eq_true rfl⟩ rfl (Nat.le_of_ble_eq_true rfl) d29_59 (fun vv ww H locs hR hP hD hS => ?_)
  obtain ⟨rfl, rfl⟩ := hR
  have hP : va_P D vwCl [(h, .inr (1, [.ref a1, .int 0, .ref a2, .int 0, .ref a3, .int 0]))] H := hP
  have hD : va_D A [(h, .inr (1, [.ref a1, .int 0, .ref a2, .int 0, .ref a3, .int 0]))] := hD
  refine W.eq (g2 := F0 m 62 ls []) rfl ?_
  exact ms_vret X d29_62 hP hD hS (Nat.le_of_ble_eq_true rfl) (Nat.le_of_ble_eq_true rfl) (⟨rfl, rfl⟩)

set_option maxRecDepth 100000 in
set_option maxHeartbeats 8000000 in
theorem c_TRinit (l : Launch) (D : va_G) (dA : Nat → ClassId) (s0 : State) (hE : ms_EV D dA s0) (h : Nat) (t : Nat) : ms_C l D s0 yM30 bM30 2 (Option.none : Option Jvm.ClassFile.FieldType) 1 12 0 0 [.ref h, .ref t] [(h, .inr (6, [.null, .int 0, .int 0, .null, .null, .int 0]))] (fun vv ww => vv = none ∧ ww = [(h, .inr (6, [.ref t, .int 0, .int (-1), .null, .null, .int 0]))]) := by
  refine ms_C.mk hE.1 (by decide) (Nat.le_of_ble_eq_true rfl) [(0, .ref h), (1, .ref t)] rfl ?_
  intro p e s m below meth c A ls X hin hP hD hS hl
  have hx := X.1
  have hb := X.2.1
  have hml := X.2.2.1
  have hown : s.vm.findClass "MarkupStore$TextReader" = some m.cls := X.2.2.2.1
  have hts := X.2.2.2.2.2.2.1
  have hK := X.2.2.2.2.2.2.2.2.1
  have hA := X.2.2.2.2.2.2.2.2.2.2
  refine lv_aload_n hx hb d30_0 rfl (lv_at hl 0 rfl) ?_
  refine W.objInit hx hb hown (hts _ ms_k321) (hts _ ms_k37) (hts _ ms_k38) rfl (by rw [hml]; exact hl.1) rfl d30_1 (Nat.le_of_ble_eq_true rfl) (Nat.le_of_ble_eq_true rfl) ?_
  refine W.eq (g2 := F0 m 4 ls []) rfl ?_
  refine lv_aload_n hx hb d30_4 rfl (lv_at hl 0 rfl) ?_
  refine lv_aload_n hx hb d30_5 rfl (lv_at hl 1 rfl) ?_
  refine va_putF (D := D) (ci := 6) (v := .ref t) (ty := (.object "java/lang/String")) (C := kR6) (T := kT6) (N := 6) hx hb hts ku6 kt6 kp6 kn6 hown hK hP hD hS 0 rfl rfl 0 (by decide) (hts _ ms_k352) (fun _ h => h) rfl hin rfl (by decide +kernel) rfl rfl (Nat.le_of_ble_eq_true rfl) d30_6 (fun H locs hP hD hS => ?_)
  have hP : va_P D vwCl [(h, .inr (6, [.ref t, .int 0, .int 0, .null, .null, .int 0]))] H := hP
  have hD : va_D A [(h, .inr (6, [.ref t, .int 0, .int 0, .null, .null, .int 0]))] := hD
  refine lv_aload_n hx hb d30_9 rfl (lv_at hl 0 rfl) ?_
  refine lv_iconst (v := 0) hx hb d30_10 (by decide) ?_
  refine va_put (D := D) (ci := 6) (v := .int 0) (ty := .int) (C := kR6) (T := kT6) (N := 6) hx hb hts ku6 kt6 kp6 kn6 hown hK hP hD hS 0 rfl rfl 1 (by decide) (hts _ ms_k357) (fun _ h => h) rfl (by decide +kernel) rfl rfl (Nat.le_of_ble_eq_true rfl) d30_11 (fun H locs hP hD hS => ?_)
  have hP : va_P D vwCl [(h, .inr (6, [.ref t, .int 0, .int 0, .null, .null, .int 0]))] H := hP
  have hD : va_D A [(h, .inr (6, [.ref t, .int 0, .int 0, .null, .null, .int 0]))] := hD
  refine lv_aload_n hx hb d30_14 rfl (lv_at hl 0 rfl) ?_
  refine lv_iconst (v := (-1)) hx hb d30_15 (by decide) ?_
  refine va_put (D := D) (ci := 6) (v := .int (-1)) (ty := .int) (C := kR6) (T := kT6) (N := 6) hx hb hts ku6 kt6 kp6 kn6 hown hK hP hD hS 0 rfl rfl 2 (by decide) (hts _ ms_k362) (fun _ h => h) rfl (by decide +kernel) rfl rfl (Nat.le_of_ble_eq_true rfl) d30_16 (fun H locs hP hD hS => ?_)
  have hP : va_P D vwCl [(h, .inr (6, [.ref t, .int 0, .int (-1), .null, .null, .int 0]))] H := hP
  have hD : va_D A [(h, .inr (6, [.ref t, .int 0, .int (-1), .null, .null, .int 0]))] := hD
  exact ms_vret X d30_19 hP hD hS (Nat.le_of_ble_eq_true rfl) (Nat.le_of_ble_eq_true rfl) (⟨rfl, rfl⟩)

set_option maxRecDepth 100000 in
set_option maxHeartbeats 8000000 in
theorem c_MRinit (l : Launch) (D : va_G) (dA : Nat → ClassId) (s0 : State) (hE : ms_EV D dA s0) (h : Nat) (t : Nat) (z : Nat) : ms_C l D s0 yM31 bM31 3 (Option.none : Option Jvm.ClassFile.FieldType) 4 72 1 3 [.ref h, .ref t, .ref z] [(h, .inr (6, [.null, .int 0, .int 0, .null, .null, .int 0]))] (fun vv ww => ∃ (a : Nat) (b : Nat), vv = none ∧ ww = [(h, .inr (6, [.ref t, .int 0, .int (-1), .ref b, .ref z, .int 0])), (b, .inr (4, [.int 0, .ref a, .int 0]))]) := by
  refine ms_C.mk hE.1 (by decide) (Nat.le_of_ble_eq_true rfl) [(0, .ref h), (1, .ref t), (2, .ref z)] rfl ?_
  intro p e s m below meth c A ls X hin hP hD hS hl
  have hx := X.1
  have hb := X.2.1
  have hml := X.2.2.1
  have hown : s.vm.findClass "MarkupStore$MarkupReader" = some m.cls := X.2.2.2.1
  have hts := X.2.2.2.2.2.2.1
  have hK := X.2.2.2.2.2.2.2.2.1
  have hA := X.2.2.2.2.2.2.2.2.2.2
  refine lv_aload_n hx hb d31_0 rfl (lv_at hl 0 rfl) ?_
  refine lv_aload_n hx hb d31_1 rfl (lv_at hl 1 rfl) ?_
  refine ms_I (rest := []) (as := [.ref t]) (wr := []) X hl (c_TRinit l D dA s0 hE h t) (List.forall_mem_cons.mpr ⟨ms_k318, List.forall_mem_cons.mpr ⟨ms_k319, List.forall_mem_cons.mpr ⟨ms_k14, List.forall_mem_cons.mpr ⟨ms_k320, fun _ h => absurd h List.not_mem_nil⟩⟩⟩⟩) rfl ⟨by decide +kernel, by decide +kernel, (by decide +kernel : (parseMethodDescriptor "(Ljava/lang/String;)V").map (fun d => d.parameters.length) = some 1)⟩ hP hD hS [0] [] rfl rfl ⟨by decide, by decide, by decide⟩ ⟨⟨Nat.le_of_ble_eq_true rfl, Nat.le_of_ble_eq_true rfl⟩, Nat.le_of_ble_eq_true rfl, Nat.le_of_ble_eq_true rfl⟩ rfl (Nat.le_of_ble_eq_true rfl) d31_2 (fun vv ww H locs hR hP hD hS => ?_)
  obtain ⟨rfl, rfl⟩ := hR
  have hP : va_P D vwCl [(h, .inr (6, [.ref t, .int 0, .int (-1), .null, .null, .int 0]))] H := hP
  have hD : va_D A [(h, .inr (6, [.ref t, .int 0, .int (-1), .null, .null, .int 0]))] := hD
  refine W.eq (g2 := F0 m 5 ls []) rfl ?_
  refine lv_aload_n hx hb d31_5 rfl (lv_at hl 0 rfl) ?_
  refine va_new (ci := 4) (fs := [.int 0, .null, .int 0]) (C := kR4) (T := kT4) (N := 3) hx hb hts ku4 kt4 kp4 hown (hts _ ms_k322) (hts _ ms_k323) (hts _ ms_k18) hK hP hD hS hA rfl kz4 (Nat.le_of_ble_eq_true rfl) (Nat.le_of_ble_eq_true rfl) d31_6 (fun q1 H hP hD hS => ?_)
  have hP : va_P D vwCl [(h, .inr (6, [.ref t, .int 0, .int (-1), .null, .null, .int 0])), (q1, .inr (4, [.int 0, .null, .int 0]))] H := hP
  have hD : va_D A [(h, .inr (6, [.ref t, .int 0, .int (-1), .null, .null, .int 0])), (q1, .inr (4, [.int 0, .null, .int 0]))] := hD
  refine lv_dup hx hb d31_9 rfl ?_
  refine ms_I (rest := [.ref q1, .ref h]) (as := []) (wr := [(h, .inr (6, [.ref t, .int 0, .int (-1), .null, .null, .int 0]))]) X hl (c_ALinit l D dA s0 hE q1) (List.forall_mem_cons.mpr ⟨ms_k324, List.forall_mem_cons.mpr ⟨ms_k325, List.forall_mem_cons.mpr ⟨ms_k18, List.forall_mem_cons.mpr ⟨ms_k326, fun _ h => absurd h List.not_mem_nil⟩⟩⟩⟩) rfl ⟨by decide +kernel, by decide +kernel, (by decide +kernel : (parseMethodDescriptor "()V").map (fun d => d.parameters.length) = some 0)⟩ hP hD hS [1] [0] rfl rfl ⟨by decide, by decide, by decide⟩ ⟨⟨Nat.le_of_ble_eq_true rfl, Nat.le_of_ble_eq_true rfl⟩, Nat.le_of_ble_eq_true rfl, Nat.le_of_ble_eq_true rfl⟩ rfl (Nat.le_of_ble_eq_true rfl) d31_10 (fun vv ww H locs hR hP hD hS => ?_)
  obtain ⟨a_2, rfl, rfl⟩ := hR
  have hP : va_P D vwCl [(h, .inr (6, [.ref t, .int 0, .int (-1), .null, .null, .int 0])), (q1, .inr (4, [.int 0, .ref a_2, .int 0]))] H := hP
  have hD : va_D A [(h, .inr (6, [.ref t, .int 0, .int (-1), .null, .null, .int 0])), (q1, .inr (4, [.int 0, .ref a_2, .int 0]))] := hD
  refine W.eq (g2 := F0 m 13 ls [.ref q1, .ref h]) rfl ?_
  refine va_putF (D := D) (ci := 6) (v := .ref q1) (ty := (.object "java/util/ArrayList")) (C := kR6) (T := kT6) (N := 6) hx hb hts ku6 kt6 kp6 kn6 hown hK hP hD hS 0 rfl rfl 3 (by decide) (hts _ ms_k348) (fun _ h => h) rfl hin rfl (by decide +kernel) rfl rfl (Nat.le_of_ble_eq_true rfl) d31_13 (fun H locs hP hD hS => ?_)
  have hP : va_P D vwCl [(h, .inr (6, [.ref t, .int 0, .int (-1), .ref q1, .null, .int 0])), (q1, .inr (4, [.int 0, .ref a_2, .int 0]))] H := hP
  have hD : va_D A [(h, .inr (6, [.ref t, .int 0, .int (-1), .ref q1, .null, .int 0])), (q1, .inr (4, [.int 0, .ref a_2, .int 0]))] := hD
  refine lv_aload_n hx hb d31_16 rfl (lv_at hl 0 rfl) ?_
  refine lv_aload_n hx hb d31_17 rfl (lv_at hl 2 rfl) ?_
  refine va_putF (D := D) (ci := 6) (v := .ref z) (ty := (.object "java/lang/StringBuilder")) (C := kR6) (T := kT6) (N := 6) hx hb hts ku6 kt6 kp6 kn6 hown hK hP hD hS 0 rfl rfl 4 (by decide) (hts _ ms_k350) (fun _ h => h) rfl hin rfl (by decide +kernel) rfl rfl (Nat.le_of_ble_eq_true rfl) d31_18 (fun H locs hP hD hS => ?_)
  have hP : va_P D vwCl [(h, .inr (6, [.ref t, .int 0, .int (-1), .ref q1, .ref z, .int 0])), (q1, .inr (4, [.int 0, .ref a_2, .int 0]))] H := hP
  have hD : va_D A [(h, .inr (6, [.ref t, .int 0, .int (-1), .ref q1, .ref z, .int 0])), (q1, .inr (4, [.int 0, .ref a_2, .int 0]))] := hD
  refine lv_aload_n hx hb d31_21 rfl (lv_at hl 0 rfl) ?_
  refine lv_iconst (v := 0) hx hb d31_22 (by decide) ?_
  refine va_put (D := D) (ci := 6) (v := .int 0) (ty := .boolean) (C := kR6) (T := kT6) (N := 6) hx hb hts ku6 kt6 kp6 kn6 hown hK hP hD hS 0 rfl rfl 5 (by decide) (hts _ ms_k351) (fun _ h => h) rfl (by decide +kernel) rfl rfl (Nat.le_of_ble_eq_true rfl) d31_23 (fun H locs hP hD hS => ?_)
  have hP : va_P D vwCl [(h, .inr (6, [.ref t, .int 0, .int (-1), .ref q1, .ref z, .int 0])), (q1, .inr (4, [.int 0, .ref a_2, .int 0]))] H := hP
  have hD : va_D A [(h, .inr (6, [.ref t, .int 0, .int (-1), .ref q1, .ref z, .int 0])), (q1, .inr (4, [.int 0, .ref a_2, .int 0]))] := hD
  exact ms_vret X d31_26 hP hD hS (Nat.le_of_ble_eq_true rfl) (Nat.le_of_ble_eq_true rfl) (⟨a_2, q1, rfl, rfl⟩)

set_option maxRecDepth 100000 in
set_option maxHeartbeats 8000000 in
theorem c_seen0 (l : Launch) (D : va_G) (dA : Nat → ClassId) (s0 : State) (hE : ms_EV D dA s0) (h : Nat) (t : Nat) (b : Nat) (z : Nat) (u : Nat) (g : Nat → Int32) : ms_C l D s0 yM32 bM32 2 (Option.some Jvm.ClassFile.FieldType.char) 2 40 0 0 [.ref h, .int 0] [(h, .inr (6, [.ref t, .int 0, .int (-1), .ref b, .ref z, .int 0])), (t, .inr (5, [.ref u, .int 0, .int 0, .int 0])), (u, .inl (dA 2, 0, .inl g))] (fun vv ww => vv = some (.int 0) ∧ ww = [(h, .inr (6, [.ref t, .int 0, .int (-1), .ref b, .ref z, .int 0])), (t, .inr (5, [.ref u, .int 0, .int 0, .int 0])), (u, .inl (dA 2, 0, .inl g))]) := by
  refine ms_C.mk hE.1 (by decide) (Nat.le_of_ble_eq_true rfl) [(0, .ref h), (1, .int 0)] rfl ?_
  intro p e s m below meth c A ls X hin hP hD hS hl
  have hx := X.1
  have hb := X.2.1
  have hml := X.2.2.1
  have hown : s.vm.findClass "MarkupStore$TextReader" = some m.cls := X.2.2.2.1
  have hts := X.2.2.2.2.2.2.1
  have hK := X.2.2.2.2.2.2.2.2.1
  have hA := X.2.2.2.2.2.2.2.2.2.2
  refine lv_iload_n hx hb d32_0 rfl (lv_at hl 1 rfl) ?_
  refine lv_aload_n hx hb d32_1 rfl (lv_at hl 0 rfl) ?_
  refine va_get (D := D) (ci := 6) (v := .ref t) (C := kR6) (T := kT6) (N := 6) hx hb hts ku6 hown hK hP 0 rfl rfl 0 (by decide) (hts _ ms_k352) (fun _ h => h) rfl d32_2 ?_
  refine ms_V (C := "java/lang/String") (rest := [.int 0]) (as := []) (wr := [(h, .inr (6, [.ref t, .int 0, .int (-1), .ref b, .ref z, .int 0]))]) X hl (c_Slen l D dA s0 hE t u g) (List.forall_mem_cons.mpr ⟨ms_k390, List.forall_mem_cons.mpr ⟨ms_k391, List.forall_mem_cons.mpr ⟨ms_k392, List.forall_mem_cons.mpr ⟨ms_k4, List.forall_mem_cons.mpr ⟨ms_k393, fun _ h => absurd h List.not_mem_nil⟩⟩⟩⟩⟩) ⟨rfl, by decide +kernel, by decide +kernel, (by decide +kernel : (parseMethodDescriptor "()I").map (fun d => d.parameters.length) = some 0)⟩ (va_recv hK hP rfl (q0 := 1) rfl) hP hD hS [1, 2] [0] rfl rfl ⟨by decide, by decide, by decide⟩ ⟨⟨Nat.le_of_ble_eq_true rfl, Nat.le_of_ble_eq_true rfl⟩, Nat.le_of_ble_eq_true rfl, Nat.le_of_ble_eq_true rfl⟩ rfl (Nat.le_of_ble_eq_true rfl) d32_5 (fun vv ww H locs hR hP hD hS => ?_)
  obtain ⟨rfl, rfl⟩ := hR
  have hP : va_P D vwCl [(h, .inr (6, [.ref t, .int 0, .int (-1), .ref b, .ref z, .int 0])), (t, .inr (5, [.ref u, .int 0, .int 0, .int 0])), (u, .inl (dA 2, 0, .inl g))] H := hP
  have hD : va_D A [(h, .inr (6, [.ref t, .int 0, .int (-1), .ref b, .ref z, .int 0])), (t, .inr (5, [.ref u, .int 0, .int 0, .int 0])), (u, .inl (dA 2, 0, .inl g))] := hD
  refine W.eq (g2 := F0 m 8 ls [.int 0, .int 0]) rfl ?_
  refine lv_icmp_ge hx hb d32_8 rfl (fun _ => ?_) (fun h9 => absurd (by decide) h9)
  refine lv_iconst (v := 0) hx hb d32_22 (by decide) ?_
  exact ms_zret X d32_23 hP hD hS (Nat.le_of_ble_eq_true rfl) (Nat.le_of_ble_eq_true rfl) (⟨rfl, rfl⟩) (rfl)

set_option maxRecDepth 100000 in
set_option maxHeartbeats 8000000 in
theorem c_failAt (l : Launch) (D : va_G) (dA : Nat → ClassId) (s0 : State) (hE : ms_EV D dA s0) (h : Nat) (t : Nat) (b : Nat) (z : Nat) : ms_C l D s0 yM33 bM33 2 (Option.some Jvm.ClassFile.FieldType.boolean) 0 0 0 0 [.ref h, .int 0] [(h, .inr (6, [.ref t, .int 0, .int (-1), .ref b, .ref z, .int 0]))] (fun vv ww => vv = some (.int 0) ∧ ww = [(h, .inr (6, [.ref t, .int 0, .int 0, .ref b, .ref z, .int 0]))]) := by
  refine ms_C.mk hE.1 (by decide) (Nat.le_of_ble_eq_true rfl) [(0, .ref h), (1, .int 0)] rfl ?_
  intro p e s m below meth c A ls X hin hP hD hS hl
  have hx := X.1
  have hb := X.2.1
  have hml := X.2.2.1
  have hown : s.vm.findClass "MarkupStore$TextReader" = some m.cls := X.2.2.2.1
  have hts := X.2.2.2.2.2.2.1
  have hK := X.2.2.2.2.2.2.2.2.1
  have hA := X.2.2.2.2.2.2.2.2.2.2
  refine lv_aload_n hx hb d33_0 rfl (lv_at hl 0 rfl) ?_
  refine lv_iload_n hx hb d33_1 rfl (lv_at hl 1 rfl) ?_
  refine va_put (D := D) (ci := 6) (v := .int 0) (ty := .int) (C := kR6) (T := kT6) (N := 6) hx hb hts ku6 kt6 kp6 kn6 hown hK hP hD hS 0 rfl rfl 2 (by decide) (hts _ ms_k362) (fun _ h => h) rfl (by decide +kernel) rfl rfl (Nat.le_of_ble_eq_true rfl) d33_2 (fun H locs hP hD hS => ?_)
  have hP : va_P D vwCl [(h, .inr (6, [.ref t, .int 0, .int 0, .ref b, .ref z, .int 0]))] H := hP
  have hD : va_D A [(h, .inr (6, [.ref t, .int 0, .int 0, .ref b, .ref z, .int 0]))] := hD
  refine lv_iconst (v := 0) hx hb d33_5 (by decide) ?_
  exact ms_zret X d33_6 hP hD hS (Nat.le_of_ble_eq_true rfl) (Nat.le_of_ble_eq_true rfl) (⟨rfl, rfl⟩) (rfl)

set_option maxRecDepth 100000 in
set_option maxHeartbeats 8000000 in
theorem c_failed (l : Launch) (D : va_G) (dA : Nat → ClassId) (s0 : State) (hE : ms_EV D dA s0) (h : Nat) (t : Nat) (b : Nat) (z : Nat) : ms_C l D s0 yM34 bM34 1 (Option.some Jvm.ClassFile.FieldType.boolean) 0 0 0 0 [.ref h] [(h, .inr (6, [.ref t, .int 0, .int 0, .ref b, .ref z, .int 0]))] (fun vv ww => vv = some (.int 1) ∧ ww = [(h, .inr (6, [.ref t, .int 0, .int 0, .ref b, .ref z, .int 0]))]) := by
  refine ms_C.mk hE.1 (by decide) (Nat.le_of_ble_eq_true rfl) [(0, .ref h)] rfl ?_
  intro p e s m below meth c A ls X hin hP hD hS hl
  have hx := X.1
  have hb := X.2.1
  have hml := X.2.2.1
  have hown : s.vm.findClass "MarkupStore$TextReader" = some m.cls := X.2.2.2.1
  have hts := X.2.2.2.2.2.2.1
  have hK := X.2.2.2.2.2.2.2.2.1
  have hA := X.2.2.2.2.2.2.2.2.2.2
  refine lv_aload_n hx hb d34_0 rfl (lv_at hl 0 rfl) ?_
  refine va_get (D := D) (ci := 6) (v := .int 0) (C := kR6) (T := kT6) (N := 6) hx hb hts ku6 hown hK hP 0 rfl rfl 2 (by decide) (hts _ ms_k362) (fun _ h => h) rfl d34_1 ?_
  refine lv_iconst (v := (-1)) hx hb d34_4 (by decide) ?_
  refine lv_icmp_eq hx hb d34_5 rfl (fun h9 => absurd h9 (by decide)) (fun _ => ?_)
  refine lv_iconst (v := 1) hx hb d34_8 (by decide) ?_
  refine lv_goto hx hb d34_9 rfl ?_
  exact ms_zret X d34_13 hP hD hS (Nat.le_of_ble_eq_true rfl) (Nat.le_of_ble_eq_true rfl) (⟨rfl, rfl⟩) (rfl)

set_option maxRecDepth 100000 in
set_option maxHeartbeats 8000000 in
theorem c_readDoc (l : Launch) (D : va_G) (dA : Nat → ClassId) (s0 : State) (hE : ms_EV D dA s0) (h : Nat) (t : Nat) (b : Nat) (z : Nat) (u : Nat) (g : Nat → Int32) : ms_C l D s0 yM35 bM35 2 (Option.some Jvm.ClassFile.FieldType.boolean) 3 61 0 0 [.ref h] [(h, .inr (6, [.ref t, .int 0, .int (-1), .ref b, .ref z, .int 0])), (t, .inr (5, [.ref u, .int 0, .int 0, .int 0])), (u, .inl (dA 2, 0, .inl g))] (fun vv ww => vv = some (.int 0) ∧ ww = [(h, .inr (6, [.ref t, .int 0, .int 0, .ref b, .ref z, .int 0])), (t, .inr (5, [.ref u, .int 0, .int 0, .int 0])), (u, .inl (dA 2, 0, .inl g))]) := by
  refine ms_C.mk hE.1 (by decide) (Nat.le_of_ble_eq_true rfl) [(0, .ref h)] rfl ?_
  intro p e s m below meth c A ls X hin hP hD hS hl
  have hx := X.1
  have hb := X.2.1
  have hml := X.2.2.1
  have hown : s.vm.findClass "MarkupStore$MarkupReader" = some m.cls := X.2.2.2.1
  have hts := X.2.2.2.2.2.2.1
  have hK := X.2.2.2.2.2.2.2.2.1
  have hA := X.2.2.2.2.2.2.2.2.2.2
  refine lv_aload_n hx hb d35_0 rfl (lv_at hl 0 rfl) ?_
  refine lv_iconst (v := 0) hx hb d35_1 (by decide) ?_
  refine ms_U (C := "MarkupStore$MarkupReader") (x := ⟨"MarkupStore$MarkupReader", "seen", "(I)C"⟩) (owner := "MarkupStore$TextReader") (rest := []) (as := [.int 0]) (wr := []) X hl (c_seen0 l D dA s0 hE h t b z u g) (List.forall_mem_cons.mpr ⟨ms_k384, List.forall_mem_cons.mpr ⟨ms_k385, List.forall_mem_cons.mpr ⟨ms_k387, List.forall_mem_cons.mpr ⟨ms_k388, List.forall_mem_cons.mpr ⟨ms_k14, List.forall_mem_cons.mpr ⟨ms_k389, fun _ h => absurd h List.not_mem_nil⟩⟩⟩⟩⟩⟩) rfl ⟨by decide +kernel, by decide +kernel, (by decide +kernel : (parseMethodDescriptor "(I)C").map (fun d => d.parameters.length) = some 1)⟩ (va_recv hK hP rfl (q0 := 0) rfl) hP hD hS [0, 1, 2] [] rfl rfl ⟨by decide, by decide, by decide⟩ ⟨⟨Nat.le_of_ble_eq_true rfl, Nat.le_of_ble_eq_true rfl⟩, Nat.le_of_ble_eq_true rfl, Nat.le_of_ble_eq_true rfl⟩ rfl (Nat.le_of_ble_eq_true rfl) d35_2 (fun vv ww H locs hR hP hD hS => ?_)
  obtain ⟨rfl, rfl⟩ := hR
  have hP : va_P D vwCl [(h, .inr (6, [.ref t, .int 0, .int (-1), .ref b, .ref z, .int 0])), (t, .inr (5, [.ref u, .int 0, .int 0, .int 0])), (u, .inl (dA 2, 0, .inl g))] H := hP
  have hD : va_D A [(h, .inr (6, [.ref t, .int 0, .int (-1), .ref b, .ref z, .int 0])), (t, .inr (5, [.ref u, .int 0, .int 0, .int 0])), (u, .inl (dA 2, 0, .inl g))] := hD
  refine W.eq (g2 := F0 m 5 ls [.int 0]) rfl ?_
  refine lv_bipush (v := 60) hx hb d35_5 (by decide) ?_
  refine lv_icmp_eq hx hb d35_7 rfl (fun h9 => absurd h9 (by decide)) (fun _ => ?_)
  refine lv_aload_n hx hb d35_10 rfl (lv_at hl 0 rfl) ?_
  refine lv_iconst (v := 0) hx hb d35_11 (by decide) ?_
  refine ms_U (C := "MarkupStore$MarkupReader") (x := ⟨"MarkupStore$MarkupReader", "failAt", "(I)Z"⟩) (owner := "MarkupStore$TextReader") (rest := []) (as := [.int 0]) (wr := [(t, .inr (5, [.ref u, .int 0, .int 0, .int 0])), (u, .inl (dA 2, 0, .inl g))]) X hl (c_failAt l D dA s0 hE h t b z) (List.forall_mem_cons.mpr ⟨ms_k413, List.forall_mem_cons.mpr ⟨ms_k414, List.forall_mem_cons.mpr ⟨ms_k416, List.forall_mem_cons.mpr ⟨ms_k417, List.forall_mem_cons.mpr ⟨ms_k14, List.forall_mem_cons.mpr ⟨ms_k418, fun _ h => absurd h List.not_mem_nil⟩⟩⟩⟩⟩⟩) rfl ⟨by decide +kernel, by decide +kernel, (by decide +kernel : (parseMethodDescriptor "(I)Z").map (fun d => d.parameters.length) = some 1)⟩ (va_recv hK hP rfl (q0 := 0) rfl) hP hD hS [0] [1, 2] rfl rfl ⟨by decide, by decide, by decide⟩ ⟨⟨Nat.le_of_ble_eq_true rfl, Nat.le_of_ble_eq_true rfl⟩, Nat.le_of_ble_eq_true rfl, Nat.le_of_ble_eq_true rfl⟩ rfl (Nat.le_of_ble_eq_true rfl) d35_12 (fun vv ww H locs hR hP hD hS => ?_)
  obtain ⟨rfl, rfl⟩ := hR
  have hP : va_P D vwCl [(t, .inr (5, [.ref u, .int 0, .int 0, .int 0])), (u, .inl (dA 2, 0, .inl g)), (h, .inr (6, [.ref t, .int 0, .int 0, .ref b, .ref z, .int 0]))] H := hP
  have hD : va_D A [(t, .inr (5, [.ref u, .int 0, .int 0, .int 0])), (u, .inl (dA 2, 0, .inl g)), (h, .inr (6, [.ref t, .int 0, .int 0, .ref b, .ref z, .int 0]))] := hD
  refine W.eq (g2 := F0 m 15 ls [.int 0]) rfl ?_
  have hP := hP.sub (ws' := [(h, .inr (6, [.ref t, .int 0, .int 0, .ref b, .ref z, .int 0])), (t, .inr (5, [.ref u, .int 0, .int 0, .int 0])), (u, .inl (dA 2, 0, .inl g))]) [2, 0, 1] rfl
  have hD := hD.sub (ws' := [(h, .inr (6, [.ref t, .int 0, .int 0, .ref b, .ref z, .int 0])), (t, .inr (5, [.ref u, .int 0, .int 0, .int 0])), (u, .inl (dA 2, 0, .inl g))]) [2, 0, 1] (by decide) rfl
  exact ms_zret X d35_15 hP hD hS (Nat.le_of_ble_eq_true rfl) (Nat.le_of_ble_eq_true rfl) (⟨rfl, rfl⟩) (rfl)

set_option maxRecDepth 100000 in
set_option maxHeartbeats 8000000 in
theorem c_SCinit (l : Launch) (D : va_G) (dA : Nat → ClassId) (s0 : State) (hE : ms_EV D dA s0) (d : Nat) (k : Int32) : ms_C l D s0 yM36 bM36 2 (Option.none : Option Jvm.ClassFile.FieldType) 1 12 0 0 [.ref d, .int k] [(d, .inr (7, [.int 0, .int 0, .int 0]))] (fun vv ww => vv = none ∧ ww = [(d, .inr (7, [.int k, .int 0, .int 0]))]) := by
  refine ms_C.mk hE.1 (by decide) (Nat.le_of_ble_eq_true rfl) [(0, .ref d), (1, .int k)] rfl ?_
  intro p e s m below meth c A ls X hin hP hD hS hl
  have hx := X.1
  have hb := X.2.1
  have hml := X.2.2.1
  have hown : s.vm.findClass "MarkupStore$Scribe" = some m.cls := X.2.2.2.1
  have hts := X.2.2.2.2.2.2.1
  have hK := X.2.2.2.2.2.2.2.2.1
  have hA := X.2.2.2.2.2.2.2.2.2.2
  refine lv_aload_n hx hb d36_0 rfl (lv_at hl 0 rfl) ?_
  refine W.objInit hx hb hown (hts _ ms_k1251) (hts _ ms_k37) (hts _ ms_k38) rfl (by rw [hml]; exact hl.1) rfl d36_1 (Nat.le_of_ble_eq_true rfl) (Nat.le_of_ble_eq_true rfl) ?_
  refine W.eq (g2 := F0 m 4 ls []) rfl ?_
  refine lv_aload_n hx hb d36_4 rfl (lv_at hl 0 rfl) ?_
  refine lv_iload_n hx hb d36_5 rfl (lv_at hl 1 rfl) ?_
  refine va_putF (D := D) (ci := 7) (v := .int k) (ty := .int) (C := kR7) (T := kT7) (N := 3) hx hb hts ku7 kt7 kp7 kn7 hown hK hP hD hS 0 rfl rfl 0 (by decide) (hts _ ms_k1252) (fun _ h => h) rfl hin rfl (by decide +kernel) rfl rfl (Nat.le_of_ble_eq_true rfl) d36_6 (fun H locs hP hD hS => ?_)
  have hP : va_P D vwCl [(d, .inr (7, [.int k, .int 0, .int 0]))] H := hP
  have hD : va_D A [(d, .inr (7, [.int k, .int 0, .int 0]))] := hD
  refine lv_aload_n hx hb d36_9 rfl (lv_at hl 0 rfl) ?_
  refine lv_iconst (v := 0) hx hb d36_10 (by decide) ?_
  refine va_put (D := D) (ci := 7) (v := .int 0) (ty := .int) (C := kR7) (T := kT7) (N := 3) hx hb hts ku7 kt7 kp7 kn7 hown hK hP hD hS 0 rfl rfl 1 (by decide) (hts _ ms_k1253) (fun _ h => h) rfl (by decide +kernel) rfl rfl (Nat.le_of_ble_eq_true rfl) d36_11 (fun H locs hP hD hS => ?_)
  have hP : va_P D vwCl [(d, .inr (7, [.int k, .int 0, .int 0]))] H := hP
  have hD : va_D A [(d, .inr (7, [.int k, .int 0, .int 0]))] := hD
  refine lv_aload_n hx hb d36_14 rfl (lv_at hl 0 rfl) ?_
  refine lv_iconst (v := 0) hx hb d36_15 (by decide) ?_
  refine va_put (D := D) (ci := 7) (v := .int 0) (ty := .int) (C := kR7) (T := kT7) (N := 3) hx hb hts ku7 kt7 kp7 kn7 hown hK hP hD hS 0 rfl rfl 2 (by decide) (hts _ ms_k1255) (fun _ h => h) rfl (by decide +kernel) rfl rfl (Nat.le_of_ble_eq_true rfl) d36_16 (fun H locs hP hD hS => ?_)
  have hP : va_P D vwCl [(d, .inr (7, [.int k, .int 0, .int 0]))] H := hP
  have hD : va_D A [(d, .inr (7, [.int k, .int 0, .int 0]))] := hD
  exact ms_vret X d36_19 hP hD hS (Nat.le_of_ble_eq_true rfl) (Nat.le_of_ble_eq_true rfl) (⟨rfl, rfl⟩)

set_option maxRecDepth 100000 in
set_option maxHeartbeats 8000000 in
theorem c_closeUp (l : Launch) (D : va_G) (dA : Nat → ClassId) (s0 : State) (hE : ms_EV D dA s0) (d : Nat) (k : Int32) : ms_C l D s0 yM37 bM37 4 (Option.none : Option Jvm.ClassFile.FieldType) 0 0 0 0 [.ref d, .null, .null] [(d, .inr (7, [.int k, .int 0, .int 0]))] (fun vv ww => vv = none ∧ ww = [(d, .inr (7, [.int k, .int 0, .int 0]))]) := by
  refine ms_C.mk hE.1 (by decide) (Nat.le_of_ble_eq_true rfl) [(0, .ref d), (1, .null), (2, .null)] rfl ?_
  intro p e s m below meth c A ls X hin hP hD hS hl
  have hx := X.1
  have hb := X.2.1
  have hml := X.2.2.1
  have hown : s.vm.findClass "MarkupStore$Scribe" = some m.cls := X.2.2.2.1
  have hts := X.2.2.2.2.2.2.1
  have hK := X.2.2.2.2.2.2.2.2.1
  have hA := X.2.2.2.2.2.2.2.2.2.2
  refine lv_aload_nN hx hb d37_0 rfl (lv_at hl 1 rfl) ?_
  refine lv_astore_nN hx hb d37_1 rfl hl (by decide) rfl (fun ls hl => ?_)
  have hl : lv_has ls 4 [(3, .null), (0, .ref d), (1, .null), (2, .null)] := hl
  refine lv_aload_nN hx hb d37_2 rfl (lv_at hl 0 rfl) ?_
  refine lv_ifnullN hx hb d37_3 rfl ?_
  exact ms_vret X d37_39 hP hD hS (Nat.le_of_ble_eq_true rfl) (Nat.le_of_ble_eq_true rfl) (⟨rfl, rfl⟩)

set_option maxRecDepth 100000 in
set_option maxHeartbeats 8000000 in
theorem c_SCwrite (l : Launch) (D : va_G) (dA : Nat → ClassId) (s0 : State) (hE : ms_EV D dA s0) (d : Nat) (h : Nat) (a1 : Nat) (a2 : Nat) (a3 : Nat) (k : Int32) : ms_C l D s0 yM38 bM38 6 (Option.none : Option Jvm.ClassFile.FieldType) 1 23 0 0 [.ref d, .ref h] [(d, .inr (7, [.int k, .int 0, .int 0])), (h, .inr (1, [.ref a1, .int 0, .ref a2, .int 0, .ref a3, .int 0]))] (fun vv ww => vv = none ∧ ww = [(d, .inr (7, [.int k, .int 0, .int 0])), (h, .inr (1, [.ref a1, .int 0, .ref a2, .int 0, .ref a3, .int 0]))]) := by
  refine ms_C.mk hE.1 (by decide) (Nat.le_of_ble_eq_true rfl) [(0, .ref d), (1, .ref h)] rfl ?_
  intro p e s m below meth c A ls X hin hP hD hS hl
  have hx := X.1
  have hb := X.2.1
  have hml := X.2.2.1
  have hown : s.vm.findClass "MarkupStore$Scribe" = some m.cls := X.2.2.2.1
  have hts := X.2.2.2.2.2.2.1
  have hK := X.2.2.2.2.2.2.2.2.1
  have hA := X.2.2.2.2.2.2.2.2.2.2
  refine lv_null hx hb d38_0 ?_
  refine lv_astore_nN hx hb d38_1 rfl hl (by decide) rfl (fun ls hl => ?_)
  have hl : lv_has ls 6 [(2, .null), (0, .ref d), (1, .ref h)] := hl
  refine lv_iconst (v := 0) hx hb d38_2 (by decide) ?_
  refine lv_istore_n hx hb d38_3 rfl hl (by decide) rfl (fun ls hl => ?_)
  have hl : lv_has ls 6 [(3, .int 0), (2, .null), (0, .ref d), (1, .ref h)] := hl
  refine lv_iload_n hx hb d38_4 rfl (lv_at hl 0 rfl) ?_
  refine lv_aload_n hx hb d38_5 rfl (lv_at hl 3 rfl) ?_
  refine va_get (D := D) (ci := 1) (v := .int 0) (C := kR1) (T := kT1) (N := 6) hx hb hts ku1 hown hK hP 1 rfl rfl 3 (by decide) (hts _ ms_k86) (fun _ h => h) rfl d38_6 ?_
  refine lv_icmp_ge hx hb d38_9 rfl (fun _ => ?_) (fun h9 => absurd (by decide) h9)
  refine lv_aload_n hx hb d38_139 rfl (lv_at hl 2 rfl) ?_
  refine lv_aload_nN hx hb d38_140 rfl (lv_at hl 1 rfl) ?_
  refine lv_null hx hb d38_141 ?_
  refine ms_V (C := "MarkupStore$Scribe") (rest := []) (as := [.null, .null]) (wr := [(h, .inr (1, [.ref a1, .int 0, .ref a2, .int 0, .ref a3, .int 0]))]) X hl (c_closeUp l D dA s0 hE d k) (List.forall_mem_cons.mpr ⟨ms_k1268, List.forall_mem_cons.mpr ⟨ms_k1270, List.forall_mem_cons.mpr ⟨ms_p39, List.forall_mem_cons.mpr ⟨ms_k30, List.forall_mem_cons.mpr ⟨ms_k1271, fun _ h => absurd h List.not_mem_nil⟩⟩⟩⟩⟩) ⟨rfl, by decide +kernel, by decide +kernel, (by decide +kernel : (parseMethodDescriptor "(LMarkupStore$Node;LMarkupStore$Node;)V").map (fun d => d.parameters.length) = some 2)⟩ (va_recv hK hP rfl (q0 := 0) rfl) hP hD hS [0] [1] rfl rfl ⟨by decide, by decide, by decide⟩ ⟨⟨Nat.le_of_ble_eq_true rfl, Nat.le_of_ble_eq_true rfl⟩, Nat.le_of_ble_eq_true rfl, Nat.le_of_ble_eq_true rfl⟩ rfl (Nat.le_of_ble_eq_true rfl) d38_142 (fun vv ww H locs hR hP hD hS => ?_)
  obtain ⟨rfl, rfl⟩ := hR
  have hP : va_P D vwCl [(h, .inr (1, [.ref a1, .int 0, .ref a2, .int 0, .ref a3, .int 0])), (d, .inr (7, [.int k, .int 0, .int 0]))] H := hP
  have hD : va_D A [(h, .inr (1, [.ref a1, .int 0, .ref a2, .int 0, .ref a3, .int 0])), (d, .inr (7, [.int k, .int 0, .int 0]))] := hD
  refine W.eq (g2 := F0 m 145 ls []) rfl ?_
  have hP := hP.sub (ws' := [(d, .inr (7, [.int k, .int 0, .int 0])), (h, .inr (1, [.ref a1, .int 0, .ref a2, .int 0, .ref a3, .int 0]))]) [1, 0] rfl
  have hD := hD.sub (ws' := [(d, .inr (7, [.int k, .int 0, .int 0])), (h, .inr (1, [.ref a1, .int 0, .ref a2, .int 0, .ref a3, .int 0]))]) [1, 0] (by decide) rfl
  exact ms_vret X d38_145 hP hD hS (Nat.le_of_ble_eq_true rfl) (Nat.le_of_ble_eq_true rfl) (⟨rfl, rfl⟩)

set_option maxRecDepth 100000 in
set_option maxHeartbeats 8000000 in
theorem c_MSinit (l : Launch) (D : va_G) (dA : Nat → ClassId) (s0 : State) (hE : ms_EV D dA s0) (h : Nat) : ms_C l D s0 yM39 bM39 1 (Option.none : Option Jvm.ClassFile.FieldType) 3 53 9 366 [.ref h] [(h, .inr (0, [.null, .null, .null, .null, .int 0, .int 0]))] (fun vv ww => ∃ (r : Nat → Nat), vv = none ∧ ww = [(h, .inr (0, [.ref (r 0), .ref (r 2), .ref (r 4), .ref (r 8), .int 0, .int 0])), ((r 0), .inr (3, [.ref (r 1), .int 0, .int 0, .int 0])), ((r 1), .inl (dA 2, 16, .inl (fun _ => 0))), ((r 2), .inr (3, [.ref (r 3), .int 0, .int 0, .int 0])), ((r 3), .inl (dA 2, 16, .inl (fun _ => 0))), ((r 4), .inr (1, [.ref (r 5), .int 0, .ref (r 6), .int 0, .ref (r 7), .int 0])), ((r 5), .inl (dA 5, 200, .inr (.inr (.inr (.inr (fun _ => none)))))), ((r 6), .inl (dA 5, 40, .inr (.inr (.inr (.inr (fun _ => none)))))), ((r 7), .inl (dA 5, 40, .inr (.inr (.inr (.inr (fun _ => none)))))), ((r 8), .inl (dA 0, 40, .inl (fun _ => 0)))]) := by
  refine ms_C.mk hE.1 (by decide) (Nat.le_of_ble_eq_true rfl) [(0, .ref h)] rfl ?_
  intro p e s m below meth c A ls X hin hP hD hS hl
  have hx := X.1
  have hb := X.2.1
  have hml := X.2.2.1
  have hown : s.vm.findClass "MarkupStore" = some m.cls := X.2.2.2.1
  have hts := X.2.2.2.2.2.2.1
  have hK := X.2.2.2.2.2.2.2.2.1
  have hA := X.2.2.2.2.2.2.2.2.2.2
  refine lv_aload_n hx hb d39_0 rfl (lv_at hl 0 rfl) ?_
  refine W.objInit hx hb hown (hts _ ms_k36) (hts _ ms_k37) (hts _ ms_k38) rfl (by rw [hml]; exact hl.1) rfl d39_1 (Nat.le_of_ble_eq_true rfl) (Nat.le_of_ble_eq_true rfl) ?_
  refine W.eq (g2 := F0 m 4 ls []) rfl ?_
  refine lv_aload_n hx hb d39_4 rfl (lv_at hl 0 rfl) ?_
  refine va_new (ci := 3) (fs := [.null, .int 0, .int 0, .int 0]) (C := kR3) (T := kT3) (N := 4) hx hb hts ku3 kt3 kp3 hown (hts _ ms_k39) (hts _ ms_k40) (hts _ ms_k3) hK hP hD hS hA rfl kz3 (Nat.le_of_ble_eq_true rfl) (Nat.le_of_ble_eq_true rfl) d39_5 (fun q1 H hP hD hS => ?_)
  have hP : va_P D vwCl [(h, .inr (0, [.null, .null, .null, .null, .int 0, .int 0])), (q1, .inr (3, [.null, .int 0, .int 0, .int 0]))] H := hP
  have hD : va_D A [(h, .inr (0, [.null, .null, .null, .null, .int 0, .int 0])), (q1, .inr (3, [.null, .int 0, .int 0, .int 0]))] := hD
  refine lv_dup hx hb d39_8 rfl ?_
  refine ms_I (rest := [.ref q1, .ref h]) (as := []) (wr := [(h, .inr (0, [.null, .null, .null, .null, .int 0, .int 0]))]) X hl (c_SBinit l D dA s0 hE q1) (List.forall_mem_cons.mpr ⟨ms_k41, List.forall_mem_cons.mpr ⟨ms_k42, List.forall_mem_cons.mpr ⟨ms_k3, List.forall_mem_cons.mpr ⟨ms_k43, fun _ h => absurd h List.not_mem_nil⟩⟩⟩⟩) rfl ⟨by decide +kernel, by decide +kernel, (by decide +kernel : (parseMethodDescriptor "()V").map (fun d => d.parameters.length) = some 0)⟩ hP hD hS [1] [0] rfl rfl ⟨by decide, by decide, by decide⟩ ⟨⟨Nat.le_of_ble_eq_true rfl, Nat.le_of_ble_eq_true rfl⟩, Nat.le_of_ble_eq_true rfl, Nat.le_of_ble_eq_true rfl⟩ rfl (Nat.le_of_ble_eq_true rfl) d39_9 (fun vv ww H locs hR hP hD hS => ?_)
  obtain ⟨v_2, rfl, rfl⟩ := hR
  have hP : va_P D vwCl [(h, .inr (0, [.null, .null, .null, .null, .int 0, .int 0])), (q1, .inr (3, [.ref v_2, .int 0, .int 0, .int 0])), (v_2, .inl (dA 2, 16, .inl (fun _ => 0)))] H := hP
  have hD : va_D A [(h, .inr (0, [.null, .null, .null, .null, .int 0, .int 0])), (q1, .inr (3, [.ref v_2, .int 0, .int 0, .int 0])), (v_2, .inl (dA 2, 16, .inl (fun _ => 0)))] := hD
  refine W.eq (g2 := F0 m 12 ls [.ref q1, .ref h]) rfl ?_
  refine va_putF (D := D) (ci := 0) (v := .ref q1) (ty := (.object "java/lang/StringBuilder")) (C := kR0) (T := kT0) (N := 6) hx hb hts ku0 kt0 kp0 kn0 hown hK hP hD hS 0 rfl rfl 0 (by decide) (hts _ ms_k105) (fun _ h => h) rfl hin rfl (by decide +kernel) rfl rfl (Nat.le_of_ble_eq_true rfl) d39_12 (fun H locs hP hD hS => ?_)
  have hP : va_P D vwCl [(h, .inr (0, [.ref q1, .null, .null, .null, .int 0, .int 0])), (q1, .inr (3, [.ref v_2, .int 0, .int 0, .int 0])), (v_2, .inl (dA 2, 16, .inl (fun _ => 0)))] H := hP
  have hD : va_D A [(h, .inr (0, [.ref q1, .null, .null, .null, .int 0, .int 0])), (q1, .inr (3, [.ref v_2, .int 0, .int 0, .int 0])), (v_2, .inl (dA 2, 16, .inl (fun _ => 0)))] := hD
  refine lv_aload_n hx hb d39_15 rfl (lv_at hl 0 rfl) ?_
  refine va_new (ci := 3) (fs := [.null, .int 0, .int 0, .int 0]) (C := kR3) (T := kT3) (N := 4) hx hb hts ku3 kt3 kp3 hown (hts _ ms_k39) (hts _ ms_k40) (hts _ ms_k3) hK hP hD hS hA rfl kz3 (Nat.le_of_ble_eq_true rfl) (Nat.le_of_ble_eq_true rfl) d39_16 (fun q3 H hP hD hS => ?_)
  have hP : va_P D vwCl [(h, .inr (0, [.ref q1, .null, .null, .null, .int 0, .int 0])), (q1, .inr (3, [.ref v_2, .int 0, .int 0, .int 0])), (v_2, .inl (dA 2, 16, .inl (fun _ => 0))), (q3, .inr (3, [.null, .int 0, .int 0, .int 0]))] H := hP
  have hD : va_D A [(h, .inr (0, [.ref q1, .null, .null, .null, .int 0, .int 0])), (q1, .inr (3, [.ref v_2, .int 0, .int 0, .int 0])), (v_2, .inl (dA 2, 16, .inl (fun _ => 0))), (q3, .inr (3, [.null, .int 0, .int 0, .int 0]))] := hD
  refine lv_dup hx hb d39_19 rfl ?_
  refine ms_I (rest := [.ref q3, .ref h]) (as := []) (wr := [(h, .inr (0, [.ref q1, .null, .null, .null, .int 0, .int 0])), (q1, .inr (3, [.ref v_2, .int 0, .int 0, .int 0])), (v_2, .inl (dA 2, 16, .inl (fun _ => 0)))]) X hl (c_SBinit l D dA s0 hE q3) (List.forall_mem_cons.mpr ⟨ms_k41, List.forall_mem_cons.mpr ⟨ms_k42, List.forall_mem_cons.mpr ⟨ms_k3, List.forall_mem_cons.mpr ⟨ms_k43, fun _ h => absurd h List.not_mem_nil⟩⟩⟩⟩) rfl ⟨by decide +kernel, by decide +kernel, (by decide +kernel : (parseMethodDescriptor "()V").map (fun d => d.parameters.length) = some 0)⟩ hP hD hS [3] [0, 1, 2] rfl rfl ⟨by decide, by decide, by decide⟩ ⟨⟨Nat.le_of_ble_eq_true rfl, Nat.le_of_ble_eq_true rfl⟩, Nat.le_of_ble_eq_true rfl, Nat.le_of_ble_eq_true rfl⟩ rfl (Nat.le_of_ble_eq_true rfl) d39_20 (fun vv ww H locs hR hP hD hS => ?_)
  obtain ⟨v_4, rfl, rfl⟩ := hR
  have hP : va_P D vwCl [(h, .inr (0, [.ref q1, .null, .null, .null, .int 0, .int 0])), (q1, .inr (3, [.ref v_2, .int 0, .int 0, .int 0])), (v_2, .inl (dA 2, 16, .inl (fun _ => 0))), (q3, .inr (3, [.ref v_4, .int 0, .int 0, .int 0])), (v_4, .inl (dA 2, 16, .inl (fun _ => 0)))] H := hP
  have hD : va_D A [(h, .inr (0, [.ref q1, .null, .null, .null, .int 0, .int 0])), (q1, .inr (3, [.ref v_2, .int 0, .int 0, .int 0])), (v_2, .inl (dA 2, 16, .inl (fun _ => 0))), (q3, .inr (3, [.ref v_4, .int 0, .int 0, .int 0])), (v_4, .inl (dA 2, 16, .inl (fun _ => 0)))] := hD
  refine W.eq (g2 := F0 m 23 ls [.ref q3, .ref h]) rfl ?_
  refine va_putF (D := D) (ci := 0) (v := .ref q3) (ty := (.object "java/lang/StringBuilder")) (C := kR0) (T := kT0) (N := 6) hx hb hts ku0 kt0 kp0 kn0 hown hK hP hD hS 0 rfl rfl 1 (by decide) (hts _ ms_k106) (fun _ h => h) rfl hin rfl (by decide +kernel) rfl rfl (Nat.le_of_ble_eq_true rfl) d39_23 (fun H locs hP hD hS => ?_)
  have hP : va_P D vwCl [(h, .inr (0, [.ref q1, .ref q3, .null, .null, .int 0, .int 0])), (q1, .inr (3, [.ref v_2, .int 0, .int 0, .int 0])), (v_2, .inl (dA 2, 16, .inl (fun _ => 0))), (q3, .inr (3, [.ref v_4, .int 0, .int 0, .int 0])), (v_4, .inl (dA 2, 16, .inl (fun _ => 0)))] H := hP
  have hD : va_D A [(h, .inr (0, [.ref q1, .ref q3, .null, .null, .int 0, .int 0])), (q1, .inr (3, [.ref v_2, .int 0, .int 0, .int 0])), (v_2, .inl (dA 2, 16, .inl (fun _ => 0))), (q3, .inr (3, [.ref v_4, .int 0, .int 0, .int 0])), (v_4, .inl (dA 2, 16, .inl (fun _ => 0)))] := hD
  refine lv_aload_n hx hb d39_26 rfl (lv_at hl 0 rfl) ?_
  refine va_new (ci := 1) (fs := [.null, .int 0, .null, .int 0, .null, .int 0]) (C := kR1) (T := kT1) (N := 6) hx hb hts ku1 kt1 kp1 hown (hts _ ms_k72) (hts _ ms_k73) (hts _ ms_k6) hK hP hD hS hA rfl kz1 (Nat.le_of_ble_eq_true rfl) (Nat.le_of_ble_eq_true rfl) d39_27 (fun q5 H hP hD hS => ?_)
  have hP : va_P D vwCl [(h, .inr (0, [.ref q1, .ref q3, .null, .null, .int 0, .int 0])), (q1, .inr (3, [.ref v_2, .int 0, .int 0, .int 0])), (v_2, .inl (dA 2, 16, .inl (fun _ => 0))), (q3, .inr (3, [.ref v_4, .int 0, .int 0, .int 0])), (v_4, .inl (dA 2, 16, .inl (fun _ => 0))), (q5, .inr (1, [.null, .int 0, .null, .int 0, .null, .int 0]))] H := hP
  have hD : va_D A [(h, .inr (0, [.ref q1, .ref q3, .null, .null, .int 0, .int 0])), (q1, .inr (3, [.ref v_2, .int 0, .int 0, .int 0])), (v_2, .inl (dA 2, 16, .inl (fun _ => 0))), (q3, .inr (3, [.ref v_4, .int 0, .int 0, .int 0])), (v_4, .inl (dA 2, 16, .inl (fun _ => 0))), (q5, .inr (1, [.null, .int 0, .null, .int 0, .null, .int 0]))] := hD
  refine lv_dup hx hb d39_30 rfl ?_
  refine ms_I (rest := [.ref q5, .ref h]) (as := []) (wr := [(h, .inr (0, [.ref q1, .ref q3, .null, .null, .int 0, .int 0])), (q1, .inr (3, [.ref v_2, .int 0, .int 0, .int 0])), (v_2, .inl (dA 2, 16, .inl (fun _ => 0))), (q3, .inr (3, [.ref v_4, .int 0, .int 0, .int 0])), (v_4, .inl (dA 2, 16, .inl (fun _ => 0)))]) X hl (c_Tinit l D dA s0 hE q5) (List.forall_mem_cons.mpr ⟨ms_k74, List.forall_mem_cons.mpr ⟨ms_k75, List.forall_mem_cons.mpr ⟨ms_k6, List.forall_mem_cons.mpr ⟨ms_k76, fun _ h => absurd h List.not_mem_nil⟩⟩⟩⟩) rfl ⟨by decide +kernel, by decide +kernel, (by decide +kernel : (parseMethodDescriptor "()V").map (fun d => d.parameters.length) = some 0)⟩ hP hD hS [5] [0, 1, 2, 3, 4] rfl rfl ⟨by decide, by decide, by decide⟩ ⟨⟨Nat.le_of_ble_eq_true rfl, Nat.le_of_ble_eq_true rfl⟩, Nat.le_of_ble_eq_true rfl, Nat.le_of_ble_eq_true rfl⟩ rfl (Nat.le_of_ble_eq_true rfl) d39_31 (fun vv ww H locs hR hP hD hS => ?_)
  obtain ⟨a1_6, a2_7, a3_8, rfl, rfl⟩ := hR
  have hP : va_P D vwCl [(h, .inr (0, [.ref q1, .ref q3, .null, .null, .int 0, .int 0])), (q1, .inr (3, [.ref v_2, .int 0, .int 0, .int 0])), (v_2, .inl (dA 2, 16, .inl (fun _ => 0))), (q3, .inr (3, [.ref v_4, .int 0, .int 0, .int 0])), (v_4, .inl (dA 2, 16, .inl (fun _ => 0))), (q5, .inr (1, [.ref a1_6, .int 0, .ref a2_7, .int 0, .ref a3_8, .int 0])), (a1_6, .inl (dA 5, 200, .inr (.inr (.inr (.inr (fun _ => none)))))), (a2_7, .inl (dA 5, 40, .inr (.inr (.inr (.inr (fun _ => none)))))), (a3_8, .inl (dA 5, 40, .inr (.inr (.inr (.inr (fun _ => none))))))] H := hP
  have hD : va_D A [(h, .inr (0, [.ref q1, .ref q3, .null, .null, .int 0, .int 0])), (q1, .inr (3, [.ref v_2, .int 0, .int 0, .int 0])), (v_2, .inl (dA 2, 16, .inl (fun _ => 0))), (q3, .inr (3, [.ref v_4, .int 0, .int 0, .int 0])), (v_4, .inl (dA 2, 16, .inl (fun _ => 0))), (q5, .inr (1, [.ref a1_6, .int 0, .ref a2_7, .int 0, .ref a3_8, .int 0])), (a1_6, .inl (dA 5, 200, .inr (.inr (.inr (.inr (fun _ => none)))))), (a2_7, .inl (dA 5, 40, .inr (.inr (.inr (.inr (fun _ => none)))))), (a3_8, .inl (dA 5, 40, .inr (.inr (.inr (.inr (fun _ => none))))))] := hD
  refine W.eq (g2 := F0 m 34 ls [.ref q5, .ref h]) rfl ?_
  refine va_putF (D := D) (ci := 0) (v := .ref q5) (ty := (.object "MarkupStore$Tree")) (C := kR0) (T := kT0) (N := 6) hx hb hts ku0 kt0 kp0 kn0 hown hK hP hD hS 0 rfl rfl 2 (by decide) (hts _ ms_k107) (fun _ h => h) rfl hin rfl (by decide +kernel) rfl rfl (Nat.le_of_ble_eq_true rfl) d39_34 (fun H locs hP hD hS => ?_)
  have hP : va_P D vwCl [(h, .inr (0, [.ref q1, .ref q3, .ref q5, .null, .int 0, .int 0])), (q1, .inr (3, [.ref v_2, .int 0, .int 0, .int 0])), (v_2, .inl (dA 2, 16, .inl (fun _ => 0))), (q3, .inr (3, [.ref v_4, .int 0, .int 0, .int 0])), (v_4, .inl (dA 2, 16, .inl (fun _ => 0))), (q5, .inr (1, [.ref a1_6, .int 0, .ref a2_7, .int 0, .ref a3_8, .int 0])), (a1_6, .inl (dA 5, 200, .inr (.inr (.inr (.inr (fun _ => none)))))), (a2_7, .inl (dA 5, 40, .inr (.inr (.inr (.inr (fun _ => none)))))), (a3_8, .inl (dA 5, 40, .inr (.inr (.inr (.inr (fun _ => none))))))] H := hP
  have hD : va_D A [(h, .inr (0, [.ref q1, .ref q3, .ref q5, .null, .int 0, .int 0])), (q1, .inr (3, [.ref v_2, .int 0, .int 0, .int 0])), (v_2, .inl (dA 2, 16, .inl (fun _ => 0))), (q3, .inr (3, [.ref v_4, .int 0, .int 0, .int 0])), (v_4, .inl (dA 2, 16, .inl (fun _ => 0))), (q5, .inr (1, [.ref a1_6, .int 0, .ref a2_7, .int 0, .ref a3_8, .int 0])), (a1_6, .inl (dA 5, 200, .inr (.inr (.inr (.inr (fun _ => none)))))), (a2_7, .inl (dA 5, 40, .inr (.inr (.inr (.inr (fun _ => none)))))), (a3_8, .inl (dA 5, 40, .inr (.inr (.inr (.inr (fun _ => none))))))] := hD
  refine lv_aload_n hx hb d39_37 rfl (lv_at hl 0 rfl) ?_
  refine lv_bipush (v := 40) hx hb d39_38 (by decide) ?_
  refine ms_newa (atype := .int) (ty := .int) (a0 := (40, .inl (fun _ => 0))) X ms_k124 rfl 0 rfl (fun _ h => h) hP hD hS (fun _ => rfl) (by decide) (by decide) (by decide) (Nat.le_of_ble_eq_true rfl) (Nat.le_of_ble_eq_true rfl) d39_40 (fun q9 H hP hD hS => ?_)
  have hP : va_P D vwCl [(h, .inr (0, [.ref q1, .ref q3, .ref q5, .null, .int 0, .int 0])), (q1, .inr (3, [.ref v_2, .int 0, .int 0, .int 0])), (v_2, .inl (dA 2, 16, .inl (fun _ => 0))), (q3, .inr (3, [.ref v_4, .int 0, .int 0, .int 0])), (v_4, .inl (dA 2, 16, .inl (fun _ => 0))), (q5, .inr (1, [.ref a1_6, .int 0, .ref a2_7, .int 0, .ref a3_8, .int 0])), (a1_6, .inl (dA 5, 200, .inr (.inr (.inr (.inr (fun _ => none)))))), (a2_7, .inl (dA 5, 40, .inr (.inr (.inr (.inr (fun _ => none)))))), (a3_8, .inl (dA 5, 40, .inr (.inr (.inr (.inr (fun _ => none)))))), (q9, .inl (dA 0, 40, .inl (fun _ => 0)))] H := hP
  have hD : va_D A [(h, .inr (0, [.ref q1, .ref q3, .ref q5, .null, .int 0, .int 0])), (q1, .inr (3, [.ref v_2, .int 0, .int 0, .int 0])), (v_2, .inl (dA 2, 16, .inl (fun _ => 0))), (q3, .inr (3, [.ref v_4, .int 0, .int 0, .int 0])), (v_4, .inl (dA 2, 16, .inl (fun _ => 0))), (q5, .inr (1, [.ref a1_6, .int 0, .ref a2_7, .int 0, .ref a3_8, .int 0])), (a1_6, .inl (dA 5, 200, .inr (.inr (.inr (.inr (fun _ => none)))))), (a2_7, .inl (dA 5, 40, .inr (.inr (.inr (.inr (fun _ => none)))))), (a3_8, .inl (dA 5, 40, .inr (.inr (.inr (.inr (fun _ => none)))))), (q9, .inl (dA 0, 40, .inl (fun _ => 0)))] := hD
  refine va_putF (D := D) (ci := 0) (v := .ref q9) (ty := (.array .int)) (C := kR0) (T := kT0) (N := 6) hx hb hts ku0 kt0 kp0 kn0 hown hK hP hD hS 0 rfl rfl 3 (by decide) (hts _ ms_k108) (fun _ h => h) rfl hin rfl (by decide +kernel) rfl rfl (Nat.le_of_ble_eq_true rfl) d39_42 (fun H locs hP hD hS => ?_)
  have hP : va_P D vwCl [(h, .inr (0, [.ref q1, .ref q3, .ref q5, .ref q9, .int 0, .int 0])), (q1, .inr (3, [.ref v_2, .int 0, .int 0, .int 0])), (v_2, .inl (dA 2, 16, .inl (fun _ => 0))), (q3, .inr (3, [.ref v_4, .int 0, .int 0, .int 0])), (v_4, .inl (dA 2, 16, .inl (fun _ => 0))), (q5, .inr (1, [.ref a1_6, .int 0, .ref a2_7, .int 0, .ref a3_8, .int 0])), (a1_6, .inl (dA 5, 200, .inr (.inr (.inr (.inr (fun _ => none)))))), (a2_7, .inl (dA 5, 40, .inr (.inr (.inr (.inr (fun _ => none)))))), (a3_8, .inl (dA 5, 40, .inr (.inr (.inr (.inr (fun _ => none)))))), (q9, .inl (dA 0, 40, .inl (fun _ => 0)))] H := hP
  have hD : va_D A [(h, .inr (0, [.ref q1, .ref q3, .ref q5, .ref q9, .int 0, .int 0])), (q1, .inr (3, [.ref v_2, .int 0, .int 0, .int 0])), (v_2, .inl (dA 2, 16, .inl (fun _ => 0))), (q3, .inr (3, [.ref v_4, .int 0, .int 0, .int 0])), (v_4, .inl (dA 2, 16, .inl (fun _ => 0))), (q5, .inr (1, [.ref a1_6, .int 0, .ref a2_7, .int 0, .ref a3_8, .int 0])), (a1_6, .inl (dA 5, 200, .inr (.inr (.inr (.inr (fun _ => none)))))), (a2_7, .inl (dA 5, 40, .inr (.inr (.inr (.inr (fun _ => none)))))), (a3_8, .inl (dA 5, 40, .inr (.inr (.inr (.inr (fun _ => none)))))), (q9, .inl (dA 0, 40, .inl (fun _ => 0)))] := hD
  refine lv_aload_n hx hb d39_45 rfl (lv_at hl 0 rfl) ?_
  refine lv_iconst (v := 0) hx hb d39_46 (by decide) ?_
  refine va_put (D := D) (ci := 0) (v := .int 0) (ty := .int) (C := kR0) (T := kT0) (N := 6) hx hb hts ku0 kt0 kp0 kn0 hown hK hP hD hS 0 rfl rfl 4 (by decide) (hts _ ms_k109) (fun _ h => h) rfl (by decide +kernel) rfl rfl (Nat.le_of_ble_eq_true rfl) d39_47 (fun H locs hP hD hS => ?_)
  have hP : va_P D vwCl [(h, .inr (0, [.ref q1, .ref q3, .ref q5, .ref q9, .int 0, .int 0])), (q1, .inr (3, [.ref v_2, .int 0, .int 0, .int 0])), (v_2, .inl (dA 2, 16, .inl (fun _ => 0))), (q3, .inr (3, [.ref v_4, .int 0, .int 0, .int 0])), (v_4, .inl (dA 2, 16, .inl (fun _ => 0))), (q5, .inr (1, [.ref a1_6, .int 0, .ref a2_7, .int 0, .ref a3_8, .int 0])), (a1_6, .inl (dA 5, 200, .inr (.inr (.inr (.inr (fun _ => none)))))), (a2_7, .inl (dA 5, 40, .inr (.inr (.inr (.inr (fun _ => none)))))), (a3_8, .inl (dA 5, 40, .inr (.inr (.inr (.inr (fun _ => none)))))), (q9, .inl (dA 0, 40, .inl (fun _ => 0)))] H := hP
  have hD : va_D A [(h, .inr (0, [.ref q1, .ref q3, .ref q5, .ref q9, .int 0, .int 0])), (q1, .inr (3, [.ref v_2, .int 0, .int 0, .int 0])), (v_2, .inl (dA 2, 16, .inl (fun _ => 0))), (q3, .inr (3, [.ref v_4, .int 0, .int 0, .int 0])), (v_4, .inl (dA 2, 16, .inl (fun _ => 0))), (q5, .inr (1, [.ref a1_6, .int 0, .ref a2_7, .int 0, .ref a3_8, .int 0])), (a1_6, .inl (dA 5, 200, .inr (.inr (.inr (.inr (fun _ => none)))))), (a2_7, .inl (dA 5, 40, .inr (.inr (.inr (.inr (fun _ => none)))))), (a3_8, .inl (dA 5, 40, .inr (.inr (.inr (.inr (fun _ => none)))))), (q9, .inl (dA 0, 40, .inl (fun _ => 0)))] := hD
  refine lv_aload_n hx hb d39_50 rfl (lv_at hl 0 rfl) ?_
  refine lv_iconst (v := 0) hx hb d39_51 (by decide) ?_
  refine va_put (D := D) (ci := 0) (v := .int 0) (ty := .int) (C := kR0) (T := kT0) (N := 6) hx hb hts ku0 kt0 kp0 kn0 hown hK hP hD hS 0 rfl rfl 5 (by decide) (hts _ ms_k110) (fun _ h => h) rfl (by decide +kernel) rfl rfl (Nat.le_of_ble_eq_true rfl) d39_52 (fun H locs hP hD hS => ?_)
  have hP : va_P D vwCl [(h, .inr (0, [.ref q1, .ref q3, .ref q5, .ref q9, .int 0, .int 0])), (q1, .inr (3, [.ref v_2, .int 0, .int 0, .int 0])), (v_2, .inl (dA 2, 16, .inl (fun _ => 0))), (q3, .inr (3, [.ref v_4, .int 0, .int 0, .int 0])), (v_4, .inl (dA 2, 16, .inl (fun _ => 0))), (q5, .inr (1, [.ref a1_6, .int 0, .ref a2_7, .int 0, .ref a3_8, .int 0])), (a1_6, .inl (dA 5, 200, .inr (.inr (.inr (.inr (fun _ => none)))))), (a2_7, .inl (dA 5, 40, .inr (.inr (.inr (.inr (fun _ => none)))))), (a3_8, .inl (dA 5, 40, .inr (.inr (.inr (.inr (fun _ => none)))))), (q9, .inl (dA 0, 40, .inl (fun _ => 0)))] H := hP
  have hD : va_D A [(h, .inr (0, [.ref q1, .ref q3, .ref q5, .ref q9, .int 0, .int 0])), (q1, .inr (3, [.ref v_2, .int 0, .int 0, .int 0])), (v_2, .inl (dA 2, 16, .inl (fun _ => 0))), (q3, .inr (3, [.ref v_4, .int 0, .int 0, .int 0])), (v_4, .inl (dA 2, 16, .inl (fun _ => 0))), (q5, .inr (1, [.ref a1_6, .int 0, .ref a2_7, .int 0, .ref a3_8, .int 0])), (a1_6, .inl (dA 5, 200, .inr (.inr (.inr (.inr (fun _ => none)))))), (a2_7, .inl (dA 5, 40, .inr (.inr (.inr (.inr (fun _ => none)))))), (a3_8, .inl (dA 5, 40, .inr (.inr (.inr (.inr (fun _ => none)))))), (q9, .inl (dA 0, 40, .inl (fun _ => 0)))] := hD
  exact ms_vret X d39_55 hP hD hS (Nat.le_of_ble_eq_true rfl) (Nat.le_of_ble_eq_true rfl) (⟨(fun k => ([q1, v_2, q3, v_4, q5, a1_6, a2_7, a3_8, q9] : List Nat).getD k 0), rfl, rfl⟩)

set_option maxRecDepth 100000 in
set_option maxHeartbeats 8000000 in
theorem c_useBuf (l : Launch) (D : va_G) (dA : Nat → ClassId) (s0 : State) (hE : ms_EV D dA s0) (h : Nat) (r : Nat → Nat) : ms_C l D s0 yM40 bM40 2 (Option.some (Jvm.ClassFile.FieldType.object "java/lang/String")) 6 211 2 4 [.ref h] [(h, .inr (0, [.ref (r 0), .ref (r 2), .ref (r 4), .ref (r 8), .int 0, .int 0])), ((r 0), .inr (3, [.ref (r 1), .int 0, .int 0, .int 0])), ((r 1), .inl (dA 2, 16, .inl (fun _ => 0)))] (fun vv ww => ∃ (t : Nat) (u : Nat) (g : Nat → Int32), vv = some (.ref t) ∧ ww = [(h, .inr (0, [.ref (r 0), .ref (r 2), .ref (r 4), .ref (r 8), .int 0, .int 0])), ((r 0), .inr (3, [.ref (r 1), .int 0, .int 0, .int 0])), ((r 1), .inl (dA 2, 16, .inl (fun _ => 0))), (t, .inr (5, [.ref u, .int 0, .int 0, .int 0])), (u, .inl (dA 2, 0, .inl g))]) := by
  refine ms_C.mk hE.1 (by decide) (Nat.le_of_ble_eq_true rfl) [(0, .ref h)] rfl ?_
  intro p e s m below meth c A ls X hin hP hD hS hl
  have hx := X.1
  have hb := X.2.1
  have hml := X.2.2.1
  have hown : s.vm.findClass "MarkupStore" = some m.cls := X.2.2.2.1
  have hts := X.2.2.2.2.2.2.1
  have hK := X.2.2.2.2.2.2.2.2.1
  have hA := X.2.2.2.2.2.2.2.2.2.2
  refine lv_aload_n hx hb d40_0 rfl (lv_at hl 0 rfl) ?_
  refine va_get (D := D) (ci := 0) (v := .ref (r 0)) (C := kR0) (T := kT0) (N := 6) hx hb hts ku0 hown hK hP 0 rfl rfl 0 (by decide) (hts _ ms_k105) (fun _ h => h) rfl d40_1 ?_
  refine ms_V (C := "java/lang/StringBuilder") (rest := []) (as := []) (wr := [(h, .inr (0, [.ref (r 0), .ref (r 2), .ref (r 4), .ref (r 8), .int 0, .int 0]))]) X hl (c_toStr l D dA s0 hE (r 0) (r 1) (fun _ => 0)) (List.forall_mem_cons.mpr ⟨ms_k241, List.forall_mem_cons.mpr ⟨ms_k242, List.forall_mem_cons.mpr ⟨ms_k243, List.forall_mem_cons.mpr ⟨ms_k3, List.forall_mem_cons.mpr ⟨ms_k244, fun _ h => absurd h List.not_mem_nil⟩⟩⟩⟩⟩) ⟨rfl, by decide +kernel, by decide +kernel, (by decide +kernel : (parseMethodDescriptor "()Ljava/lang/String;").map (fun d => d.parameters.length) = some 0)⟩ (va_recv hK hP rfl (q0 := 1) rfl) hP hD hS [1, 2] [0] rfl rfl ⟨by decide, by decide, by decide⟩ ⟨⟨Nat.le_of_ble_eq_true rfl, Nat.le_of_ble_eq_true rfl⟩, Nat.le_of_ble_eq_true rfl, Nat.le_of_ble_eq_true rfl⟩ rfl (Nat.le_of_ble_eq_true rfl) d40_4 (fun vv ww H locs hR hP hD hS => ?_)
  obtain ⟨t_1, u_2, g_3, rfl, rfl⟩ := hR
  have hP : va_P D vwCl [(h, .inr (0, [.ref (r 0), .ref (r 2), .ref (r 4), .ref (r 8), .int 0, .int 0])), ((r 0), .inr (3, [.ref (r 1), .int 0, .int 0, .int 0])), ((r 1), .inl (dA 2, 16, .inl (fun _ => 0))), (t_1, .inr (5, [.ref u_2, .int 0, .int 0, .int 0])), (u_2, .inl (dA 2, 0, .inl g_3))] H := hP
  have hD : va_D A [(h, .inr (0, [.ref (r 0), .ref (r 2), .ref (r 4), .ref (r 8), .int 0, .int 0])), ((r 0), .inr (3, [.ref (r 1), .int 0, .int 0, .int 0])), ((r 1), .inl (dA 2, 16, .inl (fun _ => 0))), (t_1, .inr (5, [.ref u_2, .int 0, .int 0, .int 0])), (u_2, .inl (dA 2, 0, .inl g_3))] := hD
  refine W.eq (g2 := F0 m 7 ls [.ref t_1]) rfl ?_
  refine lv_astore_n hx hb d40_7 rfl hl (by decide) rfl (fun ls hl => ?_)
  have hl : lv_has ls 2 [(1, .ref t_1), (0, .ref h)] := hl
  refine lv_aload_n hx hb d40_8 rfl (lv_at hl 1 rfl) ?_
  refine va_get (D := D) (ci := 0) (v := .ref (r 0)) (C := kR0) (T := kT0) (N := 6) hx hb hts ku0 hown hK hP 0 rfl rfl 0 (by decide) (hts _ ms_k105) (fun _ h => h) rfl d40_9 ?_
  refine lv_iconst (v := 0) hx hb d40_12 (by decide) ?_
  refine ms_V (C := "java/lang/StringBuilder") (rest := []) (as := [.int 0]) (wr := [(h, .inr (0, [.ref (r 0), .ref (r 2), .ref (r 4), .ref (r 8), .int 0, .int 0])), (t_1, .inr (5, [.ref u_2, .int 0, .int 0, .int 0])), (u_2, .inl (dA 2, 0, .inl g_3))]) X hl (c_SBset l D dA s0 hE (r 0) (r 1) (fun _ => 0)) (List.forall_mem_cons.mpr ⟨ms_k295, List.forall_mem_cons.mpr ⟨ms_k296, List.forall_mem_cons.mpr ⟨ms_k297, List.forall_mem_cons.mpr ⟨ms_k3, List.forall_mem_cons.mpr ⟨ms_k298, fun _ h => absurd h List.not_mem_nil⟩⟩⟩⟩⟩) ⟨rfl, by decide +kernel, by decide +kernel, (by decide +kernel : (parseMethodDescriptor "(I)V").map (fun d => d.parameters.length) = some 1)⟩ (va_recv hK hP rfl (q0 := 1) rfl) hP hD hS [1, 2] [0, 3, 4] rfl rfl ⟨by decide, by decide, by decide⟩ ⟨⟨Nat.le_of_ble_eq_true rfl, Nat.le_of_ble_eq_true rfl⟩, Nat.le_of_ble_eq_true rfl, Nat.le_of_ble_eq_true rfl⟩ rfl (Nat.le_of_ble_eq_true rfl) d40_13 (fun vv ww H locs hR hP hD hS => ?_)
  obtain ⟨rfl, rfl⟩ := hR
  have hP : va_P D vwCl [(h, .inr (0, [.ref (r 0), .ref (r 2), .ref (r 4), .ref (r 8), .int 0, .int 0])), (t_1, .inr (5, [.ref u_2, .int 0, .int 0, .int 0])), (u_2, .inl (dA 2, 0, .inl g_3)), ((r 0), .inr (3, [.ref (r 1), .int 0, .int 0, .int 0])), ((r 1), .inl (dA 2, 16, .inl (fun _ => 0)))] H := hP
  have hD : va_D A [(h, .inr (0, [.ref (r 0), .ref (r 2), .ref (r 4), .ref (r 8), .int 0, .int 0])), (t_1, .inr (5, [.ref u_2, .int 0, .int 0, .int 0])), (u_2, .inl (dA 2, 0, .inl g_3)), ((r 0), .inr (3, [.ref (r 1), .int 0, .int 0, .int 0])), ((r 1), .inl (dA 2, 16, .inl (fun _ => 0)))] := hD
  refine W.eq (g2 := F0 m 16 ls []) rfl ?_
  refine lv_aload_n hx hb d40_16 rfl (lv_at hl 0 rfl) ?_
  have hP := hP.sub (ws' := [(h, .inr (0, [.ref (r 0), .ref (r 2), .ref (r 4), .ref (r 8), .int 0, .int 0])), ((r 0), .inr (3, [.ref (r 1), .int 0, .int 0, .int 0])), ((r 1), .inl (dA 2, 16, .inl (fun _ => 0))), (t_1, .inr (5, [.ref u_2, .int 0, .int 0, .int 0])), (u_2, .inl (dA 2, 0, .inl g_3))]) [0, 3, 4, 1, 2] rfl
  have hD := hD.sub (ws' := [(h, .inr (0, [.ref (r 0), .ref (r 2), .ref (r 4), .ref (r 8), .int 0, .int 0])), ((r 0), .inr (3, [.ref (r 1), .int 0, .int 0, .int 0])), ((r 1), .inl (dA 2, 16, .inl (fun _ => 0))), (t_1, .inr (5, [.ref u_2, .int 0, .int 0, .int 0])), (u_2, .inl (dA 2, 0, .inl g_3))]) [0, 3, 4, 1, 2] (by decide) rfl
  exact ms_aret X d40_17 hP hD hS (Nat.le_of_ble_eq_true rfl) (Nat.le_of_ble_eq_true rfl) (⟨t_1, u_2, g_3, rfl, rfl⟩) (Or.inl ⟨_, rfl⟩) (Or.inr ⟨_, rfl⟩)

set_option maxRecDepth 100000 in
set_option maxHeartbeats 8000000 in
theorem c_beginB (l : Launch) (D : va_G) (dA : Nat → ClassId) (s0 : State) (hE : ms_EV D dA s0) (h : Nat) (r : Nat → Nat) : ms_C l D s0 yM41 bM41 1 (Option.none : Option Jvm.ClassFile.FieldType) 1 21 0 0 [.ref h] [(h, .inr (0, [.ref (r 0), .ref (r 2), .ref (r 4), .ref (r 8), .int 0, .int 0])), ((r 4), .inr (1, [.ref (r 5), .int 0, .ref (r 6), .int 0, .ref (r 7), .int 0]))] (fun vv ww => vv = none ∧ ww = [(h, .inr (0, [.ref (r 0), .ref (r 2), .ref (r 4), .ref (r 8), .int 0, .int 0])), ((r 4), .inr (1, [.ref (r 5), .int 0, .ref (r 6), .int 0, .ref (r 7), .int 0]))]) := by
  refine ms_C.mk hE.1 (by decide) (Nat.le_of_ble_eq_true rfl) [(0, .ref h)] rfl ?_
  intro p e s m below meth c A ls X hin hP hD hS hl
  have hx := X.1
  have hb := X.2.1
  have hml := X.2.2.1
  have hown : s.vm.findClass "MarkupStore" = some m.cls := X.2.2.2.1
  have hts := X.2.2.2.2.2.2.1
  have hK := X.2.2.2.2.2.2.2.2.1
  have hA := X.2.2.2.2.2.2.2.2.2.2
  refine lv_aload_n hx hb d41_0 rfl (lv_at hl 0 rfl) ?_
  refine va_get (D := D) (ci := 0) (v := .ref (r 4)) (C := kR0) (T := kT0) (N := 6) hx hb hts ku0 hown hK hP 0 rfl rfl 2 (by decide) (hts _ ms_k107) (fun _ h => h) rfl d41_1 ?_
  refine ms_V (C := "MarkupStore$Tree") (rest := []) (as := []) (wr := [(h, .inr (0, [.ref (r 0), .ref (r 2), .ref (r 4), .ref (r 8), .int 0, .int 0]))]) X hl (c_keep l D dA s0 hE (r 4) (r 5) (r 6) (r 7)) (List.forall_mem_cons.mpr ⟨ms_k737, List.forall_mem_cons.mpr ⟨ms_k738, List.forall_mem_cons.mpr ⟨ms_k739, List.forall_mem_cons.mpr ⟨ms_k6, List.forall_mem_cons.mpr ⟨ms_k740, fun _ h => absurd h List.not_mem_nil⟩⟩⟩⟩⟩) ⟨rfl, by decide +kernel, by decide +kernel, (by decide +kernel : (parseMethodDescriptor "()V").map (fun d => d.parameters.length) = some 0)⟩ (va_recv hK hP rfl (q0 := 1) rfl) hP hD hS [1] [0] rfl rfl ⟨by decide, by decide, by decide⟩ ⟨⟨Nat.le_of_ble_eq_true rfl, Nat.le_of_ble_eq_true rfl⟩, Nat.le_of_ble_eq_true rfl, Nat.le_of_ble_eq_true rfl⟩ rfl (Nat.le_of_ble_eq_true rfl) d41_4 (fun vv ww H locs hR hP hD hS => ?_)
  obtain ⟨rfl, rfl⟩ := hR
  have hP : va_P D vwCl [(h, .inr (0, [.ref (r 0), .ref (r 2), .ref (r 4), .ref (r 8), .int 0, .int 0])), ((r 4), .inr (1, [.ref (r 5), .int 0, .ref (r 6), .int 0, .ref (r 7), .int 0]))] H := hP
  have hD : va_D A [(h, .inr (0, [.ref (r 0), .ref (r 2), .ref (r 4), .ref (r 8), .int 0, .int 0])), ((r 4), .inr (1, [.ref (r 5), .int 0, .ref (r 6), .int 0, .ref (r 7), .int 0]))] := hD
  refine W.eq (g2 := F0 m 7 ls []) rfl ?_
  refine lv_aload_n hx hb d41_7 rfl (lv_at hl 0 rfl) ?_
  refine lv_iconst (v := 0) hx hb d41_8 (by decide) ?_
  refine va_put (D := D) (ci := 0) (v := .int 0) (ty := .int) (C := kR0) (T := kT0) (N := 6) hx hb hts ku0 kt0 kp0 kn0 hown hK hP hD hS 0 rfl rfl 5 (by decide) (hts _ ms_k110) (fun _ h => h) rfl (by decide +kernel) rfl rfl (Nat.le_of_ble_eq_true rfl) d41_9 (fun H locs hP hD hS => ?_)
  have hP : va_P D vwCl [(h, .inr (0, [.ref (r 0), .ref (r 2), .ref (r 4), .ref (r 8), .int 0, .int 0])), ((r 4), .inr (1, [.ref (r 5), .int 0, .ref (r 6), .int 0, .ref (r 7), .int 0]))] H := hP
  have hD : va_D A [(h, .inr (0, [.ref (r 0), .ref (r 2), .ref (r 4), .ref (r 8), .int 0, .int 0])), ((r 4), .inr (1, [.ref (r 5), .int 0, .ref (r 6), .int 0, .ref (r 7), .int 0]))] := hD
  exact ms_vret X d41_12 hP hD hS (Nat.le_of_ble_eq_true rfl) (Nat.le_of_ble_eq_true rfl) (⟨rfl, rfl⟩)

set_option maxRecDepth 100000 in
set_option maxHeartbeats 8000000 in
theorem c_type (l : Launch) (D : va_G) (dA : Nat → ClassId) (s0 : State) (hE : ms_EV D dA s0) (h : Nat) (r : Nat → Nat) (z : Int32) : ms_C l D s0 yM42 bM42 2 (Option.some Jvm.ClassFile.FieldType.boolean) 3 64 0 0 [.ref h, .int z] [(h, .inr (0, [.ref (r 0), .ref (r 2), .ref (r 4), .ref (r 8), .int 0, .int 0])), ((r 0), .inr (3, [.ref (r 1), .int 0, .int 0, .int 0])), ((r 1), .inl (dA 2, 16, .inl (fun _ => 0)))] (fun vv _ => vv = some (.int (ms_ty z))) := by
  refine ms_C.mk hE.1 (by decide) (Nat.le_of_ble_eq_true rfl) [(0, .ref h), (1, .int z)] rfl ?_
  intro p e s m below meth c A ls X hin hP hD hS hl
  have hx := X.1
  have hb := X.2.1
  have hml := X.2.2.1
  have hown : s.vm.findClass "MarkupStore" = some m.cls := X.2.2.2.1
  have hts := X.2.2.2.2.2.2.1
  have hK := X.2.2.2.2.2.2.2.2.1
  have hA := X.2.2.2.2.2.2.2.2.2.2
  refine lv_iload_n hx hb d42_0 rfl (lv_at hl 1 rfl) ?_
  refine lv_bipush (v := 32) hx hb d42_1 (by decide) ?_
  refine lv_icmp_lt hx hb d42_3 rfl (fun h1 => ?_) (fun h1 => ?_)
  · refine lv_iconst (v := 0) hx hb d42_24 (by decide) ?_
    exact ms_zret X d42_25 hP hD hS (Nat.le_of_ble_eq_true rfl) (Nat.le_of_ble_eq_true rfl) (by simp [ms_ty, h1]) (rfl)
  · refine lv_iload_n hx hb d42_6 rfl (lv_at hl 1 rfl) ?_
    refine lv_bipush (v := 126) hx hb d42_7 (by decide) ?_
    refine lv_icmp_gt hx hb d42_9 rfl (fun h2 => ?_) (fun h2 => ?_)
    · refine lv_iconst (v := 0) hx hb d42_24 (by decide) ?_
      exact ms_zret X d42_25 hP hD hS (Nat.le_of_ble_eq_true rfl) (Nat.le_of_ble_eq_true rfl) (by simp [ms_ty, h1, h2]) (rfl)
    · refine lv_aload_n hx hb d42_12 rfl (lv_at hl 0 rfl) ?_
      refine va_get (D := D) (ci := 0) (v := .ref (r 0)) (C := kR0) (T := kT0) (N := 6) hx hb hts ku0 hown hK hP 0 rfl rfl 0 (by decide) (hts _ ms_k105) (fun _ h => h) rfl d42_13 ?_
      refine ms_V (C := "java/lang/StringBuilder") (rest := []) (as := []) (wr := [(h, .inr (0, [.ref (r 0), .ref (r 2), .ref (r 4), .ref (r 8), .int 0, .int 0])), ((r 1), .inl (dA 2, 16, .inl (fun _ => 0)))]) X hl (c_SBlen l D dA s0 hE (r 0) (r 1) 0) (List.forall_mem_cons.mpr ⟨ms_k129, List.forall_mem_cons.mpr ⟨ms_k130, List.forall_mem_cons.mpr ⟨ms_k131, List.forall_mem_cons.mpr ⟨ms_k3, List.forall_mem_cons.mpr ⟨ms_k132, fun _ h => absurd h List.not_mem_nil⟩⟩⟩⟩⟩) ⟨rfl, by decide +kernel, by decide +kernel, (by decide +kernel : (parseMethodDescriptor "()I").map (fun d => d.parameters.length) = some 0)⟩ (va_recv hK hP rfl (q0 := 1) rfl) hP hD hS [1] [0, 2] rfl rfl ⟨by decide, by decide, by decide⟩ ⟨⟨Nat.le_of_ble_eq_true rfl, Nat.le_of_ble_eq_true rfl⟩, Nat.le_of_ble_eq_true rfl, Nat.le_of_ble_eq_true rfl⟩ rfl (Nat.le_of_ble_eq_true rfl) d42_16 (fun vv ww H locs hR hP hD hS => ?_)
      obtain ⟨rfl, rfl⟩ := hR
      have hP : va_P D vwCl [(h, .inr (0, [.ref (r 0), .ref (r 2), .ref (r 4), .ref (r 8), .int 0, .int 0])), ((r 1), .inl (dA 2, 16, .inl (fun _ => 0))), ((r 0), .inr (3, [.ref (r 1), .int 0, .int 0, .int 0]))] H := hP
      have hD : va_D A [(h, .inr (0, [.ref (r 0), .ref (r 2), .ref (r 4), .ref (r 8), .int 0, .int 0])), ((r 1), .inl (dA 2, 16, .inl (fun _ => 0))), ((r 0), .inr (3, [.ref (r 1), .int 0, .int 0, .int 0]))] := hD
      refine W.eq (g2 := F0 m 19 ls [.int 0]) rfl ?_
      refine lv_bipush (v := 120) hx hb d42_19 (by decide) ?_
      refine lv_icmp_lt hx hb d42_21 rfl (fun _ => ?_) (fun h9 => absurd (by decide) h9)
      refine lv_aload_n hx hb d42_26 rfl (lv_at hl 0 rfl) ?_
      refine va_get (D := D) (ci := 0) (v := .ref (r 0)) (C := kR0) (T := kT0) (N := 6) hx hb hts ku0 hown hK hP 0 rfl rfl 0 (by decide) (hts _ ms_k105) (fun _ h => h) rfl d42_27 ?_
      refine lv_iload_n hx hb d42_30 rfl (lv_at hl 1 rfl) ?_
      refine ms_V (C := "java/lang/StringBuilder") (rest := []) (as := [.int z]) (wr := [(h, .inr (0, [.ref (r 0), .ref (r 2), .ref (r 4), .ref (r 8), .int 0, .int 0]))]) X hl (c_SBapp l D dA s0 hE (r 0) (r 1) (fun _ => 0) z (fun h9 => h2 (Int32.lt_trans (by decide) h9))) (List.forall_mem_cons.mpr ⟨ms_k136, List.forall_mem_cons.mpr ⟨ms_k137, List.forall_mem_cons.mpr ⟨ms_k138, List.forall_mem_cons.mpr ⟨ms_k3, List.forall_mem_cons.mpr ⟨ms_k139, fun _ h => absurd h List.not_mem_nil⟩⟩⟩⟩⟩) ⟨rfl, by decide +kernel, by decide +kernel, (by decide +kernel : (parseMethodDescriptor "(C)Ljava/lang/StringBuilder;").map (fun d => d.parameters.length) = some 1)⟩ (va_recv hK hP rfl (q0 := 2) rfl) hP hD hS [2, 1] [0] rfl rfl ⟨by decide, by decide, by decide⟩ ⟨⟨Nat.le_of_ble_eq_true rfl, Nat.le_of_ble_eq_true rfl⟩, Nat.le_of_ble_eq_true rfl, Nat.le_of_ble_eq_true rfl⟩ rfl (Nat.le_of_ble_eq_true rfl) d42_31 (fun vv ww H locs hR hP hD hS => ?_)
      cases hR
      have hP : va_P D vwCl ([(h, .inr (0, [.ref (r 0), .ref (r 2), .ref (r 4), .ref (r 8), .int 0, .int 0]))] ++ ww) H := hP
      have hD : va_D A ([(h, .inr (0, [.ref (r 0), .ref (r 2), .ref (r 4), .ref (r 8), .int 0, .int 0]))] ++ ww) := hD
      refine W.eq (g2 := F0 m 34 ls [.ref (r 0)]) rfl ?_
      refine lv_pop hx hb d42_34 rfl ?_
      refine lv_iconst (v := 1) hx hb d42_35 (by decide) ?_
      exact ms_zret X d42_36 hP hD hS (Nat.le_of_ble_eq_true rfl) (Nat.le_of_ble_eq_true rfl) (by simp [ms_ty, h1, h2]) (rfl)

set_option maxRecDepth 100000 in
set_option maxHeartbeats 8000000 in
theorem c_load (l : Launch) (D : va_G) (dA : Nat → ClassId) (s0 : State) (hE : ms_EV D dA s0) (h : Nat) (r : Nat → Nat) : ms_C l D s0 yM43 bM43 3 (Option.some Jvm.ClassFile.FieldType.int) 7 232 4 13 [.ref h] [(h, .inr (0, [.ref (r 0), .ref (r 2), .ref (r 4), .ref (r 8), .int 0, .int 0])), ((r 0), .inr (3, [.ref (r 1), .int 0, .int 0, .int 0])), ((r 1), .inl (dA 2, 16, .inl (fun _ => 0)))] (fun vv _ => vv = some (.int (-1))) := by
  refine ms_C.mk hE.1 (by decide) (Nat.le_of_ble_eq_true rfl) [(0, .ref h)] rfl ?_
  intro p e s m below meth c A ls X hin hP hD hS hl
  have hx := X.1
  have hb := X.2.1
  have hml := X.2.2.1
  have hown : s.vm.findClass "MarkupStore" = some m.cls := X.2.2.2.1
  have hts := X.2.2.2.2.2.2.1
  have hK := X.2.2.2.2.2.2.2.2.1
  have hA := X.2.2.2.2.2.2.2.2.2.2
  refine va_new (ci := 6) (fs := [.null, .int 0, .int 0, .null, .null, .int 0]) (C := kR6) (T := kT6) (N := 6) hx hb hts ku6 kt6 kp6 hown (hts _ ms_k235) (hts _ ms_k236) (hts _ ms_k15) hK hP hD hS hA rfl kz6 (Nat.le_of_ble_eq_true rfl) (Nat.le_of_ble_eq_true rfl) d43_0 (fun q1 H hP hD hS => ?_)
  have hP : va_P D vwCl [(h, .inr (0, [.ref (r 0), .ref (r 2), .ref (r 4), .ref (r 8), .int 0, .int 0])), ((r 0), .inr (3, [.ref (r 1), .int 0, .int 0, .int 0])), ((r 1), .inl (dA 2, 16, .inl (fun _ => 0))), (q1, .inr (6, [.null, .int 0, .int 0, .null, .null, .int 0]))] H := hP
  have hD : va_D A [(h, .inr (0, [.ref (r 0), .ref (r 2), .ref (r 4), .ref (r 8), .int 0, .int 0])), ((r 0), .inr (3, [.ref (r 1), .int 0, .int 0, .int 0])), ((r 1), .inl (dA 2, 16, .inl (fun _ => 0))), (q1, .inr (6, [.null, .int 0, .int 0, .null, .null, .int 0]))] := hD
  refine lv_dup hx hb d43_3 rfl ?_
  refine lv_aload_n hx hb d43_4 rfl (lv_at hl 0 rfl) ?_
  refine ms_V (C := "MarkupStore") (rest := [.ref q1, .ref q1]) (as := []) (wr := [(q1, .inr (6, [.null, .int 0, .int 0, .null, .null, .int 0]))]) X hl (c_useBuf l D dA s0 hE h r) (List.forall_mem_cons.mpr ⟨ms_k237, List.forall_mem_cons.mpr ⟨ms_k239, List.forall_mem_cons.mpr ⟨ms_p0, List.forall_mem_cons.mpr ⟨ms_k1, List.forall_mem_cons.mpr ⟨ms_k240, fun _ h => absurd h List.not_mem_nil⟩⟩⟩⟩⟩) ⟨rfl, by decide +kernel, by decide +kernel, (by decide +kernel : (parseMethodDescriptor "()Ljava/lang/String;").map (fun d => d.parameters.length) = some 0)⟩ (va_recv hK hP rfl (q0 := 0) rfl) hP hD hS [0, 1, 2] [3] rfl rfl ⟨by decide, by decide, by decide⟩ ⟨⟨Nat.le_of_ble_eq_true rfl, Nat.le_of_ble_eq_true rfl⟩, Nat.le_of_ble_eq_true rfl, Nat.le_of_ble_eq_true rfl⟩ rfl (Nat.le_of_ble_eq_true rfl) d43_5 (fun vv ww H locs hR hP hD hS => ?_)
  obtain ⟨t_2, u_3, g_4, rfl, rfl⟩ := hR
  have hP : va_P D vwCl [(q1, .inr (6, [.null, .int 0, .int 0, .null, .null, .int 0])), (h, .inr (0, [.ref (r 0), .ref (r 2), .ref (r 4), .ref (r 8), .int 0, .int 0])), ((r 0), .inr (3, [.ref (r 1), .int 0, .int 0, .int 0])), ((r 1), .inl (dA 2, 16, .inl (fun _ => 0))), (t_2, .inr (5, [.ref u_3, .int 0, .int 0, .int 0])), (u_3, .inl (dA 2, 0, .inl g_4))] H := hP
  have hD : va_D A [(q1, .inr (6, [.null, .int 0, .int 0, .null, .null, .int 0])), (h, .inr (0, [.ref (r 0), .ref (r 2), .ref (r 4), .ref (r 8), .int 0, .int 0])), ((r 0), .inr (3, [.ref (r 1), .int 0, .int 0, .int 0])), ((r 1), .inl (dA 2, 16, .inl (fun _ => 0))), (t_2, .inr (5, [.ref u_3, .int 0, .int 0, .int 0])), (u_3, .inl (dA 2, 0, .inl g_4))] := hD
  refine W.eq (g2 := F0 m 8 ls [.ref t_2, .ref q1, .ref q1]) rfl ?_
  refine lv_aload_n hx hb d43_8 rfl (lv_at hl 0 rfl) ?_
  refine va_get (D := D) (ci := 0) (v := .ref (r 2)) (C := kR0) (T := kT0) (N := 6) hx hb hts ku0 hown hK hP 1 rfl rfl 1 (by decide) (hts _ ms_k106) (fun _ h => h) rfl d43_9 ?_
  refine ms_I (rest := [.ref q1]) (as := [.ref t_2, .ref (r 2)]) (wr := [(h, .inr (0, [.ref (r 0), .ref (r 2), .ref (r 4), .ref (r 8), .int 0, .int 0])), ((r 0), .inr (3, [.ref (r 1), .int 0, .int 0, .int 0])), ((r 1), .inl (dA 2, 16, .inl (fun _ => 0))), (t_2, .inr (5, [.ref u_3, .int 0, .int 0, .int 0])), (u_3, .inl (dA 2, 0, .inl g_4))]) X hl (c_MRinit l D dA s0 hE q1 t_2 (r 2)) (List.forall_mem_cons.mpr ⟨ms_k315, List.forall_mem_cons.mpr ⟨ms_k316, List.forall_mem_cons.mpr ⟨ms_k15, List.forall_mem_cons.mpr ⟨ms_k317, fun _ h => absurd h List.not_mem_nil⟩⟩⟩⟩) rfl ⟨by decide +kernel, by decide +kernel, (by decide +kernel : (parseMethodDescriptor "(Ljava/lang/String;Ljava/lang/StringBuilder;)V").map (fun d => d.parameters.length) = some 2)⟩ hP hD hS [0] [1, 2, 3, 4, 5] rfl rfl ⟨by decide, by decide, by decide⟩ ⟨⟨Nat.le_of_ble_eq_true rfl, Nat.le_of_ble_eq_true rfl⟩, Nat.le_of_ble_eq_true rfl, Nat.le_of_ble_eq_true rfl⟩ rfl (Nat.le_of_ble_eq_true rfl) d43_12 (fun vv ww H locs hR hP hD hS => ?_)
  obtain ⟨a_5, b_6, rfl, rfl⟩ := hR
  have hP : va_P D vwCl [(h, .inr (0, [.ref (r 0), .ref (r 2), .ref (r 4), .ref (r 8), .int 0, .int 0])), ((r 0), .inr (3, [.ref (r 1), .int 0, .int 0, .int 0])), ((r 1), .inl (dA 2, 16, .inl (fun _ => 0))), (t_2, .inr (5, [.ref u_3, .int 0, .int 0, .int 0])), (u_3, .inl (dA 2, 0, .inl g_4)), (q1, .inr (6, [.ref t_2, .int 0, .int (-1), .ref b_6, .ref (r 2), .int 0])), (b_6, .inr (4, [.int 0, .ref a_5, .int 0]))] H := hP
  have hD : va_D A [(h, .inr (0, [.ref (r 0), .ref (r 2), .ref (r 4), .ref (r 8), .int 0, .int 0])), ((r 0), .inr (3, [.ref (r 1), .int 0, .int 0, .int 0])), ((r 1), .inl (dA 2, 16, .inl (fun _ => 0))), (t_2, .inr (5, [.ref u_3, .int 0, .int 0, .int 0])), (u_3, .inl (dA 2, 0, .inl g_4)), (q1, .inr (6, [.ref t_2, .int 0, .int (-1), .ref b_6, .ref (r 2), .int 0])), (b_6, .inr (4, [.int 0, .ref a_5, .int 0]))] := hD
  refine W.eq (g2 := F0 m 15 ls [.ref q1]) rfl ?_
  refine lv_astore_n hx hb d43_15 rfl hl (by decide) rfl (fun ls hl => ?_)
  have hl : lv_has ls 3 [(1, .ref q1), (0, .ref h)] := hl
  refine lv_aload_n hx hb d43_16 rfl (lv_at hl 0 rfl) ?_
  refine ms_V (C := "MarkupStore$MarkupReader") (rest := []) (as := []) (wr := [(h, .inr (0, [.ref (r 0), .ref (r 2), .ref (r 4), .ref (r 8), .int 0, .int 0])), ((r 0), .inr (3, [.ref (r 1), .int 0, .int 0, .int 0])), ((r 1), .inl (dA 2, 16, .inl (fun _ => 0))), (b_6, .inr (4, [.int 0, .ref a_5, .int 0]))]) X hl (c_readDoc l D dA s0 hE q1 t_2 b_6 (r 2) u_3 g_4) (List.forall_mem_cons.mpr ⟨ms_k380, List.forall_mem_cons.mpr ⟨ms_k381, List.forall_mem_cons.mpr ⟨ms_k382, List.forall_mem_cons.mpr ⟨ms_k15, List.forall_mem_cons.mpr ⟨ms_k383, fun _ h => absurd h List.not_mem_nil⟩⟩⟩⟩⟩) ⟨rfl, by decide +kernel, by decide +kernel, (by decide +kernel : (parseMethodDescriptor "()Z").map (fun d => d.parameters.length) = some 0)⟩ (va_recv hK hP rfl (q0 := 5) rfl) hP hD hS [5, 3, 4] [0, 1, 2, 6] rfl rfl ⟨by decide, by decide, by decide⟩ ⟨⟨Nat.le_of_ble_eq_true rfl, Nat.le_of_ble_eq_true rfl⟩, Nat.le_of_ble_eq_true rfl, Nat.le_of_ble_eq_true rfl⟩ rfl (Nat.le_of_ble_eq_true rfl) d43_17 (fun vv ww H locs hR hP hD hS => ?_)
  obtain ⟨rfl, rfl⟩ := hR
  have hP : va_P D vwCl [(h, .inr (0, [.ref (r 0), .ref (r 2), .ref (r 4), .ref (r 8), .int 0, .int 0])), ((r 0), .inr (3, [.ref (r 1), .int 0, .int 0, .int 0])), ((r 1), .inl (dA 2, 16, .inl (fun _ => 0))), (b_6, .inr (4, [.int 0, .ref a_5, .int 0])), (q1, .inr (6, [.ref t_2, .int 0, .int 0, .ref b_6, .ref (r 2), .int 0])), (t_2, .inr (5, [.ref u_3, .int 0, .int 0, .int 0])), (u_3, .inl (dA 2, 0, .inl g_4))] H := hP
  have hD : va_D A [(h, .inr (0, [.ref (r 0), .ref (r 2), .ref (r 4), .ref (r 8), .int 0, .int 0])), ((r 0), .inr (3, [.ref (r 1), .int 0, .int 0, .int 0])), ((r 1), .inl (dA 2, 16, .inl (fun _ => 0))), (b_6, .inr (4, [.int 0, .ref a_5, .int 0])), (q1, .inr (6, [.ref t_2, .int 0, .int 0, .ref b_6, .ref (r 2), .int 0])), (t_2, .inr (5, [.ref u_3, .int 0, .int 0, .int 0])), (u_3, .inl (dA 2, 0, .inl g_4))] := hD
  refine W.eq (g2 := F0 m 20 ls [.int 0]) rfl ?_
  refine lv_pop hx hb d43_20 rfl ?_
  refine lv_aload_n hx hb d43_21 rfl (lv_at hl 0 rfl) ?_
  refine ms_U (C := "MarkupStore$MarkupReader") (x := ⟨"MarkupStore$MarkupReader", "failed", "()Z"⟩) (owner := "MarkupStore$TextReader") (rest := []) (as := []) (wr := [(h, .inr (0, [.ref (r 0), .ref (r 2), .ref (r 4), .ref (r 8), .int 0, .int 0])), ((r 0), .inr (3, [.ref (r 1), .int 0, .int 0, .int 0])), ((r 1), .inl (dA 2, 16, .inl (fun _ => 0))), (b_6, .inr (4, [.int 0, .ref a_5, .int 0])), (t_2, .inr (5, [.ref u_3, .int 0, .int 0, .int 0])), (u_3, .inl (dA 2, 0, .inl g_4))]) X hl (c_failed l D dA s0 hE q1 t_2 b_6 (r 2)) (List.forall_mem_cons.mpr ⟨ms_k704, List.forall_mem_cons.mpr ⟨ms_k585, List.forall_mem_cons.mpr ⟨ms_k587, List.forall_mem_cons.mpr ⟨ms_k588, List.forall_mem_cons.mpr ⟨ms_k14, List.forall_mem_cons.mpr ⟨ms_k589, fun _ h => absurd h List.not_mem_nil⟩⟩⟩⟩⟩⟩) rfl ⟨by decide +kernel, by decide +kernel, (by decide +kernel : (parseMethodDescriptor "()Z").map (fun d => d.parameters.length) = some 0)⟩ (va_recv hK hP rfl (q0 := 4) rfl) hP hD hS [4] [0, 1, 2, 3, 5, 6] rfl rfl ⟨by decide, by decide, by decide⟩ ⟨⟨Nat.le_of_ble_eq_true rfl, Nat.le_of_ble_eq_true rfl⟩, Nat.le_of_ble_eq_true rfl, Nat.le_of_ble_eq_true rfl⟩ rfl (Nat.le_of_ble_eq_true rfl) d43_22 (fun vv ww H locs hR hP hD hS => ?_)
  obtain ⟨rfl, rfl⟩ := hR
  have hP : va_P D vwCl [(h, .inr (0, [.ref (r 0), .ref (r 2), .ref (r 4), .ref (r 8), .int 0, .int 0])), ((r 0), .inr (3, [.ref (r 1), .int 0, .int 0, .int 0])), ((r 1), .inl (dA 2, 16, .inl (fun _ => 0))), (b_6, .inr (4, [.int 0, .ref a_5, .int 0])), (t_2, .inr (5, [.ref u_3, .int 0, .int 0, .int 0])), (u_3, .inl (dA 2, 0, .inl g_4)), (q1, .inr (6, [.ref t_2, .int 0, .int 0, .ref b_6, .ref (r 2), .int 0]))] H := hP
  have hD : va_D A [(h, .inr (0, [.ref (r 0), .ref (r 2), .ref (r 4), .ref (r 8), .int 0, .int 0])), ((r 0), .inr (3, [.ref (r 1), .int 0, .int 0, .int 0])), ((r 1), .inl (dA 2, 16, .inl (fun _ => 0))), (b_6, .inr (4, [.int 0, .ref a_5, .int 0])), (t_2, .inr (5, [.ref u_3, .int 0, .int 0, .int 0])), (u_3, .inl (dA 2, 0, .inl g_4)), (q1, .inr (6, [.ref t_2, .int 0, .int 0, .ref b_6, .ref (r 2), .int 0]))] := hD
  refine W.eq (g2 := F0 m 25 ls [.int 1]) rfl ?_
  refine lv_if_eq hx hb d43_25 rfl (fun h9 => absurd h9 (by decide)) (fun _ => ?_)
  refine lv_iconst (v := (-1)) hx hb d43_28 (by decide) ?_
  refine lv_aload_n hx hb d43_29 rfl (lv_at hl 0 rfl) ?_
  refine va_get (D := D) (ci := 6) (v := .int 0) (C := kR6) (T := kT6) (N := 6) hx hb hts ku6 hown hK hP 6 rfl rfl 2 (by decide) (hts _ ms_k363) (fun x9 h9 => u_same (hts _ ms_k364) x9 h9) rfl d43_30 ?_
  refine lv_isub hx hb d43_33 ?_
  refine ms_top (y := (-1)) (by decide) ?_
  exact ms_iret X d43_34 hP hD hS (Nat.le_of_ble_eq_true rfl) (Nat.le_of_ble_eq_true rfl) rfl

set_option maxRecDepth 100000 in
set_option maxHeartbeats 8000000 in
theorem c_insert (l : Launch) (D : va_G) (dA : Nat → ClassId) (s0 : State) (hE : ms_EV D dA s0) (h : Nat) (r : Nat → Nat) (i : Int32) (j : Int32) : ms_C l D s0 yM44 bM44 10 (Option.some Jvm.ClassFile.FieldType.int) 7 232 2 4 [.ref h, .int i, .int j] [(h, .inr (0, [.ref (r 0), .ref (r 2), .ref (r 4), .ref (r 8), .int 0, .int 0])), ((r 0), .inr (3, [.ref (r 1), .int 0, .int 0, .int 0])), ((r 1), .inl (dA 2, 16, .inl (fun _ => 0))), ((r 4), .inr (1, [.ref (r 5), .int 0, .ref (r 6), .int 0, .ref (r 7), .int 0]))] (fun vv _ => vv = some (.int (-1000))) := by
  refine ms_C.mk hE.1 (by decide) (Nat.le_of_ble_eq_true rfl) [(0, .ref h), (1, .int i), (2, .int j)] rfl ?_
  intro p e s m below meth c A ls X hin hP hD hS hl
  have hx := X.1
  have hb := X.2.1
  have hml := X.2.2.1
  have hown : s.vm.findClass "MarkupStore" = some m.cls := X.2.2.2.1
  have hts := X.2.2.2.2.2.2.1
  have hK := X.2.2.2.2.2.2.2.2.1
  have hA := X.2.2.2.2.2.2.2.2.2.2
  refine lv_aload_n hx hb d44_0 rfl (lv_at hl 0 rfl) ?_
  refine ms_V (C := "MarkupStore") (rest := []) (as := []) (wr := [((r 4), .inr (1, [.ref (r 5), .int 0, .ref (r 6), .int 0, .ref (r 7), .int 0]))]) X hl (c_useBuf l D dA s0 hE h r) (List.forall_mem_cons.mpr ⟨ms_k237, List.forall_mem_cons.mpr ⟨ms_k239, List.forall_mem_cons.mpr ⟨ms_p0, List.forall_mem_cons.mpr ⟨ms_k1, List.forall_mem_cons.mpr ⟨ms_k240, fun _ h => absurd h List.not_mem_nil⟩⟩⟩⟩⟩) ⟨rfl, by decide +kernel, by decide +kernel, (by decide +kernel : (parseMethodDescriptor "()Ljava/lang/String;").map (fun d => d.parameters.length) = some 0)⟩ (va_recv hK hP rfl (q0 := 0) rfl) hP hD hS [0, 1, 2] [3] rfl rfl ⟨by decide, by decide, by decide⟩ ⟨⟨Nat.le_of_ble_eq_true rfl, Nat.le_of_ble_eq_true rfl⟩, Nat.le_of_ble_eq_true rfl, Nat.le_of_ble_eq_true rfl⟩ rfl (Nat.le_of_ble_eq_true rfl) d44_1 (fun vv ww H locs hR hP hD hS => ?_)
  obtain ⟨t_1, u_2, g_3, rfl, rfl⟩ := hR
  have hP : va_P D vwCl [((r 4), .inr (1, [.ref (r 5), .int 0, .ref (r 6), .int 0, .ref (r 7), .int 0])), (h, .inr (0, [.ref (r 0), .ref (r 2), .ref (r 4), .ref (r 8), .int 0, .int 0])), ((r 0), .inr (3, [.ref (r 1), .int 0, .int 0, .int 0])), ((r 1), .inl (dA 2, 16, .inl (fun _ => 0))), (t_1, .inr (5, [.ref u_2, .int 0, .int 0, .int 0])), (u_2, .inl (dA 2, 0, .inl g_3))] H := hP
  have hD : va_D A [((r 4), .inr (1, [.ref (r 5), .int 0, .ref (r 6), .int 0, .ref (r 7), .int 0])), (h, .inr (0, [.ref (r 0), .ref (r 2), .ref (r 4), .ref (r 8), .int 0, .int 0])), ((r 0), .inr (3, [.ref (r 1), .int 0, .int 0, .int 0])), ((r 1), .inl (dA 2, 16, .inl (fun _ => 0))), (t_1, .inr (5, [.ref u_2, .int 0, .int 0, .int 0])), (u_2, .inl (dA 2, 0, .inl g_3))] := hD
  refine W.eq (g2 := F0 m 4 ls [.ref t_1]) rfl ?_
  refine lv_astore_n hx hb d44_4 rfl hl (by decide) rfl (fun ls hl => ?_)
  have hl : lv_has ls 10 [(3, .ref t_1), (0, .ref h), (1, .int i), (2, .int j)] := hl
  refine lv_aload_n hx hb d44_5 rfl (lv_at hl 1 rfl) ?_
  refine va_get (D := D) (ci := 0) (v := .ref (r 4)) (C := kR0) (T := kT0) (N := 6) hx hb hts ku0 hown hK hP 1 rfl rfl 2 (by decide) (hts _ ms_k107) (fun _ h => h) rfl d44_6 ?_
  refine lv_iload_n hx hb d44_9 rfl (lv_at hl 2 rfl) ?_
  refine ms_V (C := "MarkupStore$Tree") (rest := []) (as := [.int i]) (wr := [(h, .inr (0, [.ref (r 0), .ref (r 2), .ref (r 4), .ref (r 8), .int 0, .int 0])), ((r 0), .inr (3, [.ref (r 1), .int 0, .int 0, .int 0])), ((r 1), .inl (dA 2, 16, .inl (fun _ => 0))), (t_1, .inr (5, [.ref u_2, .int 0, .int 0, .int 0])), (u_2, .inl (dA 2, 0, .inl g_3))]) X hl (c_find l D dA s0 hE (r 4) (r 5) (r 6) (r 7) i) (List.forall_mem_cons.mpr ⟨ms_k745, List.forall_mem_cons.mpr ⟨ms_k746, List.forall_mem_cons.mpr ⟨ms_k747, List.forall_mem_cons.mpr ⟨ms_k6, List.forall_mem_cons.mpr ⟨ms_k748, fun _ h => absurd h List.not_mem_nil⟩⟩⟩⟩⟩) ⟨rfl, by decide +kernel, by decide +kernel, (by decide +kernel : (parseMethodDescriptor "(I)LMarkupStore$Node;").map (fun d => d.parameters.length) = some 1)⟩ (va_recv hK hP rfl (q0 := 0) rfl) hP hD hS [0] [1, 2, 3, 4, 5] rfl rfl ⟨by decide, by decide, by decide⟩ ⟨⟨Nat.le_of_ble_eq_true rfl, Nat.le_of_ble_eq_true rfl⟩, Nat.le_of_ble_eq_true rfl, Nat.le_of_ble_eq_true rfl⟩ rfl (Nat.le_of_ble_eq_true rfl) d44_10 (fun vv ww H locs hR hP hD hS => ?_)
  obtain ⟨rfl, rfl⟩ := hR
  have hP : va_P D vwCl [(h, .inr (0, [.ref (r 0), .ref (r 2), .ref (r 4), .ref (r 8), .int 0, .int 0])), ((r 0), .inr (3, [.ref (r 1), .int 0, .int 0, .int 0])), ((r 1), .inl (dA 2, 16, .inl (fun _ => 0))), (t_1, .inr (5, [.ref u_2, .int 0, .int 0, .int 0])), (u_2, .inl (dA 2, 0, .inl g_3)), ((r 4), .inr (1, [.ref (r 5), .int 0, .ref (r 6), .int 0, .ref (r 7), .int 0]))] H := hP
  have hD : va_D A [(h, .inr (0, [.ref (r 0), .ref (r 2), .ref (r 4), .ref (r 8), .int 0, .int 0])), ((r 0), .inr (3, [.ref (r 1), .int 0, .int 0, .int 0])), ((r 1), .inl (dA 2, 16, .inl (fun _ => 0))), (t_1, .inr (5, [.ref u_2, .int 0, .int 0, .int 0])), (u_2, .inl (dA 2, 0, .inl g_3)), ((r 4), .inr (1, [.ref (r 5), .int 0, .ref (r 6), .int 0, .ref (r 7), .int 0]))] := hD
  refine W.eq (g2 := F0 m 13 ls [.null]) rfl ?_
  refine lv_astoreN hx hb d44_13 hl (by decide) rfl (fun ls hl => ?_)
  have hl : lv_has ls 10 [(4, .null), (3, .ref t_1), (0, .ref h), (1, .int i), (2, .int j)] := hl
  refine lv_aloadN hx hb d44_15 (lv_at hl 0 rfl) ?_
  refine lv_ifnonnullN hx hb d44_17 ?_
  refine lv_sipush (v := (-1000)) hx hb d44_20 (by decide) ?_
  exact ms_iret X d44_23 hP hD hS (Nat.le_of_ble_eq_true rfl) (Nat.le_of_ble_eq_true rfl) rfl

set_option maxRecDepth 100000 in
set_option maxHeartbeats 8000000 in
theorem c_remove (l : Launch) (D : va_G) (dA : Nat → ClassId) (s0 : State) (hE : ms_EV D dA s0) (h : Nat) (r : Nat → Nat) (i : Int32) : ms_C l D s0 yM45 bM45 7 (Option.some Jvm.ClassFile.FieldType.int) 1 21 0 0 [.ref h, .int i] [(h, .inr (0, [.ref (r 0), .ref (r 2), .ref (r 4), .ref (r 8), .int 0, .int 0])), ((r 4), .inr (1, [.ref (r 5), .int 0, .ref (r 6), .int 0, .ref (r 7), .int 0]))] (fun vv _ => vv = some (.int (-1000))) := by
  refine ms_C.mk hE.1 (by decide) (Nat.le_of_ble_eq_true rfl) [(0, .ref h), (1, .int i)] rfl ?_
  intro p e s m below meth c A ls X hin hP hD hS hl
  have hx := X.1
  have hb := X.2.1
  have hml := X.2.2.1
  have hown : s.vm.findClass "MarkupStore" = some m.cls := X.2.2.2.1
  have hts := X.2.2.2.2.2.2.1
  have hK := X.2.2.2.2.2.2.2.2.1
  have hA := X.2.2.2.2.2.2.2.2.2.2
  refine lv_aload_n hx hb d45_0 rfl (lv_at hl 0 rfl) ?_
  refine va_get (D := D) (ci := 0) (v := .ref (r 4)) (C := kR0) (T := kT0) (N := 6) hx hb hts ku0 hown hK hP 0 rfl rfl 2 (by decide) (hts _ ms_k107) (fun _ h => h) rfl d45_1 ?_
  refine lv_iload_n hx hb d45_4 rfl (lv_at hl 1 rfl) ?_
  refine ms_V (C := "MarkupStore$Tree") (rest := []) (as := [.int i]) (wr := [(h, .inr (0, [.ref (r 0), .ref (r 2), .ref (r 4), .ref (r 8), .int 0, .int 0]))]) X hl (c_find l D dA s0 hE (r 4) (r 5) (r 6) (r 7) i) (List.forall_mem_cons.mpr ⟨ms_k745, List.forall_mem_cons.mpr ⟨ms_k746, List.forall_mem_cons.mpr ⟨ms_k747, List.forall_mem_cons.mpr ⟨ms_k6, List.forall_mem_cons.mpr ⟨ms_k748, fun _ h => absurd h List.not_mem_nil⟩⟩⟩⟩⟩) ⟨rfl, by decide +kernel, by decide +kernel, (by decide +kernel : (parseMethodDescriptor "(I)LMarkupStore$Node;").map (fun d => d.parameters.length) = some 1)⟩ (va_recv hK hP rfl (q0 := 1) rfl) hP hD hS [1] [0] rfl rfl ⟨by decide, by decide, by decide⟩ ⟨⟨Nat.le_of_ble_eq_true rfl, Nat.le_of_ble_eq_true rfl⟩, Nat.le_of_ble_eq_true rfl, Nat.le_of_ble_eq_true rfl⟩ rfl (Nat.le_of_ble_eq_true rfl) d45_5 (fun vv ww H locs hR hP hD hS => ?_)
  obtain ⟨rfl, rfl⟩ := hR
  have hP : va_P D vwCl [(h, .inr (0, [.ref (r 0), .ref (r 2), .ref (r 4), .ref (r 8), .int 0, .int 0])), ((r 4), .inr (1, [.ref (r 5), .int 0, .ref (r 6), .int 0, .ref (r 7), .int 0]))] H := hP
  have hD : va_D A [(h, .inr (0, [.ref (r 0), .ref (r 2), .ref (r 4), .ref (r 8), .int 0, .int 0])), ((r 4), .inr (1, [.ref (r 5), .int 0, .ref (r 6), .int 0, .ref (r 7), .int 0]))] := hD
  refine W.eq (g2 := F0 m 8 ls [.null]) rfl ?_
  refine lv_astore_nN hx hb d45_8 rfl hl (by decide) rfl (fun ls hl => ?_)
  have hl : lv_has ls 7 [(2, .null), (0, .ref h), (1, .int i)] := hl
  refine lv_aload_nN hx hb d45_9 rfl (lv_at hl 0 rfl) ?_
  refine lv_ifnonnullN hx hb d45_10 ?_
  refine lv_sipush (v := (-1000)) hx hb d45_13 (by decide) ?_
  exact ms_iret X d45_16 hP hD hS (Nat.le_of_ble_eq_true rfl) (Nat.le_of_ble_eq_true rfl) rfl

set_option maxRecDepth 100000 in
set_option maxHeartbeats 8000000 in
theorem c_replace (l : Launch) (D : va_G) (dA : Nat → ClassId) (s0 : State) (hE : ms_EV D dA s0) (h : Nat) (r : Nat → Nat) (i : Int32) : ms_C l D s0 yM46 bM46 4 (Option.some Jvm.ClassFile.FieldType.boolean) 7 232 2 4 [.ref h, .int i] [(h, .inr (0, [.ref (r 0), .ref (r 2), .ref (r 4), .ref (r 8), .int 0, .int 0])), ((r 0), .inr (3, [.ref (r 1), .int 0, .int 0, .int 0])), ((r 1), .inl (dA 2, 16, .inl (fun _ => 0))), ((r 4), .inr (1, [.ref (r 5), .int 0, .ref (r 6), .int 0, .ref (r 7), .int 0]))] (fun vv _ => vv = some (.int 0)) := by
  refine ms_C.mk hE.1 (by decide) (Nat.le_of_ble_eq_true rfl) [(0, .ref h), (1, .int i)] rfl ?_
  intro p e s m below meth c A ls X hin hP hD hS hl
  have hx := X.1
  have hb := X.2.1
  have hml := X.2.2.1
  have hown : s.vm.findClass "MarkupStore" = some m.cls := X.2.2.2.1
  have hts := X.2.2.2.2.2.2.1
  have hK := X.2.2.2.2.2.2.2.2.1
  have hA := X.2.2.2.2.2.2.2.2.2.2
  refine lv_aload_n hx hb d46_0 rfl (lv_at hl 0 rfl) ?_
  refine ms_V (C := "MarkupStore") (rest := []) (as := []) (wr := [((r 4), .inr (1, [.ref (r 5), .int 0, .ref (r 6), .int 0, .ref (r 7), .int 0]))]) X hl (c_useBuf l D dA s0 hE h r) (List.forall_mem_cons.mpr ⟨ms_k237, List.forall_mem_cons.mpr ⟨ms_k239, List.forall_mem_cons.mpr ⟨ms_p0, List.forall_mem_cons.mpr ⟨ms_k1, List.forall_mem_cons.mpr ⟨ms_k240, fun _ h => absurd h List.not_mem_nil⟩⟩⟩⟩⟩) ⟨rfl, by decide +kernel, by decide +kernel, (by decide +kernel : (parseMethodDescriptor "()Ljava/lang/String;").map (fun d => d.parameters.length) = some 0)⟩ (va_recv hK hP rfl (q0 := 0) rfl) hP hD hS [0, 1, 2] [3] rfl rfl ⟨by decide, by decide, by decide⟩ ⟨⟨Nat.le_of_ble_eq_true rfl, Nat.le_of_ble_eq_true rfl⟩, Nat.le_of_ble_eq_true rfl, Nat.le_of_ble_eq_true rfl⟩ rfl (Nat.le_of_ble_eq_true rfl) d46_1 (fun vv ww H locs hR hP hD hS => ?_)
  obtain ⟨t_1, u_2, g_3, rfl, rfl⟩ := hR
  have hP : va_P D vwCl [((r 4), .inr (1, [.ref (r 5), .int 0, .ref (r 6), .int 0, .ref (r 7), .int 0])), (h, .inr (0, [.ref (r 0), .ref (r 2), .ref (r 4), .ref (r 8), .int 0, .int 0])), ((r 0), .inr (3, [.ref (r 1), .int 0, .int 0, .int 0])), ((r 1), .inl (dA 2, 16, .inl (fun _ => 0))), (t_1, .inr (5, [.ref u_2, .int 0, .int 0, .int 0])), (u_2, .inl (dA 2, 0, .inl g_3))] H := hP
  have hD : va_D A [((r 4), .inr (1, [.ref (r 5), .int 0, .ref (r 6), .int 0, .ref (r 7), .int 0])), (h, .inr (0, [.ref (r 0), .ref (r 2), .ref (r 4), .ref (r 8), .int 0, .int 0])), ((r 0), .inr (3, [.ref (r 1), .int 0, .int 0, .int 0])), ((r 1), .inl (dA 2, 16, .inl (fun _ => 0))), (t_1, .inr (5, [.ref u_2, .int 0, .int 0, .int 0])), (u_2, .inl (dA 2, 0, .inl g_3))] := hD
  refine W.eq (g2 := F0 m 4 ls [.ref t_1]) rfl ?_
  refine lv_astore_n hx hb d46_4 rfl hl (by decide) rfl (fun ls hl => ?_)
  have hl : lv_has ls 4 [(2, .ref t_1), (0, .ref h), (1, .int i)] := hl
  refine lv_aload_n hx hb d46_5 rfl (lv_at hl 1 rfl) ?_
  refine va_get (D := D) (ci := 0) (v := .ref (r 4)) (C := kR0) (T := kT0) (N := 6) hx hb hts ku0 hown hK hP 1 rfl rfl 2 (by decide) (hts _ ms_k107) (fun _ h => h) rfl d46_6 ?_
  refine lv_iload_n hx hb d46_9 rfl (lv_at hl 2 rfl) ?_
  refine ms_V (C := "MarkupStore$Tree") (rest := []) (as := [.int i]) (wr := [(h, .inr (0, [.ref (r 0), .ref (r 2), .ref (r 4), .ref (r 8), .int 0, .int 0])), ((r 0), .inr (3, [.ref (r 1), .int 0, .int 0, .int 0])), ((r 1), .inl (dA 2, 16, .inl (fun _ => 0))), (t_1, .inr (5, [.ref u_2, .int 0, .int 0, .int 0])), (u_2, .inl (dA 2, 0, .inl g_3))]) X hl (c_find l D dA s0 hE (r 4) (r 5) (r 6) (r 7) i) (List.forall_mem_cons.mpr ⟨ms_k745, List.forall_mem_cons.mpr ⟨ms_k746, List.forall_mem_cons.mpr ⟨ms_k747, List.forall_mem_cons.mpr ⟨ms_k6, List.forall_mem_cons.mpr ⟨ms_k748, fun _ h => absurd h List.not_mem_nil⟩⟩⟩⟩⟩) ⟨rfl, by decide +kernel, by decide +kernel, (by decide +kernel : (parseMethodDescriptor "(I)LMarkupStore$Node;").map (fun d => d.parameters.length) = some 1)⟩ (va_recv hK hP rfl (q0 := 0) rfl) hP hD hS [0] [1, 2, 3, 4, 5] rfl rfl ⟨by decide, by decide, by decide⟩ ⟨⟨Nat.le_of_ble_eq_true rfl, Nat.le_of_ble_eq_true rfl⟩, Nat.le_of_ble_eq_true rfl, Nat.le_of_ble_eq_true rfl⟩ rfl (Nat.le_of_ble_eq_true rfl) d46_10 (fun vv ww H locs hR hP hD hS => ?_)
  obtain ⟨rfl, rfl⟩ := hR
  have hP : va_P D vwCl [(h, .inr (0, [.ref (r 0), .ref (r 2), .ref (r 4), .ref (r 8), .int 0, .int 0])), ((r 0), .inr (3, [.ref (r 1), .int 0, .int 0, .int 0])), ((r 1), .inl (dA 2, 16, .inl (fun _ => 0))), (t_1, .inr (5, [.ref u_2, .int 0, .int 0, .int 0])), (u_2, .inl (dA 2, 0, .inl g_3)), ((r 4), .inr (1, [.ref (r 5), .int 0, .ref (r 6), .int 0, .ref (r 7), .int 0]))] H := hP
  have hD : va_D A [(h, .inr (0, [.ref (r 0), .ref (r 2), .ref (r 4), .ref (r 8), .int 0, .int 0])), ((r 0), .inr (3, [.ref (r 1), .int 0, .int 0, .int 0])), ((r 1), .inl (dA 2, 16, .inl (fun _ => 0))), (t_1, .inr (5, [.ref u_2, .int 0, .int 0, .int 0])), (u_2, .inl (dA 2, 0, .inl g_3)), ((r 4), .inr (1, [.ref (r 5), .int 0, .ref (r 6), .int 0, .ref (r 7), .int 0]))] := hD
  refine W.eq (g2 := F0 m 13 ls [.null]) rfl ?_
  refine lv_astore_nN hx hb d46_13 rfl hl (by decide) rfl (fun ls hl => ?_)
  have hl : lv_has ls 4 [(3, .null), (2, .ref t_1), (0, .ref h), (1, .int i)] := hl
  refine lv_aload_nN hx hb d46_14 rfl (lv_at hl 0 rfl) ?_
  refine lv_ifnullN hx hb d46_15 rfl ?_
  refine lv_iconst (v := 0) hx hb d46_29 (by decide) ?_
  exact ms_zret X d46_30 hP hD hS (Nat.le_of_ble_eq_true rfl) (Nat.le_of_ble_eq_true rfl) rfl (rfl)

set_option maxRecDepth 100000 in
set_option maxHeartbeats 8000000 in
theorem c_query (l : Launch) (D : va_G) (dA : Nat → ClassId) (s0 : State) (hE : ms_EV D dA s0) (h : Nat) (r : Nat → Nat) (i : Int32) : ms_C l D s0 yM47 bM47 7 (Option.some Jvm.ClassFile.FieldType.int) 7 232 2 4 [.ref h, .int i] [(h, .inr (0, [.ref (r 0), .ref (r 2), .ref (r 4), .ref (r 8), .int 0, .int 0])), ((r 0), .inr (3, [.ref (r 1), .int 0, .int 0, .int 0])), ((r 1), .inl (dA 2, 16, .inl (fun _ => 0))), ((r 4), .inr (1, [.ref (r 5), .int 0, .ref (r 6), .int 0, .ref (r 7), .int 0]))] (fun vv _ => vv = some (.int (-1000))) := by
  refine ms_C.mk hE.1 (by decide) (Nat.le_of_ble_eq_true rfl) [(0, .ref h), (1, .int i)] rfl ?_
  intro p e s m below meth c A ls X hin hP hD hS hl
  have hx := X.1
  have hb := X.2.1
  have hml := X.2.2.1
  have hown : s.vm.findClass "MarkupStore" = some m.cls := X.2.2.2.1
  have hts := X.2.2.2.2.2.2.1
  have hK := X.2.2.2.2.2.2.2.2.1
  have hA := X.2.2.2.2.2.2.2.2.2.2
  refine lv_aload_n hx hb d47_0 rfl (lv_at hl 0 rfl) ?_
  refine ms_V (C := "MarkupStore") (rest := []) (as := []) (wr := [((r 4), .inr (1, [.ref (r 5), .int 0, .ref (r 6), .int 0, .ref (r 7), .int 0]))]) X hl (c_useBuf l D dA s0 hE h r) (List.forall_mem_cons.mpr ⟨ms_k237, List.forall_mem_cons.mpr ⟨ms_k239, List.forall_mem_cons.mpr ⟨ms_p0, List.forall_mem_cons.mpr ⟨ms_k1, List.forall_mem_cons.mpr ⟨ms_k240, fun _ h => absurd h List.not_mem_nil⟩⟩⟩⟩⟩) ⟨rfl, by decide +kernel, by decide +kernel, (by decide +kernel : (parseMethodDescriptor "()Ljava/lang/String;").map (fun d => d.parameters.length) = some 0)⟩ (va_recv hK hP rfl (q0 := 0) rfl) hP hD hS [0, 1, 2] [3] rfl rfl ⟨by decide, by decide, by decide⟩ ⟨⟨Nat.le_of_ble_eq_true rfl, Nat.le_of_ble_eq_true rfl⟩, Nat.le_of_ble_eq_true rfl, Nat.le_of_ble_eq_true rfl⟩ rfl (Nat.le_of_ble_eq_true rfl) d47_1 (fun vv ww H locs hR hP hD hS => ?_)
  obtain ⟨t_1, u_2, g_3, rfl, rfl⟩ := hR
  have hP : va_P D vwCl [((r 4), .inr (1, [.ref (r 5), .int 0, .ref (r 6), .int 0, .ref (r 7), .int 0])), (h, .inr (0, [.ref (r 0), .ref (r 2), .ref (r 4), .ref (r 8), .int 0, .int 0])), ((r 0), .inr (3, [.ref (r 1), .int 0, .int 0, .int 0])), ((r 1), .inl (dA 2, 16, .inl (fun _ => 0))), (t_1, .inr (5, [.ref u_2, .int 0, .int 0, .int 0])), (u_2, .inl (dA 2, 0, .inl g_3))] H := hP
  have hD : va_D A [((r 4), .inr (1, [.ref (r 5), .int 0, .ref (r 6), .int 0, .ref (r 7), .int 0])), (h, .inr (0, [.ref (r 0), .ref (r 2), .ref (r 4), .ref (r 8), .int 0, .int 0])), ((r 0), .inr (3, [.ref (r 1), .int 0, .int 0, .int 0])), ((r 1), .inl (dA 2, 16, .inl (fun _ => 0))), (t_1, .inr (5, [.ref u_2, .int 0, .int 0, .int 0])), (u_2, .inl (dA 2, 0, .inl g_3))] := hD
  refine W.eq (g2 := F0 m 4 ls [.ref t_1]) rfl ?_
  refine lv_astore_n hx hb d47_4 rfl hl (by decide) rfl (fun ls hl => ?_)
  have hl : lv_has ls 7 [(2, .ref t_1), (0, .ref h), (1, .int i)] := hl
  refine lv_aload_n hx hb d47_5 rfl (lv_at hl 1 rfl) ?_
  refine va_get (D := D) (ci := 0) (v := .ref (r 4)) (C := kR0) (T := kT0) (N := 6) hx hb hts ku0 hown hK hP 1 rfl rfl 2 (by decide) (hts _ ms_k107) (fun _ h => h) rfl d47_6 ?_
  refine lv_iload_n hx hb d47_9 rfl (lv_at hl 2 rfl) ?_
  refine ms_V (C := "MarkupStore$Tree") (rest := []) (as := [.int i]) (wr := [(h, .inr (0, [.ref (r 0), .ref (r 2), .ref (r 4), .ref (r 8), .int 0, .int 0])), ((r 0), .inr (3, [.ref (r 1), .int 0, .int 0, .int 0])), ((r 1), .inl (dA 2, 16, .inl (fun _ => 0))), (t_1, .inr (5, [.ref u_2, .int 0, .int 0, .int 0])), (u_2, .inl (dA 2, 0, .inl g_3))]) X hl (c_find l D dA s0 hE (r 4) (r 5) (r 6) (r 7) i) (List.forall_mem_cons.mpr ⟨ms_k745, List.forall_mem_cons.mpr ⟨ms_k746, List.forall_mem_cons.mpr ⟨ms_k747, List.forall_mem_cons.mpr ⟨ms_k6, List.forall_mem_cons.mpr ⟨ms_k748, fun _ h => absurd h List.not_mem_nil⟩⟩⟩⟩⟩) ⟨rfl, by decide +kernel, by decide +kernel, (by decide +kernel : (parseMethodDescriptor "(I)LMarkupStore$Node;").map (fun d => d.parameters.length) = some 1)⟩ (va_recv hK hP rfl (q0 := 0) rfl) hP hD hS [0] [1, 2, 3, 4, 5] rfl rfl ⟨by decide, by decide, by decide⟩ ⟨⟨Nat.le_of_ble_eq_true rfl, Nat.le_of_ble_eq_true rfl⟩, Nat.le_of_ble_eq_true rfl, Nat.le_of_ble_eq_true rfl⟩ rfl (Nat.le_of_ble_eq_true rfl) d47_10 (fun vv ww H locs hR hP hD hS => ?_)
  obtain ⟨rfl, rfl⟩ := hR
  have hP : va_P D vwCl [(h, .inr (0, [.ref (r 0), .ref (r 2), .ref (r 4), .ref (r 8), .int 0, .int 0])), ((r 0), .inr (3, [.ref (r 1), .int 0, .int 0, .int 0])), ((r 1), .inl (dA 2, 16, .inl (fun _ => 0))), (t_1, .inr (5, [.ref u_2, .int 0, .int 0, .int 0])), (u_2, .inl (dA 2, 0, .inl g_3)), ((r 4), .inr (1, [.ref (r 5), .int 0, .ref (r 6), .int 0, .ref (r 7), .int 0]))] H := hP
  have hD : va_D A [(h, .inr (0, [.ref (r 0), .ref (r 2), .ref (r 4), .ref (r 8), .int 0, .int 0])), ((r 0), .inr (3, [.ref (r 1), .int 0, .int 0, .int 0])), ((r 1), .inl (dA 2, 16, .inl (fun _ => 0))), (t_1, .inr (5, [.ref u_2, .int 0, .int 0, .int 0])), (u_2, .inl (dA 2, 0, .inl g_3)), ((r 4), .inr (1, [.ref (r 5), .int 0, .ref (r 6), .int 0, .ref (r 7), .int 0]))] := hD
  refine W.eq (g2 := F0 m 13 ls [.null]) rfl ?_
  refine lv_astore_nN hx hb d47_13 rfl hl (by decide) rfl (fun ls hl => ?_)
  have hl : lv_has ls 7 [(3, .null), (2, .ref t_1), (0, .ref h), (1, .int i)] := hl
  refine lv_aload_nN hx hb d47_14 rfl (lv_at hl 0 rfl) ?_
  refine lv_ifnonnullN hx hb d47_15 ?_
  refine lv_sipush (v := (-1000)) hx hb d47_18 (by decide) ?_
  exact ms_iret X d47_21 hP hD hS (Nat.le_of_ble_eq_true rfl) (Nat.le_of_ble_eq_true rfl) rfl

set_option maxRecDepth 100000 in
set_option maxHeartbeats 8000000 in
theorem c_result (l : Launch) (D : va_G) (dA : Nat → ClassId) (s0 : State) (hE : ms_EV D dA s0) (h : Nat) (r : Nat → Nat) (i : Int32) : ms_C l D s0 yM48 bM48 2 (Option.some Jvm.ClassFile.FieldType.int) 0 0 0 0 [.ref h, .int i] [(h, .inr (0, [.ref (r 0), .ref (r 2), .ref (r 4), .ref (r 8), .int 0, .int 0]))] (fun vv _ => vv = some (.int (-1000))) := by
  refine ms_C.mk hE.1 (by decide) (Nat.le_of_ble_eq_true rfl) [(0, .ref h), (1, .int i)] rfl ?_
  intro p e s m below meth c A ls X hin hP hD hS hl
  have hx := X.1
  have hb := X.2.1
  have hml := X.2.2.1
  have hown : s.vm.findClass "MarkupStore" = some m.cls := X.2.2.2.1
  have hts := X.2.2.2.2.2.2.1
  have hK := X.2.2.2.2.2.2.2.2.1
  have hA := X.2.2.2.2.2.2.2.2.2.2
  refine lv_iload_n hx hb d48_0 rfl (lv_at hl 1 rfl) ?_
  refine lv_if_lt hx hb d48_1 rfl (fun hc => ?_) (fun hc => ?_)
  · refine lv_sipush (v := (-1000)) hx hb d48_21 (by decide) ?_
    exact ms_iret X d48_24 hP hD hS (Nat.le_of_ble_eq_true rfl) (Nat.le_of_ble_eq_true rfl) rfl
  · refine lv_iload_n hx hb d48_4 rfl (lv_at hl 1 rfl) ?_
    refine lv_aload_n hx hb d48_5 rfl (lv_at hl 0 rfl) ?_
    refine va_get (D := D) (ci := 0) (v := .int 0) (C := kR0) (T := kT0) (N := 6) hx hb hts ku0 hown hK hP 0 rfl rfl 4 (by decide) (hts _ ms_k109) (fun _ h => h) rfl d48_6 ?_
    refine lv_icmp_ge hx hb d48_9 rfl (fun _ => ?_) (fun h9 => absurd (Int32.not_lt.mp hc) h9)
    refine lv_sipush (v := (-1000)) hx hb d48_21 (by decide) ?_
    exact ms_iret X d48_24 hP hD hS (Nat.le_of_ble_eq_true rfl) (Nat.le_of_ble_eq_true rfl) rfl

set_option maxRecDepth 100000 in
set_option maxHeartbeats 8000000 in
theorem c_commit (l : Launch) (D : va_G) (dA : Nat → ClassId) (s0 : State) (hE : ms_EV D dA s0) (h : Nat) (r : Nat → Nat) : ms_C l D s0 yM49 bM49 2 (Option.some Jvm.ClassFile.FieldType.int) 2 41 0 0 [.ref h] [(h, .inr (0, [.ref (r 0), .ref (r 2), .ref (r 4), .ref (r 8), .int 0, .int 0])), ((r 4), .inr (1, [.ref (r 5), .int 0, .ref (r 6), .int 0, .ref (r 7), .int 0]))] (fun vv _ => vv = some (.int 0)) := by
  refine ms_C.mk hE.1 (by decide) (Nat.le_of_ble_eq_true rfl) [(0, .ref h)] rfl ?_
  intro p e s m below meth c A ls X hin hP hD hS hl
  have hx := X.1
  have hb := X.2.1
  have hml := X.2.2.1
  have hown : s.vm.findClass "MarkupStore" = some m.cls := X.2.2.2.1
  have hts := X.2.2.2.2.2.2.1
  have hK := X.2.2.2.2.2.2.2.2.1
  have hA := X.2.2.2.2.2.2.2.2.2.2
  refine lv_aload_n hx hb d49_0 rfl (lv_at hl 0 rfl) ?_
  refine va_get (D := D) (ci := 0) (v := .int 0) (C := kR0) (T := kT0) (N := 6) hx hb hts ku0 hown hK hP 0 rfl rfl 5 (by decide) (hts _ ms_k110) (fun _ h => h) rfl d49_1 ?_
  refine lv_istore_n hx hb d49_4 rfl hl (by decide) rfl (fun ls hl => ?_)
  have hl : lv_has ls 2 [(1, .int 0), (0, .ref h)] := hl
  refine lv_aload_n hx hb d49_5 rfl (lv_at hl 1 rfl) ?_
  refine ms_V (C := "MarkupStore") (rest := []) (as := []) (wr := []) X hl (c_beginB l D dA s0 hE h r) (List.forall_mem_cons.mpr ⟨ms_k733, List.forall_mem_cons.mpr ⟨ms_k735, List.forall_mem_cons.mpr ⟨ms_p15, List.forall_mem_cons.mpr ⟨ms_k1, List.forall_mem_cons.mpr ⟨ms_k736, fun _ h => absurd h List.not_mem_nil⟩⟩⟩⟩⟩) ⟨rfl, by decide +kernel, by decide +kernel, (by decide +kernel : (parseMethodDescriptor "()V").map (fun d => d.parameters.length) = some 0)⟩ (va_recv hK hP rfl (q0 := 0) rfl) hP hD hS [0, 1] [] rfl rfl ⟨by decide, by decide, by decide⟩ ⟨⟨Nat.le_of_ble_eq_true rfl, Nat.le_of_ble_eq_true rfl⟩, Nat.le_of_ble_eq_true rfl, Nat.le_of_ble_eq_true rfl⟩ rfl (Nat.le_of_ble_eq_true rfl) d49_6 (fun vv ww H locs hR hP hD hS => ?_)
  obtain ⟨rfl, rfl⟩ := hR
  have hP : va_P D vwCl [(h, .inr (0, [.ref (r 0), .ref (r 2), .ref (r 4), .ref (r 8), .int 0, .int 0])), ((r 4), .inr (1, [.ref (r 5), .int 0, .ref (r 6), .int 0, .ref (r 7), .int 0]))] H := hP
  have hD : va_D A [(h, .inr (0, [.ref (r 0), .ref (r 2), .ref (r 4), .ref (r 8), .int 0, .int 0])), ((r 4), .inr (1, [.ref (r 5), .int 0, .ref (r 6), .int 0, .ref (r 7), .int 0]))] := hD
  refine W.eq (g2 := F0 m 9 ls []) rfl ?_
  refine lv_iload_n hx hb d49_9 rfl (lv_at hl 0 rfl) ?_
  exact ms_iret X d49_10 hP hD hS (Nat.le_of_ble_eq_true rfl) (Nat.le_of_ble_eq_true rfl) rfl

set_option maxRecDepth 100000 in
set_option maxHeartbeats 8000000 in
theorem c_crash (l : Launch) (D : va_G) (dA : Nat → ClassId) (s0 : State) (hE : ms_EV D dA s0) (h : Nat) (r : Nat → Nat) : ms_C l D s0 yM50 bM50 2 (Option.some Jvm.ClassFile.FieldType.int) 4 85 0 0 [.ref h] [(h, .inr (0, [.ref (r 0), .ref (r 2), .ref (r 4), .ref (r 8), .int 0, .int 0])), ((r 0), .inr (3, [.ref (r 1), .int 0, .int 0, .int 0])), ((r 1), .inl (dA 2, 16, .inl (fun _ => 0))), ((r 4), .inr (1, [.ref (r 5), .int 0, .ref (r 6), .int 0, .ref (r 7), .int 0]))] (fun vv _ => vv = some (.int 0)) := by
  refine ms_C.mk hE.1 (by decide) (Nat.le_of_ble_eq_true rfl) [(0, .ref h)] rfl ?_
  intro p e s m below meth c A ls X hin hP hD hS hl
  have hx := X.1
  have hb := X.2.1
  have hml := X.2.2.1
  have hown : s.vm.findClass "MarkupStore" = some m.cls := X.2.2.2.1
  have hts := X.2.2.2.2.2.2.1
  have hK := X.2.2.2.2.2.2.2.2.1
  have hA := X.2.2.2.2.2.2.2.2.2.2
  refine lv_aload_n hx hb d50_0 rfl (lv_at hl 0 rfl) ?_
  refine va_get (D := D) (ci := 0) (v := .int 0) (C := kR0) (T := kT0) (N := 6) hx hb hts ku0 hown hK hP 0 rfl rfl 5 (by decide) (hts _ ms_k110) (fun _ h => h) rfl d50_1 ?_
  refine lv_istore_n hx hb d50_4 rfl hl (by decide) rfl (fun ls hl => ?_)
  have hl : lv_has ls 2 [(1, .int 0), (0, .ref h)] := hl
  refine lv_aload_n hx hb d50_5 rfl (lv_at hl 1 rfl) ?_
  refine va_get (D := D) (ci := 0) (v := .ref (r 0)) (C := kR0) (T := kT0) (N := 6) hx hb hts ku0 hown hK hP 0 rfl rfl 0 (by decide) (hts _ ms_k105) (fun _ h => h) rfl d50_6 ?_
  refine lv_iconst (v := 0) hx hb d50_9 (by decide) ?_
  refine ms_V (C := "java/lang/StringBuilder") (rest := []) (as := [.int 0]) (wr := [(h, .inr (0, [.ref (r 0), .ref (r 2), .ref (r 4), .ref (r 8), .int 0, .int 0])), ((r 4), .inr (1, [.ref (r 5), .int 0, .ref (r 6), .int 0, .ref (r 7), .int 0]))]) X hl (c_SBset l D dA s0 hE (r 0) (r 1) (fun _ => 0)) (List.forall_mem_cons.mpr ⟨ms_k295, List.forall_mem_cons.mpr ⟨ms_k296, List.forall_mem_cons.mpr ⟨ms_k297, List.forall_mem_cons.mpr ⟨ms_k3, List.forall_mem_cons.mpr ⟨ms_k298, fun _ h => absurd h List.not_mem_nil⟩⟩⟩⟩⟩) ⟨rfl, by decide +kernel, by decide +kernel, (by decide +kernel : (parseMethodDescriptor "(I)V").map (fun d => d.parameters.length) = some 1)⟩ (va_recv hK hP rfl (q0 := 1) rfl) hP hD hS [1, 2] [0, 3] rfl rfl ⟨by decide, by decide, by decide⟩ ⟨⟨Nat.le_of_ble_eq_true rfl, Nat.le_of_ble_eq_true rfl⟩, Nat.le_of_ble_eq_true rfl, Nat.le_of_ble_eq_true rfl⟩ rfl (Nat.le_of_ble_eq_true rfl) d50_10 (fun vv ww H locs hR hP hD hS => ?_)
  obtain ⟨rfl, rfl⟩ := hR
  have hP : va_P D vwCl [(h, .inr (0, [.ref (r 0), .ref (r 2), .ref (r 4), .ref (r 8), .int 0, .int 0])), ((r 4), .inr (1, [.ref (r 5), .int 0, .ref (r 6), .int 0, .ref (r 7), .int 0])), ((r 0), .inr (3, [.ref (r 1), .int 0, .int 0, .int 0])), ((r 1), .inl (dA 2, 16, .inl (fun _ => 0)))] H := hP
  have hD : va_D A [(h, .inr (0, [.ref (r 0), .ref (r 2), .ref (r 4), .ref (r 8), .int 0, .int 0])), ((r 4), .inr (1, [.ref (r 5), .int 0, .ref (r 6), .int 0, .ref (r 7), .int 0])), ((r 0), .inr (3, [.ref (r 1), .int 0, .int 0, .int 0])), ((r 1), .inl (dA 2, 16, .inl (fun _ => 0)))] := hD
  refine W.eq (g2 := F0 m 13 ls []) rfl ?_
  refine lv_aload_n hx hb d50_13 rfl (lv_at hl 1 rfl) ?_
  refine va_get (D := D) (ci := 0) (v := .ref (r 4)) (C := kR0) (T := kT0) (N := 6) hx hb hts ku0 hown hK hP 0 rfl rfl 2 (by decide) (hts _ ms_k107) (fun _ h => h) rfl d50_14 ?_
  refine ms_V (C := "MarkupStore$Tree") (rest := []) (as := []) (wr := [(h, .inr (0, [.ref (r 0), .ref (r 2), .ref (r 4), .ref (r 8), .int 0, .int 0])), ((r 0), .inr (3, [.ref (r 1), .int 0, .int 0, .int 0])), ((r 1), .inl (dA 2, 16, .inl (fun _ => 0)))]) X hl (c_giveB l D dA s0 hE (r 4) (r 5) (r 6) (r 7)) (List.forall_mem_cons.mpr ⟨ms_k1209, List.forall_mem_cons.mpr ⟨ms_k1210, List.forall_mem_cons.mpr ⟨ms_k1211, List.forall_mem_cons.mpr ⟨ms_k6, List.forall_mem_cons.mpr ⟨ms_k1212, fun _ h => absurd h List.not_mem_nil⟩⟩⟩⟩⟩) ⟨rfl, by decide +kernel, by decide +kernel, (by decide +kernel : (parseMethodDescriptor "()V").map (fun d => d.parameters.length) = some 0)⟩ (va_recv hK hP rfl (q0 := 1) rfl) hP hD hS [1] [0, 2, 3] rfl rfl ⟨by decide, by decide, by decide⟩ ⟨⟨Nat.le_of_ble_eq_true rfl, Nat.le_of_ble_eq_true rfl⟩, Nat.le_of_ble_eq_true rfl, Nat.le_of_ble_eq_true rfl⟩ rfl (Nat.le_of_ble_eq_true rfl) d50_17 (fun vv ww H locs hR hP hD hS => ?_)
  obtain ⟨rfl, rfl⟩ := hR
  have hP : va_P D vwCl [(h, .inr (0, [.ref (r 0), .ref (r 2), .ref (r 4), .ref (r 8), .int 0, .int 0])), ((r 0), .inr (3, [.ref (r 1), .int 0, .int 0, .int 0])), ((r 1), .inl (dA 2, 16, .inl (fun _ => 0))), ((r 4), .inr (1, [.ref (r 5), .int 0, .ref (r 6), .int 0, .ref (r 7), .int 0]))] H := hP
  have hD : va_D A [(h, .inr (0, [.ref (r 0), .ref (r 2), .ref (r 4), .ref (r 8), .int 0, .int 0])), ((r 0), .inr (3, [.ref (r 1), .int 0, .int 0, .int 0])), ((r 1), .inl (dA 2, 16, .inl (fun _ => 0))), ((r 4), .inr (1, [.ref (r 5), .int 0, .ref (r 6), .int 0, .ref (r 7), .int 0]))] := hD
  refine W.eq (g2 := F0 m 20 ls []) rfl ?_
  refine lv_aload_n hx hb d50_20 rfl (lv_at hl 1 rfl) ?_
  refine ms_V (C := "MarkupStore") (rest := []) (as := []) (wr := [((r 0), .inr (3, [.ref (r 1), .int 0, .int 0, .int 0])), ((r 1), .inl (dA 2, 16, .inl (fun _ => 0)))]) X hl (c_beginB l D dA s0 hE h r) (List.forall_mem_cons.mpr ⟨ms_k733, List.forall_mem_cons.mpr ⟨ms_k735, List.forall_mem_cons.mpr ⟨ms_p15, List.forall_mem_cons.mpr ⟨ms_k1, List.forall_mem_cons.mpr ⟨ms_k736, fun _ h => absurd h List.not_mem_nil⟩⟩⟩⟩⟩) ⟨rfl, by decide +kernel, by decide +kernel, (by decide +kernel : (parseMethodDescriptor "()V").map (fun d => d.parameters.length) = some 0)⟩ (va_recv hK hP rfl (q0 := 0) rfl) hP hD hS [0, 3] [1, 2] rfl rfl ⟨by decide, by decide, by decide⟩ ⟨⟨Nat.le_of_ble_eq_true rfl, Nat.le_of_ble_eq_true rfl⟩, Nat.le_of_ble_eq_true rfl, Nat.le_of_ble_eq_true rfl⟩ rfl (Nat.le_of_ble_eq_true rfl) d50_21 (fun vv ww H locs hR hP hD hS => ?_)
  obtain ⟨rfl, rfl⟩ := hR
  have hP : va_P D vwCl [((r 0), .inr (3, [.ref (r 1), .int 0, .int 0, .int 0])), ((r 1), .inl (dA 2, 16, .inl (fun _ => 0))), (h, .inr (0, [.ref (r 0), .ref (r 2), .ref (r 4), .ref (r 8), .int 0, .int 0])), ((r 4), .inr (1, [.ref (r 5), .int 0, .ref (r 6), .int 0, .ref (r 7), .int 0]))] H := hP
  have hD : va_D A [((r 0), .inr (3, [.ref (r 1), .int 0, .int 0, .int 0])), ((r 1), .inl (dA 2, 16, .inl (fun _ => 0))), (h, .inr (0, [.ref (r 0), .ref (r 2), .ref (r 4), .ref (r 8), .int 0, .int 0])), ((r 4), .inr (1, [.ref (r 5), .int 0, .ref (r 6), .int 0, .ref (r 7), .int 0]))] := hD
  refine W.eq (g2 := F0 m 24 ls []) rfl ?_
  refine lv_iload_n hx hb d50_24 rfl (lv_at hl 0 rfl) ?_
  exact ms_iret X d50_25 hP hD hS (Nat.le_of_ble_eq_true rfl) (Nat.le_of_ble_eq_true rfl) rfl

set_option maxRecDepth 100000 in
set_option maxHeartbeats 8000000 in
theorem c_kind (l : Launch) (D : va_G) (dA : Nat → ClassId) (s0 : State) (hE : ms_EV D dA s0) (h : Nat) (r : Nat → Nat) (i : Int32) : ms_C l D s0 yM51 bM51 3 (Option.some Jvm.ClassFile.FieldType.int) 1 21 0 0 [.ref h, .int i] [(h, .inr (0, [.ref (r 0), .ref (r 2), .ref (r 4), .ref (r 8), .int 0, .int 0])), ((r 4), .inr (1, [.ref (r 5), .int 0, .ref (r 6), .int 0, .ref (r 7), .int 0]))] (fun vv _ => vv = some (.int (-1000))) := by
  refine ms_C.mk hE.1 (by decide) (Nat.le_of_ble_eq_true rfl) [(0, .ref h), (1, .int i)] rfl ?_
  intro p e s m below meth c A ls X hin hP hD hS hl
  have hx := X.1
  have hb := X.2.1
  have hml := X.2.2.1
  have hown : s.vm.findClass "MarkupStore" = some m.cls := X.2.2.2.1
  have hts := X.2.2.2.2.2.2.1
  have hK := X.2.2.2.2.2.2.2.2.1
  have hA := X.2.2.2.2.2.2.2.2.2.2
  refine lv_aload_n hx hb d51_0 rfl (lv_at hl 0 rfl) ?_
  refine va_get (D := D) (ci := 0) (v := .ref (r 4)) (C := kR0) (T := kT0) (N := 6) hx hb hts ku0 hown hK hP 0 rfl rfl 2 (by decide) (hts _ ms_k107) (fun _ h => h) rfl d51_1 ?_
  refine lv_iload_n hx hb d51_4 rfl (lv_at hl 1 rfl) ?_
  refine ms_V (C := "MarkupStore$Tree") (rest := []) (as := [.int i]) (wr := [(h, .inr (0, [.ref (r 0), .ref (r 2), .ref (r 4), .ref (r 8), .int 0, .int 0]))]) X hl (c_find l D dA s0 hE (r 4) (r 5) (r 6) (r 7) i) (List.forall_mem_cons.mpr ⟨ms_k745, List.forall_mem_cons.mpr ⟨ms_k746, List.forall_mem_cons.mpr ⟨ms_k747, List.forall_mem_cons.mpr ⟨ms_k6, List.forall_mem_cons.mpr ⟨ms_k748, fun _ h => absurd h List.not_mem_nil⟩⟩⟩⟩⟩) ⟨rfl, by decide +kernel, by decide +kernel, (by decide +kernel : (parseMethodDescriptor "(I)LMarkupStore$Node;").map (fun d => d.parameters.length) = some 1)⟩ (va_recv hK hP rfl (q0 := 1) rfl) hP hD hS [1] [0] rfl rfl ⟨by decide, by decide, by decide⟩ ⟨⟨Nat.le_of_ble_eq_true rfl, Nat.le_of_ble_eq_true rfl⟩, Nat.le_of_ble_eq_true rfl, Nat.le_of_ble_eq_true rfl⟩ rfl (Nat.le_of_ble_eq_true rfl) d51_5 (fun vv ww H locs hR hP hD hS => ?_)
  obtain ⟨rfl, rfl⟩ := hR
  have hP : va_P D vwCl [(h, .inr (0, [.ref (r 0), .ref (r 2), .ref (r 4), .ref (r 8), .int 0, .int 0])), ((r 4), .inr (1, [.ref (r 5), .int 0, .ref (r 6), .int 0, .ref (r 7), .int 0]))] H := hP
  have hD : va_D A [(h, .inr (0, [.ref (r 0), .ref (r 2), .ref (r 4), .ref (r 8), .int 0, .int 0])), ((r 4), .inr (1, [.ref (r 5), .int 0, .ref (r 6), .int 0, .ref (r 7), .int 0]))] := hD
  refine W.eq (g2 := F0 m 8 ls [.null]) rfl ?_
  refine lv_astore_nN hx hb d51_8 rfl hl (by decide) rfl (fun ls hl => ?_)
  have hl : lv_has ls 3 [(2, .null), (0, .ref h), (1, .int i)] := hl
  refine lv_aload_nN hx hb d51_9 rfl (lv_at hl 0 rfl) ?_
  refine lv_ifnonnullN hx hb d51_10 ?_
  refine lv_sipush (v := (-1000)) hx hb d51_13 (by decide) ?_
  refine lv_goto hx hb d51_16 rfl ?_
  exact ms_iret X d51_23 hP hD hS (Nat.le_of_ble_eq_true rfl) (Nat.le_of_ble_eq_true rfl) rfl

set_option maxRecDepth 100000 in
set_option maxHeartbeats 8000000 in
theorem c_node (l : Launch) (D : va_G) (dA : Nat → ClassId) (s0 : State) (hE : ms_EV D dA s0) (h : Nat) (r : Nat → Nat) (i : Int32) (j : Int32) : ms_C l D s0 yM52 bM52 4 (Option.some Jvm.ClassFile.FieldType.int) 1 21 0 0 [.ref h, .int i, .int j] [(h, .inr (0, [.ref (r 0), .ref (r 2), .ref (r 4), .ref (r 8), .int 0, .int 0])), ((r 4), .inr (1, [.ref (r 5), .int 0, .ref (r 6), .int 0, .ref (r 7), .int 0]))] (fun vv _ => vv = some (.int (-1000))) := by
  refine ms_C.mk hE.1 (by decide) (Nat.le_of_ble_eq_true rfl) [(0, .ref h), (1, .int i), (2, .int j)] rfl ?_
  intro p e s m below meth c A ls X hin hP hD hS hl
  have hx := X.1
  have hb := X.2.1
  have hml := X.2.2.1
  have hown : s.vm.findClass "MarkupStore" = some m.cls := X.2.2.2.1
  have hts := X.2.2.2.2.2.2.1
  have hK := X.2.2.2.2.2.2.2.2.1
  have hA := X.2.2.2.2.2.2.2.2.2.2
  refine lv_aload_n hx hb d52_0 rfl (lv_at hl 0 rfl) ?_
  refine va_get (D := D) (ci := 0) (v := .ref (r 4)) (C := kR0) (T := kT0) (N := 6) hx hb hts ku0 hown hK hP 0 rfl rfl 2 (by decide) (hts _ ms_k107) (fun _ h => h) rfl d52_1 ?_
  refine lv_iload_n hx hb d52_4 rfl (lv_at hl 1 rfl) ?_
  refine ms_V (C := "MarkupStore$Tree") (rest := []) (as := [.int i]) (wr := [(h, .inr (0, [.ref (r 0), .ref (r 2), .ref (r 4), .ref (r 8), .int 0, .int 0]))]) X hl (c_find l D dA s0 hE (r 4) (r 5) (r 6) (r 7) i) (List.forall_mem_cons.mpr ⟨ms_k745, List.forall_mem_cons.mpr ⟨ms_k746, List.forall_mem_cons.mpr ⟨ms_k747, List.forall_mem_cons.mpr ⟨ms_k6, List.forall_mem_cons.mpr ⟨ms_k748, fun _ h => absurd h List.not_mem_nil⟩⟩⟩⟩⟩) ⟨rfl, by decide +kernel, by decide +kernel, (by decide +kernel : (parseMethodDescriptor "(I)LMarkupStore$Node;").map (fun d => d.parameters.length) = some 1)⟩ (va_recv hK hP rfl (q0 := 1) rfl) hP hD hS [1] [0] rfl rfl ⟨by decide, by decide, by decide⟩ ⟨⟨Nat.le_of_ble_eq_true rfl, Nat.le_of_ble_eq_true rfl⟩, Nat.le_of_ble_eq_true rfl, Nat.le_of_ble_eq_true rfl⟩ rfl (Nat.le_of_ble_eq_true rfl) d52_5 (fun vv ww H locs hR hP hD hS => ?_)
  obtain ⟨rfl, rfl⟩ := hR
  have hP : va_P D vwCl [(h, .inr (0, [.ref (r 0), .ref (r 2), .ref (r 4), .ref (r 8), .int 0, .int 0])), ((r 4), .inr (1, [.ref (r 5), .int 0, .ref (r 6), .int 0, .ref (r 7), .int 0]))] H := hP
  have hD : va_D A [(h, .inr (0, [.ref (r 0), .ref (r 2), .ref (r 4), .ref (r 8), .int 0, .int 0])), ((r 4), .inr (1, [.ref (r 5), .int 0, .ref (r 6), .int 0, .ref (r 7), .int 0]))] := hD
  refine W.eq (g2 := F0 m 8 ls [.null]) rfl ?_
  refine lv_astore_nN hx hb d52_8 rfl hl (by decide) rfl (fun ls hl => ?_)
  have hl : lv_has ls 4 [(3, .null), (0, .ref h), (1, .int i), (2, .int j)] := hl
  refine lv_aload_nN hx hb d52_9 rfl (lv_at hl 0 rfl) ?_
  refine lv_ifnonnullN hx hb d52_10 ?_
  refine lv_sipush (v := (-1000)) hx hb d52_13 (by decide) ?_
  exact ms_iret X d52_16 hP hD hS (Nat.le_of_ble_eq_true rfl) (Nat.le_of_ble_eq_true rfl) rfl

set_option maxRecDepth 100000 in
set_option maxHeartbeats 8000000 in
theorem c_letter (l : Launch) (D : va_G) (dA : Nat → ClassId) (s0 : State) (hE : ms_EV D dA s0) (h : Nat) (r : Nat → Nat) (i : Int32) (j : Int32) : ms_C l D s0 yM53 bM53 4 (Option.some Jvm.ClassFile.FieldType.int) 1 21 0 0 [.ref h, .int i, .int j] [(h, .inr (0, [.ref (r 0), .ref (r 2), .ref (r 4), .ref (r 8), .int 0, .int 0])), ((r 4), .inr (1, [.ref (r 5), .int 0, .ref (r 6), .int 0, .ref (r 7), .int 0]))] (fun vv _ => vv = some (.int 0)) := by
  refine ms_C.mk hE.1 (by decide) (Nat.le_of_ble_eq_true rfl) [(0, .ref h), (1, .int i), (2, .int j)] rfl ?_
  intro p e s m below meth c A ls X hin hP hD hS hl
  have hx := X.1
  have hb := X.2.1
  have hml := X.2.2.1
  have hown : s.vm.findClass "MarkupStore" = some m.cls := X.2.2.2.1
  have hts := X.2.2.2.2.2.2.1
  have hK := X.2.2.2.2.2.2.2.2.1
  have hA := X.2.2.2.2.2.2.2.2.2.2
  refine lv_aload_n hx hb d53_0 rfl (lv_at hl 0 rfl) ?_
  refine va_get (D := D) (ci := 0) (v := .ref (r 4)) (C := kR0) (T := kT0) (N := 6) hx hb hts ku0 hown hK hP 0 rfl rfl 2 (by decide) (hts _ ms_k107) (fun _ h => h) rfl d53_1 ?_
  refine lv_iload_n hx hb d53_4 rfl (lv_at hl 1 rfl) ?_
  refine ms_V (C := "MarkupStore$Tree") (rest := []) (as := [.int i]) (wr := [(h, .inr (0, [.ref (r 0), .ref (r 2), .ref (r 4), .ref (r 8), .int 0, .int 0]))]) X hl (c_find l D dA s0 hE (r 4) (r 5) (r 6) (r 7) i) (List.forall_mem_cons.mpr ⟨ms_k745, List.forall_mem_cons.mpr ⟨ms_k746, List.forall_mem_cons.mpr ⟨ms_k747, List.forall_mem_cons.mpr ⟨ms_k6, List.forall_mem_cons.mpr ⟨ms_k748, fun _ h => absurd h List.not_mem_nil⟩⟩⟩⟩⟩) ⟨rfl, by decide +kernel, by decide +kernel, (by decide +kernel : (parseMethodDescriptor "(I)LMarkupStore$Node;").map (fun d => d.parameters.length) = some 1)⟩ (va_recv hK hP rfl (q0 := 1) rfl) hP hD hS [1] [0] rfl rfl ⟨by decide, by decide, by decide⟩ ⟨⟨Nat.le_of_ble_eq_true rfl, Nat.le_of_ble_eq_true rfl⟩, Nat.le_of_ble_eq_true rfl, Nat.le_of_ble_eq_true rfl⟩ rfl (Nat.le_of_ble_eq_true rfl) d53_5 (fun vv ww H locs hR hP hD hS => ?_)
  obtain ⟨rfl, rfl⟩ := hR
  have hP : va_P D vwCl [(h, .inr (0, [.ref (r 0), .ref (r 2), .ref (r 4), .ref (r 8), .int 0, .int 0])), ((r 4), .inr (1, [.ref (r 5), .int 0, .ref (r 6), .int 0, .ref (r 7), .int 0]))] H := hP
  have hD : va_D A [(h, .inr (0, [.ref (r 0), .ref (r 2), .ref (r 4), .ref (r 8), .int 0, .int 0])), ((r 4), .inr (1, [.ref (r 5), .int 0, .ref (r 6), .int 0, .ref (r 7), .int 0]))] := hD
  refine W.eq (g2 := F0 m 8 ls [.null]) rfl ?_
  refine lv_astore_nN hx hb d53_8 rfl hl (by decide) rfl (fun ls hl => ?_)
  have hl : lv_has ls 4 [(3, .null), (0, .ref h), (1, .int i), (2, .int j)] := hl
  refine lv_aload_nN hx hb d53_9 rfl (lv_at hl 0 rfl) ?_
  refine lv_ifnullN hx hb d53_10 rfl ?_
  refine lv_iconst (v := 0) hx hb d53_28 (by decide) ?_
  refine lv_goto hx hb d53_29 rfl ?_
  exact ms_iret X d53_40 hP hD hS (Nat.le_of_ble_eq_true rfl) (Nat.le_of_ble_eq_true rfl) rfl

set_option maxRecDepth 100000 in
set_option maxHeartbeats 8000000 in
theorem c_label (l : Launch) (D : va_G) (dA : Nat → ClassId) (s0 : State) (hE : ms_EV D dA s0) (h : Nat) (r : Nat → Nat) (i : Int32) (j : Int32) : ms_C l D s0 yM54 bM54 4 (Option.some Jvm.ClassFile.FieldType.int) 1 21 0 0 [.ref h, .int i, .int j] [(h, .inr (0, [.ref (r 0), .ref (r 2), .ref (r 4), .ref (r 8), .int 0, .int 0])), ((r 4), .inr (1, [.ref (r 5), .int 0, .ref (r 6), .int 0, .ref (r 7), .int 0]))] (fun vv _ => vv = some (.int 0)) := by
  refine ms_C.mk hE.1 (by decide) (Nat.le_of_ble_eq_true rfl) [(0, .ref h), (1, .int i), (2, .int j)] rfl ?_
  intro p e s m below meth c A ls X hin hP hD hS hl
  have hx := X.1
  have hb := X.2.1
  have hml := X.2.2.1
  have hown : s.vm.findClass "MarkupStore" = some m.cls := X.2.2.2.1
  have hts := X.2.2.2.2.2.2.1
  have hK := X.2.2.2.2.2.2.2.2.1
  have hA := X.2.2.2.2.2.2.2.2.2.2
  refine lv_aload_n hx hb d54_0 rfl (lv_at hl 0 rfl) ?_
  refine va_get (D := D) (ci := 0) (v := .ref (r 4)) (C := kR0) (T := kT0) (N := 6) hx hb hts ku0 hown hK hP 0 rfl rfl 2 (by decide) (hts _ ms_k107) (fun _ h => h) rfl d54_1 ?_
  refine lv_iload_n hx hb d54_4 rfl (lv_at hl 1 rfl) ?_
  refine ms_V (C := "MarkupStore$Tree") (rest := []) (as := [.int i]) (wr := [(h, .inr (0, [.ref (r 0), .ref (r 2), .ref (r 4), .ref (r 8), .int 0, .int 0]))]) X hl (c_find l D dA s0 hE (r 4) (r 5) (r 6) (r 7) i) (List.forall_mem_cons.mpr ⟨ms_k745, List.forall_mem_cons.mpr ⟨ms_k746, List.forall_mem_cons.mpr ⟨ms_k747, List.forall_mem_cons.mpr ⟨ms_k6, List.forall_mem_cons.mpr ⟨ms_k748, fun _ h => absurd h List.not_mem_nil⟩⟩⟩⟩⟩) ⟨rfl, by decide +kernel, by decide +kernel, (by decide +kernel : (parseMethodDescriptor "(I)LMarkupStore$Node;").map (fun d => d.parameters.length) = some 1)⟩ (va_recv hK hP rfl (q0 := 1) rfl) hP hD hS [1] [0] rfl rfl ⟨by decide, by decide, by decide⟩ ⟨⟨Nat.le_of_ble_eq_true rfl, Nat.le_of_ble_eq_true rfl⟩, Nat.le_of_ble_eq_true rfl, Nat.le_of_ble_eq_true rfl⟩ rfl (Nat.le_of_ble_eq_true rfl) d54_5 (fun vv ww H locs hR hP hD hS => ?_)
  obtain ⟨rfl, rfl⟩ := hR
  have hP : va_P D vwCl [(h, .inr (0, [.ref (r 0), .ref (r 2), .ref (r 4), .ref (r 8), .int 0, .int 0])), ((r 4), .inr (1, [.ref (r 5), .int 0, .ref (r 6), .int 0, .ref (r 7), .int 0]))] H := hP
  have hD : va_D A [(h, .inr (0, [.ref (r 0), .ref (r 2), .ref (r 4), .ref (r 8), .int 0, .int 0])), ((r 4), .inr (1, [.ref (r 5), .int 0, .ref (r 6), .int 0, .ref (r 7), .int 0]))] := hD
  refine W.eq (g2 := F0 m 8 ls [.null]) rfl ?_
  refine lv_astore_nN hx hb d54_8 rfl hl (by decide) rfl (fun ls hl => ?_)
  have hl : lv_has ls 4 [(3, .null), (0, .ref h), (1, .int i), (2, .int j)] := hl
  refine lv_aload_nN hx hb d54_9 rfl (lv_at hl 0 rfl) ?_
  refine lv_ifnullN hx hb d54_10 rfl ?_
  refine lv_iconst (v := 0) hx hb d54_26 (by decide) ?_
  refine lv_goto hx hb d54_27 rfl ?_
  exact ms_iret X d54_36 hP hD hS (Nat.le_of_ble_eq_true rfl) (Nat.le_of_ble_eq_true rfl) rfl

set_option maxRecDepth 100000 in
set_option maxHeartbeats 8000000 in
theorem c_root (l : Launch) (D : va_G) (dA : Nat → ClassId) (s0 : State) (hE : ms_EV D dA s0) (h : Nat) (r : Nat → Nat) : ms_C l D s0 yM55 bM55 1 (Option.some Jvm.ClassFile.FieldType.int) 0 0 0 0 [.ref h] [(h, .inr (0, [.ref (r 0), .ref (r 2), .ref (r 4), .ref (r 8), .int 0, .int 0])), ((r 4), .inr (1, [.ref (r 5), .int 0, .ref (r 6), .int 0, .ref (r 7), .int 0]))] (fun vv _ => vv = some (.int (-1000))) := by
  refine ms_C.mk hE.1 (by decide) (Nat.le_of_ble_eq_true rfl) [(0, .ref h)] rfl ?_
  intro p e s m below meth c A ls X hin hP hD hS hl
  have hx := X.1
  have hb := X.2.1
  have hml := X.2.2.1
  have hown : s.vm.findClass "MarkupStore" = some m.cls := X.2.2.2.1
  have hts := X.2.2.2.2.2.2.1
  have hK := X.2.2.2.2.2.2.2.2.1
  have hA := X.2.2.2.2.2.2.2.2.2.2
  refine lv_aload_n hx hb d55_0 rfl (lv_at hl 0 rfl) ?_
  refine va_get (D := D) (ci := 0) (v := .ref (r 4)) (C := kR0) (T := kT0) (N := 6) hx hb hts ku0 hown hK hP 0 rfl rfl 2 (by decide) (hts _ ms_k107) (fun _ h => h) rfl d55_1 ?_
  refine va_get (D := D) (ci := 1) (v := .int 0) (C := kR1) (T := kT1) (N := 6) hx hb hts ku1 hown hK hP 1 rfl rfl 3 (by decide) (hts _ ms_k89) (fun _ h => h) rfl d55_4 ?_
  refine lv_if_ne hx hb d55_7 rfl (fun h9 => absurd h9 (by decide)) (fun _ => ?_)
  refine lv_sipush (v := (-1000)) hx hb d55_10 (by decide) ?_
  refine lv_goto hx hb d55_13 rfl ?_
  exact ms_iret X d55_28 hP hD hS (Nat.le_of_ble_eq_true rfl) (Nat.le_of_ble_eq_true rfl) rfl

set_option maxRecDepth 100000 in
set_option maxHeartbeats 8000000 in
theorem c_nodes (l : Launch) (D : va_G) (dA : Nat → ClassId) (s0 : State) (hE : ms_EV D dA s0) (h : Nat) (r : Nat → Nat) : ms_C l D s0 yM56 bM56 1 (Option.some Jvm.ClassFile.FieldType.int) 0 0 0 0 [.ref h] [(h, .inr (0, [.ref (r 0), .ref (r 2), .ref (r 4), .ref (r 8), .int 0, .int 0])), ((r 4), .inr (1, [.ref (r 5), .int 0, .ref (r 6), .int 0, .ref (r 7), .int 0]))] (fun vv _ => vv = some (.int 0)) := by
  refine ms_C.mk hE.1 (by decide) (Nat.le_of_ble_eq_true rfl) [(0, .ref h)] rfl ?_
  intro p e s m below meth c A ls X hin hP hD hS hl
  have hx := X.1
  have hb := X.2.1
  have hml := X.2.2.1
  have hown : s.vm.findClass "MarkupStore" = some m.cls := X.2.2.2.1
  have hts := X.2.2.2.2.2.2.1
  have hK := X.2.2.2.2.2.2.2.2.1
  have hA := X.2.2.2.2.2.2.2.2.2.2
  refine lv_aload_n hx hb d56_0 rfl (lv_at hl 0 rfl) ?_
  refine va_get (D := D) (ci := 0) (v := .ref (r 4)) (C := kR0) (T := kT0) (N := 6) hx hb hts ku0 hown hK hP 0 rfl rfl 2 (by decide) (hts _ ms_k107) (fun _ h => h) rfl d56_1 ?_
  refine va_get (D := D) (ci := 1) (v := .int 0) (C := kR1) (T := kT1) (N := 6) hx hb hts ku1 hown hK hP 1 rfl rfl 3 (by decide) (hts _ ms_k89) (fun _ h => h) rfl d56_4 ?_
  exact ms_iret X d56_7 hP hD hS (Nat.le_of_ble_eq_true rfl) (Nat.le_of_ble_eq_true rfl) rfl

set_option maxRecDepth 100000 in
set_option maxHeartbeats 8000000 in
theorem c_length (l : Launch) (D : va_G) (dA : Nat → ClassId) (s0 : State) (hE : ms_EV D dA s0) (h : Nat) (r : Nat → Nat) : ms_C l D s0 yM57 bM57 2 (Option.some Jvm.ClassFile.FieldType.int) 2 48 1 3 [.ref h] [(h, .inr (0, [.ref (r 0), .ref (r 2), .ref (r 4), .ref (r 8), .int 0, .int 0])), ((r 4), .inr (1, [.ref (r 5), .int 0, .ref (r 6), .int 0, .ref (r 7), .int 0]))] (fun vv _ => vv = some (.int 0)) := by
  refine ms_C.mk hE.1 (by decide) (Nat.le_of_ble_eq_true rfl) [(0, .ref h)] rfl ?_
  intro p e s m below meth c A ls X hin hP hD hS hl
  have hx := X.1
  have hb := X.2.1
  have hml := X.2.2.1
  have hown : s.vm.findClass "MarkupStore" = some m.cls := X.2.2.2.1
  have hts := X.2.2.2.2.2.2.1
  have hK := X.2.2.2.2.2.2.2.2.1
  have hA := X.2.2.2.2.2.2.2.2.2.2
  refine va_new (ci := 7) (fs := [.int 0, .int 0, .int 0]) (C := kR7) (T := kT7) (N := 3) hx hb hts ku7 kt7 kp7 hown (hts _ ms_k1246) (hts _ ms_k1247) (hts _ ms_k30) hK hP hD hS hA rfl kz7 (Nat.le_of_ble_eq_true rfl) (Nat.le_of_ble_eq_true rfl) d57_0 (fun q1 H hP hD hS => ?_)
  have hP : va_P D vwCl [(h, .inr (0, [.ref (r 0), .ref (r 2), .ref (r 4), .ref (r 8), .int 0, .int 0])), ((r 4), .inr (1, [.ref (r 5), .int 0, .ref (r 6), .int 0, .ref (r 7), .int 0])), (q1, .inr (7, [.int 0, .int 0, .int 0]))] H := hP
  have hD : va_D A [(h, .inr (0, [.ref (r 0), .ref (r 2), .ref (r 4), .ref (r 8), .int 0, .int 0])), ((r 4), .inr (1, [.ref (r 5), .int 0, .ref (r 6), .int 0, .ref (r 7), .int 0])), (q1, .inr (7, [.int 0, .int 0, .int 0]))] := hD
  refine lv_dup hx hb d57_3 rfl ?_
  refine lv_iconst (v := (-1)) hx hb d57_4 (by decide) ?_
  refine ms_I (rest := [.ref q1]) (as := [.int (-1)]) (wr := [(h, .inr (0, [.ref (r 0), .ref (r 2), .ref (r 4), .ref (r 8), .int 0, .int 0])), ((r 4), .inr (1, [.ref (r 5), .int 0, .ref (r 6), .int 0, .ref (r 7), .int 0]))]) X hl (c_SCinit l D dA s0 hE q1 (-1)) (List.forall_mem_cons.mpr ⟨ms_k1248, List.forall_mem_cons.mpr ⟨ms_k1249, List.forall_mem_cons.mpr ⟨ms_k30, List.forall_mem_cons.mpr ⟨ms_k1250, fun _ h => absurd h List.not_mem_nil⟩⟩⟩⟩) rfl ⟨by decide +kernel, by decide +kernel, (by decide +kernel : (parseMethodDescriptor "(I)V").map (fun d => d.parameters.length) = some 1)⟩ hP hD hS [2] [0, 1] rfl rfl ⟨by decide, by decide, by decide⟩ ⟨⟨Nat.le_of_ble_eq_true rfl, Nat.le_of_ble_eq_true rfl⟩, Nat.le_of_ble_eq_true rfl, Nat.le_of_ble_eq_true rfl⟩ rfl (Nat.le_of_ble_eq_true rfl) d57_5 (fun vv ww H locs hR hP hD hS => ?_)
  obtain ⟨rfl, rfl⟩ := hR
  have hP : va_P D vwCl [(h, .inr (0, [.ref (r 0), .ref (r 2), .ref (r 4), .ref (r 8), .int 0, .int 0])), ((r 4), .inr (1, [.ref (r 5), .int 0, .ref (r 6), .int 0, .ref (r 7), .int 0])), (q1, .inr (7, [.int (-1), .int 0, .int 0]))] H := hP
  have hD : va_D A [(h, .inr (0, [.ref (r 0), .ref (r 2), .ref (r 4), .ref (r 8), .int 0, .int 0])), ((r 4), .inr (1, [.ref (r 5), .int 0, .ref (r 6), .int 0, .ref (r 7), .int 0])), (q1, .inr (7, [.int (-1), .int 0, .int 0]))] := hD
  refine W.eq (g2 := F0 m 8 ls [.ref q1]) rfl ?_
  refine lv_astore_n hx hb d57_8 rfl hl (by decide) rfl (fun ls hl => ?_)
  have hl : lv_has ls 2 [(1, .ref q1), (0, .ref h)] := hl
  refine lv_aload_n hx hb d57_9 rfl (lv_at hl 0 rfl) ?_
  refine lv_aload_n hx hb d57_10 rfl (lv_at hl 1 rfl) ?_
  refine va_get (D := D) (ci := 0) (v := .ref (r 4)) (C := kR0) (T := kT0) (N := 6) hx hb hts ku0 hown hK hP 0 rfl rfl 2 (by decide) (hts _ ms_k107) (fun _ h => h) rfl d57_11 ?_
  refine ms_V (C := "MarkupStore$Scribe") (rest := []) (as := [.ref (r 4)]) (wr := [(h, .inr (0, [.ref (r 0), .ref (r 2), .ref (r 4), .ref (r 8), .int 0, .int 0]))]) X hl (c_SCwrite l D dA s0 hE q1 (r 4) (r 5) (r 6) (r 7) (-1)) (List.forall_mem_cons.mpr ⟨ms_k1264, List.forall_mem_cons.mpr ⟨ms_k1265, List.forall_mem_cons.mpr ⟨ms_k1266, List.forall_mem_cons.mpr ⟨ms_k30, List.forall_mem_cons.mpr ⟨ms_k1267, fun _ h => absurd h List.not_mem_nil⟩⟩⟩⟩⟩) ⟨rfl, by decide +kernel, by decide +kernel, (by decide +kernel : (parseMethodDescriptor "(LMarkupStore$Tree;)V").map (fun d => d.parameters.length) = some 1)⟩ (va_recv hK hP rfl (q0 := 2) rfl) hP hD hS [2, 1] [0] rfl rfl ⟨by decide, by decide, by decide⟩ ⟨⟨Nat.le_of_ble_eq_true rfl, Nat.le_of_ble_eq_true rfl⟩, Nat.le_of_ble_eq_true rfl, Nat.le_of_ble_eq_true rfl⟩ rfl (Nat.le_of_ble_eq_true rfl) d57_14 (fun vv ww H locs hR hP hD hS => ?_)
  obtain ⟨rfl, rfl⟩ := hR
  have hP : va_P D vwCl [(h, .inr (0, [.ref (r 0), .ref (r 2), .ref (r 4), .ref (r 8), .int 0, .int 0])), (q1, .inr (7, [.int (-1), .int 0, .int 0])), ((r 4), .inr (1, [.ref (r 5), .int 0, .ref (r 6), .int 0, .ref (r 7), .int 0]))] H := hP
  have hD : va_D A [(h, .inr (0, [.ref (r 0), .ref (r 2), .ref (r 4), .ref (r 8), .int 0, .int 0])), (q1, .inr (7, [.int (-1), .int 0, .int 0])), ((r 4), .inr (1, [.ref (r 5), .int 0, .ref (r 6), .int 0, .ref (r 7), .int 0]))] := hD
  refine W.eq (g2 := F0 m 17 ls []) rfl ?_
  refine lv_aload_n hx hb d57_17 rfl (lv_at hl 0 rfl) ?_
  refine va_get (D := D) (ci := 7) (v := .int 0) (C := kR7) (T := kT7) (N := 3) hx hb hts ku7 hown hK hP 1 rfl rfl 1 (by decide) (hts _ ms_k1254) (fun _ h => h) rfl d57_18 ?_
  exact ms_iret X d57_21 hP hD hS (Nat.le_of_ble_eq_true rfl) (Nat.le_of_ble_eq_true rfl) rfl

set_option maxRecDepth 100000 in
set_option maxHeartbeats 8000000 in
theorem c_written (l : Launch) (D : va_G) (dA : Nat → ClassId) (s0 : State) (hE : ms_EV D dA s0) (h : Nat) (r : Nat → Nat) (i : Int32) : ms_C l D s0 yM58 bM58 3 (Option.some Jvm.ClassFile.FieldType.int) 2 48 1 3 [.ref h, .int i] [(h, .inr (0, [.ref (r 0), .ref (r 2), .ref (r 4), .ref (r 8), .int 0, .int 0])), ((r 4), .inr (1, [.ref (r 5), .int 0, .ref (r 6), .int 0, .ref (r 7), .int 0]))] (fun vv _ => vv = some (.int 0)) := by
  refine ms_C.mk hE.1 (by decide) (Nat.le_of_ble_eq_true rfl) [(0, .ref h), (1, .int i)] rfl ?_
  intro p e s m below meth c A ls X hin hP hD hS hl
  have hx := X.1
  have hb := X.2.1
  have hml := X.2.2.1
  have hown : s.vm.findClass "MarkupStore" = some m.cls := X.2.2.2.1
  have hts := X.2.2.2.2.2.2.1
  have hK := X.2.2.2.2.2.2.2.2.1
  have hA := X.2.2.2.2.2.2.2.2.2.2
  refine va_new (ci := 7) (fs := [.int 0, .int 0, .int 0]) (C := kR7) (T := kT7) (N := 3) hx hb hts ku7 kt7 kp7 hown (hts _ ms_k1246) (hts _ ms_k1247) (hts _ ms_k30) hK hP hD hS hA rfl kz7 (Nat.le_of_ble_eq_true rfl) (Nat.le_of_ble_eq_true rfl) d58_0 (fun q1 H hP hD hS => ?_)
  have hP : va_P D vwCl [(h, .inr (0, [.ref (r 0), .ref (r 2), .ref (r 4), .ref (r 8), .int 0, .int 0])), ((r 4), .inr (1, [.ref (r 5), .int 0, .ref (r 6), .int 0, .ref (r 7), .int 0])), (q1, .inr (7, [.int 0, .int 0, .int 0]))] H := hP
  have hD : va_D A [(h, .inr (0, [.ref (r 0), .ref (r 2), .ref (r 4), .ref (r 8), .int 0, .int 0])), ((r 4), .inr (1, [.ref (r 5), .int 0, .ref (r 6), .int 0, .ref (r 7), .int 0])), (q1, .inr (7, [.int 0, .int 0, .int 0]))] := hD
  refine lv_dup hx hb d58_3 rfl ?_
  refine lv_iload_n hx hb d58_4 rfl (lv_at hl 1 rfl) ?_
  refine ms_I (rest := [.ref q1]) (as := [.int i]) (wr := [(h, .inr (0, [.ref (r 0), .ref (r 2), .ref (r 4), .ref (r 8), .int 0, .int 0])), ((r 4), .inr (1, [.ref (r 5), .int 0, .ref (r 6), .int 0, .ref (r 7), .int 0]))]) X hl (c_SCinit l D dA s0 hE q1 i) (List.forall_mem_cons.mpr ⟨ms_k1248, List.forall_mem_cons.mpr ⟨ms_k1249, List.forall_mem_cons.mpr ⟨ms_k30, List.forall_mem_cons.mpr ⟨ms_k1250, fun _ h => absurd h List.not_mem_nil⟩⟩⟩⟩) rfl ⟨by decide +kernel, by decide +kernel, (by decide +kernel : (parseMethodDescriptor "(I)V").map (fun d => d.parameters.length) = some 1)⟩ hP hD hS [2] [0, 1] rfl rfl ⟨by decide, by decide, by decide⟩ ⟨⟨Nat.le_of_ble_eq_true rfl, Nat.le_of_ble_eq_true rfl⟩, Nat.le_of_ble_eq_true rfl, Nat.le_of_ble_eq_true rfl⟩ rfl (Nat.le_of_ble_eq_true rfl) d58_5 (fun vv ww H locs hR hP hD hS => ?_)
  obtain ⟨rfl, rfl⟩ := hR
  have hP : va_P D vwCl [(h, .inr (0, [.ref (r 0), .ref (r 2), .ref (r 4), .ref (r 8), .int 0, .int 0])), ((r 4), .inr (1, [.ref (r 5), .int 0, .ref (r 6), .int 0, .ref (r 7), .int 0])), (q1, .inr (7, [.int i, .int 0, .int 0]))] H := hP
  have hD : va_D A [(h, .inr (0, [.ref (r 0), .ref (r 2), .ref (r 4), .ref (r 8), .int 0, .int 0])), ((r 4), .inr (1, [.ref (r 5), .int 0, .ref (r 6), .int 0, .ref (r 7), .int 0])), (q1, .inr (7, [.int i, .int 0, .int 0]))] := hD
  refine W.eq (g2 := F0 m 8 ls [.ref q1]) rfl ?_
  refine lv_astore_n hx hb d58_8 rfl hl (by decide) rfl (fun ls hl => ?_)
  have hl : lv_has ls 3 [(2, .ref q1), (0, .ref h), (1, .int i)] := hl
  refine lv_aload_n hx hb d58_9 rfl (lv_at hl 0 rfl) ?_
  refine lv_aload_n hx hb d58_10 rfl (lv_at hl 1 rfl) ?_
  refine va_get (D := D) (ci := 0) (v := .ref (r 4)) (C := kR0) (T := kT0) (N := 6) hx hb hts ku0 hown hK hP 0 rfl rfl 2 (by decide) (hts _ ms_k107) (fun _ h => h) rfl d58_11 ?_
  refine ms_V (C := "MarkupStore$Scribe") (rest := []) (as := [.ref (r 4)]) (wr := [(h, .inr (0, [.ref (r 0), .ref (r 2), .ref (r 4), .ref (r 8), .int 0, .int 0]))]) X hl (c_SCwrite l D dA s0 hE q1 (r 4) (r 5) (r 6) (r 7) i) (List.forall_mem_cons.mpr ⟨ms_k1264, List.forall_mem_cons.mpr ⟨ms_k1265, List.forall_mem_cons.mpr ⟨ms_k1266, List.forall_mem_cons.mpr ⟨ms_k30, List.forall_mem_cons.mpr ⟨ms_k1267, fun _ h => absurd h List.not_mem_nil⟩⟩⟩⟩⟩) ⟨rfl, by decide +kernel, by decide +kernel, (by decide +kernel : (parseMethodDescriptor "(LMarkupStore$Tree;)V").map (fun d => d.parameters.length) = some 1)⟩ (va_recv hK hP rfl (q0 := 2) rfl) hP hD hS [2, 1] [0] rfl rfl ⟨by decide, by decide, by decide⟩ ⟨⟨Nat.le_of_ble_eq_true rfl, Nat.le_of_ble_eq_true rfl⟩, Nat.le_of_ble_eq_true rfl, Nat.le_of_ble_eq_true rfl⟩ rfl (Nat.le_of_ble_eq_true rfl) d58_14 (fun vv ww H locs hR hP hD hS => ?_)
  obtain ⟨rfl, rfl⟩ := hR
  have hP : va_P D vwCl [(h, .inr (0, [.ref (r 0), .ref (r 2), .ref (r 4), .ref (r 8), .int 0, .int 0])), (q1, .inr (7, [.int i, .int 0, .int 0])), ((r 4), .inr (1, [.ref (r 5), .int 0, .ref (r 6), .int 0, .ref (r 7), .int 0]))] H := hP
  have hD : va_D A [(h, .inr (0, [.ref (r 0), .ref (r 2), .ref (r 4), .ref (r 8), .int 0, .int 0])), (q1, .inr (7, [.int i, .int 0, .int 0])), ((r 4), .inr (1, [.ref (r 5), .int 0, .ref (r 6), .int 0, .ref (r 7), .int 0]))] := hD
  refine W.eq (g2 := F0 m 17 ls []) rfl ?_
  refine lv_aload_n hx hb d58_17 rfl (lv_at hl 0 rfl) ?_
  refine va_get (D := D) (ci := 7) (v := .int 0) (C := kR7) (T := kT7) (N := 3) hx hb hts ku7 hown hK hP 1 rfl rfl 2 (by decide) (hts _ ms_k1256) (fun _ h => h) rfl d58_18 ?_
  exact ms_iret X d58_21 hP hD hS (Nat.le_of_ble_eq_true rfl) (Nat.le_of_ble_eq_true rfl) rfl
end
section
set_option maxRecDepth 100000 in
set_option maxHeartbeats 8000000 in
theorem c_MMinit (l : Launch) (D : va_G) (dA : Nat → ClassId) (s0 : State) (hE : ms_EV D dA s0) (h : Nat) : ms_C l D s0 yM59 bM59 1 (Option.none : Option Jvm.ClassFile.FieldType) 1 12 34 17382 [.ref h] [(h, .inr (2, [.null, .null, .null, .null, .int 0, .int 0, .null, .int 0, .int 0, .int 0, .int 0, .int 0, .int 0, .int 0, .int 0, .null, .null, .null, .int 0, .int 0, .null, .null, .null, .int 0, .int 0, .null, .null, .null, .null, .null, .null, .int 0, .null, .null, .null, .null, .null, .null, .null, .null, .null, .null, .null, .int 0, .null, .int 0, .int 0, .int 0, .int 0, .int 0, .null, .null, .null, .int 0, .null, .int 0, .null, .int 0, .int 0, .int 0]))] (fun vv ww => ∃ (r : Nat → Nat), vv = none ∧ ww = [(h, .inr (2, [.ref (r 0), .ref (r 1), .ref (r 2), .ref (r 3), .int 0, .int 0, .ref (r 6), .int 0, .int 0, .int 0, .int 0, .int 0, .int 0, .int 0, .int 0, .ref (r 15), .ref (r 16), .ref (r 17), .int 0, .int 0, .ref (r 20), .ref (r 21), .ref (r 22), .int 0, .int 0, .ref (r 25), .ref (r 26), .ref (r 27), .ref (r 28), .ref (r 29), .ref (r 30), .int 0, .ref (r 32), .ref (r 33), .ref (r 34), .ref (r 35), .ref (r 36), .ref (r 37), .ref (r 38), .ref (r 39), .ref (r 40), .ref (r 41), .ref (r 42), .int 0, .ref (r 44), .int 0, .int 0, .int 0, .int 0, .int 0, .ref (r 50), .ref (r 51), .ref (r 52), .int 0, .ref (r 54), .int 0, .ref (r 56), .int 0, .int 0, .int 0])), ((r 0), .inl (dA 0, 5161, .inl (fun _ => 0))), ((r 1), .inl (dA 0, 5161, .inl (fun _ => 0))), ((r 2), .inl (dA 0, 5120, .inl (fun _ => 0))), ((r 3), .inl (dA 0, 40, .inl (fun _ => 0))), ((r 6), .inl (dA 1, 120, .inl (fun _ => 0))), ((r 15), .inl (dA 0, 8, .inl (fun _ => 0))), ((r 16), .inl (dA 0, 8, .inl (fun _ => 0))), ((r 17), .inl (dA 0, 8, .inl (fun _ => 0))), ((r 20), .inl (dA 0, 30, .inl (fun _ => 0))), ((r 21), .inl (dA 0, 30, .inl (fun _ => 0))), ((r 22), .inl (dA 0, 40, .inl (fun _ => 0))), ((r 25), .inl (dA 0, 130, .inl (fun _ => 0))), ((r 26), .inl (dA 0, 130, .inl (fun _ => 0))), ((r 27), .inl (dA 0, 130, .inl (fun _ => 0))), ((r 28), .inl (dA 0, 130, .inl (fun _ => 0))), ((r 29), .inl (dA 0, 130, .inl (fun _ => 0))), ((r 30), .inl (dA 0, 130, .inl (fun _ => 0))), ((r 32), .inl (dA 0, 65, .inl (fun _ => 0))), ((r 33), .inl (dA 0, 65, .inl (fun _ => 0))), ((r 34), .inl (dA 0, 65, .inl (fun _ => 0))), ((r 35), .inl (dA 0, 65, .inl (fun _ => 0))), ((r 36), .inl (dA 0, 65, .inl (fun _ => 0))), ((r 37), .inl (dA 0, 65, .inl (fun _ => 0))), ((r 38), .inl (dA 0, 65, .inl (fun _ => 0))), ((r 39), .inl (dA 0, 65, .inl (fun _ => 0))), ((r 40), .inl (dA 3, 65, .inl (fun _ => 0))), ((r 41), .inl (dA 3, 65, .inl (fun _ => 0))), ((r 42), .inl (dA 4, 65, .inr (.inl (fun _ => 0)))), ((r 44), .inl (dA 0, 65, .inl (fun _ => 0))), ((r 50), .inl (dA 0, 5, .inl (fun _ => 0))), ((r 51), .inl (dA 0, 5, .inl (fun _ => 0))), ((r 52), .inl (dA 0, 5, .inl (fun _ => 0))), ((r 54), .inl (dA 0, 41, .inl (fun _ => 0))), ((r 56), .inl (dA 0, 40, .inl (fun _ => 0)))]) := by
  refine ms_C.mk hE.1 (by decide) (Nat.le_of_ble_eq_true rfl) [(0, .ref h)] rfl ?_
  intro p e s m below meth c A ls X hin hP hD hS hl
  have hx := X.1
  have hb := X.2.1
  have hml := X.2.2.1
  have hown : s.vm.findClass "MarkupStoreModel" = some m.cls := X.2.2.2.1
  have hts := X.2.2.2.2.2.2.1
  have hK := X.2.2.2.2.2.2.2.2.1
  have hA := X.2.2.2.2.2.2.2.2.2.2
  refine lv_aload_n hx hb d59_0 rfl (lv_at hl 0 rfl) ?_
  refine W.objInit hx hb hown (hts _ ms_k1315) (hts _ ms_k37) (hts _ ms_k38) rfl (by rw [hml]; exact hl.1) rfl d59_1 (Nat.le_of_ble_eq_true rfl) (Nat.le_of_ble_eq_true rfl) ?_
  refine W.eq (g2 := F0 m 4 ls []) rfl ?_
  refine lv_aload_n hx hb d59_4 rfl (lv_at hl 0 rfl) ?_
  refine lv_sipush (v := 5161) hx hb d59_5 (by decide) ?_
  refine ms_newa (atype := .int) (ty := .int) (a0 := (5161, .inl (fun _ => 0))) X ms_k124 rfl 0 rfl (fun _ h => h) hP hD hS (fun _ => rfl) (by decide) (by decide) (by decide) (Nat.le_of_ble_eq_true rfl) (Nat.le_of_ble_eq_true rfl) d59_8 (fun q1 H hP hD hS => ?_)
  have hP : va_P D vwCl [(h, .inr (2, [.null, .null, .null, .null, .int 0, .int 0, .null, .int 0, .int 0, .int 0, .int 0, .int 0, .int 0, .int 0, .int 0, .null, .null, .null, .int 0, .int 0, .null, .null, .null, .int 0, .int 0, .null, .null, .null, .null, .null, .null, .int 0, .null, .null, .null, .null, .null, .null, .null, .null, .null, .null, .null, .int 0, .null, .int 0, .int 0, .int 0, .int 0, .int 0, .null, .null, .null, .int 0, .null, .int 0, .null, .int 0, .int 0, .int 0])), (q1, .inl (dA 0, 5161, .inl (fun _ => 0)))] H := hP
  have hD : va_D A [(h, .inr (2, [.null, .null, .null, .null, .int 0, .int 0, .null, .int 0, .int 0, .int 0, .int 0, .int 0, .int 0, .int 0, .int 0, .null, .null, .null, .int 0, .int 0, .null, .null, .null, .int 0, .int 0, .null, .null, .null, .null, .null, .null, .int 0, .null, .null, .null, .null, .null, .null, .null, .null, .null, .null, .null, .int 0, .null, .int 0, .int 0, .int 0, .int 0, .int 0, .null, .null, .null, .int 0, .null, .int 0, .null, .int 0, .int 0, .int 0])), (q1, .inl (dA 0, 5161, .inl (fun _ => 0)))] := hD
  refine va_putF (D := D) (ci := 2) (v := .ref q1) (ty := (.array .int)) (C := kR2) (T := kT2) (N := 60) hx hb hts ku2 kt2 kp2 kn2 hown hK hP hD hS 0 rfl rfl 0 (by decide) (hts _ ms_k1316) (fun _ h => h) rfl hin rfl (by decide +kernel) rfl rfl (Nat.le_of_ble_eq_true rfl) d59_10 (fun H locs hP hD hS => ?_)
  have hP : va_P D vwCl [(h, .inr (2, [.ref q1, .null, .null, .null, .int 0, .int 0, .null, .int 0, .int 0, .int 0, .int 0, .int 0, .int 0, .int 0, .int 0, .null, .null, .null, .int 0, .int 0, .null, .null, .null, .int 0, .int 0, .null, .null, .null, .null, .null, .null, .int 0, .null, .null, .null, .null, .null, .null, .null, .null, .null, .null, .null, .int 0, .null, .int 0, .int 0, .int 0, .int 0, .int 0, .null, .null, .null, .int 0, .null, .int 0, .null, .int 0, .int 0, .int 0])), (q1, .inl (dA 0, 5161, .inl (fun _ => 0)))] H := hP
  have hD : va_D A [(h, .inr (2, [.ref q1, .null, .null, .null, .int 0, .int 0, .null, .int 0, .int 0, .int 0, .int 0, .int 0, .int 0, .int 0, .int 0, .null, .null, .null, .int 0, .int 0, .null, .null, .null, .int 0, .int 0, .null, .null, .null, .null, .null, .null, .int 0, .null, .null, .null, .null, .null, .null, .null, .null, .null, .null, .null, .int 0, .null, .int 0, .int 0, .int 0, .int 0, .int 0, .null, .null, .null, .int 0, .null, .int 0, .null, .int 0, .int 0, .int 0])), (q1, .inl (dA 0, 5161, .inl (fun _ => 0)))] := hD
  refine lv_aload_n hx hb d59_13 rfl (lv_at hl 0 rfl) ?_
  refine lv_sipush (v := 5161) hx hb d59_14 (by decide) ?_
  refine ms_newa (atype := .int) (ty := .int) (a0 := (5161, .inl (fun _ => 0))) X ms_k124 rfl 0 rfl (fun _ h => h) hP hD hS (fun _ => rfl) (by decide) (by decide) (by decide) (Nat.le_of_ble_eq_true rfl) (Nat.le_of_ble_eq_true rfl) d59_17 (fun q2 H hP hD hS => ?_)
  have hP : va_P D vwCl [(h, .inr (2, [.ref q1, .null, .null, .null, .int 0, .int 0, .null, .int 0, .int 0, .int 0, .int 0, .int 0, .int 0, .int 0, .int 0, .null, .null, .null, .int 0, .int 0, .null, .null, .null, .int 0, .int 0, .null, .null, .null, .null, .null, .null, .int 0, .null, .null, .null, .null, .null, .null, .null, .null, .null, .null, .null, .int 0, .null, .int 0, .int 0, .int 0, .int 0, .int 0, .null, .null, .null, .int 0, .null, .int 0, .null, .int 0, .int 0, .int 0])), (q1, .inl (dA 0, 5161, .inl (fun _ => 0))), (q2, .inl (dA 0, 5161, .inl (fun _ => 0)))] H := hP
  have hD : va_D A [(h, .inr (2, [.ref q1, .null, .null, .null, .int 0, .int 0, .null, .int 0, .int 0, .int 0, .int 0, .int 0, .int 0, .int 0, .int 0, .null, .null, .null, .int 0, .int 0, .null, .null, .null, .int 0, .int 0, .null, .null, .null, .null, .null, .null, .int 0, .null, .null, .null, .null, .null, .null, .null, .null, .null, .null, .null, .int 0, .null, .int 0, .int 0, .int 0, .int 0, .int 0, .null, .null, .null, .int 0, .null, .int 0, .null, .int 0, .int 0, .int 0])), (q1, .inl (dA 0, 5161, .inl (fun _ => 0))), (q2, .inl (dA 0, 5161, .inl (fun _ => 0)))] := hD
  refine va_putF (D := D) (ci := 2) (v := .ref q2) (ty := (.array .int)) (C := kR2) (T := kT2) (N := 60) hx hb hts ku2 kt2 kp2 kn2 hown hK hP hD hS 0 rfl rfl 1 (by decide) (hts _ ms_k1317) (fun _ h => h) rfl hin rfl (by decide +kernel) rfl rfl (Nat.le_of_ble_eq_true rfl) d59_19 (fun H locs hP hD hS => ?_)
  have hP : va_P D vwCl [(h, .inr (2, [.ref q1, .ref q2, .null, .null, .int 0, .int 0, .null, .int 0, .int 0, .int 0, .int 0, .int 0, .int 0, .int 0, .int 0, .null, .null, .null, .int 0, .int 0, .null, .null, .null, .int 0, .int 0, .null, .null, .null, .null, .null, .null, .int 0, .null, .null, .null, .null, .null, .null, .null, .null, .null, .null, .null, .int 0, .null, .int 0, .int 0, .int 0, .int 0, .int 0, .null, .null, .null, .int 0, .null, .int 0, .null, .int 0, .int 0, .int 0])), (q1, .inl (dA 0, 5161, .inl (fun _ => 0))), (q2, .inl (dA 0, 5161, .inl (fun _ => 0)))] H := hP
  have hD : va_D A [(h, .inr (2, [.ref q1, .ref q2, .null, .null, .int 0, .int 0, .null, .int 0, .int 0, .int 0, .int 0, .int 0, .int 0, .int 0, .int 0, .null, .null, .null, .int 0, .int 0, .null, .null, .null, .int 0, .int 0, .null, .null, .null, .null, .null, .null, .int 0, .null, .null, .null, .null, .null, .null, .null, .null, .null, .null, .null, .int 0, .null, .int 0, .int 0, .int 0, .int 0, .int 0, .null, .null, .null, .int 0, .null, .int 0, .null, .int 0, .int 0, .int 0])), (q1, .inl (dA 0, 5161, .inl (fun _ => 0))), (q2, .inl (dA 0, 5161, .inl (fun _ => 0)))] := hD
  refine lv_aload_n hx hb d59_22 rfl (lv_at hl 0 rfl) ?_
  refine lv_sipush (v := 5120) hx hb d59_23 (by decide) ?_
  refine ms_newa (atype := .int) (ty := .int) (a0 := (5120, .inl (fun _ => 0))) X ms_k124 rfl 0 rfl (fun _ h => h) hP hD hS (fun _ => rfl) (by decide) (by decide) (by decide) (Nat.le_of_ble_eq_true rfl) (Nat.le_of_ble_eq_true rfl) d59_26 (fun q3 H hP hD hS => ?_)
  have hP : va_P D vwCl [(h, .inr (2, [.ref q1, .ref q2, .null, .null, .int 0, .int 0, .null, .int 0, .int 0, .int 0, .int 0, .int 0, .int 0, .int 0, .int 0, .null, .null, .null, .int 0, .int 0, .null, .null, .null, .int 0, .int 0, .null, .null, .null, .null, .null, .null, .int 0, .null, .null, .null, .null, .null, .null, .null, .null, .null, .null, .null, .int 0, .null, .int 0, .int 0, .int 0, .int 0, .int 0, .null, .null, .null, .int 0, .null, .int 0, .null, .int 0, .int 0, .int 0])), (q1, .inl (dA 0, 5161, .inl (fun _ => 0))), (q2, .inl (dA 0, 5161, .inl (fun _ => 0))), (q3, .inl (dA 0, 5120, .inl (fun _ => 0)))] H := hP
  have hD : va_D A [(h, .inr (2, [.ref q1, .ref q2, .null, .null, .int 0, .int 0, .null, .int 0, .int 0, .int 0, .int 0, .int 0, .int 0, .int 0, .int 0, .null, .null, .null, .int 0, .int 0, .null, .null, .null, .int 0, .int 0, .null, .null, .null, .null, .null, .null, .int 0, .null, .null, .null, .null, .null, .null, .null, .null, .null, .null, .null, .int 0, .null, .int 0, .int 0, .int 0, .int 0, .int 0, .null, .null, .null, .int 0, .null, .int 0, .null, .int 0, .int 0, .int 0])), (q1, .inl (dA 0, 5161, .inl (fun _ => 0))), (q2, .inl (dA 0, 5161, .inl (fun _ => 0))), (q3, .inl (dA 0, 5120, .inl (fun _ => 0)))] := hD
  refine va_putF (D := D) (ci := 2) (v := .ref q3) (ty := (.array .int)) (C := kR2) (T := kT2) (N := 60) hx hb hts ku2 kt2 kp2 kn2 hown hK hP hD hS 0 rfl rfl 2 (by decide) (hts _ ms_k1318) (fun _ h => h) rfl hin rfl (by decide +kernel) rfl rfl (Nat.le_of_ble_eq_true rfl) d59_28 (fun H locs hP hD hS => ?_)
  have hP : va_P D vwCl [(h, .inr (2, [.ref q1, .ref q2, .ref q3, .null, .int 0, .int 0, .null, .int 0, .int 0, .int 0, .int 0, .int 0, .int 0, .int 0, .int 0, .null, .null, .null, .int 0, .int 0, .null, .null, .null, .int 0, .int 0, .null, .null, .null, .null, .null, .null, .int 0, .null, .null, .null, .null, .null, .null, .null, .null, .null, .null, .null, .int 0, .null, .int 0, .int 0, .int 0, .int 0, .int 0, .null, .null, .null, .int 0, .null, .int 0, .null, .int 0, .int 0, .int 0])), (q1, .inl (dA 0, 5161, .inl (fun _ => 0))), (q2, .inl (dA 0, 5161, .inl (fun _ => 0))), (q3, .inl (dA 0, 5120, .inl (fun _ => 0)))] H := hP
  have hD : va_D A [(h, .inr (2, [.ref q1, .ref q2, .ref q3, .null, .int 0, .int 0, .null, .int 0, .int 0, .int 0, .int 0, .int 0, .int 0, .int 0, .int 0, .null, .null, .null, .int 0, .int 0, .null, .null, .null, .int 0, .int 0, .null, .null, .null, .null, .null, .null, .int 0, .null, .null, .null, .null, .null, .null, .null, .null, .null, .null, .null, .int 0, .null, .int 0, .int 0, .int 0, .int 0, .int 0, .null, .null, .null, .int 0, .null, .int 0, .null, .int 0, .int 0, .int 0])), (q1, .inl (dA 0, 5161, .inl (fun _ => 0))), (q2, .inl (dA 0, 5161, .inl (fun _ => 0))), (q3, .inl (dA 0, 5120, .inl (fun _ => 0)))] := hD
  refine lv_aload_n hx hb d59_31 rfl (lv_at hl 0 rfl) ?_
  refine lv_bipush (v := 40) hx hb d59_32 (by decide) ?_
  refine ms_newa (atype := .int) (ty := .int) (a0 := (40, .inl (fun _ => 0))) X ms_k124 rfl 0 rfl (fun _ h => h) hP hD hS (fun _ => rfl) (by decide) (by decide) (by decide) (Nat.le_of_ble_eq_true rfl) (Nat.le_of_ble_eq_true rfl) d59_34 (fun q4 H hP hD hS => ?_)
  have hP : va_P D vwCl [(h, .inr (2, [.ref q1, .ref q2, .ref q3, .null, .int 0, .int 0, .null, .int 0, .int 0, .int 0, .int 0, .int 0, .int 0, .int 0, .int 0, .null, .null, .null, .int 0, .int 0, .null, .null, .null, .int 0, .int 0, .null, .null, .null, .null, .null, .null, .int 0, .null, .null, .null, .null, .null, .null, .null, .null, .null, .null, .null, .int 0, .null, .int 0, .int 0, .int 0, .int 0, .int 0, .null, .null, .null, .int 0, .null, .int 0, .null, .int 0, .int 0, .int 0])), (q1, .inl (dA 0, 5161, .inl (fun _ => 0))), (q2, .inl (dA 0, 5161, .inl (fun _ => 0))), (q3, .inl (dA 0, 5120, .inl (fun _ => 0))), (q4, .inl (dA 0, 40, .inl (fun _ => 0)))] H := hP
  have hD : va_D A [(h, .inr (2, [.ref q1, .ref q2, .ref q3, .null, .int 0, .int 0, .null, .int 0, .int 0, .int 0, .int 0, .int 0, .int 0, .int 0, .int 0, .null, .null, .null, .int 0, .int 0, .null, .null, .null, .int 0, .int 0, .null, .null, .null, .null, .null, .null, .int 0, .null, .null, .null, .null, .null, .null, .null, .null, .null, .null, .null, .int 0, .null, .int 0, .int 0, .int 0, .int 0, .int 0, .null, .null, .null, .int 0, .null, .int 0, .null, .int 0, .int 0, .int 0])), (q1, .inl (dA 0, 5161, .inl (fun _ => 0))), (q2, .inl (dA 0, 5161, .inl (fun _ => 0))), (q3, .inl (dA 0, 5120, .inl (fun _ => 0))), (q4, .inl (dA 0, 40, .inl (fun _ => 0)))] := hD
  refine va_putF (D := D) (ci := 2) (v := .ref q4) (ty := (.array .int)) (C := kR2) (T := kT2) (N := 60) hx hb hts ku2 kt2 kp2 kn2 hown hK hP hD hS 0 rfl rfl 3 (by decide) (hts _ ms_k1319) (fun _ h => h) rfl hin rfl (by decide +kernel) rfl rfl (Nat.le_of_ble_eq_true rfl) d59_36 (fun H locs hP hD hS => ?_)
  have hP : va_P D vwCl [(h, .inr (2, [.ref q1, .ref q2, .ref q3, .ref q4, .int 0, .int 0, .null, .int 0, .int 0, .int 0, .int 0, .int 0, .int 0, .int 0, .int 0, .null, .null, .null, .int 0, .int 0, .null, .null, .null, .int 0, .int 0, .null, .null, .null, .null, .null, .null, .int 0, .null, .null, .null, .null, .null, .null, .null, .null, .null, .null, .null, .int 0, .null, .int 0, .int 0, .int 0, .int 0, .int 0, .null, .null, .null, .int 0, .null, .int 0, .null, .int 0, .int 0, .int 0])), (q1, .inl (dA 0, 5161, .inl (fun _ => 0))), (q2, .inl (dA 0, 5161, .inl (fun _ => 0))), (q3, .inl (dA 0, 5120, .inl (fun _ => 0))), (q4, .inl (dA 0, 40, .inl (fun _ => 0)))] H := hP
  have hD : va_D A [(h, .inr (2, [.ref q1, .ref q2, .ref q3, .ref q4, .int 0, .int 0, .null, .int 0, .int 0, .int 0, .int 0, .int 0, .int 0, .int 0, .int 0, .null, .null, .null, .int 0, .int 0, .null, .null, .null, .int 0, .int 0, .null, .null, .null, .null, .null, .null, .int 0, .null, .null, .null, .null, .null, .null, .null, .null, .null, .null, .null, .int 0, .null, .int 0, .int 0, .int 0, .int 0, .int 0, .null, .null, .null, .int 0, .null, .int 0, .null, .int 0, .int 0, .int 0])), (q1, .inl (dA 0, 5161, .inl (fun _ => 0))), (q2, .inl (dA 0, 5161, .inl (fun _ => 0))), (q3, .inl (dA 0, 5120, .inl (fun _ => 0))), (q4, .inl (dA 0, 40, .inl (fun _ => 0)))] := hD
  refine lv_aload_n hx hb d59_39 rfl (lv_at hl 0 rfl) ?_
  refine lv_bipush (v := 120) hx hb d59_40 (by decide) ?_
  refine ms_newa (atype := .char) (ty := .char) (a0 := (120, .inl (fun _ => 0))) X ms_k1497 rfl 1 rfl (fun _ h => h) hP hD hS (fun _ => rfl) (by decide) (by decide) (by decide) (Nat.le_of_ble_eq_true rfl) (Nat.le_of_ble_eq_true rfl) d59_42 (fun q5 H hP hD hS => ?_)
  have hP : va_P D vwCl [(h, .inr (2, [.ref q1, .ref q2, .ref q3, .ref q4, .int 0, .int 0, .null, .int 0, .int 0, .int 0, .int 0, .int 0, .int 0, .int 0, .int 0, .null, .null, .null, .int 0, .int 0, .null, .null, .null, .int 0, .int 0, .null, .null, .null, .null, .null, .null, .int 0, .null, .null, .null, .null, .null, .null, .null, .null, .null, .null, .null, .int 0, .null, .int 0, .int 0, .int 0, .int 0, .int 0, .null, .null, .null, .int 0, .null, .int 0, .null, .int 0, .int 0, .int 0])), (q1, .inl (dA 0, 5161, .inl (fun _ => 0))), (q2, .inl (dA 0, 5161, .inl (fun _ => 0))), (q3, .inl (dA 0, 5120, .inl (fun _ => 0))), (q4, .inl (dA 0, 40, .inl (fun _ => 0))), (q5, .inl (dA 1, 120, .inl (fun _ => 0)))] H := hP
  have hD : va_D A [(h, .inr (2, [.ref q1, .ref q2, .ref q3, .ref q4, .int 0, .int 0, .null, .int 0, .int 0, .int 0, .int 0, .int 0, .int 0, .int 0, .int 0, .null, .null, .null, .int 0, .int 0, .null, .null, .null, .int 0, .int 0, .null, .null, .null, .null, .null, .null, .int 0, .null, .null, .null, .null, .null, .null, .null, .null, .null, .null, .null, .int 0, .null, .int 0, .int 0, .int 0, .int 0, .int 0, .null, .null, .null, .int 0, .null, .int 0, .null, .int 0, .int 0, .int 0])), (q1, .inl (dA 0, 5161, .inl (fun _ => 0))), (q2, .inl (dA 0, 5161, .inl (fun _ => 0))), (q3, .inl (dA 0, 5120, .inl (fun _ => 0))), (q4, .inl (dA 0, 40, .inl (fun _ => 0))), (q5, .inl (dA 1, 120, .inl (fun _ => 0)))] := hD
  refine va_putF (D := D) (ci := 2) (v := .ref q5) (ty := (.array .char)) (C := kR2) (T := kT2) (N := 60) hx hb hts ku2 kt2 kp2 kn2 hown hK hP hD hS 0 rfl rfl 6 (by decide) (hts _ ms_k1322) (fun _ h => h) rfl hin rfl (by decide +kernel) rfl rfl (Nat.le_of_ble_eq_true rfl) d59_44 (fun H locs hP hD hS => ?_)
  have hP : va_P D vwCl [(h, .inr (2, [.ref q1, .ref q2, .ref q3, .ref q4, .int 0, .int 0, .ref q5, .int 0, .int 0, .int 0, .int 0, .int 0, .int 0, .int 0, .int 0, .null, .null, .null, .int 0, .int 0, .null, .null, .null, .int 0, .int 0, .null, .null, .null, .null, .null, .null, .int 0, .null, .null, .null, .null, .null, .null, .null, .null, .null, .null, .null, .int 0, .null, .int 0, .int 0, .int 0, .int 0, .int 0, .null, .null, .null, .int 0, .null, .int 0, .null, .int 0, .int 0, .int 0])), (q1, .inl (dA 0, 5161, .inl (fun _ => 0))), (q2, .inl (dA 0, 5161, .inl (fun _ => 0))), (q3, .inl (dA 0, 5120, .inl (fun _ => 0))), (q4, .inl (dA 0, 40, .inl (fun _ => 0))), (q5, .inl (dA 1, 120, .inl (fun _ => 0)))] H := hP
  have hD : va_D A [(h, .inr (2, [.ref q1, .ref q2, .ref q3, .ref q4, .int 0, .int 0, .ref q5, .int 0, .int 0, .int 0, .int 0, .int 0, .int 0, .int 0, .int 0, .null, .null, .null, .int 0, .int 0, .null, .null, .null, .int 0, .int 0, .null, .null, .null, .null, .null, .null, .int 0, .null, .null, .null, .null, .null, .null, .null, .null, .null, .null, .null, .int 0, .null, .int 0, .int 0, .int 0, .int 0, .int 0, .null, .null, .null, .int 0, .null, .int 0, .null, .int 0, .int 0, .int 0])), (q1, .inl (dA 0, 5161, .inl (fun _ => 0))), (q2, .inl (dA 0, 5161, .inl (fun _ => 0))), (q3, .inl (dA 0, 5120, .inl (fun _ => 0))), (q4, .inl (dA 0, 40, .inl (fun _ => 0))), (q5, .inl (dA 1, 120, .inl (fun _ => 0)))] := hD
  refine lv_aload_n hx hb d59_47 rfl (lv_at hl 0 rfl) ?_
  refine lv_bipush (v := 8) hx hb d59_48 (by decide) ?_
  refine ms_newa (atype := .int) (ty := .int) (a0 := (8, .inl (fun _ => 0))) X ms_k124 rfl 0 rfl (fun _ h => h) hP hD hS (fun _ => rfl) (by decide) (by decide) (by decide) (Nat.le_of_ble_eq_true rfl) (Nat.le_of_ble_eq_true rfl) d59_50 (fun q6 H hP hD hS => ?_)
  have hP : va_P D vwCl [(h, .inr (2, [.ref q1, .ref q2, .ref q3, .ref q4, .int 0, .int 0, .ref q5, .int 0, .int 0, .int 0, .int 0, .int 0, .int 0, .int 0, .int 0, .null, .null, .null, .int 0, .int 0, .null, .null, .null, .int 0, .int 0, .null, .null, .null, .null, .null, .null, .int 0, .null, .null, .null, .null, .null, .null, .null, .null, .null, .null, .null, .int 0, .null, .int 0, .int 0, .int 0, .int 0, .int 0, .null, .null, .null, .int 0, .null, .int 0, .null, .int 0, .int 0, .int 0])), (q1, .inl (dA 0, 5161, .inl (fun _ => 0))), (q2, .inl (dA 0, 5161, .inl (fun _ => 0))), (q3, .inl (dA 0, 5120, .inl (fun _ => 0))), (q4, .inl (dA 0, 40, .inl (fun _ => 0))), (q5, .inl (dA 1, 120, .inl (fun _ => 0))), (q6, .inl (dA 0, 8, .inl (fun _ => 0)))] H := hP
  have hD : va_D A [(h, .inr (2, [.ref q1, .ref q2, .ref q3, .ref q4, .int 0, .int 0, .ref q5, .int 0, .int 0, .int 0, .int 0, .int 0, .int 0, .int 0, .int 0, .null, .null, .null, .int 0, .int 0, .null, .null, .null, .int 0, .int 0, .null, .null, .null, .null, .null, .null, .int 0, .null, .null, .null, .null, .null, .null, .null, .null, .null, .null, .null, .int 0, .null, .int 0, .int 0, .int 0, .int 0, .int 0, .null, .null, .null, .int 0, .null, .int 0, .null, .int 0, .int 0, .int 0])), (q1, .inl (dA 0, 5161, .inl (fun _ => 0))), (q2, .inl (dA 0, 5161, .inl (fun _ => 0))), (q3, .inl (dA 0, 5120, .inl (fun _ => 0))), (q4, .inl (dA 0, 40, .inl (fun _ => 0))), (q5, .inl (dA 1, 120, .inl (fun _ => 0))), (q6, .inl (dA 0, 8, .inl (fun _ => 0)))] := hD
  refine va_putF (D := D) (ci := 2) (v := .ref q6) (ty := (.array .int)) (C := kR2) (T := kT2) (N := 60) hx hb hts ku2 kt2 kp2 kn2 hown hK hP hD hS 0 rfl rfl 15 (by decide) (hts _ ms_k1331) (fun _ h => h) rfl hin rfl (by decide +kernel) rfl rfl (Nat.le_of_ble_eq_true rfl) d59_52 (fun H locs hP hD hS => ?_)
  have hP : va_P D vwCl [(h, .inr (2, [.ref q1, .ref q2, .ref q3, .ref q4, .int 0, .int 0, .ref q5, .int 0, .int 0, .int 0, .int 0, .int 0, .int 0, .int 0, .int 0, .ref q6, .null, .null, .int 0, .int 0, .null, .null, .null, .int 0, .int 0, .null, .null, .null, .null, .null, .null, .int 0, .null, .null, .null, .null, .null, .null, .null, .null, .null, .null, .null, .int 0, .null, .int 0, .int 0, .int 0, .int 0, .int 0, .null, .null, .null, .int 0, .null, .int 0, .null, .int 0, .int 0, .int 0])), (q1, .inl (dA 0, 5161, .inl (fun _ => 0))), (q2, .inl (dA 0, 5161, .inl (fun _ => 0))), (q3, .inl (dA 0, 5120, .inl (fun _ => 0))), (q4, .inl (dA 0, 40, .inl (fun _ => 0))), (q5, .inl (dA 1, 120, .inl (fun _ => 0))), (q6, .inl (dA 0, 8, .inl (fun _ => 0)))] H := hP
  have hD : va_D A [(h, .inr (2, [.ref q1, .ref q2, .ref q3, .ref q4, .int 0, .int 0, .ref q5, .int 0, .int 0, .int 0, .int 0, .int 0, .int 0, .int 0, .int 0, .ref q6, .null, .null, .int 0, .int 0, .null, .null, .null, .int 0, .int 0, .null, .null, .null, .null, .null, .null, .int 0, .null, .null, .null, .null, .null, .null, .null, .null, .null, .null, .null, .int 0, .null, .int 0, .int 0, .int 0, .int 0, .int 0, .null, .null, .null, .int 0, .null, .int 0, .null, .int 0, .int 0, .int 0])), (q1, .inl (dA 0, 5161, .inl (fun _ => 0))), (q2, .inl (dA 0, 5161, .inl (fun _ => 0))), (q3, .inl (dA 0, 5120, .inl (fun _ => 0))), (q4, .inl (dA 0, 40, .inl (fun _ => 0))), (q5, .inl (dA 1, 120, .inl (fun _ => 0))), (q6, .inl (dA 0, 8, .inl (fun _ => 0)))] := hD
  refine lv_aload_n hx hb d59_55 rfl (lv_at hl 0 rfl) ?_
  refine lv_bipush (v := 8) hx hb d59_56 (by decide) ?_
  refine ms_newa (atype := .int) (ty := .int) (a0 := (8, .inl (fun _ => 0))) X ms_k124 rfl 0 rfl (fun _ h => h) hP hD hS (fun _ => rfl) (by decide) (by decide) (by decide) (Nat.le_of_ble_eq_true rfl) (Nat.le_of_ble_eq_true rfl) d59_58 (fun q7 H hP hD hS => ?_)
  have hP : va_P D vwCl [(h, .inr (2, [.ref q1, .ref q2, .ref q3, .ref q4, .int 0, .int 0, .ref q5, .int 0, .int 0, .int 0, .int 0, .int 0, .int 0, .int 0, .int 0, .ref q6, .null, .null, .int 0, .int 0, .null, .null, .null, .int 0, .int 0, .null, .null, .null, .null, .null, .null, .int 0, .null, .null, .null, .null, .null, .null, .null, .null, .null, .null, .null, .int 0, .null, .int 0, .int 0, .int 0, .int 0, .int 0, .null, .null, .null, .int 0, .null, .int 0, .null, .int 0, .int 0, .int 0])), (q1, .inl (dA 0, 5161, .inl (fun _ => 0))), (q2, .inl (dA 0, 5161, .inl (fun _ => 0))), (q3, .inl (dA 0, 5120, .inl (fun _ => 0))), (q4, .inl (dA 0, 40, .inl (fun _ => 0))), (q5, .inl (dA 1, 120, .inl (fun _ => 0))), (q6, .inl (dA 0, 8, .inl (fun _ => 0))), (q7, .inl (dA 0, 8, .inl (fun _ => 0)))] H := hP
  have hD : va_D A [(h, .inr (2, [.ref q1, .ref q2, .ref q3, .ref q4, .int 0, .int 0, .ref q5, .int 0, .int 0, .int 0, .int 0, .int 0, .int 0, .int 0, .int 0, .ref q6, .null, .null, .int 0, .int 0, .null, .null, .null, .int 0, .int 0, .null, .null, .null, .null, .null, .null, .int 0, .null, .null, .null, .null, .null, .null, .null, .null, .null, .null, .null, .int 0, .null, .int 0, .int 0, .int 0, .int 0, .int 0, .null, .null, .null, .int 0, .null, .int 0, .null, .int 0, .int 0, .int 0])), (q1, .inl (dA 0, 5161, .inl (fun _ => 0))), (q2, .inl (dA 0, 5161, .inl (fun _ => 0))), (q3, .inl (dA 0, 5120, .inl (fun _ => 0))), (q4, .inl (dA 0, 40, .inl (fun _ => 0))), (q5, .inl (dA 1, 120, .inl (fun _ => 0))), (q6, .inl (dA 0, 8, .inl (fun _ => 0))), (q7, .inl (dA 0, 8, .inl (fun _ => 0)))] := hD
  refine va_putF (D := D) (ci := 2) (v := .ref q7) (ty := (.array .int)) (C := kR2) (T := kT2) (N := 60) hx hb hts ku2 kt2 kp2 kn2 hown hK hP hD hS 0 rfl rfl 16 (by decide) (hts _ ms_k1332) (fun _ h => h) rfl hin rfl (by decide +kernel) rfl rfl (Nat.le_of_ble_eq_true rfl) d59_60 (fun H locs hP hD hS => ?_)
  have hP : va_P D vwCl [(h, .inr (2, [.ref q1, .ref q2, .ref q3, .ref q4, .int 0, .int 0, .ref q5, .int 0, .int 0, .int 0, .int 0, .int 0, .int 0, .int 0, .int 0, .ref q6, .ref q7, .null, .int 0, .int 0, .null, .null, .null, .int 0, .int 0, .null, .null, .null, .null, .null, .null, .int 0, .null, .null, .null, .null, .null, .null, .null, .null, .null, .null, .null, .int 0, .null, .int 0, .int 0, .int 0, .int 0, .int 0, .null, .null, .null, .int 0, .null, .int 0, .null, .int 0, .int 0, .int 0])), (q1, .inl (dA 0, 5161, .inl (fun _ => 0))), (q2, .inl (dA 0, 5161, .inl (fun _ => 0))), (q3, .inl (dA 0, 5120, .inl (fun _ => 0))), (q4, .inl (dA 0, 40, .inl (fun _ => 0))), (q5, .inl (dA 1, 120, .inl (fun _ => 0))), (q6, .inl (dA 0, 8, .inl (fun _ => 0))), (q7, .inl (dA 0, 8, .inl (fun _ => 0)))] H := hP
  have hD : va_D A [(h, .inr (2, [.ref q1, .ref q2, .ref q3, .ref q4, .int 0, .int 0, .ref q5, .int 0, .int 0, .int 0, .int 0, .int 0, .int 0, .int 0, .int 0, .ref q6, .ref q7, .null, .int 0, .int 0, .null, .null, .null, .int 0, .int 0, .null, .null, .null, .null, .null, .null, .int 0, .null, .null, .null, .null, .null, .null, .null, .null, .null, .null, .null, .int 0, .null, .int 0, .int 0, .int 0, .int 0, .int 0, .null, .null, .null, .int 0, .null, .int 0, .null, .int 0, .int 0, .int 0])), (q1, .inl (dA 0, 5161, .inl (fun _ => 0))), (q2, .inl (dA 0, 5161, .inl (fun _ => 0))), (q3, .inl (dA 0, 5120, .inl (fun _ => 0))), (q4, .inl (dA 0, 40, .inl (fun _ => 0))), (q5, .inl (dA 1, 120, .inl (fun _ => 0))), (q6, .inl (dA 0, 8, .inl (fun _ => 0))), (q7, .inl (dA 0, 8, .inl (fun _ => 0)))] := hD
  refine lv_aload_n hx hb d59_63 rfl (lv_at hl 0 rfl) ?_
  refine lv_bipush (v := 8) hx hb d59_64 (by decide) ?_
  refine ms_newa (atype := .int) (ty := .int) (a0 := (8, .inl (fun _ => 0))) X ms_k124 rfl 0 rfl (fun _ h => h) hP hD hS (fun _ => rfl) (by decide) (by decide) (by decide) (Nat.le_of_ble_eq_true rfl) (Nat.le_of_ble_eq_true rfl) d59_66 (fun q8 H hP hD hS => ?_)
  have hP : va_P D vwCl [(h, .inr (2, [.ref q1, .ref q2, .ref q3, .ref q4, .int 0, .int 0, .ref q5, .int 0, .int 0, .int 0, .int 0, .int 0, .int 0, .int 0, .int 0, .ref q6, .ref q7, .null, .int 0, .int 0, .null, .null, .null, .int 0, .int 0, .null, .null, .null, .null, .null, .null, .int 0, .null, .null, .null, .null, .null, .null, .null, .null, .null, .null, .null, .int 0, .null, .int 0, .int 0, .int 0, .int 0, .int 0, .null, .null, .null, .int 0, .null, .int 0, .null, .int 0, .int 0, .int 0])), (q1, .inl (dA 0, 5161, .inl (fun _ => 0))), (q2, .inl (dA 0, 5161, .inl (fun _ => 0))), (q3, .inl (dA 0, 5120, .inl (fun _ => 0))), (q4, .inl (dA 0, 40, .inl (fun _ => 0))), (q5, .inl (dA 1, 120, .inl (fun _ => 0))), (q6, .inl (dA 0, 8, .inl (fun _ => 0))), (q7, .inl (dA 0, 8, .inl (fun _ => 0))), (q8, .inl (dA 0, 8, .inl (fun _ => 0)))] H := hP
  have hD : va_D A [(h, .inr (2, [.ref q1, .ref q2, .ref q3, .ref q4, .int 0, .int 0, .ref q5, .int 0, .int 0, .int 0, .int 0, .int 0, .int 0, .int 0, .int 0, .ref q6, .ref q7, .null, .int 0, .int 0, .null, .null, .null, .int 0, .int 0, .null, .null, .null, .null, .null, .null, .int 0, .null, .null, .null, .null, .null, .null, .null, .null, .null, .null, .null, .int 0, .null, .int 0, .int 0, .int 0, .int 0, .int 0, .null, .null, .null, .int 0, .null, .int 0, .null, .int 0, .int 0, .int 0])), (q1, .inl (dA 0, 5161, .inl (fun _ => 0))), (q2, .inl (dA 0, 5161, .inl (fun _ => 0))), (q3, .inl (dA 0, 5120, .inl (fun _ => 0))), (q4, .inl (dA 0, 40, .inl (fun _ => 0))), (q5, .inl (dA 1, 120, .inl (fun _ => 0))), (q6, .inl (dA 0, 8, .inl (fun _ => 0))), (q7, .inl (dA 0, 8, .inl (fun _ => 0))), (q8, .inl (dA 0, 8, .inl (fun _ => 0)))] := hD
  refine va_putF (D := D) (ci := 2) (v := .ref q8) (ty := (.array .int)) (C := kR2) (T := kT2) (N := 60) hx hb hts ku2 kt2 kp2 kn2 hown hK hP hD hS 0 rfl rfl 17 (by decide) (hts _ ms_k1333) (fun _ h => h) rfl hin rfl (by decide +kernel) rfl rfl (Nat.le_of_ble_eq_true rfl) d59_68 (fun H locs hP hD hS => ?_)
  have hP : va_P D vwCl [(h, .inr (2, [.ref q1, .ref q2, .ref q3, .ref q4, .int 0, .int 0, .ref q5, .int 0, .int 0, .int 0, .int 0, .int 0, .int 0, .int 0, .int 0, .ref q6, .ref q7, .ref q8, .int 0, .int 0, .null, .null, .null, .int 0, .int 0, .null, .null, .null, .null, .null, .null, .int 0, .null, .null, .null, .null, .null, .null, .null, .null, .null, .null, .null, .int 0, .null, .int 0, .int 0, .int 0, .int 0, .int 0, .null, .null, .null, .int 0, .null, .int 0, .null, .int 0, .int 0, .int 0])), (q1, .inl (dA 0, 5161, .inl (fun _ => 0))), (q2, .inl (dA 0, 5161, .inl (fun _ => 0))), (q3, .inl (dA 0, 5120, .inl (fun _ => 0))), (q4, .inl (dA 0, 40, .inl (fun _ => 0))), (q5, .inl (dA 1, 120, .inl (fun _ => 0))), (q6, .inl (dA 0, 8, .inl (fun _ => 0))), (q7, .inl (dA 0, 8, .inl (fun _ => 0))), (q8, .inl (dA 0, 8, .inl (fun _ => 0)))] H := hP
  have hD : va_D A [(h, .inr (2, [.ref q1, .ref q2, .ref q3, .ref q4, .int 0, .int 0, .ref q5, .int 0, .int 0, .int 0, .int 0, .int 0, .int 0, .int 0, .int 0, .ref q6, .ref q7, .ref q8, .int 0, .int 0, .null, .null, .null, .int 0, .int 0, .null, .null, .null, .null, .null, .null, .int 0, .null, .null, .null, .null, .null, .null, .null, .null, .null, .null, .null, .int 0, .null, .int 0, .int 0, .int 0, .int 0, .int 0, .null, .null, .null, .int 0, .null, .int 0, .null, .int 0, .int 0, .int 0])), (q1, .inl (dA 0, 5161, .inl (fun _ => 0))), (q2, .inl (dA 0, 5161, .inl (fun _ => 0))), (q3, .inl (dA 0, 5120, .inl (fun _ => 0))), (q4, .inl (dA 0, 40, .inl (fun _ => 0))), (q5, .inl (dA 1, 120, .inl (fun _ => 0))), (q6, .inl (dA 0, 8, .inl (fun _ => 0))), (q7, .inl (dA 0, 8, .inl (fun _ => 0))), (q8, .inl (dA 0, 8, .inl (fun _ => 0)))] := hD
  refine lv_aload_n hx hb d59_71 rfl (lv_at hl 0 rfl) ?_
  refine lv_bipush (v := 30) hx hb d59_72 (by decide) ?_
  refine ms_newa (atype := .int) (ty := .int) (a0 := (30, .inl (fun _ => 0))) X ms_k124 rfl 0 rfl (fun _ h => h) hP hD hS (fun _ => rfl) (by decide) (by decide) (by decide) (Nat.le_of_ble_eq_true rfl) (Nat.le_of_ble_eq_true rfl) d59_74 (fun q9 H hP hD hS => ?_)
  have hP : va_P D vwCl [(h, .inr (2, [.ref q1, .ref q2, .ref q3, .ref q4, .int 0, .int 0, .ref q5, .int 0, .int 0, .int 0, .int 0, .int 0, .int 0, .int 0, .int 0, .ref q6, .ref q7, .ref q8, .int 0, .int 0, .null, .null, .null, .int 0, .int 0, .null, .null, .null, .null, .null, .null, .int 0, .null, .null, .null, .null, .null, .null, .null, .null, .null, .null, .null, .int 0, .null, .int 0, .int 0, .int 0, .int 0, .int 0, .null, .null, .null, .int 0, .null, .int 0, .null, .int 0, .int 0, .int 0])), (q1, .inl (dA 0, 5161, .inl (fun _ => 0))), (q2, .inl (dA 0, 5161, .inl (fun _ => 0))), (q3, .inl (dA 0, 5120, .inl (fun _ => 0))), (q4, .inl (dA 0, 40, .inl (fun _ => 0))), (q5, .inl (dA 1, 120, .inl (fun _ => 0))), (q6, .inl (dA 0, 8, .inl (fun _ => 0))), (q7, .inl (dA 0, 8, .inl (fun _ => 0))), (q8, .inl (dA 0, 8, .inl (fun _ => 0))), (q9, .inl (dA 0, 30, .inl (fun _ => 0)))] H := hP
  have hD : va_D A [(h, .inr (2, [.ref q1, .ref q2, .ref q3, .ref q4, .int 0, .int 0, .ref q5, .int 0, .int 0, .int 0, .int 0, .int 0, .int 0, .int 0, .int 0, .ref q6, .ref q7, .ref q8, .int 0, .int 0, .null, .null, .null, .int 0, .int 0, .null, .null, .null, .null, .null, .null, .int 0, .null, .null, .null, .null, .null, .null, .null, .null, .null, .null, .null, .int 0, .null, .int 0, .int 0, .int 0, .int 0, .int 0, .null, .null, .null, .int 0, .null, .int 0, .null, .int 0, .int 0, .int 0])), (q1, .inl (dA 0, 5161, .inl (fun _ => 0))), (q2, .inl (dA 0, 5161, .inl (fun _ => 0))), (q3, .inl (dA 0, 5120, .inl (fun _ => 0))), (q4, .inl (dA 0, 40, .inl (fun _ => 0))), (q5, .inl (dA 1, 120, .inl (fun _ => 0))), (q6, .inl (dA 0, 8, .inl (fun _ => 0))), (q7, .inl (dA 0, 8, .inl (fun _ => 0))), (q8, .inl (dA 0, 8, .inl (fun _ => 0))), (q9, .inl (dA 0, 30, .inl (fun _ => 0)))] := hD
  refine va_putF (D := D) (ci := 2) (v := .ref q9) (ty := (.array .int)) (C := kR2) (T := kT2) (N := 60) hx hb hts ku2 kt2 kp2 kn2 hown hK hP hD hS 0 rfl rfl 20 (by decide) (hts _ ms_k1336) (fun _ h => h) rfl hin rfl (by decide +kernel) rfl rfl (Nat.le_of_ble_eq_true rfl) d59_76 (fun H locs hP hD hS => ?_)
  have hP : va_P D vwCl [(h, .inr (2, [.ref q1, .ref q2, .ref q3, .ref q4, .int 0, .int 0, .ref q5, .int 0, .int 0, .int 0, .int 0, .int 0, .int 0, .int 0, .int 0, .ref q6, .ref q7, .ref q8, .int 0, .int 0, .ref q9, .null, .null, .int 0, .int 0, .null, .null, .null, .null, .null, .null, .int 0, .null, .null, .null, .null, .null, .null, .null, .null, .null, .null, .null, .int 0, .null, .int 0, .int 0, .int 0, .int 0, .int 0, .null, .null, .null, .int 0, .null, .int 0, .null, .int 0, .int 0, .int 0])), (q1, .inl (dA 0, 5161, .inl (fun _ => 0))), (q2, .inl (dA 0, 5161, .inl (fun _ => 0))), (q3, .inl (dA 0, 5120, .inl (fun _ => 0))), (q4, .inl (dA 0, 40, .inl (fun _ => 0))), (q5, .inl (dA 1, 120, .inl (fun _ => 0))), (q6, .inl (dA 0, 8, .inl (fun _ => 0))), (q7, .inl (dA 0, 8, .inl (fun _ => 0))), (q8, .inl (dA 0, 8, .inl (fun _ => 0))), (q9, .inl (dA 0, 30, .inl (fun _ => 0)))] H := hP
  have hD : va_D A [(h, .inr (2, [.ref q1, .ref q2, .ref q3, .ref q4, .int 0, .int 0, .ref q5, .int 0, .int 0, .int 0, .int 0, .int 0, .int 0, .int 0, .int 0, .ref q6, .ref q7, .ref q8, .int 0, .int 0, .ref q9, .null, .null, .int 0, .int 0, .null, .null, .null, .null, .null, .null, .int 0, .null, .null, .null, .null, .null, .null, .null, .null, .null, .null, .null, .int 0, .null, .int 0, .int 0, .int 0, .int 0, .int 0, .null, .null, .null, .int 0, .null, .int 0, .null, .int 0, .int 0, .int 0])), (q1, .inl (dA 0, 5161, .inl (fun _ => 0))), (q2, .inl (dA 0, 5161, .inl (fun _ => 0))), (q3, .inl (dA 0, 5120, .inl (fun _ => 0))), (q4, .inl (dA 0, 40, .inl (fun _ => 0))), (q5, .inl (dA 1, 120, .inl (fun _ => 0))), (q6, .inl (dA 0, 8, .inl (fun _ => 0))), (q7, .inl (dA 0, 8, .inl (fun _ => 0))), (q8, .inl (dA 0, 8, .inl (fun _ => 0))), (q9, .inl (dA 0, 30, .inl (fun _ => 0)))] := hD
  refine lv_aload_n hx hb d59_79 rfl (lv_at hl 0 rfl) ?_
  refine lv_bipush (v := 30) hx hb d59_80 (by decide) ?_
  refine ms_newa (atype := .int) (ty := .int) (a0 := (30, .inl (fun _ => 0))) X ms_k124 rfl 0 rfl (fun _ h => h) hP hD hS (fun _ => rfl) (by decide) (by decide) (by decide) (Nat.le_of_ble_eq_true rfl) (Nat.le_of_ble_eq_true rfl) d59_82 (fun q10 H hP hD hS => ?_)
  have hP : va_P D vwCl [(h, .inr (2, [.ref q1, .ref q2, .ref q3, .ref q4, .int 0, .int 0, .ref q5, .int 0, .int 0, .int 0, .int 0, .int 0, .int 0, .int 0, .int 0, .ref q6, .ref q7, .ref q8, .int 0, .int 0, .ref q9, .null, .null, .int 0, .int 0, .null, .null, .null, .null, .null, .null, .int 0, .null, .null, .null, .null, .null, .null, .null, .null, .null, .null, .null, .int 0, .null, .int 0, .int 0, .int 0, .int 0, .int 0, .null, .null, .null, .int 0, .null, .int 0, .null, .int 0, .int 0, .int 0])), (q1, .inl (dA 0, 5161, .inl (fun _ => 0))), (q2, .inl (dA 0, 5161, .inl (fun _ => 0))), (q3, .inl (dA 0, 5120, .inl (fun _ => 0))), (q4, .inl (dA 0, 40, .inl (fun _ => 0))), (q5, .inl (dA 1, 120, .inl (fun _ => 0))), (q6, .inl (dA 0, 8, .inl (fun _ => 0))), (q7, .inl (dA 0, 8, .inl (fun _ => 0))), (q8, .inl (dA 0, 8, .inl (fun _ => 0))), (q9, .inl (dA 0, 30, .inl (fun _ => 0))), (q10, .inl (dA 0, 30, .inl (fun _ => 0)))] H := hP
  have hD : va_D A [(h, .inr (2, [.ref q1, .ref q2, .ref q3, .ref q4, .int 0, .int 0, .ref q5, .int 0, .int 0, .int 0, .int 0, .int 0, .int 0, .int 0, .int 0, .ref q6, .ref q7, .ref q8, .int 0, .int 0, .ref q9, .null, .null, .int 0, .int 0, .null, .null, .null, .null, .null, .null, .int 0, .null, .null, .null, .null, .null, .null, .null, .null, .null, .null, .null, .int 0, .null, .int 0, .int 0, .int 0, .int 0, .int 0, .null, .null, .null, .int 0, .null, .int 0, .null, .int 0, .int 0, .int 0])), (q1, .inl (dA 0, 5161, .inl (fun _ => 0))), (q2, .inl (dA 0, 5161, .inl (fun _ => 0))), (q3, .inl (dA 0, 5120, .inl (fun _ => 0))), (q4, .inl (dA 0, 40, .inl (fun _ => 0))), (q5, .inl (dA 1, 120, .inl (fun _ => 0))), (q6, .inl (dA 0, 8, .inl (fun _ => 0))), (q7, .inl (dA 0, 8, .inl (fun _ => 0))), (q8, .inl (dA 0, 8, .inl (fun _ => 0))), (q9, .inl (dA 0, 30, .inl (fun _ => 0))), (q10, .inl (dA 0, 30, .inl (fun _ => 0)))] := hD
  refine va_putF (D := D) (ci := 2) (v := .ref q10) (ty := (.array .int)) (C := kR2) (T := kT2) (N := 60) hx hb hts ku2 kt2 kp2 kn2 hown hK hP hD hS 0 rfl rfl 21 (by decide) (hts _ ms_k1337) (fun _ h => h) rfl hin rfl (by decide +kernel) rfl rfl (Nat.le_of_ble_eq_true rfl) d59_84 (fun H locs hP hD hS => ?_)
  have hP : va_P D vwCl [(h, .inr (2, [.ref q1, .ref q2, .ref q3, .ref q4, .int 0, .int 0, .ref q5, .int 0, .int 0, .int 0, .int 0, .int 0, .int 0, .int 0, .int 0, .ref q6, .ref q7, .ref q8, .int 0, .int 0, .ref q9, .ref q10, .null, .int 0, .int 0, .null, .null, .null, .null, .null, .null, .int 0, .null, .null, .null, .null, .null, .null, .null, .null, .null, .null, .null, .int 0, .null, .int 0, .int 0, .int 0, .int 0, .int 0, .null, .null, .null, .int 0, .null, .int 0, .null, .int 0, .int 0, .int 0])), (q1, .inl (dA 0, 5161, .inl (fun _ => 0))), (q2, .inl (dA 0, 5161, .inl (fun _ => 0))), (q3, .inl (dA 0, 5120, .inl (fun _ => 0))), (q4, .inl (dA 0, 40, .inl (fun _ => 0))), (q5, .inl (dA 1, 120, .inl (fun _ => 0))), (q6, .inl (dA 0, 8, .inl (fun _ => 0))), (q7, .inl (dA 0, 8, .inl (fun _ => 0))), (q8, .inl (dA 0, 8, .inl (fun _ => 0))), (q9, .inl (dA 0, 30, .inl (fun _ => 0))), (q10, .inl (dA 0, 30, .inl (fun _ => 0)))] H := hP
  have hD : va_D A [(h, .inr (2, [.ref q1, .ref q2, .ref q3, .ref q4, .int 0, .int 0, .ref q5, .int 0, .int 0, .int 0, .int 0, .int 0, .int 0, .int 0, .int 0, .ref q6, .ref q7, .ref q8, .int 0, .int 0, .ref q9, .ref q10, .null, .int 0, .int 0, .null, .null, .null, .null, .null, .null, .int 0, .null, .null, .null, .null, .null, .null, .null, .null, .null, .null, .null, .int 0, .null, .int 0, .int 0, .int 0, .int 0, .int 0, .null, .null, .null, .int 0, .null, .int 0, .null, .int 0, .int 0, .int 0])), (q1, .inl (dA 0, 5161, .inl (fun _ => 0))), (q2, .inl (dA 0, 5161, .inl (fun _ => 0))), (q3, .inl (dA 0, 5120, .inl (fun _ => 0))), (q4, .inl (dA 0, 40, .inl (fun _ => 0))), (q5, .inl (dA 1, 120, .inl (fun _ => 0))), (q6, .inl (dA 0, 8, .inl (fun _ => 0))), (q7, .inl (dA 0, 8, .inl (fun _ => 0))), (q8, .inl (dA 0, 8, .inl (fun _ => 0))), (q9, .inl (dA 0, 30, .inl (fun _ => 0))), (q10, .inl (dA 0, 30, .inl (fun _ => 0)))] := hD
  refine lv_aload_n hx hb d59_87 rfl (lv_at hl 0 rfl) ?_
  refine lv_bipush (v := 40) hx hb d59_88 (by decide) ?_
  refine ms_newa (atype := .int) (ty := .int) (a0 := (40, .inl (fun _ => 0))) X ms_k124 rfl 0 rfl (fun _ h => h) hP hD hS (fun _ => rfl) (by decide) (by decide) (by decide) (Nat.le_of_ble_eq_true rfl) (Nat.le_of_ble_eq_true rfl) d59_90 (fun q11 H hP hD hS => ?_)
  have hP : va_P D vwCl [(h, .inr (2, [.ref q1, .ref q2, .ref q3, .ref q4, .int 0, .int 0, .ref q5, .int 0, .int 0, .int 0, .int 0, .int 0, .int 0, .int 0, .int 0, .ref q6, .ref q7, .ref q8, .int 0, .int 0, .ref q9, .ref q10, .null, .int 0, .int 0, .null, .null, .null, .null, .null, .null, .int 0, .null, .null, .null, .null, .null, .null, .null, .null, .null, .null, .null, .int 0, .null, .int 0, .int 0, .int 0, .int 0, .int 0, .null, .null, .null, .int 0, .null, .int 0, .null, .int 0, .int 0, .int 0])), (q1, .inl (dA 0, 5161, .inl (fun _ => 0))), (q2, .inl (dA 0, 5161, .inl (fun _ => 0))), (q3, .inl (dA 0, 5120, .inl (fun _ => 0))), (q4, .inl (dA 0, 40, .inl (fun _ => 0))), (q5, .inl (dA 1, 120, .inl (fun _ => 0))), (q6, .inl (dA 0, 8, .inl (fun _ => 0))), (q7, .inl (dA 0, 8, .inl (fun _ => 0))), (q8, .inl (dA 0, 8, .inl (fun _ => 0))), (q9, .inl (dA 0, 30, .inl (fun _ => 0))), (q10, .inl (dA 0, 30, .inl (fun _ => 0))), (q11, .inl (dA 0, 40, .inl (fun _ => 0)))] H := hP
  have hD : va_D A [(h, .inr (2, [.ref q1, .ref q2, .ref q3, .ref q4, .int 0, .int 0, .ref q5, .int 0, .int 0, .int 0, .int 0, .int 0, .int 0, .int 0, .int 0, .ref q6, .ref q7, .ref q8, .int 0, .int 0, .ref q9, .ref q10, .null, .int 0, .int 0, .null, .null, .null, .null, .null, .null, .int 0, .null, .null, .null, .null, .null, .null, .null, .null, .null, .null, .null, .int 0, .null, .int 0, .int 0, .int 0, .int 0, .int 0, .null, .null, .null, .int 0, .null, .int 0, .null, .int 0, .int 0, .int 0])), (q1, .inl (dA 0, 5161, .inl (fun _ => 0))), (q2, .inl (dA 0, 5161, .inl (fun _ => 0))), (q3, .inl (dA 0, 5120, .inl (fun _ => 0))), (q4, .inl (dA 0, 40, .inl (fun _ => 0))), (q5, .inl (dA 1, 120, .inl (fun _ => 0))), (q6, .inl (dA 0, 8, .inl (fun _ => 0))), (q7, .inl (dA 0, 8, .inl (fun _ => 0))), (q8, .inl (dA 0, 8, .inl (fun _ => 0))), (q9, .inl (dA 0, 30, .inl (fun _ => 0))), (q10, .inl (dA 0, 30, .inl (fun _ => 0))), (q11, .inl (dA 0, 40, .inl (fun _ => 0)))] := hD
  refine va_putF (D := D) (ci := 2) (v := .ref q11) (ty := (.array .int)) (C := kR2) (T := kT2) (N := 60) hx hb hts ku2 kt2 kp2 kn2 hown hK hP hD hS 0 rfl rfl 22 (by decide) (hts _ ms_k1338) (fun _ h => h) rfl hin rfl (by decide +kernel) rfl rfl (Nat.le_of_ble_eq_true rfl) d59_92 (fun H locs hP hD hS => ?_)
  have hP : va_P D vwCl [(h, .inr (2, [.ref q1, .ref q2, .ref q3, .ref q4, .int 0, .int 0, .ref q5, .int 0, .int 0, .int 0, .int 0, .int 0, .int 0, .int 0, .int 0, .ref q6, .ref q7, .ref q8, .int 0, .int 0, .ref q9, .ref q10, .ref q11, .int 0, .int 0, .null, .null, .null, .null, .null, .null, .int 0, .null, .null, .null, .null, .null, .null, .null, .null, .null, .null, .null, .int 0, .null, .int 0, .int 0, .int 0, .int 0, .int 0, .null, .null, .null, .int 0, .null, .int 0, .null, .int 0, .int 0, .int 0])), (q1, .inl (dA 0, 5161, .inl (fun _ => 0))), (q2, .inl (dA 0, 5161, .inl (fun _ => 0))), (q3, .inl (dA 0, 5120, .inl (fun _ => 0))), (q4, .inl (dA 0, 40, .inl (fun _ => 0))), (q5, .inl (dA 1, 120, .inl (fun _ => 0))), (q6, .inl (dA 0, 8, .inl (fun _ => 0))), (q7, .inl (dA 0, 8, .inl (fun _ => 0))), (q8, .inl (dA 0, 8, .inl (fun _ => 0))), (q9, .inl (dA 0, 30, .inl (fun _ => 0))), (q10, .inl (dA 0, 30, .inl (fun _ => 0))), (q11, .inl (dA 0, 40, .inl (fun _ => 0)))] H := hP
  have hD : va_D A [(h, .inr (2, [.ref q1, .ref q2, .ref q3, .ref q4, .int 0, .int 0, .ref q5, .int 0, .int 0, .int 0, .int 0, .int 0, .int 0, .int 0, .int 0, .ref q6, .ref q7, .ref q8, .int 0, .int 0, .ref q9, .ref q10, .ref q11, .int 0, .int 0, .null, .null, .null, .null, .null, .null, .int 0, .null, .null, .null, .null, .null, .null, .null, .null, .null, .null, .null, .int 0, .null, .int 0, .int 0, .int 0, .int 0, .int 0, .null, .null, .null, .int 0, .null, .int 0, .null, .int 0, .int 0, .int 0])), (q1, .inl (dA 0, 5161, .inl (fun _ => 0))), (q2, .inl (dA 0, 5161, .inl (fun _ => 0))), (q3, .inl (dA 0, 5120, .inl (fun _ => 0))), (q4, .inl (dA 0, 40, .inl (fun _ => 0))), (q5, .inl (dA 1, 120, .inl (fun _ => 0))), (q6, .inl (dA 0, 8, .inl (fun _ => 0))), (q7, .inl (dA 0, 8, .inl (fun _ => 0))), (q8, .inl (dA 0, 8, .inl (fun _ => 0))), (q9, .inl (dA 0, 30, .inl (fun _ => 0))), (q10, .inl (dA 0, 30, .inl (fun _ => 0))), (q11, .inl (dA 0, 40, .inl (fun _ => 0)))] := hD
  refine lv_aload_n hx hb d59_95 rfl (lv_at hl 0 rfl) ?_
  refine lv_sipush (v := 130) hx hb d59_96 (by decide) ?_
  refine ms_newa (atype := .int) (ty := .int) (a0 := (130, .inl (fun _ => 0))) X ms_k124 rfl 0 rfl (fun _ h => h) hP hD hS (fun _ => rfl) (by decide) (by decide) (by decide) (Nat.le_of_ble_eq_true rfl) (Nat.le_of_ble_eq_true rfl) d59_99 (fun q12 H hP hD hS => ?_)
  have hP : va_P D vwCl [(h, .inr (2, [.ref q1, .ref q2, .ref q3, .ref q4, .int 0, .int 0, .ref q5, .int 0, .int 0, .int 0, .int 0, .int 0, .int 0, .int 0, .int 0, .ref q6, .ref q7, .ref q8, .int 0, .int 0, .ref q9, .ref q10, .ref q11, .int 0, .int 0, .null, .null, .null, .null, .null, .null, .int 0, .null, .null, .null, .null, .null, .null, .null, .null, .null, .null, .null, .int 0, .null, .int 0, .int 0, .int 0, .int 0, .int 0, .null, .null, .null, .int 0, .null, .int 0, .null, .int 0, .int 0, .int 0])), (q1, .inl (dA 0, 5161, .inl (fun _ => 0))), (q2, .inl (dA 0, 5161, .inl (fun _ => 0))), (q3, .inl (dA 0, 5120, .inl (fun _ => 0))), (q4, .inl (dA 0, 40, .inl (fun _ => 0))), (q5, .inl (dA 1, 120, .inl (fun _ => 0))), (q6, .inl (dA 0, 8, .inl (fun _ => 0))), (q7, .inl (dA 0, 8, .inl (fun _ => 0))), (q8, .inl (dA 0, 8, .inl (fun _ => 0))), (q9, .inl (dA 0, 30, .inl (fun _ => 0))), (q10, .inl (dA 0, 30, .inl (fun _ => 0))), (q11, .inl (dA 0, 40, .inl (fun _ => 0))), (q12, .inl (dA 0, 130, .inl (fun _ => 0)))] H := hP
  have hD : va_D A [(h, .inr (2, [.ref q1, .ref q2, .ref q3, .ref q4, .int 0, .int 0, .ref q5, .int 0, .int 0, .int 0, .int 0, .int 0, .int 0, .int 0, .int 0, .ref q6, .ref q7, .ref q8, .int 0, .int 0, .ref q9, .ref q10, .ref q11, .int 0, .int 0, .null, .null, .null, .null, .null, .null, .int 0, .null, .null, .null, .null, .null, .null, .null, .null, .null, .null, .null, .int 0, .null, .int 0, .int 0, .int 0, .int 0, .int 0, .null, .null, .null, .int 0, .null, .int 0, .null, .int 0, .int 0, .int 0])), (q1, .inl (dA 0, 5161, .inl (fun _ => 0))), (q2, .inl (dA 0, 5161, .inl (fun _ => 0))), (q3, .inl (dA 0, 5120, .inl (fun _ => 0))), (q4, .inl (dA 0, 40, .inl (fun _ => 0))), (q5, .inl (dA 1, 120, .inl (fun _ => 0))), (q6, .inl (dA 0, 8, .inl (fun _ => 0))), (q7, .inl (dA 0, 8, .inl (fun _ => 0))), (q8, .inl (dA 0, 8, .inl (fun _ => 0))), (q9, .inl (dA 0, 30, .inl (fun _ => 0))), (q10, .inl (dA 0, 30, .inl (fun _ => 0))), (q11, .inl (dA 0, 40, .inl (fun _ => 0))), (q12, .inl (dA 0, 130, .inl (fun _ => 0)))] := hD
  refine va_putF (D := D) (ci := 2) (v := .ref q12) (ty := (.array .int)) (C := kR2) (T := kT2) (N := 60) hx hb hts ku2 kt2 kp2 kn2 hown hK hP hD hS 0 rfl rfl 25 (by decide) (hts _ ms_k1341) (fun _ h => h) rfl hin rfl (by decide +kernel) rfl rfl (Nat.le_of_ble_eq_true rfl) d59_101 (fun H locs hP hD hS => ?_)
  have hP : va_P D vwCl [(h, .inr (2, [.ref q1, .ref q2, .ref q3, .ref q4, .int 0, .int 0, .ref q5, .int 0, .int 0, .int 0, .int 0, .int 0, .int 0, .int 0, .int 0, .ref q6, .ref q7, .ref q8, .int 0, .int 0, .ref q9, .ref q10, .ref q11, .int 0, .int 0, .ref q12, .null, .null, .null, .null, .null, .int 0, .null, .null, .null, .null, .null, .null, .null, .null, .null, .null, .null, .int 0, .null, .int 0, .int 0, .int 0, .int 0, .int 0, .null, .null, .null, .int 0, .null, .int 0, .null, .int 0, .int 0, .int 0])), (q1, .inl (dA 0, 5161, .inl (fun _ => 0))), (q2, .inl (dA 0, 5161, .inl (fun _ => 0))), (q3, .inl (dA 0, 5120, .inl (fun _ => 0))), (q4, .inl (dA 0, 40, .inl (fun _ => 0))), (q5, .inl (dA 1, 120, .inl (fun _ => 0))), (q6, .inl (dA 0, 8, .inl (fun _ => 0))), (q7, .inl (dA 0, 8, .inl (fun _ => 0))), (q8, .inl (dA 0, 8, .inl (fun _ => 0))), (q9, .inl (dA 0, 30, .inl (fun _ => 0))), (q10, .inl (dA 0, 30, .inl (fun _ => 0))), (q11, .inl (dA 0, 40, .inl (fun _ => 0))), (q12, .inl (dA 0, 130, .inl (fun _ => 0)))] H := hP
  have hD : va_D A [(h, .inr (2, [.ref q1, .ref q2, .ref q3, .ref q4, .int 0, .int 0, .ref q5, .int 0, .int 0, .int 0, .int 0, .int 0, .int 0, .int 0, .int 0, .ref q6, .ref q7, .ref q8, .int 0, .int 0, .ref q9, .ref q10, .ref q11, .int 0, .int 0, .ref q12, .null, .null, .null, .null, .null, .int 0, .null, .null, .null, .null, .null, .null, .null, .null, .null, .null, .null, .int 0, .null, .int 0, .int 0, .int 0, .int 0, .int 0, .null, .null, .null, .int 0, .null, .int 0, .null, .int 0, .int 0, .int 0])), (q1, .inl (dA 0, 5161, .inl (fun _ => 0))), (q2, .inl (dA 0, 5161, .inl (fun _ => 0))), (q3, .inl (dA 0, 5120, .inl (fun _ => 0))), (q4, .inl (dA 0, 40, .inl (fun _ => 0))), (q5, .inl (dA 1, 120, .inl (fun _ => 0))), (q6, .inl (dA 0, 8, .inl (fun _ => 0))), (q7, .inl (dA 0, 8, .inl (fun _ => 0))), (q8, .inl (dA 0, 8, .inl (fun _ => 0))), (q9, .inl (dA 0, 30, .inl (fun _ => 0))), (q10, .inl (dA 0, 30, .inl (fun _ => 0))), (q11, .inl (dA 0, 40, .inl (fun _ => 0))), (q12, .inl (dA 0, 130, .inl (fun _ => 0)))] := hD
  refine lv_aload_n hx hb d59_104 rfl (lv_at hl 0 rfl) ?_
  refine lv_sipush (v := 130) hx hb d59_105 (by decide) ?_
  refine ms_newa (atype := .int) (ty := .int) (a0 := (130, .inl (fun _ => 0))) X ms_k124 rfl 0 rfl (fun _ h => h) hP hD hS (fun _ => rfl) (by decide) (by decide) (by decide) (Nat.le_of_ble_eq_true rfl) (Nat.le_of_ble_eq_true rfl) d59_108 (fun q13 H hP hD hS => ?_)
  have hP : va_P D vwCl [(h, .inr (2, [.ref q1, .ref q2, .ref q3, .ref q4, .int 0, .int 0, .ref q5, .int 0, .int 0, .int 0, .int 0, .int 0, .int 0, .int 0, .int 0, .ref q6, .ref q7, .ref q8, .int 0, .int 0, .ref q9, .ref q10, .ref q11, .int 0, .int 0, .ref q12, .null, .null, .null, .null, .null, .int 0, .null, .null, .null, .null, .null, .null, .null, .null, .null, .null, .null, .int 0, .null, .int 0, .int 0, .int 0, .int 0, .int 0, .null, .null, .null, .int 0, .null, .int 0, .null, .int 0, .int 0, .int 0])), (q1, .inl (dA 0, 5161, .inl (fun _ => 0))), (q2, .inl (dA 0, 5161, .inl (fun _ => 0))), (q3, .inl (dA 0, 5120, .inl (fun _ => 0))), (q4, .inl (dA 0, 40, .inl (fun _ => 0))), (q5, .inl (dA 1, 120, .inl (fun _ => 0))), (q6, .inl (dA 0, 8, .inl (fun _ => 0))), (q7, .inl (dA 0, 8, .inl (fun _ => 0))), (q8, .inl (dA 0, 8, .inl (fun _ => 0))), (q9, .inl (dA 0, 30, .inl (fun _ => 0))), (q10, .inl (dA 0, 30, .inl (fun _ => 0))), (q11, .inl (dA 0, 40, .inl (fun _ => 0))), (q12, .inl (dA 0, 130, .inl (fun _ => 0))), (q13, .inl (dA 0, 130, .inl (fun _ => 0)))] H := hP
  have hD : va_D A [(h, .inr (2, [.ref q1, .ref q2, .ref q3, .ref q4, .int 0, .int 0, .ref q5, .int 0, .int 0, .int 0, .int 0, .int 0, .int 0, .int 0, .int 0, .ref q6, .ref q7, .ref q8, .int 0, .int 0, .ref q9, .ref q10, .ref q11, .int 0, .int 0, .ref q12, .null, .null, .null, .null, .null, .int 0, .null, .null, .null, .null, .null, .null, .null, .null, .null, .null, .null, .int 0, .null, .int 0, .int 0, .int 0, .int 0, .int 0, .null, .null, .null, .int 0, .null, .int 0, .null, .int 0, .int 0, .int 0])), (q1, .inl (dA 0, 5161, .inl (fun _ => 0))), (q2, .inl (dA 0, 5161, .inl (fun _ => 0))), (q3, .inl (dA 0, 5120, .inl (fun _ => 0))), (q4, .inl (dA 0, 40, .inl (fun _ => 0))), (q5, .inl (dA 1, 120, .inl (fun _ => 0))), (q6, .inl (dA 0, 8, .inl (fun _ => 0))), (q7, .inl (dA 0, 8, .inl (fun _ => 0))), (q8, .inl (dA 0, 8, .inl (fun _ => 0))), (q9, .inl (dA 0, 30, .inl (fun _ => 0))), (q10, .inl (dA 0, 30, .inl (fun _ => 0))), (q11, .inl (dA 0, 40, .inl (fun _ => 0))), (q12, .inl (dA 0, 130, .inl (fun _ => 0))), (q13, .inl (dA 0, 130, .inl (fun _ => 0)))] := hD
  refine va_putF (D := D) (ci := 2) (v := .ref q13) (ty := (.array .int)) (C := kR2) (T := kT2) (N := 60) hx hb hts ku2 kt2 kp2 kn2 hown hK hP hD hS 0 rfl rfl 26 (by decide) (hts _ ms_k1342) (fun _ h => h) rfl hin rfl (by decide +kernel) rfl rfl (Nat.le_of_ble_eq_true rfl) d59_110 (fun H locs hP hD hS => ?_)
  have hP : va_P D vwCl [(h, .inr (2, [.ref q1, .ref q2, .ref q3, .ref q4, .int 0, .int 0, .ref q5, .int 0, .int 0, .int 0, .int 0, .int 0, .int 0, .int 0, .int 0, .ref q6, .ref q7, .ref q8, .int 0, .int 0, .ref q9, .ref q10, .ref q11, .int 0, .int 0, .ref q12, .ref q13, .null, .null, .null, .null, .int 0, .null, .null, .null, .null, .null, .null, .null, .null, .null, .null, .null, .int 0, .null, .int 0, .int 0, .int 0, .int 0, .int 0, .null, .null, .null, .int 0, .null, .int 0, .null, .int 0, .int 0, .int 0])), (q1, .inl (dA 0, 5161, .inl (fun _ => 0))), (q2, .inl (dA 0, 5161, .inl (fun _ => 0))), (q3, .inl (dA 0, 5120, .inl (fun _ => 0))), (q4, .inl (dA 0, 40, .inl (fun _ => 0))), (q5, .inl (dA 1, 120, .inl (fun _ => 0))), (q6, .inl (dA 0, 8, .inl (fun _ => 0))), (q7, .inl (dA 0, 8, .inl (fun _ => 0))), (q8, .inl (dA 0, 8, .inl (fun _ => 0))), (q9, .inl (dA 0, 30, .inl (fun _ => 0))), (q10, .inl (dA 0, 30, .inl (fun _ => 0))), (q11, .inl (dA 0, 40, .inl (fun _ => 0))), (q12, .inl (dA 0, 130, .inl (fun _ => 0))), (q13, .inl (dA 0, 130, .inl (fun _ => 0)))] H := hP
  have hD : va_D A [(h, .inr (2, [.ref q1, .ref q2, .ref q3, .ref q4, .int 0, .int 0, .ref q5, .int 0, .int 0, .int 0, .int 0, .int 0, .int 0, .int 0, .int 0, .ref q6, .ref q7, .ref q8, .int 0, .int 0, .ref q9, .ref q10, .ref q11, .int 0, .int 0, .ref q12, .ref q13, .null, .null, .null, .null, .int 0, .null, .null, .null, .null, .null, .null, .null, .null, .null, .null, .null, .int 0, .null, .int 0, .int 0, .int 0, .int 0, .int 0, .null, .null, .null, .int 0, .null, .int 0, .null, .int 0, .int 0, .int 0])), (q1, .inl (dA 0, 5161, .inl (fun _ => 0))), (q2, .inl (dA 0, 5161, .inl (fun _ => 0))), (q3, .inl (dA 0, 5120, .inl (fun _ => 0))), (q4, .inl (dA 0, 40, .inl (fun _ => 0))), (q5, .inl (dA 1, 120, .inl (fun _ => 0))), (q6, .inl (dA 0, 8, .inl (fun _ => 0))), (q7, .inl (dA 0, 8, .inl (fun _ => 0))), (q8, .inl (dA 0, 8, .inl (fun _ => 0))), (q9, .inl (dA 0, 30, .inl (fun _ => 0))), (q10, .inl (dA 0, 30, .inl (fun _ => 0))), (q11, .inl (dA 0, 40, .inl (fun _ => 0))), (q12, .inl (dA 0, 130, .inl (fun _ => 0))), (q13, .inl (dA 0, 130, .inl (fun _ => 0)))] := hD
  refine lv_aload_n hx hb d59_113 rfl (lv_at hl 0 rfl) ?_
  refine lv_sipush (v := 130) hx hb d59_114 (by decide) ?_
  refine ms_newa (atype := .int) (ty := .int) (a0 := (130, .inl (fun _ => 0))) X ms_k124 rfl 0 rfl (fun _ h => h) hP hD hS (fun _ => rfl) (by decide) (by decide) (by decide) (Nat.le_of_ble_eq_true rfl) (Nat.le_of_ble_eq_true rfl) d59_117 (fun q14 H hP hD hS => ?_)
  have hP : va_P D vwCl [(h, .inr (2, [.ref q1, .ref q2, .ref q3, .ref q4, .int 0, .int 0, .ref q5, .int 0, .int 0, .int 0, .int 0, .int 0, .int 0, .int 0, .int 0, .ref q6, .ref q7, .ref q8, .int 0, .int 0, .ref q9, .ref q10, .ref q11, .int 0, .int 0, .ref q12, .ref q13, .null, .null, .null, .null, .int 0, .null, .null, .null, .null, .null, .null, .null, .null, .null, .null, .null, .int 0, .null, .int 0, .int 0, .int 0, .int 0, .int 0, .null, .null, .null, .int 0, .null, .int 0, .null, .int 0, .int 0, .int 0])), (q1, .inl (dA 0, 5161, .inl (fun _ => 0))), (q2, .inl (dA 0, 5161, .inl (fun _ => 0))), (q3, .inl (dA 0, 5120, .inl (fun _ => 0))), (q4, .inl (dA 0, 40, .inl (fun _ => 0))), (q5, .inl (dA 1, 120, .inl (fun _ => 0))), (q6, .inl (dA 0, 8, .inl (fun _ => 0))), (q7, .inl (dA 0, 8, .inl (fun _ => 0))), (q8, .inl (dA 0, 8, .inl (fun _ => 0))), (q9, .inl (dA 0, 30, .inl (fun _ => 0))), (q10, .inl (dA 0, 30, .inl (fun _ => 0))), (q11, .inl (dA 0, 40, .inl (fun _ => 0))), (q12, .inl (dA 0, 130, .inl (fun _ => 0))), (q13, .inl (dA 0, 130, .inl (fun _ => 0))), (q14, .inl (dA 0, 130, .inl (fun _ => 0)))] H := hP
  have hD : va_D A [(h, .inr (2, [.ref q1, .ref q2, .ref q3, .ref q4, .int 0, .int 0, .ref q5, .int 0, .int 0, .int 0, .int 0, .int 0, .int 0, .int 0, .int 0, .ref q6, .ref q7, .ref q8, .int 0, .int 0, .ref q9, .ref q10, .ref q11, .int 0, .int 0, .ref q12, .ref q13, .null, .null, .null, .null, .int 0, .null, .null, .null, .null, .null, .null, .null, .null, .null, .null, .null, .int 0, .null, .int 0, .int 0, .int 0, .int 0, .int 0, .null, .null, .null, .int 0, .null, .int 0, .null, .int 0, .int 0, .int 0])), (q1, .inl (dA 0, 5161, .inl (fun _ => 0))), (q2, .inl (dA 0, 5161, .inl (fun _ => 0))), (q3, .inl (dA 0, 5120, .inl (fun _ => 0))), (q4, .inl (dA 0, 40, .inl (fun _ => 0))), (q5, .inl (dA 1, 120, .inl (fun _ => 0))), (q6, .inl (dA 0, 8, .inl (fun _ => 0))), (q7, .inl (dA 0, 8, .inl (fun _ => 0))), (q8, .inl (dA 0, 8, .inl (fun _ => 0))), (q9, .inl (dA 0, 30, .inl (fun _ => 0))), (q10, .inl (dA 0, 30, .inl (fun _ => 0))), (q11, .inl (dA 0, 40, .inl (fun _ => 0))), (q12, .inl (dA 0, 130, .inl (fun _ => 0))), (q13, .inl (dA 0, 130, .inl (fun _ => 0))), (q14, .inl (dA 0, 130, .inl (fun _ => 0)))] := hD
  refine va_putF (D := D) (ci := 2) (v := .ref q14) (ty := (.array .int)) (C := kR2) (T := kT2) (N := 60) hx hb hts ku2 kt2 kp2 kn2 hown hK hP hD hS 0 rfl rfl 27 (by decide) (hts _ ms_k1343) (fun _ h => h) rfl hin rfl (by decide +kernel) rfl rfl (Nat.le_of_ble_eq_true rfl) d59_119 (fun H locs hP hD hS => ?_)
  have hP : va_P D vwCl [(h, .inr (2, [.ref q1, .ref q2, .ref q3, .ref q4, .int 0, .int 0, .ref q5, .int 0, .int 0, .int 0, .int 0, .int 0, .int 0, .int 0, .int 0, .ref q6, .ref q7, .ref q8, .int 0, .int 0, .ref q9, .ref q10, .ref q11, .int 0, .int 0, .ref q12, .ref q13, .ref q14, .null, .null, .null, .int 0, .null, .null, .null, .null, .null, .null, .null, .null, .null, .null, .null, .int 0, .null, .int 0, .int 0, .int 0, .int 0, .int 0, .null, .null, .null, .int 0, .null, .int 0, .null, .int 0, .int 0, .int 0])), (q1, .inl (dA 0, 5161, .inl (fun _ => 0))), (q2, .inl (dA 0, 5161, .inl (fun _ => 0))), (q3, .inl (dA 0, 5120, .inl (fun _ => 0))), (q4, .inl (dA 0, 40, .inl (fun _ => 0))), (q5, .inl (dA 1, 120, .inl (fun _ => 0))), (q6, .inl (dA 0, 8, .inl (fun _ => 0))), (q7, .inl (dA 0, 8, .inl (fun _ => 0))), (q8, .inl (dA 0, 8, .inl (fun _ => 0))), (q9, .inl (dA 0, 30, .inl (fun _ => 0))), (q10, .inl (dA 0, 30, .inl (fun _ => 0))), (q11, .inl (dA 0, 40, .inl (fun _ => 0))), (q12, .inl (dA 0, 130, .inl (fun _ => 0))), (q13, .inl (dA 0, 130, .inl (fun _ => 0))), (q14, .inl (dA 0, 130, .inl (fun _ => 0)))] H := hP
  have hD : va_D A [(h, .inr (2, [.ref q1, .ref q2, .ref q3, .ref q4, .int 0, .int 0, .ref q5, .int 0, .int 0, .int 0, .int 0, .int 0, .int 0, .int 0, .int 0, .ref q6, .ref q7, .ref q8, .int 0, .int 0, .ref q9, .ref q10, .ref q11, .int 0, .int 0, .ref q12, .ref q13, .ref q14, .null, .null, .null, .int 0, .null, .null, .null, .null, .null, .null, .null, .null, .null, .null, .null, .int 0, .null, .int 0, .int 0, .int 0, .int 0, .int 0, .null, .null, .null, .int 0, .null, .int 0, .null, .int 0, .int 0, .int 0])), (q1, .inl (dA 0, 5161, .inl (fun _ => 0))), (q2, .inl (dA 0, 5161, .inl (fun _ => 0))), (q3, .inl (dA 0, 5120, .inl (fun _ => 0))), (q4, .inl (dA 0, 40, .inl (fun _ => 0))), (q5, .inl (dA 1, 120, .inl (fun _ => 0))), (q6, .inl (dA 0, 8, .inl (fun _ => 0))), (q7, .inl (dA 0, 8, .inl (fun _ => 0))), (q8, .inl (dA 0, 8, .inl (fun _ => 0))), (q9, .inl (dA 0, 30, .inl (fun _ => 0))), (q10, .inl (dA 0, 30, .inl (fun _ => 0))), (q11, .inl (dA 0, 40, .inl (fun _ => 0))), (q12, .inl (dA 0, 130, .inl (fun _ => 0))), (q13, .inl (dA 0, 130, .inl (fun _ => 0))), (q14, .inl (dA 0, 130, .inl (fun _ => 0)))] := hD
  refine lv_aload_n hx hb d59_122 rfl (lv_at hl 0 rfl) ?_
  refine lv_sipush (v := 130) hx hb d59_123 (by decide) ?_
  refine ms_newa (atype := .int) (ty := .int) (a0 := (130, .inl (fun _ => 0))) X ms_k124 rfl 0 rfl (fun _ h => h) hP hD hS (fun _ => rfl) (by decide) (by decide) (by decide) (Nat.le_of_ble_eq_true rfl) (Nat.le_of_ble_eq_true rfl) d59_126 (fun q15 H hP hD hS => ?_)
  have hP : va_P D vwCl [(h, .inr (2, [.ref q1, .ref q2, .ref q3, .ref q4, .int 0, .int 0, .ref q5, .int 0, .int 0, .int 0, .int 0, .int 0, .int 0, .int 0, .int 0, .ref q6, .ref q7, .ref q8, .int 0, .int 0, .ref q9, .ref q10, .ref q11, .int 0, .int 0, .ref q12, .ref q13, .ref q14, .null, .null, .null, .int 0, .null, .null, .null, .null, .null, .null, .null, .null, .null, .null, .null, .int 0, .null, .int 0, .int 0, .int 0, .int 0, .int 0, .null, .null, .null, .int 0, .null, .int 0, .null, .int 0, .int 0, .int 0])), (q1, .inl (dA 0, 5161, .inl (fun _ => 0))), (q2, .inl (dA 0, 5161, .inl (fun _ => 0))), (q3, .inl (dA 0, 5120, .inl (fun _ => 0))), (q4, .inl (dA 0, 40, .inl (fun _ => 0))), (q5, .inl (dA 1, 120, .inl (fun _ => 0))), (q6, .inl (dA 0, 8, .inl (fun _ => 0))), (q7, .inl (dA 0, 8, .inl (fun _ => 0))), (q8, .inl (dA 0, 8, .inl (fun _ => 0))), (q9, .inl (dA 0, 30, .inl (fun _ => 0))), (q10, .inl (dA 0, 30, .inl (fun _ => 0))), (q11, .inl (dA 0, 40, .inl (fun _ => 0))), (q12, .inl (dA 0, 130, .inl (fun _ => 0))), (q13, .inl (dA 0, 130, .inl (fun _ => 0))), (q14, .inl (dA 0, 130, .inl (fun _ => 0))), (q15, .inl (dA 0, 130, .inl (fun _ => 0)))] H := hP
  have hD : va_D A [(h, .inr (2, [.ref q1, .ref q2, .ref q3, .ref q4, .int 0, .int 0, .ref q5, .int 0, .int 0, .int 0, .int 0, .int 0, .int 0, .int 0, .int 0, .ref q6, .ref q7, .ref q8, .int 0, .int 0, .ref q9, .ref q10, .ref q11, .int 0, .int 0, .ref q12, .ref q13, .ref q14, .null, .null, .null, .int 0, .null, .null, .null, .null, .null, .null, .null, .null, .null, .null, .null, .int 0, .null, .int 0, .int 0, .int 0, .int 0, .int 0, .null, .null, .null, .int 0, .null, .int 0, .null, .int 0, .int 0, .int 0])), (q1, .inl (dA 0, 5161, .inl (fun _ => 0))), (q2, .inl (dA 0, 5161, .inl (fun _ => 0))), (q3, .inl (dA 0, 5120, .inl (fun _ => 0))), (q4, .inl (dA 0, 40, .inl (fun _ => 0))), (q5, .inl (dA 1, 120, .inl (fun _ => 0))), (q6, .inl (dA 0, 8, .inl (fun _ => 0))), (q7, .inl (dA 0, 8, .inl (fun _ => 0))), (q8, .inl (dA 0, 8, .inl (fun _ => 0))), (q9, .inl (dA 0, 30, .inl (fun _ => 0))), (q10, .inl (dA 0, 30, .inl (fun _ => 0))), (q11, .inl (dA 0, 40, .inl (fun _ => 0))), (q12, .inl (dA 0, 130, .inl (fun _ => 0))), (q13, .inl (dA 0, 130, .inl (fun _ => 0))), (q14, .inl (dA 0, 130, .inl (fun _ => 0))), (q15, .inl (dA 0, 130, .inl (fun _ => 0)))] := hD
  refine va_putF (D := D) (ci := 2) (v := .ref q15) (ty := (.array .int)) (C := kR2) (T := kT2) (N := 60) hx hb hts ku2 kt2 kp2 kn2 hown hK hP hD hS 0 rfl rfl 28 (by decide) (hts _ ms_k1344) (fun _ h => h) rfl hin rfl (by decide +kernel) rfl rfl (Nat.le_of_ble_eq_true rfl) d59_128 (fun H locs hP hD hS => ?_)
  have hP : va_P D vwCl [(h, .inr (2, [.ref q1, .ref q2, .ref q3, .ref q4, .int 0, .int 0, .ref q5, .int 0, .int 0, .int 0, .int 0, .int 0, .int 0, .int 0, .int 0, .ref q6, .ref q7, .ref q8, .int 0, .int 0, .ref q9, .ref q10, .ref q11, .int 0, .int 0, .ref q12, .ref q13, .ref q14, .ref q15, .null, .null, .int 0, .null, .null, .null, .null, .null, .null, .null, .null, .null, .null, .null, .int 0, .null, .int 0, .int 0, .int 0, .int 0, .int 0, .null, .null, .null, .int 0, .null, .int 0, .null, .int 0, .int 0, .int 0])), (q1, .inl (dA 0, 5161, .inl (fun _ => 0))), (q2, .inl (dA 0, 5161, .inl (fun _ => 0))), (q3, .inl (dA 0, 5120, .inl (fun _ => 0))), (q4, .inl (dA 0, 40, .inl (fun _ => 0))), (q5, .inl (dA 1, 120, .inl (fun _ => 0))), (q6, .inl (dA 0, 8, .inl (fun _ => 0))), (q7, .inl (dA 0, 8, .inl (fun _ => 0))), (q8, .inl (dA 0, 8, .inl (fun _ => 0))), (q9, .inl (dA 0, 30, .inl (fun _ => 0))), (q10, .inl (dA 0, 30, .inl (fun _ => 0))), (q11, .inl (dA 0, 40, .inl (fun _ => 0))), (q12, .inl (dA 0, 130, .inl (fun _ => 0))), (q13, .inl (dA 0, 130, .inl (fun _ => 0))), (q14, .inl (dA 0, 130, .inl (fun _ => 0))), (q15, .inl (dA 0, 130, .inl (fun _ => 0)))] H := hP
  have hD : va_D A [(h, .inr (2, [.ref q1, .ref q2, .ref q3, .ref q4, .int 0, .int 0, .ref q5, .int 0, .int 0, .int 0, .int 0, .int 0, .int 0, .int 0, .int 0, .ref q6, .ref q7, .ref q8, .int 0, .int 0, .ref q9, .ref q10, .ref q11, .int 0, .int 0, .ref q12, .ref q13, .ref q14, .ref q15, .null, .null, .int 0, .null, .null, .null, .null, .null, .null, .null, .null, .null, .null, .null, .int 0, .null, .int 0, .int 0, .int 0, .int 0, .int 0, .null, .null, .null, .int 0, .null, .int 0, .null, .int 0, .int 0, .int 0])), (q1, .inl (dA 0, 5161, .inl (fun _ => 0))), (q2, .inl (dA 0, 5161, .inl (fun _ => 0))), (q3, .inl (dA 0, 5120, .inl (fun _ => 0))), (q4, .inl (dA 0, 40, .inl (fun _ => 0))), (q5, .inl (dA 1, 120, .inl (fun _ => 0))), (q6, .inl (dA 0, 8, .inl (fun _ => 0))), (q7, .inl (dA 0, 8, .inl (fun _ => 0))), (q8, .inl (dA 0, 8, .inl (fun _ => 0))), (q9, .inl (dA 0, 30, .inl (fun _ => 0))), (q10, .inl (dA 0, 30, .inl (fun _ => 0))), (q11, .inl (dA 0, 40, .inl (fun _ => 0))), (q12, .inl (dA 0, 130, .inl (fun _ => 0))), (q13, .inl (dA 0, 130, .inl (fun _ => 0))), (q14, .inl (dA 0, 130, .inl (fun _ => 0))), (q15, .inl (dA 0, 130, .inl (fun _ => 0)))] := hD
  refine lv_aload_n hx hb d59_131 rfl (lv_at hl 0 rfl) ?_
  refine lv_sipush (v := 130) hx hb d59_132 (by decide) ?_
  refine ms_newa (atype := .int) (ty := .int) (a0 := (130, .inl (fun _ => 0))) X ms_k124 rfl 0 rfl (fun _ h => h) hP hD hS (fun _ => rfl) (by decide) (by decide) (by decide) (Nat.le_of_ble_eq_true rfl) (Nat.le_of_ble_eq_true rfl) d59_135 (fun q16 H hP hD hS => ?_)
  have hP : va_P D vwCl [(h, .inr (2, [.ref q1, .ref q2, .ref q3, .ref q4, .int 0, .int 0, .ref q5, .int 0, .int 0, .int 0, .int 0, .int 0, .int 0, .int 0, .int 0, .ref q6, .ref q7, .ref q8, .int 0, .int 0, .ref q9, .ref q10, .ref q11, .int 0, .int 0, .ref q12, .ref q13, .ref q14, .ref q15, .null, .null, .int 0, .null, .null, .null, .null, .null, .null, .null, .null, .null, .null, .null, .int 0, .null, .int 0, .int 0, .int 0, .int 0, .int 0, .null, .null, .null, .int 0, .null, .int 0, .null, .int 0, .int 0, .int 0])), (q1, .inl (dA 0, 5161, .inl (fun _ => 0))), (q2, .inl (dA 0, 5161, .inl (fun _ => 0))), (q3, .inl (dA 0, 5120, .inl (fun _ => 0))), (q4, .inl (dA 0, 40, .inl (fun _ => 0))), (q5, .inl (dA 1, 120, .inl (fun _ => 0))), (q6, .inl (dA 0, 8, .inl (fun _ => 0))), (q7, .inl (dA 0, 8, .inl (fun _ => 0))), (q8, .inl (dA 0, 8, .inl (fun _ => 0))), (q9, .inl (dA 0, 30, .inl (fun _ => 0))), (q10, .inl (dA 0, 30, .inl (fun _ => 0))), (q11, .inl (dA 0, 40, .inl (fun _ => 0))), (q12, .inl (dA 0, 130, .inl (fun _ => 0))), (q13, .inl (dA 0, 130, .inl (fun _ => 0))), (q14, .inl (dA 0, 130, .inl (fun _ => 0))), (q15, .inl (dA 0, 130, .inl (fun _ => 0))), (q16, .inl (dA 0, 130, .inl (fun _ => 0)))] H := hP
  have hD : va_D A [(h, .inr (2, [.ref q1, .ref q2, .ref q3, .ref q4, .int 0, .int 0, .ref q5, .int 0, .int 0, .int 0, .int 0, .int 0, .int 0, .int 0, .int 0, .ref q6, .ref q7, .ref q8, .int 0, .int 0, .ref q9, .ref q10, .ref q11, .int 0, .int 0, .ref q12, .ref q13, .ref q14, .ref q15, .null, .null, .int 0, .null, .null, .null, .null, .null, .null, .null, .null, .null, .null, .null, .int 0, .null, .int 0, .int 0, .int 0, .int 0, .int 0, .null, .null, .null, .int 0, .null, .int 0, .null, .int 0, .int 0, .int 0])), (q1, .inl (dA 0, 5161, .inl (fun _ => 0))), (q2, .inl (dA 0, 5161, .inl (fun _ => 0))), (q3, .inl (dA 0, 5120, .inl (fun _ => 0))), (q4, .inl (dA 0, 40, .inl (fun _ => 0))), (q5, .inl (dA 1, 120, .inl (fun _ => 0))), (q6, .inl (dA 0, 8, .inl (fun _ => 0))), (q7, .inl (dA 0, 8, .inl (fun _ => 0))), (q8, .inl (dA 0, 8, .inl (fun _ => 0))), (q9, .inl (dA 0, 30, .inl (fun _ => 0))), (q10, .inl (dA 0, 30, .inl (fun _ => 0))), (q11, .inl (dA 0, 40, .inl (fun _ => 0))), (q12, .inl (dA 0, 130, .inl (fun _ => 0))), (q13, .inl (dA 0, 130, .inl (fun _ => 0))), (q14, .inl (dA 0, 130, .inl (fun _ => 0))), (q15, .inl (dA 0, 130, .inl (fun _ => 0))), (q16, .inl (dA 0, 130, .inl (fun _ => 0)))] := hD
  refine va_putF (D := D) (ci := 2) (v := .ref q16) (ty := (.array .int)) (C := kR2) (T := kT2) (N := 60) hx hb hts ku2 kt2 kp2 kn2 hown hK hP hD hS 0 rfl rfl 29 (by decide) (hts _ ms_k1345) (fun _ h => h) rfl hin rfl (by decide +kernel) rfl rfl (Nat.le_of_ble_eq_true rfl) d59_137 (fun H locs hP hD hS => ?_)
  have hP : va_P D vwCl [(h, .inr (2, [.ref q1, .ref q2, .ref q3, .ref q4, .int 0, .int 0, .ref q5, .int 0, .int 0, .int 0, .int 0, .int 0, .int 0, .int 0, .int 0, .ref q6, .ref q7, .ref q8, .int 0, .int 0, .ref q9, .ref q10, .ref q11, .int 0, .int 0, .ref q12, .ref q13, .ref q14, .ref q15, .ref q16, .null, .int 0, .null, .null, .null, .null, .null, .null, .null, .null, .null, .null, .null, .int 0, .null, .int 0, .int 0, .int 0, .int 0, .int 0, .null, .null, .null, .int 0, .null, .int 0, .null, .int 0, .int 0, .int 0])), (q1, .inl (dA 0, 5161, .inl (fun _ => 0))), (q2, .inl (dA 0, 5161, .inl (fun _ => 0))), (q3, .inl (dA 0, 5120, .inl (fun _ => 0))), (q4, .inl (dA 0, 40, .inl (fun _ => 0))), (q5, .inl (dA 1, 120, .inl (fun _ => 0))), (q6, .inl (dA 0, 8, .inl (fun _ => 0))), (q7, .inl (dA 0, 8, .inl (fun _ => 0))), (q8, .inl (dA 0, 8, .inl (fun _ => 0))), (q9, .inl (dA 0, 30, .inl (fun _ => 0))), (q10, .inl (dA 0, 30, .inl (fun _ => 0))), (q11, .inl (dA 0, 40, .inl (fun _ => 0))), (q12, .inl (dA 0, 130, .inl (fun _ => 0))), (q13, .inl (dA 0, 130, .inl (fun _ => 0))), (q14, .inl (dA 0, 130, .inl (fun _ => 0))), (q15, .inl (dA 0, 130, .inl (fun _ => 0))), (q16, .inl (dA 0, 130, .inl (fun _ => 0)))] H := hP
  have hD : va_D A [(h, .inr (2, [.ref q1, .ref q2, .ref q3, .ref q4, .int 0, .int 0, .ref q5, .int 0, .int 0, .int 0, .int 0, .int 0, .int 0, .int 0, .int 0, .ref q6, .ref q7, .ref q8, .int 0, .int 0, .ref q9, .ref q10, .ref q11, .int 0, .int 0, .ref q12, .ref q13, .ref q14, .ref q15, .ref q16, .null, .int 0, .null, .null, .null, .null, .null, .null, .null, .null, .null, .null, .null, .int 0, .null, .int 0, .int 0, .int 0, .int 0, .int 0, .null, .null, .null, .int 0, .null, .int 0, .null, .int 0, .int 0, .int 0])), (q1, .inl (dA 0, 5161, .inl (fun _ => 0))), (q2, .inl (dA 0, 5161, .inl (fun _ => 0))), (q3, .inl (dA 0, 5120, .inl (fun _ => 0))), (q4, .inl (dA 0, 40, .inl (fun _ => 0))), (q5, .inl (dA 1, 120, .inl (fun _ => 0))), (q6, .inl (dA 0, 8, .inl (fun _ => 0))), (q7, .inl (dA 0, 8, .inl (fun _ => 0))), (q8, .inl (dA 0, 8, .inl (fun _ => 0))), (q9, .inl (dA 0, 30, .inl (fun _ => 0))), (q10, .inl (dA 0, 30, .inl (fun _ => 0))), (q11, .inl (dA 0, 40, .inl (fun _ => 0))), (q12, .inl (dA 0, 130, .inl (fun _ => 0))), (q13, .inl (dA 0, 130, .inl (fun _ => 0))), (q14, .inl (dA 0, 130, .inl (fun _ => 0))), (q15, .inl (dA 0, 130, .inl (fun _ => 0))), (q16, .inl (dA 0, 130, .inl (fun _ => 0)))] := hD
  refine lv_aload_n hx hb d59_140 rfl (lv_at hl 0 rfl) ?_
  refine lv_sipush (v := 130) hx hb d59_141 (by decide) ?_
  refine ms_newa (atype := .int) (ty := .int) (a0 := (130, .inl (fun _ => 0))) X ms_k124 rfl 0 rfl (fun _ h => h) hP hD hS (fun _ => rfl) (by decide) (by decide) (by decide) (Nat.le_of_ble_eq_true rfl) (Nat.le_of_ble_eq_true rfl) d59_144 (fun q17 H hP hD hS => ?_)
  have hP : va_P D vwCl [(h, .inr (2, [.ref q1, .ref q2, .ref q3, .ref q4, .int 0, .int 0, .ref q5, .int 0, .int 0, .int 0, .int 0, .int 0, .int 0, .int 0, .int 0, .ref q6, .ref q7, .ref q8, .int 0, .int 0, .ref q9, .ref q10, .ref q11, .int 0, .int 0, .ref q12, .ref q13, .ref q14, .ref q15, .ref q16, .null, .int 0, .null, .null, .null, .null, .null, .null, .null, .null, .null, .null, .null, .int 0, .null, .int 0, .int 0, .int 0, .int 0, .int 0, .null, .null, .null, .int 0, .null, .int 0, .null, .int 0, .int 0, .int 0])), (q1, .inl (dA 0, 5161, .inl (fun _ => 0))), (q2, .inl (dA 0, 5161, .inl (fun _ => 0))), (q3, .inl (dA 0, 5120, .inl (fun _ => 0))), (q4, .inl (dA 0, 40, .inl (fun _ => 0))), (q5, .inl (dA 1, 120, .inl (fun _ => 0))), (q6, .inl (dA 0, 8, .inl (fun _ => 0))), (q7, .inl (dA 0, 8, .inl (fun _ => 0))), (q8, .inl (dA 0, 8, .inl (fun _ => 0))), (q9, .inl (dA 0, 30, .inl (fun _ => 0))), (q10, .inl (dA 0, 30, .inl (fun _ => 0))), (q11, .inl (dA 0, 40, .inl (fun _ => 0))), (q12, .inl (dA 0, 130, .inl (fun _ => 0))), (q13, .inl (dA 0, 130, .inl (fun _ => 0))), (q14, .inl (dA 0, 130, .inl (fun _ => 0))), (q15, .inl (dA 0, 130, .inl (fun _ => 0))), (q16, .inl (dA 0, 130, .inl (fun _ => 0))), (q17, .inl (dA 0, 130, .inl (fun _ => 0)))] H := hP
  have hD : va_D A [(h, .inr (2, [.ref q1, .ref q2, .ref q3, .ref q4, .int 0, .int 0, .ref q5, .int 0, .int 0, .int 0, .int 0, .int 0, .int 0, .int 0, .int 0, .ref q6, .ref q7, .ref q8, .int 0, .int 0, .ref q9, .ref q10, .ref q11, .int 0, .int 0, .ref q12, .ref q13, .ref q14, .ref q15, .ref q16, .null, .int 0, .null, .null, .null, .null, .null, .null, .null, .null, .null, .null, .null, .int 0, .null, .int 0, .int 0, .int 0, .int 0, .int 0, .null, .null, .null, .int 0, .null, .int 0, .null, .int 0, .int 0, .int 0])), (q1, .inl (dA 0, 5161, .inl (fun _ => 0))), (q2, .inl (dA 0, 5161, .inl (fun _ => 0))), (q3, .inl (dA 0, 5120, .inl (fun _ => 0))), (q4, .inl (dA 0, 40, .inl (fun _ => 0))), (q5, .inl (dA 1, 120, .inl (fun _ => 0))), (q6, .inl (dA 0, 8, .inl (fun _ => 0))), (q7, .inl (dA 0, 8, .inl (fun _ => 0))), (q8, .inl (dA 0, 8, .inl (fun _ => 0))), (q9, .inl (dA 0, 30, .inl (fun _ => 0))), (q10, .inl (dA 0, 30, .inl (fun _ => 0))), (q11, .inl (dA 0, 40, .inl (fun _ => 0))), (q12, .inl (dA 0, 130, .inl (fun _ => 0))), (q13, .inl (dA 0, 130, .inl (fun _ => 0))), (q14, .inl (dA 0, 130, .inl (fun _ => 0))), (q15, .inl (dA 0, 130, .inl (fun _ => 0))), (q16, .inl (dA 0, 130, .inl (fun _ => 0))), (q17, .inl (dA 0, 130, .inl (fun _ => 0)))] := hD
  refine va_putF (D := D) (ci := 2) (v := .ref q17) (ty := (.array .int)) (C := kR2) (T := kT2) (N := 60) hx hb hts ku2 kt2 kp2 kn2 hown hK hP hD hS 0 rfl rfl 30 (by decide) (hts _ ms_k1346) (fun _ h => h) rfl hin rfl (by decide +kernel) rfl rfl (Nat.le_of_ble_eq_true rfl) d59_146 (fun H locs hP hD hS => ?_)
  have hP : va_P D vwCl [(h, .inr (2, [.ref q1, .ref q2, .ref q3, .ref q4, .int 0, .int 0, .ref q5, .int 0, .int 0, .int 0, .int 0, .int 0, .int 0, .int 0, .int 0, .ref q6, .ref q7, .ref q8, .int 0, .int 0, .ref q9, .ref q10, .ref q11, .int 0, .int 0, .ref q12, .ref q13, .ref q14, .ref q15, .ref q16, .ref q17, .int 0, .null, .null, .null, .null, .null, .null, .null, .null, .null, .null, .null, .int 0, .null, .int 0, .int 0, .int 0, .int 0, .int 0, .null, .null, .null, .int 0, .null, .int 0, .null, .int 0, .int 0, .int 0])), (q1, .inl (dA 0, 5161, .inl (fun _ => 0))), (q2, .inl (dA 0, 5161, .inl (fun _ => 0))), (q3, .inl (dA 0, 5120, .inl (fun _ => 0))), (q4, .inl (dA 0, 40, .inl (fun _ => 0))), (q5, .inl (dA 1, 120, .inl (fun _ => 0))), (q6, .inl (dA 0, 8, .inl (fun _ => 0))), (q7, .inl (dA 0, 8, .inl (fun _ => 0))), (q8, .inl (dA 0, 8, .inl (fun _ => 0))), (q9, .inl (dA 0, 30, .inl (fun _ => 0))), (q10, .inl (dA 0, 30, .inl (fun _ => 0))), (q11, .inl (dA 0, 40, .inl (fun _ => 0))), (q12, .inl (dA 0, 130, .inl (fun _ => 0))), (q13, .inl (dA 0, 130, .inl (fun _ => 0))), (q14, .inl (dA 0, 130, .inl (fun _ => 0))), (q15, .inl (dA 0, 130, .inl (fun _ => 0))), (q16, .inl (dA 0, 130, .inl (fun _ => 0))), (q17, .inl (dA 0, 130, .inl (fun _ => 0)))] H := hP
  have hD : va_D A [(h, .inr (2, [.ref q1, .ref q2, .ref q3, .ref q4, .int 0, .int 0, .ref q5, .int 0, .int 0, .int 0, .int 0, .int 0, .int 0, .int 0, .int 0, .ref q6, .ref q7, .ref q8, .int 0, .int 0, .ref q9, .ref q10, .ref q11, .int 0, .int 0, .ref q12, .ref q13, .ref q14, .ref q15, .ref q16, .ref q17, .int 0, .null, .null, .null, .null, .null, .null, .null, .null, .null, .null, .null, .int 0, .null, .int 0, .int 0, .int 0, .int 0, .int 0, .null, .null, .null, .int 0, .null, .int 0, .null, .int 0, .int 0, .int 0])), (q1, .inl (dA 0, 5161, .inl (fun _ => 0))), (q2, .inl (dA 0, 5161, .inl (fun _ => 0))), (q3, .inl (dA 0, 5120, .inl (fun _ => 0))), (q4, .inl (dA 0, 40, .inl (fun _ => 0))), (q5, .inl (dA 1, 120, .inl (fun _ => 0))), (q6, .inl (dA 0, 8, .inl (fun _ => 0))), (q7, .inl (dA 0, 8, .inl (fun _ => 0))), (q8, .inl (dA 0, 8, .inl (fun _ => 0))), (q9, .inl (dA 0, 30, .inl (fun _ => 0))), (q10, .inl (dA 0, 30, .inl (fun _ => 0))), (q11, .inl (dA 0, 40, .inl (fun _ => 0))), (q12, .inl (dA 0, 130, .inl (fun _ => 0))), (q13, .inl (dA 0, 130, .inl (fun _ => 0))), (q14, .inl (dA 0, 130, .inl (fun _ => 0))), (q15, .inl (dA 0, 130, .inl (fun _ => 0))), (q16, .inl (dA 0, 130, .inl (fun _ => 0))), (q17, .inl (dA 0, 130, .inl (fun _ => 0)))] := hD
  refine lv_aload_n hx hb d59_149 rfl (lv_at hl 0 rfl) ?_
  refine lv_bipush (v := 65) hx hb d59_150 (by decide) ?_
  refine ms_newa (atype := .int) (ty := .int) (a0 := (65, .inl (fun _ => 0))) X ms_k124 rfl 0 rfl (fun _ h => h) hP hD hS (fun _ => rfl) (by decide) (by decide) (by decide) (Nat.le_of_ble_eq_true rfl) (Nat.le_of_ble_eq_true rfl) d59_152 (fun q18 H hP hD hS => ?_)
  have hP : va_P D vwCl [(h, .inr (2, [.ref q1, .ref q2, .ref q3, .ref q4, .int 0, .int 0, .ref q5, .int 0, .int 0, .int 0, .int 0, .int 0, .int 0, .int 0, .int 0, .ref q6, .ref q7, .ref q8, .int 0, .int 0, .ref q9, .ref q10, .ref q11, .int 0, .int 0, .ref q12, .ref q13, .ref q14, .ref q15, .ref q16, .ref q17, .int 0, .null, .null, .null, .null, .null, .null, .null, .null, .null, .null, .null, .int 0, .null, .int 0, .int 0, .int 0, .int 0, .int 0, .null, .null, .null, .int 0, .null, .int 0, .null, .int 0, .int 0, .int 0])), (q1, .inl (dA 0, 5161, .inl (fun _ => 0))), (q2, .inl (dA 0, 5161, .inl (fun _ => 0))), (q3, .inl (dA 0, 5120, .inl (fun _ => 0))), (q4, .inl (dA 0, 40, .inl (fun _ => 0))), (q5, .inl (dA 1, 120, .inl (fun _ => 0))), (q6, .inl (dA 0, 8, .inl (fun _ => 0))), (q7, .inl (dA 0, 8, .inl (fun _ => 0))), (q8, .inl (dA 0, 8, .inl (fun _ => 0))), (q9, .inl (dA 0, 30, .inl (fun _ => 0))), (q10, .inl (dA 0, 30, .inl (fun _ => 0))), (q11, .inl (dA 0, 40, .inl (fun _ => 0))), (q12, .inl (dA 0, 130, .inl (fun _ => 0))), (q13, .inl (dA 0, 130, .inl (fun _ => 0))), (q14, .inl (dA 0, 130, .inl (fun _ => 0))), (q15, .inl (dA 0, 130, .inl (fun _ => 0))), (q16, .inl (dA 0, 130, .inl (fun _ => 0))), (q17, .inl (dA 0, 130, .inl (fun _ => 0))), (q18, .inl (dA 0, 65, .inl (fun _ => 0)))] H := hP
  have hD : va_D A [(h, .inr (2, [.ref q1, .ref q2, .ref q3, .ref q4, .int 0, .int 0, .ref q5, .int 0, .int 0, .int 0, .int 0, .int 0, .int 0, .int 0, .int 0, .ref q6, .ref q7, .ref q8, .int 0, .int 0, .ref q9, .ref q10, .ref q11, .int 0, .int 0, .ref q12, .ref q13, .ref q14, .ref q15, .ref q16, .ref q17, .int 0, .null, .null, .null, .null, .null, .null, .null, .null, .null, .null, .null, .int 0, .null, .int 0, .int 0, .int 0, .int 0, .int 0, .null, .null, .null, .int 0, .null, .int 0, .null, .int 0, .int 0, .int 0])), (q1, .inl (dA 0, 5161, .inl (fun _ => 0))), (q2, .inl (dA 0, 5161, .inl (fun _ => 0))), (q3, .inl (dA 0, 5120, .inl (fun _ => 0))), (q4, .inl (dA 0, 40, .inl (fun _ => 0))), (q5, .inl (dA 1, 120, .inl (fun _ => 0))), (q6, .inl (dA 0, 8, .inl (fun _ => 0))), (q7, .inl (dA 0, 8, .inl (fun _ => 0))), (q8, .inl (dA 0, 8, .inl (fun _ => 0))), (q9, .inl (dA 0, 30, .inl (fun _ => 0))), (q10, .inl (dA 0, 30, .inl (fun _ => 0))), (q11, .inl (dA 0, 40, .inl (fun _ => 0))), (q12, .inl (dA 0, 130, .inl (fun _ => 0))), (q13, .inl (dA 0, 130, .inl (fun _ => 0))), (q14, .inl (dA 0, 130, .inl (fun _ => 0))), (q15, .inl (dA 0, 130, .inl (fun _ => 0))), (q16, .inl (dA 0, 130, .inl (fun _ => 0))), (q17, .inl (dA 0, 130, .inl (fun _ => 0))), (q18, .inl (dA 0, 65, .inl (fun _ => 0)))] := hD
  refine va_putF (D := D) (ci := 2) (v := .ref q18) (ty := (.array .int)) (C := kR2) (T := kT2) (N := 60) hx hb hts ku2 kt2 kp2 kn2 hown hK hP hD hS 0 rfl rfl 32 (by decide) (hts _ ms_k1348) (fun _ h => h) rfl hin rfl (by decide +kernel) rfl rfl (Nat.le_of_ble_eq_true rfl) d59_154 (fun H locs hP hD hS => ?_)
  have hP : va_P D vwCl [(h, .inr (2, [.ref q1, .ref q2, .ref q3, .ref q4, .int 0, .int 0, .ref q5, .int 0, .int 0, .int 0, .int 0, .int 0, .int 0, .int 0, .int 0, .ref q6, .ref q7, .ref q8, .int 0, .int 0, .ref q9, .ref q10, .ref q11, .int 0, .int 0, .ref q12, .ref q13, .ref q14, .ref q15, .ref q16, .ref q17, .int 0, .ref q18, .null, .null, .null, .null, .null, .null, .null, .null, .null, .null, .int 0, .null, .int 0, .int 0, .int 0, .int 0, .int 0, .null, .null, .null, .int 0, .null, .int 0, .null, .int 0, .int 0, .int 0])), (q1, .inl (dA 0, 5161, .inl (fun _ => 0))), (q2, .inl (dA 0, 5161, .inl (fun _ => 0))), (q3, .inl (dA 0, 5120, .inl (fun _ => 0))), (q4, .inl (dA 0, 40, .inl (fun _ => 0))), (q5, .inl (dA 1, 120, .inl (fun _ => 0))), (q6, .inl (dA 0, 8, .inl (fun _ => 0))), (q7, .inl (dA 0, 8, .inl (fun _ => 0))), (q8, .inl (dA 0, 8, .inl (fun _ => 0))), (q9, .inl (dA 0, 30, .inl (fun _ => 0))), (q10, .inl (dA 0, 30, .inl (fun _ => 0))), (q11, .inl (dA 0, 40, .inl (fun _ => 0))), (q12, .inl (dA 0, 130, .inl (fun _ => 0))), (q13, .inl (dA 0, 130, .inl (fun _ => 0))), (q14, .inl (dA 0, 130, .inl (fun _ => 0))), (q15, .inl (dA 0, 130, .inl (fun _ => 0))), (q16, .inl (dA 0, 130, .inl (fun _ => 0))), (q17, .inl (dA 0, 130, .inl (fun _ => 0))), (q18, .inl (dA 0, 65, .inl (fun _ => 0)))] H := hP
  have hD : va_D A [(h, .inr (2, [.ref q1, .ref q2, .ref q3, .ref q4, .int 0, .int 0, .ref q5, .int 0, .int 0, .int 0, .int 0, .int 0, .int 0, .int 0, .int 0, .ref q6, .ref q7, .ref q8, .int 0, .int 0, .ref q9, .ref q10, .ref q11, .int 0, .int 0, .ref q12, .ref q13, .ref q14, .ref q15, .ref q16, .ref q17, .int 0, .ref q18, .null, .null, .null, .null, .null, .null, .null, .null, .null, .null, .int 0, .null, .int 0, .int 0, .int 0, .int 0, .int 0, .null, .null, .null, .int 0, .null, .int 0, .null, .int 0, .int 0, .int 0])), (q1, .inl (dA 0, 5161, .inl (fun _ => 0))), (q2, .inl (dA 0, 5161, .inl (fun _ => 0))), (q3, .inl (dA 0, 5120, .inl (fun _ => 0))), (q4, .inl (dA 0, 40, .inl (fun _ => 0))), (q5, .inl (dA 1, 120, .inl (fun _ => 0))), (q6, .inl (dA 0, 8, .inl (fun _ => 0))), (q7, .inl (dA 0, 8, .inl (fun _ => 0))), (q8, .inl (dA 0, 8, .inl (fun _ => 0))), (q9, .inl (dA 0, 30, .inl (fun _ => 0))), (q10, .inl (dA 0, 30, .inl (fun _ => 0))), (q11, .inl (dA 0, 40, .inl (fun _ => 0))), (q12, .inl (dA 0, 130, .inl (fun _ => 0))), (q13, .inl (dA 0, 130, .inl (fun _ => 0))), (q14, .inl (dA 0, 130, .inl (fun _ => 0))), (q15, .inl (dA 0, 130, .inl (fun _ => 0))), (q16, .inl (dA 0, 130, .inl (fun _ => 0))), (q17, .inl (dA 0, 130, .inl (fun _ => 0))), (q18, .inl (dA 0, 65, .inl (fun _ => 0)))] := hD
  refine lv_aload_n hx hb d59_157 rfl (lv_at hl 0 rfl) ?_
  refine lv_bipush (v := 65) hx hb d59_158 (by decide) ?_
  refine ms_newa (atype := .int) (ty := .int) (a0 := (65, .inl (fun _ => 0))) X ms_k124 rfl 0 rfl (fun _ h => h) hP hD hS (fun _ => rfl) (by decide) (by decide) (by decide) (Nat.le_of_ble_eq_true rfl) (Nat.le_of_ble_eq_true rfl) d59_160 (fun q19 H hP hD hS => ?_)
  have hP : va_P D vwCl [(h, .inr (2, [.ref q1, .ref q2, .ref q3, .ref q4, .int 0, .int 0, .ref q5, .int 0, .int 0, .int 0, .int 0, .int 0, .int 0, .int 0, .int 0, .ref q6, .ref q7, .ref q8, .int 0, .int 0, .ref q9, .ref q10, .ref q11, .int 0, .int 0, .ref q12, .ref q13, .ref q14, .ref q15, .ref q16, .ref q17, .int 0, .ref q18, .null, .null, .null, .null, .null, .null, .null, .null, .null, .null, .int 0, .null, .int 0, .int 0, .int 0, .int 0, .int 0, .null, .null, .null, .int 0, .null, .int 0, .null, .int 0, .int 0, .int 0])), (q1, .inl (dA 0, 5161, .inl (fun _ => 0))), (q2, .inl (dA 0, 5161, .inl (fun _ => 0))), (q3, .inl (dA 0, 5120, .inl (fun _ => 0))), (q4, .inl (dA 0, 40, .inl (fun _ => 0))), (q5, .inl (dA 1, 120, .inl (fun _ => 0))), (q6, .inl (dA 0, 8, .inl (fun _ => 0))), (q7, .inl (dA 0, 8, .inl (fun _ => 0))), (q8, .inl (dA 0, 8, .inl (fun _ => 0))), (q9, .inl (dA 0, 30, .inl (fun _ => 0))), (q10, .inl (dA 0, 30, .inl (fun _ => 0))), (q11, .inl (dA 0, 40, .inl (fun _ => 0))), (q12, .inl (dA 0, 130, .inl (fun _ => 0))), (q13, .inl (dA 0, 130, .inl (fun _ => 0))), (q14, .inl (dA 0, 130, .inl (fun _ => 0))), (q15, .inl (dA 0, 130, .inl (fun _ => 0))), (q16, .inl (dA 0, 130, .inl (fun _ => 0))), (q17, .inl (dA 0, 130, .inl (fun _ => 0))), (q18, .inl (dA 0, 65, .inl (fun _ => 0))), (q19, .inl (dA 0, 65, .inl (fun _ => 0)))] H := hP
  have hD : va_D A [(h, .inr (2, [.ref q1, .ref q2, .ref q3, .ref q4, .int 0, .int 0, .ref q5, .int 0, .int 0, .int 0, .int 0, .int 0, .int 0, .int 0, .int 0, .ref q6, .ref q7, .ref q8, .int 0, .int 0, .ref q9, .ref q10, .ref q11, .int 0, .int 0, .ref q12, .ref q13, .ref q14, .ref q15, .ref q16, .ref q17, .int 0, .ref q18, .null, .null, .null, .null, .null, .null, .null, .null, .null, .null, .int 0, .null, .int 0, .int 0, .int 0, .int 0, .int 0, .null, .null, .null, .int 0, .null, .int 0, .null, .int 0, .int 0, .int 0])), (q1, .inl (dA 0, 5161, .inl (fun _ => 0))), (q2, .inl (dA 0, 5161, .inl (fun _ => 0))), (q3, .inl (dA 0, 5120, .inl (fun _ => 0))), (q4, .inl (dA 0, 40, .inl (fun _ => 0))), (q5, .inl (dA 1, 120, .inl (fun _ => 0))), (q6, .inl (dA 0, 8, .inl (fun _ => 0))), (q7, .inl (dA 0, 8, .inl (fun _ => 0))), (q8, .inl (dA 0, 8, .inl (fun _ => 0))), (q9, .inl (dA 0, 30, .inl (fun _ => 0))), (q10, .inl (dA 0, 30, .inl (fun _ => 0))), (q11, .inl (dA 0, 40, .inl (fun _ => 0))), (q12, .inl (dA 0, 130, .inl (fun _ => 0))), (q13, .inl (dA 0, 130, .inl (fun _ => 0))), (q14, .inl (dA 0, 130, .inl (fun _ => 0))), (q15, .inl (dA 0, 130, .inl (fun _ => 0))), (q16, .inl (dA 0, 130, .inl (fun _ => 0))), (q17, .inl (dA 0, 130, .inl (fun _ => 0))), (q18, .inl (dA 0, 65, .inl (fun _ => 0))), (q19, .inl (dA 0, 65, .inl (fun _ => 0)))] := hD
  refine va_putF (D := D) (ci := 2) (v := .ref q19) (ty := (.array .int)) (C := kR2) (T := kT2) (N := 60) hx hb hts ku2 kt2 kp2 kn2 hown hK hP hD hS 0 rfl rfl 33 (by decide) (hts _ ms_k1349) (fun _ h => h) rfl hin rfl (by decide +kernel) rfl rfl (Nat.le_of_ble_eq_true rfl) d59_162 (fun H locs hP hD hS => ?_)
  have hP : va_P D vwCl [(h, .inr (2, [.ref q1, .ref q2, .ref q3, .ref q4, .int 0, .int 0, .ref q5, .int 0, .int 0, .int 0, .int 0, .int 0, .int 0, .int 0, .int 0, .ref q6, .ref q7, .ref q8, .int 0, .int 0, .ref q9, .ref q10, .ref q11, .int 0, .int 0, .ref q12, .ref q13, .ref q14, .ref q15, .ref q16, .ref q17, .int 0, .ref q18, .ref q19, .null, .null, .null, .null, .null, .null, .null, .null, .null, .int 0, .null, .int 0, .int 0, .int 0, .int 0, .int 0, .null, .null, .null, .int 0, .null, .int 0, .null, .int 0, .int 0, .int 0])), (q1, .inl (dA 0, 5161, .inl (fun _ => 0))), (q2, .inl (dA 0, 5161, .inl (fun _ => 0))), (q3, .inl (dA 0, 5120, .inl (fun _ => 0))), (q4, .inl (dA 0, 40, .inl (fun _ => 0))), (q5, .inl (dA 1, 120, .inl (fun _ => 0))), (q6, .inl (dA 0, 8, .inl (fun _ => 0))), (q7, .inl (dA 0, 8, .inl (fun _ => 0))), (q8, .inl (dA 0, 8, .inl (fun _ => 0))), (q9, .inl (dA 0, 30, .inl (fun _ => 0))), (q10, .inl (dA 0, 30, .inl (fun _ => 0))), (q11, .inl (dA 0, 40, .inl (fun _ => 0))), (q12, .inl (dA 0, 130, .inl (fun _ => 0))), (q13, .inl (dA 0, 130, .inl (fun _ => 0))), (q14, .inl (dA 0, 130, .inl (fun _ => 0))), (q15, .inl (dA 0, 130, .inl (fun _ => 0))), (q16, .inl (dA 0, 130, .inl (fun _ => 0))), (q17, .inl (dA 0, 130, .inl (fun _ => 0))), (q18, .inl (dA 0, 65, .inl (fun _ => 0))), (q19, .inl (dA 0, 65, .inl (fun _ => 0)))] H := hP
  have hD : va_D A [(h, .inr (2, [.ref q1, .ref q2, .ref q3, .ref q4, .int 0, .int 0, .ref q5, .int 0, .int 0, .int 0, .int 0, .int 0, .int 0, .int 0, .int 0, .ref q6, .ref q7, .ref q8, .int 0, .int 0, .ref q9, .ref q10, .ref q11, .int 0, .int 0, .ref q12, .ref q13, .ref q14, .ref q15, .ref q16, .ref q17, .int 0, .ref q18, .ref q19, .null, .null, .null, .null, .null, .null, .null, .null, .null, .int 0, .null, .int 0, .int 0, .int 0, .int 0, .int 0, .null, .null, .null, .int 0, .null, .int 0, .null, .int 0, .int 0, .int 0])), (q1, .inl (dA 0, 5161, .inl (fun _ => 0))), (q2, .inl (dA 0, 5161, .inl (fun _ => 0))), (q3, .inl (dA 0, 5120, .inl (fun _ => 0))), (q4, .inl (dA 0, 40, .inl (fun _ => 0))), (q5, .inl (dA 1, 120, .inl (fun _ => 0))), (q6, .inl (dA 0, 8, .inl (fun _ => 0))), (q7, .inl (dA 0, 8, .inl (fun _ => 0))), (q8, .inl (dA 0, 8, .inl (fun _ => 0))), (q9, .inl (dA 0, 30, .inl (fun _ => 0))), (q10, .inl (dA 0, 30, .inl (fun _ => 0))), (q11, .inl (dA 0, 40, .inl (fun _ => 0))), (q12, .inl (dA 0, 130, .inl (fun _ => 0))), (q13, .inl (dA 0, 130, .inl (fun _ => 0))), (q14, .inl (dA 0, 130, .inl (fun _ => 0))), (q15, .inl (dA 0, 130, .inl (fun _ => 0))), (q16, .inl (dA 0, 130, .inl (fun _ => 0))), (q17, .inl (dA 0, 130, .inl (fun _ => 0))), (q18, .inl (dA 0, 65, .inl (fun _ => 0))), (q19, .inl (dA 0, 65, .inl (fun _ => 0)))] := hD
  refine lv_aload_n hx hb d59_165 rfl (lv_at hl 0 rfl) ?_
  refine lv_bipush (v := 65) hx hb d59_166 (by decide) ?_
  refine ms_newa (atype := .int) (ty := .int) (a0 := (65, .inl (fun _ => 0))) X ms_k124 rfl 0 rfl (fun _ h => h) hP hD hS (fun _ => rfl) (by decide) (by decide) (by decide) (Nat.le_of_ble_eq_true rfl) (Nat.le_of_ble_eq_true rfl) d59_168 (fun q20 H hP hD hS => ?_)
  have hP : va_P D vwCl [(h, .inr (2, [.ref q1, .ref q2, .ref q3, .ref q4, .int 0, .int 0, .ref q5, .int 0, .int 0, .int 0, .int 0, .int 0, .int 0, .int 0, .int 0, .ref q6, .ref q7, .ref q8, .int 0, .int 0, .ref q9, .ref q10, .ref q11, .int 0, .int 0, .ref q12, .ref q13, .ref q14, .ref q15, .ref q16, .ref q17, .int 0, .ref q18, .ref q19, .null, .null, .null, .null, .null, .null, .null, .null, .null, .int 0, .null, .int 0, .int 0, .int 0, .int 0, .int 0, .null, .null, .null, .int 0, .null, .int 0, .null, .int 0, .int 0, .int 0])), (q1, .inl (dA 0, 5161, .inl (fun _ => 0))), (q2, .inl (dA 0, 5161, .inl (fun _ => 0))), (q3, .inl (dA 0, 5120, .inl (fun _ => 0))), (q4, .inl (dA 0, 40, .inl (fun _ => 0))), (q5, .inl (dA 1, 120, .inl (fun _ => 0))), (q6, .inl (dA 0, 8, .inl (fun _ => 0))), (q7, .inl (dA 0, 8, .inl (fun _ => 0))), (q8, .inl (dA 0, 8, .inl (fun _ => 0))), (q9, .inl (dA 0, 30, .inl (fun _ => 0))), (q10, .inl (dA 0, 30, .inl (fun _ => 0))), (q11, .inl (dA 0, 40, .inl (fun _ => 0))), (q12, .inl (dA 0, 130, .inl (fun _ => 0))), (q13, .inl (dA 0, 130, .inl (fun _ => 0))), (q14, .inl (dA 0, 130, .inl (fun _ => 0))), (q15, .inl (dA 0, 130, .inl (fun _ => 0))), (q16, .inl (dA 0, 130, .inl (fun _ => 0))), (q17, .inl (dA 0, 130, .inl (fun _ => 0))), (q18, .inl (dA 0, 65, .inl (fun _ => 0))), (q19, .inl (dA 0, 65, .inl (fun _ => 0))), (q20, .inl (dA 0, 65, .inl (fun _ => 0)))] H := hP
  have hD : va_D A [(h, .inr (2, [.ref q1, .ref q2, .ref q3, .ref q4, .int 0, .int 0, .ref q5, .int 0, .int 0, .int 0, .int 0, .int 0, .int 0, .int 0, .int 0, .ref q6, .ref q7, .ref q8, .int 0, .int 0, .ref q9, .ref q10, .ref q11, .int 0, .int 0, .ref q12, .ref q13, .ref q14, .ref q15, .ref q16, .ref q17, .int 0, .ref q18, .ref q19, .null, .null, .null, .null, .null, .null, .null, .null, .null, .int 0, .null, .int 0, .int 0, .int 0, .int 0, .int 0, .null, .null, .null, .int 0, .null, .int 0, .null, .int 0, .int 0, .int 0])), (q1, .inl (dA 0, 5161, .inl (fun _ => 0))), (q2, .inl (dA 0, 5161, .inl (fun _ => 0))), (q3, .inl (dA 0, 5120, .inl (fun _ => 0))), (q4, .inl (dA 0, 40, .inl (fun _ => 0))), (q5, .inl (dA 1, 120, .inl (fun _ => 0))), (q6, .inl (dA 0, 8, .inl (fun _ => 0))), (q7, .inl (dA 0, 8, .inl (fun _ => 0))), (q8, .inl (dA 0, 8, .inl (fun _ => 0))), (q9, .inl (dA 0, 30, .inl (fun _ => 0))), (q10, .inl (dA 0, 30, .inl (fun _ => 0))), (q11, .inl (dA 0, 40, .inl (fun _ => 0))), (q12, .inl (dA 0, 130, .inl (fun _ => 0))), (q13, .inl (dA 0, 130, .inl (fun _ => 0))), (q14, .inl (dA 0, 130, .inl (fun _ => 0))), (q15, .inl (dA 0, 130, .inl (fun _ => 0))), (q16, .inl (dA 0, 130, .inl (fun _ => 0))), (q17, .inl (dA 0, 130, .inl (fun _ => 0))), (q18, .inl (dA 0, 65, .inl (fun _ => 0))), (q19, .inl (dA 0, 65, .inl (fun _ => 0))), (q20, .inl (dA 0, 65, .inl (fun _ => 0)))] := hD
  refine va_putF (D := D) (ci := 2) (v := .ref q20) (ty := (.array .int)) (C := kR2) (T := kT2) (N := 60) hx hb hts ku2 kt2 kp2 kn2 hown hK hP hD hS 0 rfl rfl 34 (by decide) (hts _ ms_k1350) (fun _ h => h) rfl hin rfl (by decide +kernel) rfl rfl (Nat.le_of_ble_eq_true rfl) d59_170 (fun H locs hP hD hS => ?_)
  have hP : va_P D vwCl [(h, .inr (2, [.ref q1, .ref q2, .ref q3, .ref q4, .int 0, .int 0, .ref q5, .int 0, .int 0, .int 0, .int 0, .int 0, .int 0, .int 0, .int 0, .ref q6, .ref q7, .ref q8, .int 0, .int 0, .ref q9, .ref q10, .ref q11, .int 0, .int 0, .ref q12, .ref q13, .ref q14, .ref q15, .ref q16, .ref q17, .int 0, .ref q18, .ref q19, .ref q20, .null, .null, .null, .null, .null, .null, .null, .null, .int 0, .null, .int 0, .int 0, .int 0, .int 0, .int 0, .null, .null, .null, .int 0, .null, .int 0, .null, .int 0, .int 0, .int 0])), (q1, .inl (dA 0, 5161, .inl (fun _ => 0))), (q2, .inl (dA 0, 5161, .inl (fun _ => 0))), (q3, .inl (dA 0, 5120, .inl (fun _ => 0))), (q4, .inl (dA 0, 40, .inl (fun _ => 0))), (q5, .inl (dA 1, 120, .inl (fun _ => 0))), (q6, .inl (dA 0, 8, .inl (fun _ => 0))), (q7, .inl (dA 0, 8, .inl (fun _ => 0))), (q8, .inl (dA 0, 8, .inl (fun _ => 0))), (q9, .inl (dA 0, 30, .inl (fun _ => 0))), (q10, .inl (dA 0, 30, .inl (fun _ => 0))), (q11, .inl (dA 0, 40, .inl (fun _ => 0))), (q12, .inl (dA 0, 130, .inl (fun _ => 0))), (q13, .inl (dA 0, 130, .inl (fun _ => 0))), (q14, .inl (dA 0, 130, .inl (fun _ => 0))), (q15, .inl (dA 0, 130, .inl (fun _ => 0))), (q16, .inl (dA 0, 130, .inl (fun _ => 0))), (q17, .inl (dA 0, 130, .inl (fun _ => 0))), (q18, .inl (dA 0, 65, .inl (fun _ => 0))), (q19, .inl (dA 0, 65, .inl (fun _ => 0))), (q20, .inl (dA 0, 65, .inl (fun _ => 0)))] H := hP
  have hD : va_D A [(h, .inr (2, [.ref q1, .ref q2, .ref q3, .ref q4, .int 0, .int 0, .ref q5, .int 0, .int 0, .int 0, .int 0, .int 0, .int 0, .int 0, .int 0, .ref q6, .ref q7, .ref q8, .int 0, .int 0, .ref q9, .ref q10, .ref q11, .int 0, .int 0, .ref q12, .ref q13, .ref q14, .ref q15, .ref q16, .ref q17, .int 0, .ref q18, .ref q19, .ref q20, .null, .null, .null, .null, .null, .null, .null, .null, .int 0, .null, .int 0, .int 0, .int 0, .int 0, .int 0, .null, .null, .null, .int 0, .null, .int 0, .null, .int 0, .int 0, .int 0])), (q1, .inl (dA 0, 5161, .inl (fun _ => 0))), (q2, .inl (dA 0, 5161, .inl (fun _ => 0))), (q3, .inl (dA 0, 5120, .inl (fun _ => 0))), (q4, .inl (dA 0, 40, .inl (fun _ => 0))), (q5, .inl (dA 1, 120, .inl (fun _ => 0))), (q6, .inl (dA 0, 8, .inl (fun _ => 0))), (q7, .inl (dA 0, 8, .inl (fun _ => 0))), (q8, .inl (dA 0, 8, .inl (fun _ => 0))), (q9, .inl (dA 0, 30, .inl (fun _ => 0))), (q10, .inl (dA 0, 30, .inl (fun _ => 0))), (q11, .inl (dA 0, 40, .inl (fun _ => 0))), (q12, .inl (dA 0, 130, .inl (fun _ => 0))), (q13, .inl (dA 0, 130, .inl (fun _ => 0))), (q14, .inl (dA 0, 130, .inl (fun _ => 0))), (q15, .inl (dA 0, 130, .inl (fun _ => 0))), (q16, .inl (dA 0, 130, .inl (fun _ => 0))), (q17, .inl (dA 0, 130, .inl (fun _ => 0))), (q18, .inl (dA 0, 65, .inl (fun _ => 0))), (q19, .inl (dA 0, 65, .inl (fun _ => 0))), (q20, .inl (dA 0, 65, .inl (fun _ => 0)))] := hD
  refine lv_aload_n hx hb d59_173 rfl (lv_at hl 0 rfl) ?_
  refine lv_bipush (v := 65) hx hb d59_174 (by decide) ?_
  refine ms_newa (atype := .int) (ty := .int) (a0 := (65, .inl (fun _ => 0))) X ms_k124 rfl 0 rfl (fun _ h => h) hP hD hS (fun _ => rfl) (by decide) (by decide) (by decide) (Nat.le_of_ble_eq_true rfl) (Nat.le_of_ble_eq_true rfl) d59_176 (fun q21 H hP hD hS => ?_)
  have hP : va_P D vwCl [(h, .inr (2, [.ref q1, .ref q2, .ref q3, .ref q4, .int 0, .int 0, .ref q5, .int 0, .int 0, .int 0, .int 0, .int 0, .int 0, .int 0, .int 0, .ref q6, .ref q7, .ref q8, .int 0, .int 0, .ref q9, .ref q10, .ref q11, .int 0, .int 0, .ref q12, .ref q13, .ref q14, .ref q15, .ref q16, .ref q17, .int 0, .ref q18, .ref q19, .ref q20, .null, .null, .null, .null, .null, .null, .null, .null, .int 0, .null, .int 0, .int 0, .int 0, .int 0, .int 0, .null, .null, .null, .int 0, .null, .int 0, .null, .int 0, .int 0, .int 0])), (q1, .inl (dA 0, 5161, .inl (fun _ => 0))), (q2, .inl (dA 0, 5161, .inl (fun _ => 0))), (q3, .inl (dA 0, 5120, .inl (fun _ => 0))), (q4, .inl (dA 0, 40, .inl (fun _ => 0))), (q5, .inl (dA 1, 120, .inl (fun _ => 0))), (q6, .inl (dA 0, 8, .inl (fun _ => 0))), (q7, .inl (dA 0, 8, .inl (fun _ => 0))), (q8, .inl (dA 0, 8, .inl (fun _ => 0))), (q9, .inl (dA 0, 30, .inl (fun _ => 0))), (q10, .inl (dA 0, 30, .inl (fun _ => 0))), (q11, .inl (dA 0, 40, .inl (fun _ => 0))), (q12, .inl (dA 0, 130, .inl (fun _ => 0))), (q13, .inl (dA 0, 130, .inl (fun _ => 0))), (q14, .inl (dA 0, 130, .inl (fun _ => 0))), (q15, .inl (dA 0, 130, .inl (fun _ => 0))), (q16, .inl (dA 0, 130, .inl (fun _ => 0))), (q17, .inl (dA 0, 130, .inl (fun _ => 0))), (q18, .inl (dA 0, 65, .inl (fun _ => 0))), (q19, .inl (dA 0, 65, .inl (fun _ => 0))), (q20, .inl (dA 0, 65, .inl (fun _ => 0))), (q21, .inl (dA 0, 65, .inl (fun _ => 0)))] H := hP
  have hD : va_D A [(h, .inr (2, [.ref q1, .ref q2, .ref q3, .ref q4, .int 0, .int 0, .ref q5, .int 0, .int 0, .int 0, .int 0, .int 0, .int 0, .int 0, .int 0, .ref q6, .ref q7, .ref q8, .int 0, .int 0, .ref q9, .ref q10, .ref q11, .int 0, .int 0, .ref q12, .ref q13, .ref q14, .ref q15, .ref q16, .ref q17, .int 0, .ref q18, .ref q19, .ref q20, .null, .null, .null, .null, .null, .null, .null, .null, .int 0, .null, .int 0, .int 0, .int 0, .int 0, .int 0, .null, .null, .null, .int 0, .null, .int 0, .null, .int 0, .int 0, .int 0])), (q1, .inl (dA 0, 5161, .inl (fun _ => 0))), (q2, .inl (dA 0, 5161, .inl (fun _ => 0))), (q3, .inl (dA 0, 5120, .inl (fun _ => 0))), (q4, .inl (dA 0, 40, .inl (fun _ => 0))), (q5, .inl (dA 1, 120, .inl (fun _ => 0))), (q6, .inl (dA 0, 8, .inl (fun _ => 0))), (q7, .inl (dA 0, 8, .inl (fun _ => 0))), (q8, .inl (dA 0, 8, .inl (fun _ => 0))), (q9, .inl (dA 0, 30, .inl (fun _ => 0))), (q10, .inl (dA 0, 30, .inl (fun _ => 0))), (q11, .inl (dA 0, 40, .inl (fun _ => 0))), (q12, .inl (dA 0, 130, .inl (fun _ => 0))), (q13, .inl (dA 0, 130, .inl (fun _ => 0))), (q14, .inl (dA 0, 130, .inl (fun _ => 0))), (q15, .inl (dA 0, 130, .inl (fun _ => 0))), (q16, .inl (dA 0, 130, .inl (fun _ => 0))), (q17, .inl (dA 0, 130, .inl (fun _ => 0))), (q18, .inl (dA 0, 65, .inl (fun _ => 0))), (q19, .inl (dA 0, 65, .inl (fun _ => 0))), (q20, .inl (dA 0, 65, .inl (fun _ => 0))), (q21, .inl (dA 0, 65, .inl (fun _ => 0)))] := hD
  refine va_putF (D := D) (ci := 2) (v := .ref q21) (ty := (.array .int)) (C := kR2) (T := kT2) (N := 60) hx hb hts ku2 kt2 kp2 kn2 hown hK hP hD hS 0 rfl rfl 35 (by decide) (hts _ ms_k1351) (fun _ h => h) rfl hin rfl (by decide +kernel) rfl rfl (Nat.le_of_ble_eq_true rfl) d59_178 (fun H locs hP hD hS => ?_)
  have hP : va_P D vwCl [(h, .inr (2, [.ref q1, .ref q2, .ref q3, .ref q4, .int 0, .int 0, .ref q5, .int 0, .int 0, .int 0, .int 0, .int 0, .int 0, .int 0, .int 0, .ref q6, .ref q7, .ref q8, .int 0, .int 0, .ref q9, .ref q10, .ref q11, .int 0, .int 0, .ref q12, .ref q13, .ref q14, .ref q15, .ref q16, .ref q17, .int 0, .ref q18, .ref q19, .ref q20, .ref q21, .null, .null, .null, .null, .null, .null, .null, .int 0, .null, .int 0, .int 0, .int 0, .int 0, .int 0, .null, .null, .null, .int 0, .null, .int 0, .null, .int 0, .int 0, .int 0])), (q1, .inl (dA 0, 5161, .inl (fun _ => 0))), (q2, .inl (dA 0, 5161, .inl (fun _ => 0))), (q3, .inl (dA 0, 5120, .inl (fun _ => 0))), (q4, .inl (dA 0, 40, .inl (fun _ => 0))), (q5, .inl (dA 1, 120, .inl (fun _ => 0))), (q6, .inl (dA 0, 8, .inl (fun _ => 0))), (q7, .inl (dA 0, 8, .inl (fun _ => 0))), (q8, .inl (dA 0, 8, .inl (fun _ => 0))), (q9, .inl (dA 0, 30, .inl (fun _ => 0))), (q10, .inl (dA 0, 30, .inl (fun _ => 0))), (q11, .inl (dA 0, 40, .inl (fun _ => 0))), (q12, .inl (dA 0, 130, .inl (fun _ => 0))), (q13, .inl (dA 0, 130, .inl (fun _ => 0))), (q14, .inl (dA 0, 130, .inl (fun _ => 0))), (q15, .inl (dA 0, 130, .inl (fun _ => 0))), (q16, .inl (dA 0, 130, .inl (fun _ => 0))), (q17, .inl (dA 0, 130, .inl (fun _ => 0))), (q18, .inl (dA 0, 65, .inl (fun _ => 0))), (q19, .inl (dA 0, 65, .inl (fun _ => 0))), (q20, .inl (dA 0, 65, .inl (fun _ => 0))), (q21, .inl (dA 0, 65, .inl (fun _ => 0)))] H := hP
  have hD : va_D A [(h, .inr (2, [.ref q1, .ref q2, .ref q3, .ref q4, .int 0, .int 0, .ref q5, .int 0, .int 0, .int 0, .int 0, .int 0, .int 0, .int 0, .int 0, .ref q6, .ref q7, .ref q8, .int 0, .int 0, .ref q9, .ref q10, .ref q11, .int 0, .int 0, .ref q12, .ref q13, .ref q14, .ref q15, .ref q16, .ref q17, .int 0, .ref q18, .ref q19, .ref q20, .ref q21, .null, .null, .null, .null, .null, .null, .null, .int 0, .null, .int 0, .int 0, .int 0, .int 0, .int 0, .null, .null, .null, .int 0, .null, .int 0, .null, .int 0, .int 0, .int 0])), (q1, .inl (dA 0, 5161, .inl (fun _ => 0))), (q2, .inl (dA 0, 5161, .inl (fun _ => 0))), (q3, .inl (dA 0, 5120, .inl (fun _ => 0))), (q4, .inl (dA 0, 40, .inl (fun _ => 0))), (q5, .inl (dA 1, 120, .inl (fun _ => 0))), (q6, .inl (dA 0, 8, .inl (fun _ => 0))), (q7, .inl (dA 0, 8, .inl (fun _ => 0))), (q8, .inl (dA 0, 8, .inl (fun _ => 0))), (q9, .inl (dA 0, 30, .inl (fun _ => 0))), (q10, .inl (dA 0, 30, .inl (fun _ => 0))), (q11, .inl (dA 0, 40, .inl (fun _ => 0))), (q12, .inl (dA 0, 130, .inl (fun _ => 0))), (q13, .inl (dA 0, 130, .inl (fun _ => 0))), (q14, .inl (dA 0, 130, .inl (fun _ => 0))), (q15, .inl (dA 0, 130, .inl (fun _ => 0))), (q16, .inl (dA 0, 130, .inl (fun _ => 0))), (q17, .inl (dA 0, 130, .inl (fun _ => 0))), (q18, .inl (dA 0, 65, .inl (fun _ => 0))), (q19, .inl (dA 0, 65, .inl (fun _ => 0))), (q20, .inl (dA 0, 65, .inl (fun _ => 0))), (q21, .inl (dA 0, 65, .inl (fun _ => 0)))] := hD
  refine lv_aload_n hx hb d59_181 rfl (lv_at hl 0 rfl) ?_
  refine lv_bipush (v := 65) hx hb d59_182 (by decide) ?_
  refine ms_newa (atype := .int) (ty := .int) (a0 := (65, .inl (fun _ => 0))) X ms_k124 rfl 0 rfl (fun _ h => h) hP hD hS (fun _ => rfl) (by decide) (by decide) (by decide) (Nat.le_of_ble_eq_true rfl) (Nat.le_of_ble_eq_true rfl) d59_184 (fun q22 H hP hD hS => ?_)
  have hP : va_P D vwCl [(h, .inr (2, [.ref q1, .ref q2, .ref q3, .ref q4, .int 0, .int 0, .ref q5, .int 0, .int 0, .int 0, .int 0, .int 0, .int 0, .int 0, .int 0, .ref q6, .ref q7, .ref q8, .int 0, .int 0, .ref q9, .ref q10, .ref q11, .int 0, .int 0, .ref q12, .ref q13, .ref q14, .ref q15, .ref q16, .ref q17, .int 0, .ref q18, .ref q19, .ref q20, .ref q21, .null, .null, .null, .null, .null, .null, .null, .int 0, .null, .int 0, .int 0, .int 0, .int 0, .int 0, .null, .null, .null, .int 0, .null, .int 0, .null, .int 0, .int 0, .int 0])), (q1, .inl (dA 0, 5161, .inl (fun _ => 0))), (q2, .inl (dA 0, 5161, .inl (fun _ => 0))), (q3, .inl (dA 0, 5120, .inl (fun _ => 0))), (q4, .inl (dA 0, 40, .inl (fun _ => 0))), (q5, .inl (dA 1, 120, .inl (fun _ => 0))), (q6, .inl (dA 0, 8, .inl (fun _ => 0))), (q7, .inl (dA 0, 8, .inl (fun _ => 0))), (q8, .inl (dA 0, 8, .inl (fun _ => 0))), (q9, .inl (dA 0, 30, .inl (fun _ => 0))), (q10, .inl (dA 0, 30, .inl (fun _ => 0))), (q11, .inl (dA 0, 40, .inl (fun _ => 0))), (q12, .inl (dA 0, 130, .inl (fun _ => 0))), (q13, .inl (dA 0, 130, .inl (fun _ => 0))), (q14, .inl (dA 0, 130, .inl (fun _ => 0))), (q15, .inl (dA 0, 130, .inl (fun _ => 0))), (q16, .inl (dA 0, 130, .inl (fun _ => 0))), (q17, .inl (dA 0, 130, .inl (fun _ => 0))), (q18, .inl (dA 0, 65, .inl (fun _ => 0))), (q19, .inl (dA 0, 65, .inl (fun _ => 0))), (q20, .inl (dA 0, 65, .inl (fun _ => 0))), (q21, .inl (dA 0, 65, .inl (fun _ => 0))), (q22, .inl (dA 0, 65, .inl (fun _ => 0)))] H := hP
  have hD : va_D A [(h, .inr (2, [.ref q1, .ref q2, .ref q3, .ref q4, .int 0, .int 0, .ref q5, .int 0, .int 0, .int 0, .int 0, .int 0, .int 0, .int 0, .int 0, .ref q6, .ref q7, .ref q8, .int 0, .int 0, .ref q9, .ref q10, .ref q11, .int 0, .int 0, .ref q12, .ref q13, .ref q14, .ref q15, .ref q16, .ref q17, .int 0, .ref q18, .ref q19, .ref q20, .ref q21, .null, .null, .null, .null, .null, .null, .null, .int 0, .null, .int 0, .int 0, .int 0, .int 0, .int 0, .null, .null, .null, .int 0, .null, .int 0, .null, .int 0, .int 0, .int 0])), (q1, .inl (dA 0, 5161, .inl (fun _ => 0))), (q2, .inl (dA 0, 5161, .inl (fun _ => 0))), (q3, .inl (dA 0, 5120, .inl (fun _ => 0))), (q4, .inl (dA 0, 40, .inl (fun _ => 0))), (q5, .inl (dA 1, 120, .inl (fun _ => 0))), (q6, .inl (dA 0, 8, .inl (fun _ => 0))), (q7, .inl (dA 0, 8, .inl (fun _ => 0))), (q8, .inl (dA 0, 8, .inl (fun _ => 0))), (q9, .inl (dA 0, 30, .inl (fun _ => 0))), (q10, .inl (dA 0, 30, .inl (fun _ => 0))), (q11, .inl (dA 0, 40, .inl (fun _ => 0))), (q12, .inl (dA 0, 130, .inl (fun _ => 0))), (q13, .inl (dA 0, 130, .inl (fun _ => 0))), (q14, .inl (dA 0, 130, .inl (fun _ => 0))), (q15, .inl (dA 0, 130, .inl (fun _ => 0))), (q16, .inl (dA 0, 130, .inl (fun _ => 0))), (q17, .inl (dA 0, 130, .inl (fun _ => 0))), (q18, .inl (dA 0, 65, .inl (fun _ => 0))), (q19, .inl (dA 0, 65, .inl (fun _ => 0))), (q20, .inl (dA 0, 65, .inl (fun _ => 0))), (q21, .inl (dA 0, 65, .inl (fun _ => 0))), (q22, .inl (dA 0, 65, .inl (fun _ => 0)))] := hD
  refine va_putF (D := D) (ci := 2) (v := .ref q22) (ty := (.array .int)) (C := kR2) (T := kT2) (N := 60) hx hb hts ku2 kt2 kp2 kn2 hown hK hP hD hS 0 rfl rfl 36 (by decide) (hts _ ms_k1352) (fun _ h => h) rfl hin rfl (by decide +kernel) rfl rfl (Nat.le_of_ble_eq_true rfl) d59_186 (fun H locs hP hD hS => ?_)
  have hP : va_P D vwCl [(h, .inr (2, [.ref q1, .ref q2, .ref q3, .ref q4, .int 0, .int 0, .ref q5, .int 0, .int 0, .int 0, .int 0, .int 0, .int 0, .int 0, .int 0, .ref q6, .ref q7, .ref q8, .int 0, .int 0, .ref q9, .ref q10, .ref q11, .int 0, .int 0, .ref q12, .ref q13, .ref q14, .ref q15, .ref q16, .ref q17, .int 0, .ref q18, .ref q19, .ref q20, .ref q21, .ref q22, .null, .null, .null, .null, .null, .null, .int 0, .null, .int 0, .int 0, .int 0, .int 0, .int 0, .null, .null, .null, .int 0, .null, .int 0, .null, .int 0, .int 0, .int 0])), (q1, .inl (dA 0, 5161, .inl (fun _ => 0))), (q2, .inl (dA 0, 5161, .inl (fun _ => 0))), (q3, .inl (dA 0, 5120, .inl (fun _ => 0))), (q4, .inl (dA 0, 40, .inl (fun _ => 0))), (q5, .inl (dA 1, 120, .inl (fun _ => 0))), (q6, .inl (dA 0, 8, .inl (fun _ => 0))), (q7, .inl (dA 0, 8, .inl (fun _ => 0))), (q8, .inl (dA 0, 8, .inl (fun _ => 0))), (q9, .inl (dA 0, 30, .inl (fun _ => 0))), (q10, .inl (dA 0, 30, .inl (fun _ => 0))), (q11, .inl (dA 0, 40, .inl (fun _ => 0))), (q12, .inl (dA 0, 130, .inl (fun _ => 0))), (q13, .inl (dA 0, 130, .inl (fun _ => 0))), (q14, .inl (dA 0, 130, .inl (fun _ => 0))), (q15, .inl (dA 0, 130, .inl (fun _ => 0))), (q16, .inl (dA 0, 130, .inl (fun _ => 0))), (q17, .inl (dA 0, 130, .inl (fun _ => 0))), (q18, .inl (dA 0, 65, .inl (fun _ => 0))), (q19, .inl (dA 0, 65, .inl (fun _ => 0))), (q20, .inl (dA 0, 65, .inl (fun _ => 0))), (q21, .inl (dA 0, 65, .inl (fun _ => 0))), (q22, .inl (dA 0, 65, .inl (fun _ => 0)))] H := hP
  have hD : va_D A [(h, .inr (2, [.ref q1, .ref q2, .ref q3, .ref q4, .int 0, .int 0, .ref q5, .int 0, .int 0, .int 0, .int 0, .int 0, .int 0, .int 0, .int 0, .ref q6, .ref q7, .ref q8, .int 0, .int 0, .ref q9, .ref q10, .ref q11, .int 0, .int 0, .ref q12, .ref q13, .ref q14, .ref q15, .ref q16, .ref q17, .int 0, .ref q18, .ref q19, .ref q20, .ref q21, .ref q22, .null, .null, .null, .null, .null, .null, .int 0, .null, .int 0, .int 0, .int 0, .int 0, .int 0, .null, .null, .null, .int 0, .null, .int 0, .null, .int 0, .int 0, .int 0])), (q1, .inl (dA 0, 5161, .inl (fun _ => 0))), (q2, .inl (dA 0, 5161, .inl (fun _ => 0))), (q3, .inl (dA 0, 5120, .inl (fun _ => 0))), (q4, .inl (dA 0, 40, .inl (fun _ => 0))), (q5, .inl (dA 1, 120, .inl (fun _ => 0))), (q6, .inl (dA 0, 8, .inl (fun _ => 0))), (q7, .inl (dA 0, 8, .inl (fun _ => 0))), (q8, .inl (dA 0, 8, .inl (fun _ => 0))), (q9, .inl (dA 0, 30, .inl (fun _ => 0))), (q10, .inl (dA 0, 30, .inl (fun _ => 0))), (q11, .inl (dA 0, 40, .inl (fun _ => 0))), (q12, .inl (dA 0, 130, .inl (fun _ => 0))), (q13, .inl (dA 0, 130, .inl (fun _ => 0))), (q14, .inl (dA 0, 130, .inl (fun _ => 0))), (q15, .inl (dA 0, 130, .inl (fun _ => 0))), (q16, .inl (dA 0, 130, .inl (fun _ => 0))), (q17, .inl (dA 0, 130, .inl (fun _ => 0))), (q18, .inl (dA 0, 65, .inl (fun _ => 0))), (q19, .inl (dA 0, 65, .inl (fun _ => 0))), (q20, .inl (dA 0, 65, .inl (fun _ => 0))), (q21, .inl (dA 0, 65, .inl (fun _ => 0))), (q22, .inl (dA 0, 65, .inl (fun _ => 0)))] := hD
  refine lv_aload_n hx hb d59_189 rfl (lv_at hl 0 rfl) ?_
  refine lv_bipush (v := 65) hx hb d59_190 (by decide) ?_
  refine ms_newa (atype := .int) (ty := .int) (a0 := (65, .inl (fun _ => 0))) X ms_k124 rfl 0 rfl (fun _ h => h) hP hD hS (fun _ => rfl) (by decide) (by decide) (by decide) (Nat.le_of_ble_eq_true rfl) (Nat.le_of_ble_eq_true rfl) d59_192 (fun q23 H hP hD hS => ?_)
  have hP : va_P D vwCl [(h, .inr (2, [.ref q1, .ref q2, .ref q3, .ref q4, .int 0, .int 0, .ref q5, .int 0, .int 0, .int 0, .int 0, .int 0, .int 0, .int 0, .int 0, .ref q6, .ref q7, .ref q8, .int 0, .int 0, .ref q9, .ref q10, .ref q11, .int 0, .int 0, .ref q12, .ref q13, .ref q14, .ref q15, .ref q16, .ref q17, .int 0, .ref q18, .ref q19, .ref q20, .ref q21, .ref q22, .null, .null, .null, .null, .null, .null, .int 0, .null, .int 0, .int 0, .int 0, .int 0, .int 0, .null, .null, .null, .int 0, .null, .int 0, .null, .int 0, .int 0, .int 0])), (q1, .inl (dA 0, 5161, .inl (fun _ => 0))), (q2, .inl (dA 0, 5161, .inl (fun _ => 0))), (q3, .inl (dA 0, 5120, .inl (fun _ => 0))), (q4, .inl (dA 0, 40, .inl (fun _ => 0))), (q5, .inl (dA 1, 120, .inl (fun _ => 0))), (q6, .inl (dA 0, 8, .inl (fun _ => 0))), (q7, .inl (dA 0, 8, .inl (fun _ => 0))), (q8, .inl (dA 0, 8, .inl (fun _ => 0))), (q9, .inl (dA 0, 30, .inl (fun _ => 0))), (q10, .inl (dA 0, 30, .inl (fun _ => 0))), (q11, .inl (dA 0, 40, .inl (fun _ => 0))), (q12, .inl (dA 0, 130, .inl (fun _ => 0))), (q13, .inl (dA 0, 130, .inl (fun _ => 0))), (q14, .inl (dA 0, 130, .inl (fun _ => 0))), (q15, .inl (dA 0, 130, .inl (fun _ => 0))), (q16, .inl (dA 0, 130, .inl (fun _ => 0))), (q17, .inl (dA 0, 130, .inl (fun _ => 0))), (q18, .inl (dA 0, 65, .inl (fun _ => 0))), (q19, .inl (dA 0, 65, .inl (fun _ => 0))), (q20, .inl (dA 0, 65, .inl (fun _ => 0))), (q21, .inl (dA 0, 65, .inl (fun _ => 0))), (q22, .inl (dA 0, 65, .inl (fun _ => 0))), (q23, .inl (dA 0, 65, .inl (fun _ => 0)))] H := hP
  have hD : va_D A [(h, .inr (2, [.ref q1, .ref q2, .ref q3, .ref q4, .int 0, .int 0, .ref q5, .int 0, .int 0, .int 0, .int 0, .int 0, .int 0, .int 0, .int 0, .ref q6, .ref q7, .ref q8, .int 0, .int 0, .ref q9, .ref q10, .ref q11, .int 0, .int 0, .ref q12, .ref q13, .ref q14, .ref q15, .ref q16, .ref q17, .int 0, .ref q18, .ref q19, .ref q20, .ref q21, .ref q22, .null, .null, .null, .null, .null, .null, .int 0, .null, .int 0, .int 0, .int 0, .int 0, .int 0, .null, .null, .null, .int 0, .null, .int 0, .null, .int 0, .int 0, .int 0])), (q1, .inl (dA 0, 5161, .inl (fun _ => 0))), (q2, .inl (dA 0, 5161, .inl (fun _ => 0))), (q3, .inl (dA 0, 5120, .inl (fun _ => 0))), (q4, .inl (dA 0, 40, .inl (fun _ => 0))), (q5, .inl (dA 1, 120, .inl (fun _ => 0))), (q6, .inl (dA 0, 8, .inl (fun _ => 0))), (q7, .inl (dA 0, 8, .inl (fun _ => 0))), (q8, .inl (dA 0, 8, .inl (fun _ => 0))), (q9, .inl (dA 0, 30, .inl (fun _ => 0))), (q10, .inl (dA 0, 30, .inl (fun _ => 0))), (q11, .inl (dA 0, 40, .inl (fun _ => 0))), (q12, .inl (dA 0, 130, .inl (fun _ => 0))), (q13, .inl (dA 0, 130, .inl (fun _ => 0))), (q14, .inl (dA 0, 130, .inl (fun _ => 0))), (q15, .inl (dA 0, 130, .inl (fun _ => 0))), (q16, .inl (dA 0, 130, .inl (fun _ => 0))), (q17, .inl (dA 0, 130, .inl (fun _ => 0))), (q18, .inl (dA 0, 65, .inl (fun _ => 0))), (q19, .inl (dA 0, 65, .inl (fun _ => 0))), (q20, .inl (dA 0, 65, .inl (fun _ => 0))), (q21, .inl (dA 0, 65, .inl (fun _ => 0))), (q22, .inl (dA 0, 65, .inl (fun _ => 0))), (q23, .inl (dA 0, 65, .inl (fun _ => 0)))] := hD
  refine va_putF (D := D) (ci := 2) (v := .ref q23) (ty := (.array .int)) (C := kR2) (T := kT2) (N := 60) hx hb hts ku2 kt2 kp2 kn2 hown hK hP hD hS 0 rfl rfl 37 (by decide) (hts _ ms_k1353) (fun _ h => h) rfl hin rfl (by decide +kernel) rfl rfl (Nat.le_of_ble_eq_true rfl) d59_194 (fun H locs hP hD hS => ?_)
  have hP : va_P D vwCl [(h, .inr (2, [.ref q1, .ref q2, .ref q3, .ref q4, .int 0, .int 0, .ref q5, .int 0, .int 0, .int 0, .int 0, .int 0, .int 0, .int 0, .int 0, .ref q6, .ref q7, .ref q8, .int 0, .int 0, .ref q9, .ref q10, .ref q11, .int 0, .int 0, .ref q12, .ref q13, .ref q14, .ref q15, .ref q16, .ref q17, .int 0, .ref q18, .ref q19, .ref q20, .ref q21, .ref q22, .ref q23, .null, .null, .null, .null, .null, .int 0, .null, .int 0, .int 0, .int 0, .int 0, .int 0, .null, .null, .null, .int 0, .null, .int 0, .null, .int 0, .int 0, .int 0])), (q1, .inl (dA 0, 5161, .inl (fun _ => 0))), (q2, .inl (dA 0, 5161, .inl (fun _ => 0))), (q3, .inl (dA 0, 5120, .inl (fun _ => 0))), (q4, .inl (dA 0, 40, .inl (fun _ => 0))), (q5, .inl (dA 1, 120, .inl (fun _ => 0))), (q6, .inl (dA 0, 8, .inl (fun _ => 0))), (q7, .inl (dA 0, 8, .inl (fun _ => 0))), (q8, .inl (dA 0, 8, .inl (fun _ => 0))), (q9, .inl (dA 0, 30, .inl (fun _ => 0))), (q10, .inl (dA 0, 30, .inl (fun _ => 0))), (q11, .inl (dA 0, 40, .inl (fun _ => 0))), (q12, .inl (dA 0, 130, .inl (fun _ => 0))), (q13, .inl (dA 0, 130, .inl (fun _ => 0))), (q14, .inl (dA 0, 130, .inl (fun _ => 0))), (q15, .inl (dA 0, 130, .inl (fun _ => 0))), (q16, .inl (dA 0, 130, .inl (fun _ => 0))), (q17, .inl (dA 0, 130, .inl (fun _ => 0))), (q18, .inl (dA 0, 65, .inl (fun _ => 0))), (q19, .inl (dA 0, 65, .inl (fun _ => 0))), (q20, .inl (dA 0, 65, .inl (fun _ => 0))), (q21, .inl (dA 0, 65, .inl (fun _ => 0))), (q22, .inl (dA 0, 65, .inl (fun _ => 0))), (q23, .inl (dA 0, 65, .inl (fun _ => 0)))] H := hP
  have hD : va_D A [(h, .inr (2, [.ref q1, .ref q2, .ref q3, .ref q4, .int 0, .int 0, .ref q5, .int 0, .int 0, .int 0, .int 0, .int 0, .int 0, .int 0, .int 0, .ref q6, .ref q7, .ref q8, .int 0, .int 0, .ref q9, .ref q10, .ref q11, .int 0, .int 0, .ref q12, .ref q13, .ref q14, .ref q15, .ref q16, .ref q17, .int 0, .ref q18, .ref q19, .ref q20, .ref q21, .ref q22, .ref q23, .null, .null, .null, .null, .null, .int 0, .null, .int 0, .int 0, .int 0, .int 0, .int 0, .null, .null, .null, .int 0, .null, .int 0, .null, .int 0, .int 0, .int 0])), (q1, .inl (dA 0, 5161, .inl (fun _ => 0))), (q2, .inl (dA 0, 5161, .inl (fun _ => 0))), (q3, .inl (dA 0, 5120, .inl (fun _ => 0))), (q4, .inl (dA 0, 40, .inl (fun _ => 0))), (q5, .inl (dA 1, 120, .inl (fun _ => 0))), (q6, .inl (dA 0, 8, .inl (fun _ => 0))), (q7, .inl (dA 0, 8, .inl (fun _ => 0))), (q8, .inl (dA 0, 8, .inl (fun _ => 0))), (q9, .inl (dA 0, 30, .inl (fun _ => 0))), (q10, .inl (dA 0, 30, .inl (fun _ => 0))), (q11, .inl (dA 0, 40, .inl (fun _ => 0))), (q12, .inl (dA 0, 130, .inl (fun _ => 0))), (q13, .inl (dA 0, 130, .inl (fun _ => 0))), (q14, .inl (dA 0, 130, .inl (fun _ => 0))), (q15, .inl (dA 0, 130, .inl (fun _ => 0))), (q16, .inl (dA 0, 130, .inl (fun _ => 0))), (q17, .inl (dA 0, 130, .inl (fun _ => 0))), (q18, .inl (dA 0, 65, .inl (fun _ => 0))), (q19, .inl (dA 0, 65, .inl (fun _ => 0))), (q20, .inl (dA 0, 65, .inl (fun _ => 0))), (q21, .inl (dA 0, 65, .inl (fun _ => 0))), (q22, .inl (dA 0, 65, .inl (fun _ => 0))), (q23, .inl (dA 0, 65, .inl (fun _ => 0)))] := hD
  refine lv_aload_n hx hb d59_197 rfl (lv_at hl 0 rfl) ?_
  refine lv_bipush (v := 65) hx hb d59_198 (by decide) ?_
  refine ms_newa (atype := .int) (ty := .int) (a0 := (65, .inl (fun _ => 0))) X ms_k124 rfl 0 rfl (fun _ h => h) hP hD hS (fun _ => rfl) (by decide) (by decide) (by decide) (Nat.le_of_ble_eq_true rfl) (Nat.le_of_ble_eq_true rfl) d59_200 (fun q24 H hP hD hS => ?_)
  have hP : va_P D vwCl [(h, .inr (2, [.ref q1, .ref q2, .ref q3, .ref q4, .int 0, .int 0, .ref q5, .int 0, .int 0, .int 0, .int 0, .int 0, .int 0, .int 0, .int 0, .ref q6, .ref q7, .ref q8, .int 0, .int 0, .ref q9, .ref q10, .ref q11, .int 0, .int 0, .ref q12, .ref q13, .ref q14, .ref q15, .ref q16, .ref q17, .int 0, .ref q18, .ref q19, .ref q20, .ref q21, .ref q22, .ref q23, .null, .null, .null, .null, .null, .int 0, .null, .int 0, .int 0, .int 0, .int 0, .int 0, .null, .null, .null, .int 0, .null, .int 0, .null, .int 0, .int 0, .int 0])), (q1, .inl (dA 0, 5161, .inl (fun _ => 0))), (q2, .inl (dA 0, 5161, .inl (fun _ => 0))), (q3, .inl (dA 0, 5120, .inl (fun _ => 0))), (q4, .inl (dA 0, 40, .inl (fun _ => 0))), (q5, .inl (dA 1, 120, .inl (fun _ => 0))), (q6, .inl (dA 0, 8, .inl (fun _ => 0))), (q7, .inl (dA 0, 8, .inl (fun _ => 0))), (q8, .inl (dA 0, 8, .inl (fun _ => 0))), (q9, .inl (dA 0, 30, .inl (fun _ => 0))), (q10, .inl (dA 0, 30, .inl (fun _ => 0))), (q11, .inl (dA 0, 40, .inl (fun _ => 0))), (q12, .inl (dA 0, 130, .inl (fun _ => 0))), (q13, .inl (dA 0, 130, .inl (fun _ => 0))), (q14, .inl (dA 0, 130, .inl (fun _ => 0))), (q15, .inl (dA 0, 130, .inl (fun _ => 0))), (q16, .inl (dA 0, 130, .inl (fun _ => 0))), (q17, .inl (dA 0, 130, .inl (fun _ => 0))), (q18, .inl (dA 0, 65, .inl (fun _ => 0))), (q19, .inl (dA 0, 65, .inl (fun _ => 0))), (q20, .inl (dA 0, 65, .inl (fun _ => 0))), (q21, .inl (dA 0, 65, .inl (fun _ => 0))), (q22, .inl (dA 0, 65, .inl (fun _ => 0))), (q23, .inl (dA 0, 65, .inl (fun _ => 0))), (q24, .inl (dA 0, 65, .inl (fun _ => 0)))] H := hP
  have hD : va_D A [(h, .inr (2, [.ref q1, .ref q2, .ref q3, .ref q4, .int 0, .int 0, .ref q5, .int 0, .int 0, .int 0, .int 0, .int 0, .int 0, .int 0, .int 0, .ref q6, .ref q7, .ref q8, .int 0, .int 0, .ref q9, .ref q10, .ref q11, .int 0, .int 0, .ref q12, .ref q13, .ref q14, .ref q15, .ref q16, .ref q17, .int 0, .ref q18, .ref q19, .ref q20, .ref q21, .ref q22, .ref q23, .null, .null, .null, .null, .null, .int 0, .null, .int 0, .int 0, .int 0, .int 0, .int 0, .null, .null, .null, .int 0, .null, .int 0, .null, .int 0, .int 0, .int 0])), (q1, .inl (dA 0, 5161, .inl (fun _ => 0))), (q2, .inl (dA 0, 5161, .inl (fun _ => 0))), (q3, .inl (dA 0, 5120, .inl (fun _ => 0))), (q4, .inl (dA 0, 40, .inl (fun _ => 0))), (q5, .inl (dA 1, 120, .inl (fun _ => 0))), (q6, .inl (dA 0, 8, .inl (fun _ => 0))), (q7, .inl (dA 0, 8, .inl (fun _ => 0))), (q8, .inl (dA 0, 8, .inl (fun _ => 0))), (q9, .inl (dA 0, 30, .inl (fun _ => 0))), (q10, .inl (dA 0, 30, .inl (fun _ => 0))), (q11, .inl (dA 0, 40, .inl (fun _ => 0))), (q12, .inl (dA 0, 130, .inl (fun _ => 0))), (q13, .inl (dA 0, 130, .inl (fun _ => 0))), (q14, .inl (dA 0, 130, .inl (fun _ => 0))), (q15, .inl (dA 0, 130, .inl (fun _ => 0))), (q16, .inl (dA 0, 130, .inl (fun _ => 0))), (q17, .inl (dA 0, 130, .inl (fun _ => 0))), (q18, .inl (dA 0, 65, .inl (fun _ => 0))), (q19, .inl (dA 0, 65, .inl (fun _ => 0))), (q20, .inl (dA 0, 65, .inl (fun _ => 0))), (q21, .inl (dA 0, 65, .inl (fun _ => 0))), (q22, .inl (dA 0, 65, .inl (fun _ => 0))), (q23, .inl (dA 0, 65, .inl (fun _ => 0))), (q24, .inl (dA 0, 65, .inl (fun _ => 0)))] := hD
  refine va_putF (D := D) (ci := 2) (v := .ref q24) (ty := (.array .int)) (C := kR2) (T := kT2) (N := 60) hx hb hts ku2 kt2 kp2 kn2 hown hK hP hD hS 0 rfl rfl 38 (by decide) (hts _ ms_k1354) (fun _ h => h) rfl hin rfl (by decide +kernel) rfl rfl (Nat.le_of_ble_eq_true rfl) d59_202 (fun H locs hP hD hS => ?_)
  have hP : va_P D vwCl [(h, .inr (2, [.ref q1, .ref q2, .ref q3, .ref q4, .int 0, .int 0, .ref q5, .int 0, .int 0, .int 0, .int 0, .int 0, .int 0, .int 0, .int 0, .ref q6, .ref q7, .ref q8, .int 0, .int 0, .ref q9, .ref q10, .ref q11, .int 0, .int 0, .ref q12, .ref q13, .ref q14, .ref q15, .ref q16, .ref q17, .int 0, .ref q18, .ref q19, .ref q20, .ref q21, .ref q22, .ref q23, .ref q24, .null, .null, .null, .null, .int 0, .null, .int 0, .int 0, .int 0, .int 0, .int 0, .null, .null, .null, .int 0, .null, .int 0, .null, .int 0, .int 0, .int 0])), (q1, .inl (dA 0, 5161, .inl (fun _ => 0))), (q2, .inl (dA 0, 5161, .inl (fun _ => 0))), (q3, .inl (dA 0, 5120, .inl (fun _ => 0))), (q4, .inl (dA 0, 40, .inl (fun _ => 0))), (q5, .inl (dA 1, 120, .inl (fun _ => 0))), (q6, .inl (dA 0, 8, .inl (fun _ => 0))), (q7, .inl (dA 0, 8, .inl (fun _ => 0))), (q8, .inl (dA 0, 8, .inl (fun _ => 0))), (q9, .inl (dA 0, 30, .inl (fun _ => 0))), (q10, .inl (dA 0, 30, .inl (fun _ => 0))), (q11, .inl (dA 0, 40, .inl (fun _ => 0))), (q12, .inl (dA 0, 130, .inl (fun _ => 0))), (q13, .inl (dA 0, 130, .inl (fun _ => 0))), (q14, .inl (dA 0, 130, .inl (fun _ => 0))), (q15, .inl (dA 0, 130, .inl (fun _ => 0))), (q16, .inl (dA 0, 130, .inl (fun _ => 0))), (q17, .inl (dA 0, 130, .inl (fun _ => 0))), (q18, .inl (dA 0, 65, .inl (fun _ => 0))), (q19, .inl (dA 0, 65, .inl (fun _ => 0))), (q20, .inl (dA 0, 65, .inl (fun _ => 0))), (q21, .inl (dA 0, 65, .inl (fun _ => 0))), (q22, .inl (dA 0, 65, .inl (fun _ => 0))), (q23, .inl (dA 0, 65, .inl (fun _ => 0))), (q24, .inl (dA 0, 65, .inl (fun _ => 0)))] H := hP
  have hD : va_D A [(h, .inr (2, [.ref q1, .ref q2, .ref q3, .ref q4, .int 0, .int 0, .ref q5, .int 0, .int 0, .int 0, .int 0, .int 0, .int 0, .int 0, .int 0, .ref q6, .ref q7, .ref q8, .int 0, .int 0, .ref q9, .ref q10, .ref q11, .int 0, .int 0, .ref q12, .ref q13, .ref q14, .ref q15, .ref q16, .ref q17, .int 0, .ref q18, .ref q19, .ref q20, .ref q21, .ref q22, .ref q23, .ref q24, .null, .null, .null, .null, .int 0, .null, .int 0, .int 0, .int 0, .int 0, .int 0, .null, .null, .null, .int 0, .null, .int 0, .null, .int 0, .int 0, .int 0])), (q1, .inl (dA 0, 5161, .inl (fun _ => 0))), (q2, .inl (dA 0, 5161, .inl (fun _ => 0))), (q3, .inl (dA 0, 5120, .inl (fun _ => 0))), (q4, .inl (dA 0, 40, .inl (fun _ => 0))), (q5, .inl (dA 1, 120, .inl (fun _ => 0))), (q6, .inl (dA 0, 8, .inl (fun _ => 0))), (q7, .inl (dA 0, 8, .inl (fun _ => 0))), (q8, .inl (dA 0, 8, .inl (fun _ => 0))), (q9, .inl (dA 0, 30, .inl (fun _ => 0))), (q10, .inl (dA 0, 30, .inl (fun _ => 0))), (q11, .inl (dA 0, 40, .inl (fun _ => 0))), (q12, .inl (dA 0, 130, .inl (fun _ => 0))), (q13, .inl (dA 0, 130, .inl (fun _ => 0))), (q14, .inl (dA 0, 130, .inl (fun _ => 0))), (q15, .inl (dA 0, 130, .inl (fun _ => 0))), (q16, .inl (dA 0, 130, .inl (fun _ => 0))), (q17, .inl (dA 0, 130, .inl (fun _ => 0))), (q18, .inl (dA 0, 65, .inl (fun _ => 0))), (q19, .inl (dA 0, 65, .inl (fun _ => 0))), (q20, .inl (dA 0, 65, .inl (fun _ => 0))), (q21, .inl (dA 0, 65, .inl (fun _ => 0))), (q22, .inl (dA 0, 65, .inl (fun _ => 0))), (q23, .inl (dA 0, 65, .inl (fun _ => 0))), (q24, .inl (dA 0, 65, .inl (fun _ => 0)))] := hD
  refine lv_aload_n hx hb d59_205 rfl (lv_at hl 0 rfl) ?_
  refine lv_bipush (v := 65) hx hb d59_206 (by decide) ?_
  refine ms_newa (atype := .int) (ty := .int) (a0 := (65, .inl (fun _ => 0))) X ms_k124 rfl 0 rfl (fun _ h => h) hP hD hS (fun _ => rfl) (by decide) (by decide) (by decide) (Nat.le_of_ble_eq_true rfl) (Nat.le_of_ble_eq_true rfl) d59_208 (fun q25 H hP hD hS => ?_)
  have hP : va_P D vwCl [(h, .inr (2, [.ref q1, .ref q2, .ref q3, .ref q4, .int 0, .int 0, .ref q5, .int 0, .int 0, .int 0, .int 0, .int 0, .int 0, .int 0, .int 0, .ref q6, .ref q7, .ref q8, .int 0, .int 0, .ref q9, .ref q10, .ref q11, .int 0, .int 0, .ref q12, .ref q13, .ref q14, .ref q15, .ref q16, .ref q17, .int 0, .ref q18, .ref q19, .ref q20, .ref q21, .ref q22, .ref q23, .ref q24, .null, .null, .null, .null, .int 0, .null, .int 0, .int 0, .int 0, .int 0, .int 0, .null, .null, .null, .int 0, .null, .int 0, .null, .int 0, .int 0, .int 0])), (q1, .inl (dA 0, 5161, .inl (fun _ => 0))), (q2, .inl (dA 0, 5161, .inl (fun _ => 0))), (q3, .inl (dA 0, 5120, .inl (fun _ => 0))), (q4, .inl (dA 0, 40, .inl (fun _ => 0))), (q5, .inl (dA 1, 120, .inl (fun _ => 0))), (q6, .inl (dA 0, 8, .inl (fun _ => 0))), (q7, .inl (dA 0, 8, .inl (fun _ => 0))), (q8, .inl (dA 0, 8, .inl (fun _ => 0))), (q9, .inl (dA 0, 30, .inl (fun _ => 0))), (q10, .inl (dA 0, 30, .inl (fun _ => 0))), (q11, .inl (dA 0, 40, .inl (fun _ => 0))), (q12, .inl (dA 0, 130, .inl (fun _ => 0))), (q13, .inl (dA 0, 130, .inl (fun _ => 0))), (q14, .inl (dA 0, 130, .inl (fun _ => 0))), (q15, .inl (dA 0, 130, .inl (fun _ => 0))), (q16, .inl (dA 0, 130, .inl (fun _ => 0))), (q17, .inl (dA 0, 130, .inl (fun _ => 0))), (q18, .inl (dA 0, 65, .inl (fun _ => 0))), (q19, .inl (dA 0, 65, .inl (fun _ => 0))), (q20, .inl (dA 0, 65, .inl (fun _ => 0))), (q21, .inl (dA 0, 65, .inl (fun _ => 0))), (q22, .inl (dA 0, 65, .inl (fun _ => 0))), (q23, .inl (dA 0, 65, .inl (fun _ => 0))), (q24, .inl (dA 0, 65, .inl (fun _ => 0))), (q25, .inl (dA 0, 65, .inl (fun _ => 0)))] H := hP
  have hD : va_D A [(h, .inr (2, [.ref q1, .ref q2, .ref q3, .ref q4, .int 0, .int 0, .ref q5, .int 0, .int 0, .int 0, .int 0, .int 0, .int 0, .int 0, .int 0, .ref q6, .ref q7, .ref q8, .int 0, .int 0, .ref q9, .ref q10, .ref q11, .int 0, .int 0, .ref q12, .ref q13, .ref q14, .ref q15, .ref q16, .ref q17, .int 0, .ref q18, .ref q19, .ref q20, .ref q21, .ref q22, .ref q23, .ref q24, .null, .null, .null, .null, .int 0, .null, .int 0, .int 0, .int 0, .int 0, .int 0, .null, .null, .null, .int 0, .null, .int 0, .null, .int 0, .int 0, .int 0])), (q1, .inl (dA 0, 5161, .inl (fun _ => 0))), (q2, .inl (dA 0, 5161, .inl (fun _ => 0))), (q3, .inl (dA 0, 5120, .inl (fun _ => 0))), (q4, .inl (dA 0, 40, .inl (fun _ => 0))), (q5, .inl (dA 1, 120, .inl (fun _ => 0))), (q6, .inl (dA 0, 8, .inl (fun _ => 0))), (q7, .inl (dA 0, 8, .inl (fun _ => 0))), (q8, .inl (dA 0, 8, .inl (fun _ => 0))), (q9, .inl (dA 0, 30, .inl (fun _ => 0))), (q10, .inl (dA 0, 30, .inl (fun _ => 0))), (q11, .inl (dA 0, 40, .inl (fun _ => 0))), (q12, .inl (dA 0, 130, .inl (fun _ => 0))), (q13, .inl (dA 0, 130, .inl (fun _ => 0))), (q14, .inl (dA 0, 130, .inl (fun _ => 0))), (q15, .inl (dA 0, 130, .inl (fun _ => 0))), (q16, .inl (dA 0, 130, .inl (fun _ => 0))), (q17, .inl (dA 0, 130, .inl (fun _ => 0))), (q18, .inl (dA 0, 65, .inl (fun _ => 0))), (q19, .inl (dA 0, 65, .inl (fun _ => 0))), (q20, .inl (dA 0, 65, .inl (fun _ => 0))), (q21, .inl (dA 0, 65, .inl (fun _ => 0))), (q22, .inl (dA 0, 65, .inl (fun _ => 0))), (q23, .inl (dA 0, 65, .inl (fun _ => 0))), (q24, .inl (dA 0, 65, .inl (fun _ => 0))), (q25, .inl (dA 0, 65, .inl (fun _ => 0)))] := hD
  refine va_putF (D := D) (ci := 2) (v := .ref q25) (ty := (.array .int)) (C := kR2) (T := kT2) (N := 60) hx hb hts ku2 kt2 kp2 kn2 hown hK hP hD hS 0 rfl rfl 39 (by decide) (hts _ ms_k1355) (fun _ h => h) rfl hin rfl (by decide +kernel) rfl rfl (Nat.le_of_ble_eq_true rfl) d59_210 (fun H locs hP hD hS => ?_)
  have hP : va_P D vwCl [(h, .inr (2, [.ref q1, .ref q2, .ref q3, .ref q4, .int 0, .int 0, .ref q5, .int 0, .int 0, .int 0, .int 0, .int 0, .int 0, .int 0, .int 0, .ref q6, .ref q7, .ref q8, .int 0, .int 0, .ref q9, .ref q10, .ref q11, .int 0, .int 0, .ref q12, .ref q13, .ref q14, .ref q15, .ref q16, .ref q17, .int 0, .ref q18, .ref q19, .ref q20, .ref q21, .ref q22, .ref q23, .ref q24, .ref q25, .null, .null, .null, .int 0, .null, .int 0, .int 0, .int 0, .int 0, .int 0, .null, .null, .null, .int 0, .null, .int 0, .null, .int 0, .int 0, .int 0])), (q1, .inl (dA 0, 5161, .inl (fun _ => 0))), (q2, .inl (dA 0, 5161, .inl (fun _ => 0))), (q3, .inl (dA 0, 5120, .inl (fun _ => 0))), (q4, .inl (dA 0, 40, .inl (fun _ => 0))), (q5, .inl (dA 1, 120, .inl (fun _ => 0))), (q6, .inl (dA 0, 8, .inl (fun _ => 0))), (q7, .inl (dA 0, 8, .inl (fun _ => 0))), (q8, .inl (dA 0, 8, .inl (fun _ => 0))), (q9, .inl (dA 0, 30, .inl (fun _ => 0))), (q10, .inl (dA 0, 30, .inl (fun _ => 0))), (q11, .inl (dA 0, 40, .inl (fun _ => 0))), (q12, .inl (dA 0, 130, .inl (fun _ => 0))), (q13, .inl (dA 0, 130, .inl (fun _ => 0))), (q14, .inl (dA 0, 130, .inl (fun _ => 0))), (q15, .inl (dA 0, 130, .inl (fun _ => 0))), (q16, .inl (dA 0, 130, .inl (fun _ => 0))), (q17, .inl (dA 0, 130, .inl (fun _ => 0))), (q18, .inl (dA 0, 65, .inl (fun _ => 0))), (q19, .inl (dA 0, 65, .inl (fun _ => 0))), (q20, .inl (dA 0, 65, .inl (fun _ => 0))), (q21, .inl (dA 0, 65, .inl (fun _ => 0))), (q22, .inl (dA 0, 65, .inl (fun _ => 0))), (q23, .inl (dA 0, 65, .inl (fun _ => 0))), (q24, .inl (dA 0, 65, .inl (fun _ => 0))), (q25, .inl (dA 0, 65, .inl (fun _ => 0)))] H := hP
  have hD : va_D A [(h, .inr (2, [.ref q1, .ref q2, .ref q3, .ref q4, .int 0, .int 0, .ref q5, .int 0, .int 0, .int 0, .int 0, .int 0, .int 0, .int 0, .int 0, .ref q6, .ref q7, .ref q8, .int 0, .int 0, .ref q9, .ref q10, .ref q11, .int 0, .int 0, .ref q12, .ref q13, .ref q14, .ref q15, .ref q16, .ref q17, .int 0, .ref q18, .ref q19, .ref q20, .ref q21, .ref q22, .ref q23, .ref q24, .ref q25, .null, .null, .null, .int 0, .null, .int 0, .int 0, .int 0, .int 0, .int 0, .null, .null, .null, .int 0, .null, .int 0, .null, .int 0, .int 0, .int 0])), (q1, .inl (dA 0, 5161, .inl (fun _ => 0))), (q2, .inl (dA 0, 5161, .inl (fun _ => 0))), (q3, .inl (dA 0, 5120, .inl (fun _ => 0))), (q4, .inl (dA 0, 40, .inl (fun _ => 0))), (q5, .inl (dA 1, 120, .inl (fun _ => 0))), (q6, .inl (dA 0, 8, .inl (fun _ => 0))), (q7, .inl (dA 0, 8, .inl (fun _ => 0))), (q8, .inl (dA 0, 8, .inl (fun _ => 0))), (q9, .inl (dA 0, 30, .inl (fun _ => 0))), (q10, .inl (dA 0, 30, .inl (fun _ => 0))), (q11, .inl (dA 0, 40, .inl (fun _ => 0))), (q12, .inl (dA 0, 130, .inl (fun _ => 0))), (q13, .inl (dA 0, 130, .inl (fun _ => 0))), (q14, .inl (dA 0, 130, .inl (fun _ => 0))), (q15, .inl (dA 0, 130, .inl (fun _ => 0))), (q16, .inl (dA 0, 130, .inl (fun _ => 0))), (q17, .inl (dA 0, 130, .inl (fun _ => 0))), (q18, .inl (dA 0, 65, .inl (fun _ => 0))), (q19, .inl (dA 0, 65, .inl (fun _ => 0))), (q20, .inl (dA 0, 65, .inl (fun _ => 0))), (q21, .inl (dA 0, 65, .inl (fun _ => 0))), (q22, .inl (dA 0, 65, .inl (fun _ => 0))), (q23, .inl (dA 0, 65, .inl (fun _ => 0))), (q24, .inl (dA 0, 65, .inl (fun _ => 0))), (q25, .inl (dA 0, 65, .inl (fun _ => 0)))] := hD
  refine lv_aload_n hx hb d59_213 rfl (lv_at hl 0 rfl) ?_
  refine lv_bipush (v := 65) hx hb d59_214 (by decide) ?_
  refine ms_newa (atype := .boolean) (ty := .boolean) (a0 := (65, .inl (fun _ => 0))) X ms_k1498 rfl 3 rfl (fun _ h => h) hP hD hS (fun _ => rfl) (by decide) (by decide) (by decide) (Nat.le_of_ble_eq_true rfl) (Nat.le_of_ble_eq_true rfl) d59_216 (fun q26 H hP hD hS => ?_)
  have hP : va_P D vwCl [(h, .inr (2, [.ref q1, .ref q2, .ref q3, .ref q4, .int 0, .int 0, .ref q5, .int 0, .int 0, .int 0, .int 0, .int 0, .int 0, .int 0, .int 0, .ref q6, .ref q7, .ref q8, .int 0, .int 0, .ref q9, .ref q10, .ref q11, .int 0, .int 0, .ref q12, .ref q13, .ref q14, .ref q15, .ref q16, .ref q17, .int 0, .ref q18, .ref q19, .ref q20, .ref q21, .ref q22, .ref q23, .ref q24, .ref q25, .null, .null, .null, .int 0, .null, .int 0, .int 0, .int 0, .int 0, .int 0, .null, .null, .null, .int 0, .null, .int 0, .null, .int 0, .int 0, .int 0])), (q1, .inl (dA 0, 5161, .inl (fun _ => 0))), (q2, .inl (dA 0, 5161, .inl (fun _ => 0))), (q3, .inl (dA 0, 5120, .inl (fun _ => 0))), (q4, .inl (dA 0, 40, .inl (fun _ => 0))), (q5, .inl (dA 1, 120, .inl (fun _ => 0))), (q6, .inl (dA 0, 8, .inl (fun _ => 0))), (q7, .inl (dA 0, 8, .inl (fun _ => 0))), (q8, .inl (dA 0, 8, .inl (fun _ => 0))), (q9, .inl (dA 0, 30, .inl (fun _ => 0))), (q10, .inl (dA 0, 30, .inl (fun _ => 0))), (q11, .inl (dA 0, 40, .inl (fun _ => 0))), (q12, .inl (dA 0, 130, .inl (fun _ => 0))), (q13, .inl (dA 0, 130, .inl (fun _ => 0))), (q14, .inl (dA 0, 130, .inl (fun _ => 0))), (q15, .inl (dA 0, 130, .inl (fun _ => 0))), (q16, .inl (dA 0, 130, .inl (fun _ => 0))), (q17, .inl (dA 0, 130, .inl (fun _ => 0))), (q18, .inl (dA 0, 65, .inl (fun _ => 0))), (q19, .inl (dA 0, 65, .inl (fun _ => 0))), (q20, .inl (dA 0, 65, .inl (fun _ => 0))), (q21, .inl (dA 0, 65, .inl (fun _ => 0))), (q22, .inl (dA 0, 65, .inl (fun _ => 0))), (q23, .inl (dA 0, 65, .inl (fun _ => 0))), (q24, .inl (dA 0, 65, .inl (fun _ => 0))), (q25, .inl (dA 0, 65, .inl (fun _ => 0))), (q26, .inl (dA 3, 65, .inl (fun _ => 0)))] H := hP
  have hD : va_D A [(h, .inr (2, [.ref q1, .ref q2, .ref q3, .ref q4, .int 0, .int 0, .ref q5, .int 0, .int 0, .int 0, .int 0, .int 0, .int 0, .int 0, .int 0, .ref q6, .ref q7, .ref q8, .int 0, .int 0, .ref q9, .ref q10, .ref q11, .int 0, .int 0, .ref q12, .ref q13, .ref q14, .ref q15, .ref q16, .ref q17, .int 0, .ref q18, .ref q19, .ref q20, .ref q21, .ref q22, .ref q23, .ref q24, .ref q25, .null, .null, .null, .int 0, .null, .int 0, .int 0, .int 0, .int 0, .int 0, .null, .null, .null, .int 0, .null, .int 0, .null, .int 0, .int 0, .int 0])), (q1, .inl (dA 0, 5161, .inl (fun _ => 0))), (q2, .inl (dA 0, 5161, .inl (fun _ => 0))), (q3, .inl (dA 0, 5120, .inl (fun _ => 0))), (q4, .inl (dA 0, 40, .inl (fun _ => 0))), (q5, .inl (dA 1, 120, .inl (fun _ => 0))), (q6, .inl (dA 0, 8, .inl (fun _ => 0))), (q7, .inl (dA 0, 8, .inl (fun _ => 0))), (q8, .inl (dA 0, 8, .inl (fun _ => 0))), (q9, .inl (dA 0, 30, .inl (fun _ => 0))), (q10, .inl (dA 0, 30, .inl (fun _ => 0))), (q11, .inl (dA 0, 40, .inl (fun _ => 0))), (q12, .inl (dA 0, 130, .inl (fun _ => 0))), (q13, .inl (dA 0, 130, .inl (fun _ => 0))), (q14, .inl (dA 0, 130, .inl (fun _ => 0))), (q15, .inl (dA 0, 130, .inl (fun _ => 0))), (q16, .inl (dA 0, 130, .inl (fun _ => 0))), (q17, .inl (dA 0, 130, .inl (fun _ => 0))), (q18, .inl (dA 0, 65, .inl (fun _ => 0))), (q19, .inl (dA 0, 65, .inl (fun _ => 0))), (q20, .inl (dA 0, 65, .inl (fun _ => 0))), (q21, .inl (dA 0, 65, .inl (fun _ => 0))), (q22, .inl (dA 0, 65, .inl (fun _ => 0))), (q23, .inl (dA 0, 65, .inl (fun _ => 0))), (q24, .inl (dA 0, 65, .inl (fun _ => 0))), (q25, .inl (dA 0, 65, .inl (fun _ => 0))), (q26, .inl (dA 3, 65, .inl (fun _ => 0)))] := hD
  refine va_putF (D := D) (ci := 2) (v := .ref q26) (ty := (.array .boolean)) (C := kR2) (T := kT2) (N := 60) hx hb hts ku2 kt2 kp2 kn2 hown hK hP hD hS 0 rfl rfl 40 (by decide) (hts _ ms_k1356) (fun _ h => h) rfl hin rfl (by decide +kernel) rfl rfl (Nat.le_of_ble_eq_true rfl) d59_218 (fun H locs hP hD hS => ?_)
  have hP : va_P D vwCl [(h, .inr (2, [.ref q1, .ref q2, .ref q3, .ref q4, .int 0, .int 0, .ref q5, .int 0, .int 0, .int 0, .int 0, .int 0, .int 0, .int 0, .int 0, .ref q6, .ref q7, .ref q8, .int 0, .int 0, .ref q9, .ref q10, .ref q11, .int 0, .int 0, .ref q12, .ref q13, .ref q14, .ref q15, .ref q16, .ref q17, .int 0, .ref q18, .ref q19, .ref q20, .ref q21, .ref q22, .ref q23, .ref q24, .ref q25, .ref q26, .null, .null, .int 0, .null, .int 0, .int 0, .int 0, .int 0, .int 0, .null, .null, .null, .int 0, .null, .int 0, .null, .int 0, .int 0, .int 0])), (q1, .inl (dA 0, 5161, .inl (fun _ => 0))), (q2, .inl (dA 0, 5161, .inl (fun _ => 0))), (q3, .inl (dA 0, 5120, .inl (fun _ => 0))), (q4, .inl (dA 0, 40, .inl (fun _ => 0))), (q5, .inl (dA 1, 120, .inl (fun _ => 0))), (q6, .inl (dA 0, 8, .inl (fun _ => 0))), (q7, .inl (dA 0, 8, .inl (fun _ => 0))), (q8, .inl (dA 0, 8, .inl (fun _ => 0))), (q9, .inl (dA 0, 30, .inl (fun _ => 0))), (q10, .inl (dA 0, 30, .inl (fun _ => 0))), (q11, .inl (dA 0, 40, .inl (fun _ => 0))), (q12, .inl (dA 0, 130, .inl (fun _ => 0))), (q13, .inl (dA 0, 130, .inl (fun _ => 0))), (q14, .inl (dA 0, 130, .inl (fun _ => 0))), (q15, .inl (dA 0, 130, .inl (fun _ => 0))), (q16, .inl (dA 0, 130, .inl (fun _ => 0))), (q17, .inl (dA 0, 130, .inl (fun _ => 0))), (q18, .inl (dA 0, 65, .inl (fun _ => 0))), (q19, .inl (dA 0, 65, .inl (fun _ => 0))), (q20, .inl (dA 0, 65, .inl (fun _ => 0))), (q21, .inl (dA 0, 65, .inl (fun _ => 0))), (q22, .inl (dA 0, 65, .inl (fun _ => 0))), (q23, .inl (dA 0, 65, .inl (fun _ => 0))), (q24, .inl (dA 0, 65, .inl (fun _ => 0))), (q25, .inl (dA 0, 65, .inl (fun _ => 0))), (q26, .inl (dA 3, 65, .inl (fun _ => 0)))] H := hP
  have hD : va_D A [(h, .inr (2, [.ref q1, .ref q2, .ref q3, .ref q4, .int 0, .int 0, .ref q5, .int 0, .int 0, .int 0, .int 0, .int 0, .int 0, .int 0, .int 0, .ref q6, .ref q7, .ref q8, .int 0, .int 0, .ref q9, .ref q10, .ref q11, .int 0, .int 0, .ref q12, .ref q13, .ref q14, .ref q15, .ref q16, .ref q17, .int 0, .ref q18, .ref q19, .ref q20, .ref q21, .ref q22, .ref q23, .ref q24, .ref q25, .ref q26, .null, .null, .int 0, .null, .int 0, .int 0, .int 0, .int 0, .int 0, .null, .null, .null, .int 0, .null, .int 0, .null, .int 0, .int 0, .int 0])), (q1, .inl (dA 0, 5161, .inl (fun _ => 0))), (q2, .inl (dA 0, 5161, .inl (fun _ => 0))), (q3, .inl (dA 0, 5120, .inl (fun _ => 0))), (q4, .inl (dA 0, 40, .inl (fun _ => 0))), (q5, .inl (dA 1, 120, .inl (fun _ => 0))), (q6, .inl (dA 0, 8, .inl (fun _ => 0))), (q7, .inl (dA 0, 8, .inl (fun _ => 0))), (q8, .inl (dA 0, 8, .inl (fun _ => 0))), (q9, .inl (dA 0, 30, .inl (fun _ => 0))), (q10, .inl (dA 0, 30, .inl (fun _ => 0))), (q11, .inl (dA 0, 40, .inl (fun _ => 0))), (q12, .inl (dA 0, 130, .inl (fun _ => 0))), (q13, .inl (dA 0, 130, .inl (fun _ => 0))), (q14, .inl (dA 0, 130, .inl (fun _ => 0))), (q15, .inl (dA 0, 130, .inl (fun _ => 0))), (q16, .inl (dA 0, 130, .inl (fun _ => 0))), (q17, .inl (dA 0, 130, .inl (fun _ => 0))), (q18, .inl (dA 0, 65, .inl (fun _ => 0))), (q19, .inl (dA 0, 65, .inl (fun _ => 0))), (q20, .inl (dA 0, 65, .inl (fun _ => 0))), (q21, .inl (dA 0, 65, .inl (fun _ => 0))), (q22, .inl (dA 0, 65, .inl (fun _ => 0))), (q23, .inl (dA 0, 65, .inl (fun _ => 0))), (q24, .inl (dA 0, 65, .inl (fun _ => 0))), (q25, .inl (dA 0, 65, .inl (fun _ => 0))), (q26, .inl (dA 3, 65, .inl (fun _ => 0)))] := hD
  refine lv_aload_n hx hb d59_221 rfl (lv_at hl 0 rfl) ?_
  refine lv_bipush (v := 65) hx hb d59_222 (by decide) ?_
  refine ms_newa (atype := .boolean) (ty := .boolean) (a0 := (65, .inl (fun _ => 0))) X ms_k1498 rfl 3 rfl (fun _ h => h) hP hD hS (fun _ => rfl) (by decide) (by decide) (by decide) (Nat.le_of_ble_eq_true rfl) (Nat.le_of_ble_eq_true rfl) d59_224 (fun q27 H hP hD hS => ?_)
  have hP : va_P D vwCl [(h, .inr (2, [.ref q1, .ref q2, .ref q3, .ref q4, .int 0, .int 0, .ref q5, .int 0, .int 0, .int 0, .int 0, .int 0, .int 0, .int 0, .int 0, .ref q6, .ref q7, .ref q8, .int 0, .int 0, .ref q9, .ref q10, .ref q11, .int 0, .int 0, .ref q12, .ref q13, .ref q14, .ref q15, .ref q16, .ref q17, .int 0, .ref q18, .ref q19, .ref q20, .ref q21, .ref q22, .ref q23, .ref q24, .ref q25, .ref q26, .null, .null, .int 0, .null, .int 0, .int 0, .int 0, .int 0, .int 0, .null, .null, .null, .int 0, .null, .int 0, .null, .int 0, .int 0, .int 0])), (q1, .inl (dA 0, 5161, .inl (fun _ => 0))), (q2, .inl (dA 0, 5161, .inl (fun _ => 0))), (q3, .inl (dA 0, 5120, .inl (fun _ => 0))), (q4, .inl (dA 0, 40, .inl (fun _ => 0))), (q5, .inl (dA 1, 120, .inl (fun _ => 0))), (q6, .inl (dA 0, 8, .inl (fun _ => 0))), (q7, .inl (dA 0, 8, .inl (fun _ => 0))), (q8, .inl (dA 0, 8, .inl (fun _ => 0))), (q9, .inl (dA 0, 30, .inl (fun _ => 0))), (q10, .inl (dA 0, 30, .inl (fun _ => 0))), (q11, .inl (dA 0, 40, .inl (fun _ => 0))), (q12, .inl (dA 0, 130, .inl (fun _ => 0))), (q13, .inl (dA 0, 130, .inl (fun _ => 0))), (q14, .inl (dA 0, 130, .inl (fun _ => 0))), (q15, .inl (dA 0, 130, .inl (fun _ => 0))), (q16, .inl (dA 0, 130, .inl (fun _ => 0))), (q17, .inl (dA 0, 130, .inl (fun _ => 0))), (q18, .inl (dA 0, 65, .inl (fun _ => 0))), (q19, .inl (dA 0, 65, .inl (fun _ => 0))), (q20, .inl (dA 0, 65, .inl (fun _ => 0))), (q21, .inl (dA 0, 65, .inl (fun _ => 0))), (q22, .inl (dA 0, 65, .inl (fun _ => 0))), (q23, .inl (dA 0, 65, .inl (fun _ => 0))), (q24, .inl (dA 0, 65, .inl (fun _ => 0))), (q25, .inl (dA 0, 65, .inl (fun _ => 0))), (q26, .inl (dA 3, 65, .inl (fun _ => 0))), (q27, .inl (dA 3, 65, .inl (fun _ => 0)))] H := hP
  have hD : va_D A [(h, .inr (2, [.ref q1, .ref q2, .ref q3, .ref q4, .int 0, .int 0, .ref q5, .int 0, .int 0, .int 0, .int 0, .int 0, .int 0, .int 0, .int 0, .ref q6, .ref q7, .ref q8, .int 0, .int 0, .ref q9, .ref q10, .ref q11, .int 0, .int 0, .ref q12, .ref q13, .ref q14, .ref q15, .ref q16, .ref q17, .int 0, .ref q18, .ref q19, .ref q20, .ref q21, .ref q22, .ref q23, .ref q24, .ref q25, .ref q26, .null, .null, .int 0, .null, .int 0, .int 0, .int 0, .int 0, .int 0, .null, .null, .null, .int 0, .null, .int 0, .null, .int 0, .int 0, .int 0])), (q1, .inl (dA 0, 5161, .inl (fun _ => 0))), (q2, .inl (dA 0, 5161, .inl (fun _ => 0))), (q3, .inl (dA 0, 5120, .inl (fun _ => 0))), (q4, .inl (dA 0, 40, .inl (fun _ => 0))), (q5, .inl (dA 1, 120, .inl (fun _ => 0))), (q6, .inl (dA 0, 8, .inl (fun _ => 0))), (q7, .inl (dA 0, 8, .inl (fun _ => 0))), (q8, .inl (dA 0, 8, .inl (fun _ => 0))), (q9, .inl (dA 0, 30, .inl (fun _ => 0))), (q10, .inl (dA 0, 30, .inl (fun _ => 0))), (q11, .inl (dA 0, 40, .inl (fun _ => 0))), (q12, .inl (dA 0, 130, .inl (fun _ => 0))), (q13, .inl (dA 0, 130, .inl (fun _ => 0))), (q14, .inl (dA 0, 130, .inl (fun _ => 0))), (q15, .inl (dA 0, 130, .inl (fun _ => 0))), (q16, .inl (dA 0, 130, .inl (fun _ => 0))), (q17, .inl (dA 0, 130, .inl (fun _ => 0))), (q18, .inl (dA 0, 65, .inl (fun _ => 0))), (q19, .inl (dA 0, 65, .inl (fun _ => 0))), (q20, .inl (dA 0, 65, .inl (fun _ => 0))), (q21, .inl (dA 0, 65, .inl (fun _ => 0))), (q22, .inl (dA 0, 65, .inl (fun _ => 0))), (q23, .inl (dA 0, 65, .inl (fun _ => 0))), (q24, .inl (dA 0, 65, .inl (fun _ => 0))), (q25, .inl (dA 0, 65, .inl (fun _ => 0))), (q26, .inl (dA 3, 65, .inl (fun _ => 0))), (q27, .inl (dA 3, 65, .inl (fun _ => 0)))] := hD
  refine va_putF (D := D) (ci := 2) (v := .ref q27) (ty := (.array .boolean)) (C := kR2) (T := kT2) (N := 60) hx hb hts ku2 kt2 kp2 kn2 hown hK hP hD hS 0 rfl rfl 41 (by decide) (hts _ ms_k1357) (fun _ h => h) rfl hin rfl (by decide +kernel) rfl rfl (Nat.le_of_ble_eq_true rfl) d59_226 (fun H locs hP hD hS => ?_)
  have hP : va_P D vwCl [(h, .inr (2, [.ref q1, .ref q2, .ref q3, .ref q4, .int 0, .int 0, .ref q5, .int 0, .int 0, .int 0, .int 0, .int 0, .int 0, .int 0, .int 0, .ref q6, .ref q7, .ref q8, .int 0, .int 0, .ref q9, .ref q10, .ref q11, .int 0, .int 0, .ref q12, .ref q13, .ref q14, .ref q15, .ref q16, .ref q17, .int 0, .ref q18, .ref q19, .ref q20, .ref q21, .ref q22, .ref q23, .ref q24, .ref q25, .ref q26, .ref q27, .null, .int 0, .null, .int 0, .int 0, .int 0, .int 0, .int 0, .null, .null, .null, .int 0, .null, .int 0, .null, .int 0, .int 0, .int 0])), (q1, .inl (dA 0, 5161, .inl (fun _ => 0))), (q2, .inl (dA 0, 5161, .inl (fun _ => 0))), (q3, .inl (dA 0, 5120, .inl (fun _ => 0))), (q4, .inl (dA 0, 40, .inl (fun _ => 0))), (q5, .inl (dA 1, 120, .inl (fun _ => 0))), (q6, .inl (dA 0, 8, .inl (fun _ => 0))), (q7, .inl (dA 0, 8, .inl (fun _ => 0))), (q8, .inl (dA 0, 8, .inl (fun _ => 0))), (q9, .inl (dA 0, 30, .inl (fun _ => 0))), (q10, .inl (dA 0, 30, .inl (fun _ => 0))), (q11, .inl (dA 0, 40, .inl (fun _ => 0))), (q12, .inl (dA 0, 130, .inl (fun _ => 0))), (q13, .inl (dA 0, 130, .inl (fun _ => 0))), (q14, .inl (dA 0, 130, .inl (fun _ => 0))), (q15, .inl (dA 0, 130, .inl (fun _ => 0))), (q16, .inl (dA 0, 130, .inl (fun _ => 0))), (q17, .inl (dA 0, 130, .inl (fun _ => 0))), (q18, .inl (dA 0, 65, .inl (fun _ => 0))), (q19, .inl (dA 0, 65, .inl (fun _ => 0))), (q20, .inl (dA 0, 65, .inl (fun _ => 0))), (q21, .inl (dA 0, 65, .inl (fun _ => 0))), (q22, .inl (dA 0, 65, .inl (fun _ => 0))), (q23, .inl (dA 0, 65, .inl (fun _ => 0))), (q24, .inl (dA 0, 65, .inl (fun _ => 0))), (q25, .inl (dA 0, 65, .inl (fun _ => 0))), (q26, .inl (dA 3, 65, .inl (fun _ => 0))), (q27, .inl (dA 3, 65, .inl (fun _ => 0)))] H := hP
  have hD : va_D A [(h, .inr (2, [.ref q1, .ref q2, .ref q3, .ref q4, .int 0, .int 0, .ref q5, .int 0, .int 0, .int 0, .int 0, .int 0, .int 0, .int 0, .int 0, .ref q6, .ref q7, .ref q8, .int 0, .int 0, .ref q9, .ref q10, .ref q11, .int 0, .int 0, .ref q12, .ref q13, .ref q14, .ref q15, .ref q16, .ref q17, .int 0, .ref q18, .ref q19, .ref q20, .ref q21, .ref q22, .ref q23, .ref q24, .ref q25, .ref q26, .ref q27, .null, .int 0, .null, .int 0, .int 0, .int 0, .int 0, .int 0, .null, .null, .null, .int 0, .null, .int 0, .null, .int 0, .int 0, .int 0])), (q1, .inl (dA 0, 5161, .inl (fun _ => 0))), (q2, .inl (dA 0, 5161, .inl (fun _ => 0))), (q3, .inl (dA 0, 5120, .inl (fun _ => 0))), (q4, .inl (dA 0, 40, .inl (fun _ => 0))), (q5, .inl (dA 1, 120, .inl (fun _ => 0))), (q6, .inl (dA 0, 8, .inl (fun _ => 0))), (q7, .inl (dA 0, 8, .inl (fun _ => 0))), (q8, .inl (dA 0, 8, .inl (fun _ => 0))), (q9, .inl (dA 0, 30, .inl (fun _ => 0))), (q10, .inl (dA 0, 30, .inl (fun _ => 0))), (q11, .inl (dA 0, 40, .inl (fun _ => 0))), (q12, .inl (dA 0, 130, .inl (fun _ => 0))), (q13, .inl (dA 0, 130, .inl (fun _ => 0))), (q14, .inl (dA 0, 130, .inl (fun _ => 0))), (q15, .inl (dA 0, 130, .inl (fun _ => 0))), (q16, .inl (dA 0, 130, .inl (fun _ => 0))), (q17, .inl (dA 0, 130, .inl (fun _ => 0))), (q18, .inl (dA 0, 65, .inl (fun _ => 0))), (q19, .inl (dA 0, 65, .inl (fun _ => 0))), (q20, .inl (dA 0, 65, .inl (fun _ => 0))), (q21, .inl (dA 0, 65, .inl (fun _ => 0))), (q22, .inl (dA 0, 65, .inl (fun _ => 0))), (q23, .inl (dA 0, 65, .inl (fun _ => 0))), (q24, .inl (dA 0, 65, .inl (fun _ => 0))), (q25, .inl (dA 0, 65, .inl (fun _ => 0))), (q26, .inl (dA 3, 65, .inl (fun _ => 0))), (q27, .inl (dA 3, 65, .inl (fun _ => 0)))] := hD
  refine lv_aload_n hx hb d59_229 rfl (lv_at hl 0 rfl) ?_
  refine lv_bipush (v := 65) hx hb d59_230 (by decide) ?_
  refine ms_newa (atype := .long) (ty := .long) (a0 := (65, .inr (.inl (fun _ => 0)))) X ms_k1499 rfl 4 rfl (fun _ h => h) hP hD hS (fun _ => rfl) (by decide) (by decide) (by decide) (Nat.le_of_ble_eq_true rfl) (Nat.le_of_ble_eq_true rfl) d59_232 (fun q28 H hP hD hS => ?_)
  have hP : va_P D vwCl [(h, .inr (2, [.ref q1, .ref q2, .ref q3, .ref q4, .int 0, .int 0, .ref q5, .int 0, .int 0, .int 0, .int 0, .int 0, .int 0, .int 0, .int 0, .ref q6, .ref q7, .ref q8, .int 0, .int 0, .ref q9, .ref q10, .ref q11, .int 0, .int 0, .ref q12, .ref q13, .ref q14, .ref q15, .ref q16, .ref q17, .int 0, .ref q18, .ref q19, .ref q20, .ref q21, .ref q22, .ref q23, .ref q24, .ref q25, .ref q26, .ref q27, .null, .int 0, .null, .int 0, .int 0, .int 0, .int 0, .int 0, .null, .null, .null, .int 0, .null, .int 0, .null, .int 0, .int 0, .int 0])), (q1, .inl (dA 0, 5161, .inl (fun _ => 0))), (q2, .inl (dA 0, 5161, .inl (fun _ => 0))), (q3, .inl (dA 0, 5120, .inl (fun _ => 0))), (q4, .inl (dA 0, 40, .inl (fun _ => 0))), (q5, .inl (dA 1, 120, .inl (fun _ => 0))), (q6, .inl (dA 0, 8, .inl (fun _ => 0))), (q7, .inl (dA 0, 8, .inl (fun _ => 0))), (q8, .inl (dA 0, 8, .inl (fun _ => 0))), (q9, .inl (dA 0, 30, .inl (fun _ => 0))), (q10, .inl (dA 0, 30, .inl (fun _ => 0))), (q11, .inl (dA 0, 40, .inl (fun _ => 0))), (q12, .inl (dA 0, 130, .inl (fun _ => 0))), (q13, .inl (dA 0, 130, .inl (fun _ => 0))), (q14, .inl (dA 0, 130, .inl (fun _ => 0))), (q15, .inl (dA 0, 130, .inl (fun _ => 0))), (q16, .inl (dA 0, 130, .inl (fun _ => 0))), (q17, .inl (dA 0, 130, .inl (fun _ => 0))), (q18, .inl (dA 0, 65, .inl (fun _ => 0))), (q19, .inl (dA 0, 65, .inl (fun _ => 0))), (q20, .inl (dA 0, 65, .inl (fun _ => 0))), (q21, .inl (dA 0, 65, .inl (fun _ => 0))), (q22, .inl (dA 0, 65, .inl (fun _ => 0))), (q23, .inl (dA 0, 65, .inl (fun _ => 0))), (q24, .inl (dA 0, 65, .inl (fun _ => 0))), (q25, .inl (dA 0, 65, .inl (fun _ => 0))), (q26, .inl (dA 3, 65, .inl (fun _ => 0))), (q27, .inl (dA 3, 65, .inl (fun _ => 0))), (q28, .inl (dA 4, 65, .inr (.inl (fun _ => 0))))] H := hP
  have hD : va_D A [(h, .inr (2, [.ref q1, .ref q2, .ref q3, .ref q4, .int 0, .int 0, .ref q5, .int 0, .int 0, .int 0, .int 0, .int 0, .int 0, .int 0, .int 0, .ref q6, .ref q7, .ref q8, .int 0, .int 0, .ref q9, .ref q10, .ref q11, .int 0, .int 0, .ref q12, .ref q13, .ref q14, .ref q15, .ref q16, .ref q17, .int 0, .ref q18, .ref q19, .ref q20, .ref q21, .ref q22, .ref q23, .ref q24, .ref q25, .ref q26, .ref q27, .null, .int 0, .null, .int 0, .int 0, .int 0, .int 0, .int 0, .null, .null, .null, .int 0, .null, .int 0, .null, .int 0, .int 0, .int 0])), (q1, .inl (dA 0, 5161, .inl (fun _ => 0))), (q2, .inl (dA 0, 5161, .inl (fun _ => 0))), (q3, .inl (dA 0, 5120, .inl (fun _ => 0))), (q4, .inl (dA 0, 40, .inl (fun _ => 0))), (q5, .inl (dA 1, 120, .inl (fun _ => 0))), (q6, .inl (dA 0, 8, .inl (fun _ => 0))), (q7, .inl (dA 0, 8, .inl (fun _ => 0))), (q8, .inl (dA 0, 8, .inl (fun _ => 0))), (q9, .inl (dA 0, 30, .inl (fun _ => 0))), (q10, .inl (dA 0, 30, .inl (fun _ => 0))), (q11, .inl (dA 0, 40, .inl (fun _ => 0))), (q12, .inl (dA 0, 130, .inl (fun _ => 0))), (q13, .inl (dA 0, 130, .inl (fun _ => 0))), (q14, .inl (dA 0, 130, .inl (fun _ => 0))), (q15, .inl (dA 0, 130, .inl (fun _ => 0))), (q16, .inl (dA 0, 130, .inl (fun _ => 0))), (q17, .inl (dA 0, 130, .inl (fun _ => 0))), (q18, .inl (dA 0, 65, .inl (fun _ => 0))), (q19, .inl (dA 0, 65, .inl (fun _ => 0))), (q20, .inl (dA 0, 65, .inl (fun _ => 0))), (q21, .inl (dA 0, 65, .inl (fun _ => 0))), (q22, .inl (dA 0, 65, .inl (fun _ => 0))), (q23, .inl (dA 0, 65, .inl (fun _ => 0))), (q24, .inl (dA 0, 65, .inl (fun _ => 0))), (q25, .inl (dA 0, 65, .inl (fun _ => 0))), (q26, .inl (dA 3, 65, .inl (fun _ => 0))), (q27, .inl (dA 3, 65, .inl (fun _ => 0))), (q28, .inl (dA 4, 65, .inr (.inl (fun _ => 0))))] := hD
  refine va_putF (D := D) (ci := 2) (v := .ref q28) (ty := (.array .long)) (C := kR2) (T := kT2) (N := 60) hx hb hts ku2 kt2 kp2 kn2 hown hK hP hD hS 0 rfl rfl 42 (by decide) (hts _ ms_k1358) (fun _ h => h) rfl hin rfl (by decide +kernel) rfl rfl (Nat.le_of_ble_eq_true rfl) d59_234 (fun H locs hP hD hS => ?_)
  have hP : va_P D vwCl [(h, .inr (2, [.ref q1, .ref q2, .ref q3, .ref q4, .int 0, .int 0, .ref q5, .int 0, .int 0, .int 0, .int 0, .int 0, .int 0, .int 0, .int 0, .ref q6, .ref q7, .ref q8, .int 0, .int 0, .ref q9, .ref q10, .ref q11, .int 0, .int 0, .ref q12, .ref q13, .ref q14, .ref q15, .ref q16, .ref q17, .int 0, .ref q18, .ref q19, .ref q20, .ref q21, .ref q22, .ref q23, .ref q24, .ref q25, .ref q26, .ref q27, .ref q28, .int 0, .null, .int 0, .int 0, .int 0, .int 0, .int 0, .null, .null, .null, .int 0, .null, .int 0, .null, .int 0, .int 0, .int 0])), (q1, .inl (dA 0, 5161, .inl (fun _ => 0))), (q2, .inl (dA 0, 5161, .inl (fun _ => 0))), (q3, .inl (dA 0, 5120, .inl (fun _ => 0))), (q4, .inl (dA 0, 40, .inl (fun _ => 0))), (q5, .inl (dA 1, 120, .inl (fun _ => 0))), (q6, .inl (dA 0, 8, .inl (fun _ => 0))), (q7, .inl (dA 0, 8, .inl (fun _ => 0))), (q8, .inl (dA 0, 8, .inl (fun _ => 0))), (q9, .inl (dA 0, 30, .inl (fun _ => 0))), (q10, .inl (dA 0, 30, .inl (fun _ => 0))), (q11, .inl (dA 0, 40, .inl (fun _ => 0))), (q12, .inl (dA 0, 130, .inl (fun _ => 0))), (q13, .inl (dA 0, 130, .inl (fun _ => 0))), (q14, .inl (dA 0, 130, .inl (fun _ => 0))), (q15, .inl (dA 0, 130, .inl (fun _ => 0))), (q16, .inl (dA 0, 130, .inl (fun _ => 0))), (q17, .inl (dA 0, 130, .inl (fun _ => 0))), (q18, .inl (dA 0, 65, .inl (fun _ => 0))), (q19, .inl (dA 0, 65, .inl (fun _ => 0))), (q20, .inl (dA 0, 65, .inl (fun _ => 0))), (q21, .inl (dA 0, 65, .inl (fun _ => 0))), (q22, .inl (dA 0, 65, .inl (fun _ => 0))), (q23, .inl (dA 0, 65, .inl (fun _ => 0))), (q24, .inl (dA 0, 65, .inl (fun _ => 0))), (q25, .inl (dA 0, 65, .inl (fun _ => 0))), (q26, .inl (dA 3, 65, .inl (fun _ => 0))), (q27, .inl (dA 3, 65, .inl (fun _ => 0))), (q28, .inl (dA 4, 65, .inr (.inl (fun _ => 0))))] H := hP
  have hD : va_D A [(h, .inr (2, [.ref q1, .ref q2, .ref q3, .ref q4, .int 0, .int 0, .ref q5, .int 0, .int 0, .int 0, .int 0, .int 0, .int 0, .int 0, .int 0, .ref q6, .ref q7, .ref q8, .int 0, .int 0, .ref q9, .ref q10, .ref q11, .int 0, .int 0, .ref q12, .ref q13, .ref q14, .ref q15, .ref q16, .ref q17, .int 0, .ref q18, .ref q19, .ref q20, .ref q21, .ref q22, .ref q23, .ref q24, .ref q25, .ref q26, .ref q27, .ref q28, .int 0, .null, .int 0, .int 0, .int 0, .int 0, .int 0, .null, .null, .null, .int 0, .null, .int 0, .null, .int 0, .int 0, .int 0])), (q1, .inl (dA 0, 5161, .inl (fun _ => 0))), (q2, .inl (dA 0, 5161, .inl (fun _ => 0))), (q3, .inl (dA 0, 5120, .inl (fun _ => 0))), (q4, .inl (dA 0, 40, .inl (fun _ => 0))), (q5, .inl (dA 1, 120, .inl (fun _ => 0))), (q6, .inl (dA 0, 8, .inl (fun _ => 0))), (q7, .inl (dA 0, 8, .inl (fun _ => 0))), (q8, .inl (dA 0, 8, .inl (fun _ => 0))), (q9, .inl (dA 0, 30, .inl (fun _ => 0))), (q10, .inl (dA 0, 30, .inl (fun _ => 0))), (q11, .inl (dA 0, 40, .inl (fun _ => 0))), (q12, .inl (dA 0, 130, .inl (fun _ => 0))), (q13, .inl (dA 0, 130, .inl (fun _ => 0))), (q14, .inl (dA 0, 130, .inl (fun _ => 0))), (q15, .inl (dA 0, 130, .inl (fun _ => 0))), (q16, .inl (dA 0, 130, .inl (fun _ => 0))), (q17, .inl (dA 0, 130, .inl (fun _ => 0))), (q18, .inl (dA 0, 65, .inl (fun _ => 0))), (q19, .inl (dA 0, 65, .inl (fun _ => 0))), (q20, .inl (dA 0, 65, .inl (fun _ => 0))), (q21, .inl (dA 0, 65, .inl (fun _ => 0))), (q22, .inl (dA 0, 65, .inl (fun _ => 0))), (q23, .inl (dA 0, 65, .inl (fun _ => 0))), (q24, .inl (dA 0, 65, .inl (fun _ => 0))), (q25, .inl (dA 0, 65, .inl (fun _ => 0))), (q26, .inl (dA 3, 65, .inl (fun _ => 0))), (q27, .inl (dA 3, 65, .inl (fun _ => 0))), (q28, .inl (dA 4, 65, .inr (.inl (fun _ => 0))))] := hD
  refine lv_aload_n hx hb d59_237 rfl (lv_at hl 0 rfl) ?_
  refine lv_bipush (v := 65) hx hb d59_238 (by decide) ?_
  refine ms_newa (atype := .int) (ty := .int) (a0 := (65, .inl (fun _ => 0))) X ms_k124 rfl 0 rfl (fun _ h => h) hP hD hS (fun _ => rfl) (by decide) (by decide) (by decide) (Nat.le_of_ble_eq_true rfl) (Nat.le_of_ble_eq_true rfl) d59_240 (fun q29 H hP hD hS => ?_)
  have hP : va_P D vwCl [(h, .inr (2, [.ref q1, .ref q2, .ref q3, .ref q4, .int 0, .int 0, .ref q5, .int 0, .int 0, .int 0, .int 0, .int 0, .int 0, .int 0, .int 0, .ref q6, .ref q7, .ref q8, .int 0, .int 0, .ref q9, .ref q10, .ref q11, .int 0, .int 0, .ref q12, .ref q13, .ref q14, .ref q15, .ref q16, .ref q17, .int 0, .ref q18, .ref q19, .ref q20, .ref q21, .ref q22, .ref q23, .ref q24, .ref q25, .ref q26, .ref q27, .ref q28, .int 0, .null, .int 0, .int 0, .int 0, .int 0, .int 0, .null, .null, .null, .int 0, .null, .int 0, .null, .int 0, .int 0, .int 0])), (q1, .inl (dA 0, 5161, .inl (fun _ => 0))), (q2, .inl (dA 0, 5161, .inl (fun _ => 0))), (q3, .inl (dA 0, 5120, .inl (fun _ => 0))), (q4, .inl (dA 0, 40, .inl (fun _ => 0))), (q5, .inl (dA 1, 120, .inl (fun _ => 0))), (q6, .inl (dA 0, 8, .inl (fun _ => 0))), (q7, .inl (dA 0, 8, .inl (fun _ => 0))), (q8, .inl (dA 0, 8, .inl (fun _ => 0))), (q9, .inl (dA 0, 30, .inl (fun _ => 0))), (q10, .inl (dA 0, 30, .inl (fun _ => 0))), (q11, .inl (dA 0, 40, .inl (fun _ => 0))), (q12, .inl (dA 0, 130, .inl (fun _ => 0))), (q13, .inl (dA 0, 130, .inl (fun _ => 0))), (q14, .inl (dA 0, 130, .inl (fun _ => 0))), (q15, .inl (dA 0, 130, .inl (fun _ => 0))), (q16, .inl (dA 0, 130, .inl (fun _ => 0))), (q17, .inl (dA 0, 130, .inl (fun _ => 0))), (q18, .inl (dA 0, 65, .inl (fun _ => 0))), (q19, .inl (dA 0, 65, .inl (fun _ => 0))), (q20, .inl (dA 0, 65, .inl (fun _ => 0))), (q21, .inl (dA 0, 65, .inl (fun _ => 0))), (q22, .inl (dA 0, 65, .inl (fun _ => 0))), (q23, .inl (dA 0, 65, .inl (fun _ => 0))), (q24, .inl (dA 0, 65, .inl (fun _ => 0))), (q25, .inl (dA 0, 65, .inl (fun _ => 0))), (q26, .inl (dA 3, 65, .inl (fun _ => 0))), (q27, .inl (dA 3, 65, .inl (fun _ => 0))), (q28, .inl (dA 4, 65, .inr (.inl (fun _ => 0)))), (q29, .inl (dA 0, 65, .inl (fun _ => 0)))] H := hP
  have hD : va_D A [(h, .inr (2, [.ref q1, .ref q2, .ref q3, .ref q4, .int 0, .int 0, .ref q5, .int 0, .int 0, .int 0, .int 0, .int 0, .int 0, .int 0, .int 0, .ref q6, .ref q7, .ref q8, .int 0, .int 0, .ref q9, .ref q10, .ref q11, .int 0, .int 0, .ref q12, .ref q13, .ref q14, .ref q15, .ref q16, .ref q17, .int 0, .ref q18, .ref q19, .ref q20, .ref q21, .ref q22, .ref q23, .ref q24, .ref q25, .ref q26, .ref q27, .ref q28, .int 0, .null, .int 0, .int 0, .int 0, .int 0, .int 0, .null, .null, .null, .int 0, .null, .int 0, .null, .int 0, .int 0, .int 0])), (q1, .inl (dA 0, 5161, .inl (fun _ => 0))), (q2, .inl (dA 0, 5161, .inl (fun _ => 0))), (q3, .inl (dA 0, 5120, .inl (fun _ => 0))), (q4, .inl (dA 0, 40, .inl (fun _ => 0))), (q5, .inl (dA 1, 120, .inl (fun _ => 0))), (q6, .inl (dA 0, 8, .inl (fun _ => 0))), (q7, .inl (dA 0, 8, .inl (fun _ => 0))), (q8, .inl (dA 0, 8, .inl (fun _ => 0))), (q9, .inl (dA 0, 30, .inl (fun _ => 0))), (q10, .inl (dA 0, 30, .inl (fun _ => 0))), (q11, .inl (dA 0, 40, .inl (fun _ => 0))), (q12, .inl (dA 0, 130, .inl (fun _ => 0))), (q13, .inl (dA 0, 130, .inl (fun _ => 0))), (q14, .inl (dA 0, 130, .inl (fun _ => 0))), (q15, .inl (dA 0, 130, .inl (fun _ => 0))), (q16, .inl (dA 0, 130, .inl (fun _ => 0))), (q17, .inl (dA 0, 130, .inl (fun _ => 0))), (q18, .inl (dA 0, 65, .inl (fun _ => 0))), (q19, .inl (dA 0, 65, .inl (fun _ => 0))), (q20, .inl (dA 0, 65, .inl (fun _ => 0))), (q21, .inl (dA 0, 65, .inl (fun _ => 0))), (q22, .inl (dA 0, 65, .inl (fun _ => 0))), (q23, .inl (dA 0, 65, .inl (fun _ => 0))), (q24, .inl (dA 0, 65, .inl (fun _ => 0))), (q25, .inl (dA 0, 65, .inl (fun _ => 0))), (q26, .inl (dA 3, 65, .inl (fun _ => 0))), (q27, .inl (dA 3, 65, .inl (fun _ => 0))), (q28, .inl (dA 4, 65, .inr (.inl (fun _ => 0)))), (q29, .inl (dA 0, 65, .inl (fun _ => 0)))] := hD
  refine va_putF (D := D) (ci := 2) (v := .ref q29) (ty := (.array .int)) (C := kR2) (T := kT2) (N := 60) hx hb hts ku2 kt2 kp2 kn2 hown hK hP hD hS 0 rfl rfl 44 (by decide) (hts _ ms_k1360) (fun _ h => h) rfl hin rfl (by decide +kernel) rfl rfl (Nat.le_of_ble_eq_true rfl) d59_242 (fun H locs hP hD hS => ?_)
  have hP : va_P D vwCl [(h, .inr (2, [.ref q1, .ref q2, .ref q3, .ref q4, .int 0, .int 0, .ref q5, .int 0, .int 0, .int 0, .int 0, .int 0, .int 0, .int 0, .int 0, .ref q6, .ref q7, .ref q8, .int 0, .int 0, .ref q9, .ref q10, .ref q11, .int 0, .int 0, .ref q12, .ref q13, .ref q14, .ref q15, .ref q16, .ref q17, .int 0, .ref q18, .ref q19, .ref q20, .ref q21, .ref q22, .ref q23, .ref q24, .ref q25, .ref q26, .ref q27, .ref q28, .int 0, .ref q29, .int 0, .int 0, .int 0, .int 0, .int 0, .null, .null, .null, .int 0, .null, .int 0, .null, .int 0, .int 0, .int 0])), (q1, .inl (dA 0, 5161, .inl (fun _ => 0))), (q2, .inl (dA 0, 5161, .inl (fun _ => 0))), (q3, .inl (dA 0, 5120, .inl (fun _ => 0))), (q4, .inl (dA 0, 40, .inl (fun _ => 0))), (q5, .inl (dA 1, 120, .inl (fun _ => 0))), (q6, .inl (dA 0, 8, .inl (fun _ => 0))), (q7, .inl (dA 0, 8, .inl (fun _ => 0))), (q8, .inl (dA 0, 8, .inl (fun _ => 0))), (q9, .inl (dA 0, 30, .inl (fun _ => 0))), (q10, .inl (dA 0, 30, .inl (fun _ => 0))), (q11, .inl (dA 0, 40, .inl (fun _ => 0))), (q12, .inl (dA 0, 130, .inl (fun _ => 0))), (q13, .inl (dA 0, 130, .inl (fun _ => 0))), (q14, .inl (dA 0, 130, .inl (fun _ => 0))), (q15, .inl (dA 0, 130, .inl (fun _ => 0))), (q16, .inl (dA 0, 130, .inl (fun _ => 0))), (q17, .inl (dA 0, 130, .inl (fun _ => 0))), (q18, .inl (dA 0, 65, .inl (fun _ => 0))), (q19, .inl (dA 0, 65, .inl (fun _ => 0))), (q20, .inl (dA 0, 65, .inl (fun _ => 0))), (q21, .inl (dA 0, 65, .inl (fun _ => 0))), (q22, .inl (dA 0, 65, .inl (fun _ => 0))), (q23, .inl (dA 0, 65, .inl (fun _ => 0))), (q24, .inl (dA 0, 65, .inl (fun _ => 0))), (q25, .inl (dA 0, 65, .inl (fun _ => 0))), (q26, .inl (dA 3, 65, .inl (fun _ => 0))), (q27, .inl (dA 3, 65, .inl (fun _ => 0))), (q28, .inl (dA 4, 65, .inr (.inl (fun _ => 0)))), (q29, .inl (dA 0, 65, .inl (fun _ => 0)))] H := hP
  have hD : va_D A [(h, .inr (2, [.ref q1, .ref q2, .ref q3, .ref q4, .int 0, .int 0, .ref q5, .int 0, .int 0, .int 0, .int 0, .int 0, .int 0, .int 0, .int 0, .ref q6, .ref q7, .ref q8, .int 0, .int 0, .ref q9, .ref q10, .ref q11, .int 0, .int 0, .ref q12, .ref q13, .ref q14, .ref q15, .ref q16, .ref q17, .int 0, .ref q18, .ref q19, .ref q20, .ref q21, .ref q22, .ref q23, .ref q24, .ref q25, .ref q26, .ref q27, .ref q28, .int 0, .ref q29, .int 0, .int 0, .int 0, .int 0, .int 0, .null, .null, .null, .int 0, .null, .int 0, .null, .int 0, .int 0, .int 0])), (q1, .inl (dA 0, 5161, .inl (fun _ => 0))), (q2, .inl (dA 0, 5161, .inl (fun _ => 0))), (q3, .inl (dA 0, 5120, .inl (fun _ => 0))), (q4, .inl (dA 0, 40, .inl (fun _ => 0))), (q5, .inl (dA 1, 120, .inl (fun _ => 0))), (q6, .inl (dA 0, 8, .inl (fun _ => 0))), (q7, .inl (dA 0, 8, .inl (fun _ => 0))), (q8, .inl (dA 0, 8, .inl (fun _ => 0))), (q9, .inl (dA 0, 30, .inl (fun _ => 0))), (q10, .inl (dA 0, 30, .inl (fun _ => 0))), (q11, .inl (dA 0, 40, .inl (fun _ => 0))), (q12, .inl (dA 0, 130, .inl (fun _ => 0))), (q13, .inl (dA 0, 130, .inl (fun _ => 0))), (q14, .inl (dA 0, 130, .inl (fun _ => 0))), (q15, .inl (dA 0, 130, .inl (fun _ => 0))), (q16, .inl (dA 0, 130, .inl (fun _ => 0))), (q17, .inl (dA 0, 130, .inl (fun _ => 0))), (q18, .inl (dA 0, 65, .inl (fun _ => 0))), (q19, .inl (dA 0, 65, .inl (fun _ => 0))), (q20, .inl (dA 0, 65, .inl (fun _ => 0))), (q21, .inl (dA 0, 65, .inl (fun _ => 0))), (q22, .inl (dA 0, 65, .inl (fun _ => 0))), (q23, .inl (dA 0, 65, .inl (fun _ => 0))), (q24, .inl (dA 0, 65, .inl (fun _ => 0))), (q25, .inl (dA 0, 65, .inl (fun _ => 0))), (q26, .inl (dA 3, 65, .inl (fun _ => 0))), (q27, .inl (dA 3, 65, .inl (fun _ => 0))), (q28, .inl (dA 4, 65, .inr (.inl (fun _ => 0)))), (q29, .inl (dA 0, 65, .inl (fun _ => 0)))] := hD
  refine lv_aload_n hx hb d59_245 rfl (lv_at hl 0 rfl) ?_
  refine lv_iconst (v := 5) hx hb d59_246 (by decide) ?_
  refine ms_newa (atype := .int) (ty := .int) (a0 := (5, .inl (fun _ => 0))) X ms_k124 rfl 0 rfl (fun _ h => h) hP hD hS (fun _ => rfl) (by decide) (by decide) (by decide) (Nat.le_of_ble_eq_true rfl) (Nat.le_of_ble_eq_true rfl) d59_247 (fun q30 H hP hD hS => ?_)
  have hP : va_P D vwCl [(h, .inr (2, [.ref q1, .ref q2, .ref q3, .ref q4, .int 0, .int 0, .ref q5, .int 0, .int 0, .int 0, .int 0, .int 0, .int 0, .int 0, .int 0, .ref q6, .ref q7, .ref q8, .int 0, .int 0, .ref q9, .ref q10, .ref q11, .int 0, .int 0, .ref q12, .ref q13, .ref q14, .ref q15, .ref q16, .ref q17, .int 0, .ref q18, .ref q19, .ref q20, .ref q21, .ref q22, .ref q23, .ref q24, .ref q25, .ref q26, .ref q27, .ref q28, .int 0, .ref q29, .int 0, .int 0, .int 0, .int 0, .int 0, .null, .null, .null, .int 0, .null, .int 0, .null, .int 0, .int 0, .int 0])), (q1, .inl (dA 0, 5161, .inl (fun _ => 0))), (q2, .inl (dA 0, 5161, .inl (fun _ => 0))), (q3, .inl (dA 0, 5120, .inl (fun _ => 0))), (q4, .inl (dA 0, 40, .inl (fun _ => 0))), (q5, .inl (dA 1, 120, .inl (fun _ => 0))), (q6, .inl (dA 0, 8, .inl (fun _ => 0))), (q7, .inl (dA 0, 8, .inl (fun _ => 0))), (q8, .inl (dA 0, 8, .inl (fun _ => 0))), (q9, .inl (dA 0, 30, .inl (fun _ => 0))), (q10, .inl (dA 0, 30, .inl (fun _ => 0))), (q11, .inl (dA 0, 40, .inl (fun _ => 0))), (q12, .inl (dA 0, 130, .inl (fun _ => 0))), (q13, .inl (dA 0, 130, .inl (fun _ => 0))), (q14, .inl (dA 0, 130, .inl (fun _ => 0))), (q15, .inl (dA 0, 130, .inl (fun _ => 0))), (q16, .inl (dA 0, 130, .inl (fun _ => 0))), (q17, .inl (dA 0, 130, .inl (fun _ => 0))), (q18, .inl (dA 0, 65, .inl (fun _ => 0))), (q19, .inl (dA 0, 65, .inl (fun _ => 0))), (q20, .inl (dA 0, 65, .inl (fun _ => 0))), (q21, .inl (dA 0, 65, .inl (fun _ => 0))), (q22, .inl (dA 0, 65, .inl (fun _ => 0))), (q23, .inl (dA 0, 65, .inl (fun _ => 0))), (q24, .inl (dA 0, 65, .inl (fun _ => 0))), (q25, .inl (dA 0, 65, .inl (fun _ => 0))), (q26, .inl (dA 3, 65, .inl (fun _ => 0))), (q27, .inl (dA 3, 65, .inl (fun _ => 0))), (q28, .inl (dA 4, 65, .inr (.inl (fun _ => 0)))), (q29, .inl (dA 0, 65, .inl (fun _ => 0))), (q30, .inl (dA 0, 5, .inl (fun _ => 0)))] H := hP
  have hD : va_D A [(h, .inr (2, [.ref q1, .ref q2, .ref q3, .ref q4, .int 0, .int 0, .ref q5, .int 0, .int 0, .int 0, .int 0, .int 0, .int 0, .int 0, .int 0, .ref q6, .ref q7, .ref q8, .int 0, .int 0, .ref q9, .ref q10, .ref q11, .int 0, .int 0, .ref q12, .ref q13, .ref q14, .ref q15, .ref q16, .ref q17, .int 0, .ref q18, .ref q19, .ref q20, .ref q21, .ref q22, .ref q23, .ref q24, .ref q25, .ref q26, .ref q27, .ref q28, .int 0, .ref q29, .int 0, .int 0, .int 0, .int 0, .int 0, .null, .null, .null, .int 0, .null, .int 0, .null, .int 0, .int 0, .int 0])), (q1, .inl (dA 0, 5161, .inl (fun _ => 0))), (q2, .inl (dA 0, 5161, .inl (fun _ => 0))), (q3, .inl (dA 0, 5120, .inl (fun _ => 0))), (q4, .inl (dA 0, 40, .inl (fun _ => 0))), (q5, .inl (dA 1, 120, .inl (fun _ => 0))), (q6, .inl (dA 0, 8, .inl (fun _ => 0))), (q7, .inl (dA 0, 8, .inl (fun _ => 0))), (q8, .inl (dA 0, 8, .inl (fun _ => 0))), (q9, .inl (dA 0, 30, .inl (fun _ => 0))), (q10, .inl (dA 0, 30, .inl (fun _ => 0))), (q11, .inl (dA 0, 40, .inl (fun _ => 0))), (q12, .inl (dA 0, 130, .inl (fun _ => 0))), (q13, .inl (dA 0, 130, .inl (fun _ => 0))), (q14, .inl (dA 0, 130, .inl (fun _ => 0))), (q15, .inl (dA 0, 130, .inl (fun _ => 0))), (q16, .inl (dA 0, 130, .inl (fun _ => 0))), (q17, .inl (dA 0, 130, .inl (fun _ => 0))), (q18, .inl (dA 0, 65, .inl (fun _ => 0))), (q19, .inl (dA 0, 65, .inl (fun _ => 0))), (q20, .inl (dA 0, 65, .inl (fun _ => 0))), (q21, .inl (dA 0, 65, .inl (fun _ => 0))), (q22, .inl (dA 0, 65, .inl (fun _ => 0))), (q23, .inl (dA 0, 65, .inl (fun _ => 0))), (q24, .inl (dA 0, 65, .inl (fun _ => 0))), (q25, .inl (dA 0, 65, .inl (fun _ => 0))), (q26, .inl (dA 3, 65, .inl (fun _ => 0))), (q27, .inl (dA 3, 65, .inl (fun _ => 0))), (q28, .inl (dA 4, 65, .inr (.inl (fun _ => 0)))), (q29, .inl (dA 0, 65, .inl (fun _ => 0))), (q30, .inl (dA 0, 5, .inl (fun _ => 0)))] := hD
  refine va_putF (D := D) (ci := 2) (v := .ref q30) (ty := (.array .int)) (C := kR2) (T := kT2) (N := 60) hx hb hts ku2 kt2 kp2 kn2 hown hK hP hD hS 0 rfl rfl 50 (by decide) (hts _ ms_k1366) (fun _ h => h) rfl hin rfl (by decide +kernel) rfl rfl (Nat.le_of_ble_eq_true rfl) d59_249 (fun H locs hP hD hS => ?_)
  have hP : va_P D vwCl [(h, .inr (2, [.ref q1, .ref q2, .ref q3, .ref q4, .int 0, .int 0, .ref q5, .int 0, .int 0, .int 0, .int 0, .int 0, .int 0, .int 0, .int 0, .ref q6, .ref q7, .ref q8, .int 0, .int 0, .ref q9, .ref q10, .ref q11, .int 0, .int 0, .ref q12, .ref q13, .ref q14, .ref q15, .ref q16, .ref q17, .int 0, .ref q18, .ref q19, .ref q20, .ref q21, .ref q22, .ref q23, .ref q24, .ref q25, .ref q26, .ref q27, .ref q28, .int 0, .ref q29, .int 0, .int 0, .int 0, .int 0, .int 0, .ref q30, .null, .null, .int 0, .null, .int 0, .null, .int 0, .int 0, .int 0])), (q1, .inl (dA 0, 5161, .inl (fun _ => 0))), (q2, .inl (dA 0, 5161, .inl (fun _ => 0))), (q3, .inl (dA 0, 5120, .inl (fun _ => 0))), (q4, .inl (dA 0, 40, .inl (fun _ => 0))), (q5, .inl (dA 1, 120, .inl (fun _ => 0))), (q6, .inl (dA 0, 8, .inl (fun _ => 0))), (q7, .inl (dA 0, 8, .inl (fun _ => 0))), (q8, .inl (dA 0, 8, .inl (fun _ => 0))), (q9, .inl (dA 0, 30, .inl (fun _ => 0))), (q10, .inl (dA 0, 30, .inl (fun _ => 0))), (q11, .inl (dA 0, 40, .inl (fun _ => 0))), (q12, .inl (dA 0, 130, .inl (fun _ => 0))), (q13, .inl (dA 0, 130, .inl (fun _ => 0))), (q14, .inl (dA 0, 130, .inl (fun _ => 0))), (q15, .inl (dA 0, 130, .inl (fun _ => 0))), (q16, .inl (dA 0, 130, .inl (fun _ => 0))), (q17, .inl (dA 0, 130, .inl (fun _ => 0))), (q18, .inl (dA 0, 65, .inl (fun _ => 0))), (q19, .inl (dA 0, 65, .inl (fun _ => 0))), (q20, .inl (dA 0, 65, .inl (fun _ => 0))), (q21, .inl (dA 0, 65, .inl (fun _ => 0))), (q22, .inl (dA 0, 65, .inl (fun _ => 0))), (q23, .inl (dA 0, 65, .inl (fun _ => 0))), (q24, .inl (dA 0, 65, .inl (fun _ => 0))), (q25, .inl (dA 0, 65, .inl (fun _ => 0))), (q26, .inl (dA 3, 65, .inl (fun _ => 0))), (q27, .inl (dA 3, 65, .inl (fun _ => 0))), (q28, .inl (dA 4, 65, .inr (.inl (fun _ => 0)))), (q29, .inl (dA 0, 65, .inl (fun _ => 0))), (q30, .inl (dA 0, 5, .inl (fun _ => 0)))] H := hP
  have hD : va_D A [(h, .inr (2, [.ref q1, .ref q2, .ref q3, .ref q4, .int 0, .int 0, .ref q5, .int 0, .int 0, .int 0, .int 0, .int 0, .int 0, .int 0, .int 0, .ref q6, .ref q7, .ref q8, .int 0, .int 0, .ref q9, .ref q10, .ref q11, .int 0, .int 0, .ref q12, .ref q13, .ref q14, .ref q15, .ref q16, .ref q17, .int 0, .ref q18, .ref q19, .ref q20, .ref q21, .ref q22, .ref q23, .ref q24, .ref q25, .ref q26, .ref q27, .ref q28, .int 0, .ref q29, .int 0, .int 0, .int 0, .int 0, .int 0, .ref q30, .null, .null, .int 0, .null, .int 0, .null, .int 0, .int 0, .int 0])), (q1, .inl (dA 0, 5161, .inl (fun _ => 0))), (q2, .inl (dA 0, 5161, .inl (fun _ => 0))), (q3, .inl (dA 0, 5120, .inl (fun _ => 0))), (q4, .inl (dA 0, 40, .inl (fun _ => 0))), (q5, .inl (dA 1, 120, .inl (fun _ => 0))), (q6, .inl (dA 0, 8, .inl (fun _ => 0))), (q7, .inl (dA 0, 8, .inl (fun _ => 0))), (q8, .inl (dA 0, 8, .inl (fun _ => 0))), (q9, .inl (dA 0, 30, .inl (fun _ => 0))), (q10, .inl (dA 0, 30, .inl (fun _ => 0))), (q11, .inl (dA 0, 40, .inl (fun _ => 0))), (q12, .inl (dA 0, 130, .inl (fun _ => 0))), (q13, .inl (dA 0, 130, .inl (fun _ => 0))), (q14, .inl (dA 0, 130, .inl (fun _ => 0))), (q15, .inl (dA 0, 130, .inl (fun _ => 0))), (q16, .inl (dA 0, 130, .inl (fun _ => 0))), (q17, .inl (dA 0, 130, .inl (fun _ => 0))), (q18, .inl (dA 0, 65, .inl (fun _ => 0))), (q19, .inl (dA 0, 65, .inl (fun _ => 0))), (q20, .inl (dA 0, 65, .inl (fun _ => 0))), (q21, .inl (dA 0, 65, .inl (fun _ => 0))), (q22, .inl (dA 0, 65, .inl (fun _ => 0))), (q23, .inl (dA 0, 65, .inl (fun _ => 0))), (q24, .inl (dA 0, 65, .inl (fun _ => 0))), (q25, .inl (dA 0, 65, .inl (fun _ => 0))), (q26, .inl (dA 3, 65, .inl (fun _ => 0))), (q27, .inl (dA 3, 65, .inl (fun _ => 0))), (q28, .inl (dA 4, 65, .inr (.inl (fun _ => 0)))), (q29, .inl (dA 0, 65, .inl (fun _ => 0))), (q30, .inl (dA 0, 5, .inl (fun _ => 0)))] := hD
  refine lv_aload_n hx hb d59_252 rfl (lv_at hl 0 rfl) ?_
  refine lv_iconst (v := 5) hx hb d59_253 (by decide) ?_
  refine ms_newa (atype := .int) (ty := .int) (a0 := (5, .inl (fun _ => 0))) X ms_k124 rfl 0 rfl (fun _ h => h) hP hD hS (fun _ => rfl) (by decide) (by decide) (by decide) (Nat.le_of_ble_eq_true rfl) (Nat.le_of_ble_eq_true rfl) d59_254 (fun q31 H hP hD hS => ?_)
  have hP : va_P D vwCl [(h, .inr (2, [.ref q1, .ref q2, .ref q3, .ref q4, .int 0, .int 0, .ref q5, .int 0, .int 0, .int 0, .int 0, .int 0, .int 0, .int 0, .int 0, .ref q6, .ref q7, .ref q8, .int 0, .int 0, .ref q9, .ref q10, .ref q11, .int 0, .int 0, .ref q12, .ref q13, .ref q14, .ref q15, .ref q16, .ref q17, .int 0, .ref q18, .ref q19, .ref q20, .ref q21, .ref q22, .ref q23, .ref q24, .ref q25, .ref q26, .ref q27, .ref q28, .int 0, .ref q29, .int 0, .int 0, .int 0, .int 0, .int 0, .ref q30, .null, .null, .int 0, .null, .int 0, .null, .int 0, .int 0, .int 0])), (q1, .inl (dA 0, 5161, .inl (fun _ => 0))), (q2, .inl (dA 0, 5161, .inl (fun _ => 0))), (q3, .inl (dA 0, 5120, .inl (fun _ => 0))), (q4, .inl (dA 0, 40, .inl (fun _ => 0))), (q5, .inl (dA 1, 120, .inl (fun _ => 0))), (q6, .inl (dA 0, 8, .inl (fun _ => 0))), (q7, .inl (dA 0, 8, .inl (fun _ => 0))), (q8, .inl (dA 0, 8, .inl (fun _ => 0))), (q9, .inl (dA 0, 30, .inl (fun _ => 0))), (q10, .inl (dA 0, 30, .inl (fun _ => 0))), (q11, .inl (dA 0, 40, .inl (fun _ => 0))), (q12, .inl (dA 0, 130, .inl (fun _ => 0))), (q13, .inl (dA 0, 130, .inl (fun _ => 0))), (q14, .inl (dA 0, 130, .inl (fun _ => 0))), (q15, .inl (dA 0, 130, .inl (fun _ => 0))), (q16, .inl (dA 0, 130, .inl (fun _ => 0))), (q17, .inl (dA 0, 130, .inl (fun _ => 0))), (q18, .inl (dA 0, 65, .inl (fun _ => 0))), (q19, .inl (dA 0, 65, .inl (fun _ => 0))), (q20, .inl (dA 0, 65, .inl (fun _ => 0))), (q21, .inl (dA 0, 65, .inl (fun _ => 0))), (q22, .inl (dA 0, 65, .inl (fun _ => 0))), (q23, .inl (dA 0, 65, .inl (fun _ => 0))), (q24, .inl (dA 0, 65, .inl (fun _ => 0))), (q25, .inl (dA 0, 65, .inl (fun _ => 0))), (q26, .inl (dA 3, 65, .inl (fun _ => 0))), (q27, .inl (dA 3, 65, .inl (fun _ => 0))), (q28, .inl (dA 4, 65, .inr (.inl (fun _ => 0)))), (q29, .inl (dA 0, 65, .inl (fun _ => 0))), (q30, .inl (dA 0, 5, .inl (fun _ => 0))), (q31, .inl (dA 0, 5, .inl (fun _ => 0)))] H := hP
  have hD : va_D A [(h, .inr (2, [.ref q1, .ref q2, .ref q3, .ref q4, .int 0, .int 0, .ref q5, .int 0, .int 0, .int 0, .int 0, .int 0, .int 0, .int 0, .int 0, .ref q6, .ref q7, .ref q8, .int 0, .int 0, .ref q9, .ref q10, .ref q11, .int 0, .int 0, .ref q12, .ref q13, .ref q14, .ref q15, .ref q16, .ref q17, .int 0, .ref q18, .ref q19, .ref q20, .ref q21, .ref q22, .ref q23, .ref q24, .ref q25, .ref q26, .ref q27, .ref q28, .int 0, .ref q29, .int 0, .int 0, .int 0, .int 0, .int 0, .ref q30, .null, .null, .int 0, .null, .int 0, .null, .int 0, .int 0, .int 0])), (q1, .inl (dA 0, 5161, .inl (fun _ => 0))), (q2, .inl (dA 0, 5161, .inl (fun _ => 0))), (q3, .inl (dA 0, 5120, .inl (fun _ => 0))), (q4, .inl (dA 0, 40, .inl (fun _ => 0))), (q5, .inl (dA 1, 120, .inl (fun _ => 0))), (q6, .inl (dA 0, 8, .inl (fun _ => 0))), (q7, .inl (dA 0, 8, .inl (fun _ => 0))), (q8, .inl (dA 0, 8, .inl (fun _ => 0))), (q9, .inl (dA 0, 30, .inl (fun _ => 0))), (q10, .inl (dA 0, 30, .inl (fun _ => 0))), (q11, .inl (dA 0, 40, .inl (fun _ => 0))), (q12, .inl (dA 0, 130, .inl (fun _ => 0))), (q13, .inl (dA 0, 130, .inl (fun _ => 0))), (q14, .inl (dA 0, 130, .inl (fun _ => 0))), (q15, .inl (dA 0, 130, .inl (fun _ => 0))), (q16, .inl (dA 0, 130, .inl (fun _ => 0))), (q17, .inl (dA 0, 130, .inl (fun _ => 0))), (q18, .inl (dA 0, 65, .inl (fun _ => 0))), (q19, .inl (dA 0, 65, .inl (fun _ => 0))), (q20, .inl (dA 0, 65, .inl (fun _ => 0))), (q21, .inl (dA 0, 65, .inl (fun _ => 0))), (q22, .inl (dA 0, 65, .inl (fun _ => 0))), (q23, .inl (dA 0, 65, .inl (fun _ => 0))), (q24, .inl (dA 0, 65, .inl (fun _ => 0))), (q25, .inl (dA 0, 65, .inl (fun _ => 0))), (q26, .inl (dA 3, 65, .inl (fun _ => 0))), (q27, .inl (dA 3, 65, .inl (fun _ => 0))), (q28, .inl (dA 4, 65, .inr (.inl (fun _ => 0)))), (q29, .inl (dA 0, 65, .inl (fun _ => 0))), (q30, .inl (dA 0, 5, .inl (fun _ => 0))), (q31, .inl (dA 0, 5, .inl (fun _ => 0)))] := hD
  refine va_putF (D := D) (ci := 2) (v := .ref q31) (ty := (.array .int)) (C := kR2) (T := kT2) (N := 60) hx hb hts ku2 kt2 kp2 kn2 hown hK hP hD hS 0 rfl rfl 51 (by decide) (hts _ ms_k1367) (fun _ h => h) rfl hin rfl (by decide +kernel) rfl rfl (Nat.le_of_ble_eq_true rfl) d59_256 (fun H locs hP hD hS => ?_)
  have hP : va_P D vwCl [(h, .inr (2, [.ref q1, .ref q2, .ref q3, .ref q4, .int 0, .int 0, .ref q5, .int 0, .int 0, .int 0, .int 0, .int 0, .int 0, .int 0, .int 0, .ref q6, .ref q7, .ref q8, .int 0, .int 0, .ref q9, .ref q10, .ref q11, .int 0, .int 0, .ref q12, .ref q13, .ref q14, .ref q15, .ref q16, .ref q17, .int 0, .ref q18, .ref q19, .ref q20, .ref q21, .ref q22, .ref q23, .ref q24, .ref q25, .ref q26, .ref q27, .ref q28, .int 0, .ref q29, .int 0, .int 0, .int 0, .int 0, .int 0, .ref q30, .ref q31, .null, .int 0, .null, .int 0, .null, .int 0, .int 0, .int 0])), (q1, .inl (dA 0, 5161, .inl (fun _ => 0))), (q2, .inl (dA 0, 5161, .inl (fun _ => 0))), (q3, .inl (dA 0, 5120, .inl (fun _ => 0))), (q4, .inl (dA 0, 40, .inl (fun _ => 0))), (q5, .inl (dA 1, 120, .inl (fun _ => 0))), (q6, .inl (dA 0, 8, .inl (fun _ => 0))), (q7, .inl (dA 0, 8, .inl (fun _ => 0))), (q8, .inl (dA 0, 8, .inl (fun _ => 0))), (q9, .inl (dA 0, 30, .inl (fun _ => 0))), (q10, .inl (dA 0, 30, .inl (fun _ => 0))), (q11, .inl (dA 0, 40, .inl (fun _ => 0))), (q12, .inl (dA 0, 130, .inl (fun _ => 0))), (q13, .inl (dA 0, 130, .inl (fun _ => 0))), (q14, .inl (dA 0, 130, .inl (fun _ => 0))), (q15, .inl (dA 0, 130, .inl (fun _ => 0))), (q16, .inl (dA 0, 130, .inl (fun _ => 0))), (q17, .inl (dA 0, 130, .inl (fun _ => 0))), (q18, .inl (dA 0, 65, .inl (fun _ => 0))), (q19, .inl (dA 0, 65, .inl (fun _ => 0))), (q20, .inl (dA 0, 65, .inl (fun _ => 0))), (q21, .inl (dA 0, 65, .inl (fun _ => 0))), (q22, .inl (dA 0, 65, .inl (fun _ => 0))), (q23, .inl (dA 0, 65, .inl (fun _ => 0))), (q24, .inl (dA 0, 65, .inl (fun _ => 0))), (q25, .inl (dA 0, 65, .inl (fun _ => 0))), (q26, .inl (dA 3, 65, .inl (fun _ => 0))), (q27, .inl (dA 3, 65, .inl (fun _ => 0))), (q28, .inl (dA 4, 65, .inr (.inl (fun _ => 0)))), (q29, .inl (dA 0, 65, .inl (fun _ => 0))), (q30, .inl (dA 0, 5, .inl (fun _ => 0))), (q31, .inl (dA 0, 5, .inl (fun _ => 0)))] H := hP
  have hD : va_D A [(h, .inr (2, [.ref q1, .ref q2, .ref q3, .ref q4, .int 0, .int 0, .ref q5, .int 0, .int 0, .int 0, .int 0, .int 0, .int 0, .int 0, .int 0, .ref q6, .ref q7, .ref q8, .int 0, .int 0, .ref q9, .ref q10, .ref q11, .int 0, .int 0, .ref q12, .ref q13, .ref q14, .ref q15, .ref q16, .ref q17, .int 0, .ref q18, .ref q19, .ref q20, .ref q21, .ref q22, .ref q23, .ref q24, .ref q25, .ref q26, .ref q27, .ref q28, .int 0, .ref q29, .int 0, .int 0, .int 0, .int 0, .int 0, .ref q30, .ref q31, .null, .int 0, .null, .int 0, .null, .int 0, .int 0, .int 0])), (q1, .inl (dA 0, 5161, .inl (fun _ => 0))), (q2, .inl (dA 0, 5161, .inl (fun _ => 0))), (q3, .inl (dA 0, 5120, .inl (fun _ => 0))), (q4, .inl (dA 0, 40, .inl (fun _ => 0))), (q5, .inl (dA 1, 120, .inl (fun _ => 0))), (q6, .inl (dA 0, 8, .inl (fun _ => 0))), (q7, .inl (dA 0, 8, .inl (fun _ => 0))), (q8, .inl (dA 0, 8, .inl (fun _ => 0))), (q9, .inl (dA 0, 30, .inl (fun _ => 0))), (q10, .inl (dA 0, 30, .inl (fun _ => 0))), (q11, .inl (dA 0, 40, .inl (fun _ => 0))), (q12, .inl (dA 0, 130, .inl (fun _ => 0))), (q13, .inl (dA 0, 130, .inl (fun _ => 0))), (q14, .inl (dA 0, 130, .inl (fun _ => 0))), (q15, .inl (dA 0, 130, .inl (fun _ => 0))), (q16, .inl (dA 0, 130, .inl (fun _ => 0))), (q17, .inl (dA 0, 130, .inl (fun _ => 0))), (q18, .inl (dA 0, 65, .inl (fun _ => 0))), (q19, .inl (dA 0, 65, .inl (fun _ => 0))), (q20, .inl (dA 0, 65, .inl (fun _ => 0))), (q21, .inl (dA 0, 65, .inl (fun _ => 0))), (q22, .inl (dA 0, 65, .inl (fun _ => 0))), (q23, .inl (dA 0, 65, .inl (fun _ => 0))), (q24, .inl (dA 0, 65, .inl (fun _ => 0))), (q25, .inl (dA 0, 65, .inl (fun _ => 0))), (q26, .inl (dA 3, 65, .inl (fun _ => 0))), (q27, .inl (dA 3, 65, .inl (fun _ => 0))), (q28, .inl (dA 4, 65, .inr (.inl (fun _ => 0)))), (q29, .inl (dA 0, 65, .inl (fun _ => 0))), (q30, .inl (dA 0, 5, .inl (fun _ => 0))), (q31, .inl (dA 0, 5, .inl (fun _ => 0)))] := hD
  refine lv_aload_n hx hb d59_259 rfl (lv_at hl 0 rfl) ?_
  refine lv_iconst (v := 5) hx hb d59_260 (by decide) ?_
  refine ms_newa (atype := .int) (ty := .int) (a0 := (5, .inl (fun _ => 0))) X ms_k124 rfl 0 rfl (fun _ h => h) hP hD hS (fun _ => rfl) (by decide) (by decide) (by decide) (Nat.le_of_ble_eq_true rfl) (Nat.le_of_ble_eq_true rfl) d59_261 (fun q32 H hP hD hS => ?_)
  have hP : va_P D vwCl [(h, .inr (2, [.ref q1, .ref q2, .ref q3, .ref q4, .int 0, .int 0, .ref q5, .int 0, .int 0, .int 0, .int 0, .int 0, .int 0, .int 0, .int 0, .ref q6, .ref q7, .ref q8, .int 0, .int 0, .ref q9, .ref q10, .ref q11, .int 0, .int 0, .ref q12, .ref q13, .ref q14, .ref q15, .ref q16, .ref q17, .int 0, .ref q18, .ref q19, .ref q20, .ref q21, .ref q22, .ref q23, .ref q24, .ref q25, .ref q26, .ref q27, .ref q28, .int 0, .ref q29, .int 0, .int 0, .int 0, .int 0, .int 0, .ref q30, .ref q31, .null, .int 0, .null, .int 0, .null, .int 0, .int 0, .int 0])), (q1, .inl (dA 0, 5161, .inl (fun _ => 0))), (q2, .inl (dA 0, 5161, .inl (fun _ => 0))), (q3, .inl (dA 0, 5120, .inl (fun _ => 0))), (q4, .inl (dA 0, 40, .inl (fun _ => 0))), (q5, .inl (dA 1, 120, .inl (fun _ => 0))), (q6, .inl (dA 0, 8, .inl (fun _ => 0))), (q7, .inl (dA 0, 8, .inl (fun _ => 0))), (q8, .inl (dA 0, 8, .inl (fun _ => 0))), (q9, .inl (dA 0, 30, .inl (fun _ => 0))), (q10, .inl (dA 0, 30, .inl (fun _ => 0))), (q11, .inl (dA 0, 40, .inl (fun _ => 0))), (q12, .inl (dA 0, 130, .inl (fun _ => 0))), (q13, .inl (dA 0, 130, .inl (fun _ => 0))), (q14, .inl (dA 0, 130, .inl (fun _ => 0))), (q15, .inl (dA 0, 130, .inl (fun _ => 0))), (q16, .inl (dA 0, 130, .inl (fun _ => 0))), (q17, .inl (dA 0, 130, .inl (fun _ => 0))), (q18, .inl (dA 0, 65, .inl (fun _ => 0))), (q19, .inl (dA 0, 65, .inl (fun _ => 0))), (q20, .inl (dA 0, 65, .inl (fun _ => 0))), (q21, .inl (dA 0, 65, .inl (fun _ => 0))), (q22, .inl (dA 0, 65, .inl (fun _ => 0))), (q23, .inl (dA 0, 65, .inl (fun _ => 0))), (q24, .inl (dA 0, 65, .inl (fun _ => 0))), (q25, .inl (dA 0, 65, .inl (fun _ => 0))), (q26, .inl (dA 3, 65, .inl (fun _ => 0))), (q27, .inl (dA 3, 65, .inl (fun _ => 0))), (q28, .inl (dA 4, 65, .inr (.inl (fun _ => 0)))), (q29, .inl (dA 0, 65, .inl (fun _ => 0))), (q30, .inl (dA 0, 5, .inl (fun _ => 0))), (q31, .inl (dA 0, 5, .inl (fun _ => 0))), (q32, .inl (dA 0, 5, .inl (fun _ => 0)))] H := hP
  have hD : va_D A [(h, .inr (2, [.ref q1, .ref q2, .ref q3, .ref q4, .int 0, .int 0, .ref q5, .int 0, .int 0, .int 0, .int 0, .int 0, .int 0, .int 0, .int 0, .ref q6, .ref q7, .ref q8, .int 0, .int 0, .ref q9, .ref q10, .ref q11, .int 0, .int 0, .ref q12, .ref q13, .ref q14, .ref q15, .ref q16, .ref q17, .int 0, .ref q18, .ref q19, .ref q20, .ref q21, .ref q22, .ref q23, .ref q24, .ref q25, .ref q26, .ref q27, .ref q28, .int 0, .ref q29, .int 0, .int 0, .int 0, .int 0, .int 0, .ref q30, .ref q31, .null, .int 0, .null, .int 0, .null, .int 0, .int 0, .int 0])), (q1, .inl (dA 0, 5161, .inl (fun _ => 0))), (q2, .inl (dA 0, 5161, .inl (fun _ => 0))), (q3, .inl (dA 0, 5120, .inl (fun _ => 0))), (q4, .inl (dA 0, 40, .inl (fun _ => 0))), (q5, .inl (dA 1, 120, .inl (fun _ => 0))), (q6, .inl (dA 0, 8, .inl (fun _ => 0))), (q7, .inl (dA 0, 8, .inl (fun _ => 0))), (q8, .inl (dA 0, 8, .inl (fun _ => 0))), (q9, .inl (dA 0, 30, .inl (fun _ => 0))), (q10, .inl (dA 0, 30, .inl (fun _ => 0))), (q11, .inl (dA 0, 40, .inl (fun _ => 0))), (q12, .inl (dA 0, 130, .inl (fun _ => 0))), (q13, .inl (dA 0, 130, .inl (fun _ => 0))), (q14, .inl (dA 0, 130, .inl (fun _ => 0))), (q15, .inl (dA 0, 130, .inl (fun _ => 0))), (q16, .inl (dA 0, 130, .inl (fun _ => 0))), (q17, .inl (dA 0, 130, .inl (fun _ => 0))), (q18, .inl (dA 0, 65, .inl (fun _ => 0))), (q19, .inl (dA 0, 65, .inl (fun _ => 0))), (q20, .inl (dA 0, 65, .inl (fun _ => 0))), (q21, .inl (dA 0, 65, .inl (fun _ => 0))), (q22, .inl (dA 0, 65, .inl (fun _ => 0))), (q23, .inl (dA 0, 65, .inl (fun _ => 0))), (q24, .inl (dA 0, 65, .inl (fun _ => 0))), (q25, .inl (dA 0, 65, .inl (fun _ => 0))), (q26, .inl (dA 3, 65, .inl (fun _ => 0))), (q27, .inl (dA 3, 65, .inl (fun _ => 0))), (q28, .inl (dA 4, 65, .inr (.inl (fun _ => 0)))), (q29, .inl (dA 0, 65, .inl (fun _ => 0))), (q30, .inl (dA 0, 5, .inl (fun _ => 0))), (q31, .inl (dA 0, 5, .inl (fun _ => 0))), (q32, .inl (dA 0, 5, .inl (fun _ => 0)))] := hD
  refine va_putF (D := D) (ci := 2) (v := .ref q32) (ty := (.array .int)) (C := kR2) (T := kT2) (N := 60) hx hb hts ku2 kt2 kp2 kn2 hown hK hP hD hS 0 rfl rfl 52 (by decide) (hts _ ms_k1368) (fun _ h => h) rfl hin rfl (by decide +kernel) rfl rfl (Nat.le_of_ble_eq_true rfl) d59_263 (fun H locs hP hD hS => ?_)
  have hP : va_P D vwCl [(h, .inr (2, [.ref q1, .ref q2, .ref q3, .ref q4, .int 0, .int 0, .ref q5, .int 0, .int 0, .int 0, .int 0, .int 0, .int 0, .int 0, .int 0, .ref q6, .ref q7, .ref q8, .int 0, .int 0, .ref q9, .ref q10, .ref q11, .int 0, .int 0, .ref q12, .ref q13, .ref q14, .ref q15, .ref q16, .ref q17, .int 0, .ref q18, .ref q19, .ref q20, .ref q21, .ref q22, .ref q23, .ref q24, .ref q25, .ref q26, .ref q27, .ref q28, .int 0, .ref q29, .int 0, .int 0, .int 0, .int 0, .int 0, .ref q30, .ref q31, .ref q32, .int 0, .null, .int 0, .null, .int 0, .int 0, .int 0])), (q1, .inl (dA 0, 5161, .inl (fun _ => 0))), (q2, .inl (dA 0, 5161, .inl (fun _ => 0))), (q3, .inl (dA 0, 5120, .inl (fun _ => 0))), (q4, .inl (dA 0, 40, .inl (fun _ => 0))), (q5, .inl (dA 1, 120, .inl (fun _ => 0))), (q6, .inl (dA 0, 8, .inl (fun _ => 0))), (q7, .inl (dA 0, 8, .inl (fun _ => 0))), (q8, .inl (dA 0, 8, .inl (fun _ => 0))), (q9, .inl (dA 0, 30, .inl (fun _ => 0))), (q10, .inl (dA 0, 30, .inl (fun _ => 0))), (q11, .inl (dA 0, 40, .inl (fun _ => 0))), (q12, .inl (dA 0, 130, .inl (fun _ => 0))), (q13, .inl (dA 0, 130, .inl (fun _ => 0))), (q14, .inl (dA 0, 130, .inl (fun _ => 0))), (q15, .inl (dA 0, 130, .inl (fun _ => 0))), (q16, .inl (dA 0, 130, .inl (fun _ => 0))), (q17, .inl (dA 0, 130, .inl (fun _ => 0))), (q18, .inl (dA 0, 65, .inl (fun _ => 0))), (q19, .inl (dA 0, 65, .inl (fun _ => 0))), (q20, .inl (dA 0, 65, .inl (fun _ => 0))), (q21, .inl (dA 0, 65, .inl (fun _ => 0))), (q22, .inl (dA 0, 65, .inl (fun _ => 0))), (q23, .inl (dA 0, 65, .inl (fun _ => 0))), (q24, .inl (dA 0, 65, .inl (fun _ => 0))), (q25, .inl (dA 0, 65, .inl (fun _ => 0))), (q26, .inl (dA 3, 65, .inl (fun _ => 0))), (q27, .inl (dA 3, 65, .inl (fun _ => 0))), (q28, .inl (dA 4, 65, .inr (.inl (fun _ => 0)))), (q29, .inl (dA 0, 65, .inl (fun _ => 0))), (q30, .inl (dA 0, 5, .inl (fun _ => 0))), (q31, .inl (dA 0, 5, .inl (fun _ => 0))), (q32, .inl (dA 0, 5, .inl (fun _ => 0)))] H := hP
  have hD : va_D A [(h, .inr (2, [.ref q1, .ref q2, .ref q3, .ref q4, .int 0, .int 0, .ref q5, .int 0, .int 0, .int 0, .int 0, .int 0, .int 0, .int 0, .int 0, .ref q6, .ref q7, .ref q8, .int 0, .int 0, .ref q9, .ref q10, .ref q11, .int 0, .int 0, .ref q12, .ref q13, .ref q14, .ref q15, .ref q16, .ref q17, .int 0, .ref q18, .ref q19, .ref q20, .ref q21, .ref q22, .ref q23, .ref q24, .ref q25, .ref q26, .ref q27, .ref q28, .int 0, .ref q29, .int 0, .int 0, .int 0, .int 0, .int 0, .ref q30, .ref q31, .ref q32, .int 0, .null, .int 0, .null, .int 0, .int 0, .int 0])), (q1, .inl (dA 0, 5161, .inl (fun _ => 0))), (q2, .inl (dA 0, 5161, .inl (fun _ => 0))), (q3, .inl (dA 0, 5120, .inl (fun _ => 0))), (q4, .inl (dA 0, 40, .inl (fun _ => 0))), (q5, .inl (dA 1, 120, .inl (fun _ => 0))), (q6, .inl (dA 0, 8, .inl (fun _ => 0))), (q7, .inl (dA 0, 8, .inl (fun _ => 0))), (q8, .inl (dA 0, 8, .inl (fun _ => 0))), (q9, .inl (dA 0, 30, .inl (fun _ => 0))), (q10, .inl (dA 0, 30, .inl (fun _ => 0))), (q11, .inl (dA 0, 40, .inl (fun _ => 0))), (q12, .inl (dA 0, 130, .inl (fun _ => 0))), (q13, .inl (dA 0, 130, .inl (fun _ => 0))), (q14, .inl (dA 0, 130, .inl (fun _ => 0))), (q15, .inl (dA 0, 130, .inl (fun _ => 0))), (q16, .inl (dA 0, 130, .inl (fun _ => 0))), (q17, .inl (dA 0, 130, .inl (fun _ => 0))), (q18, .inl (dA 0, 65, .inl (fun _ => 0))), (q19, .inl (dA 0, 65, .inl (fun _ => 0))), (q20, .inl (dA 0, 65, .inl (fun _ => 0))), (q21, .inl (dA 0, 65, .inl (fun _ => 0))), (q22, .inl (dA 0, 65, .inl (fun _ => 0))), (q23, .inl (dA 0, 65, .inl (fun _ => 0))), (q24, .inl (dA 0, 65, .inl (fun _ => 0))), (q25, .inl (dA 0, 65, .inl (fun _ => 0))), (q26, .inl (dA 3, 65, .inl (fun _ => 0))), (q27, .inl (dA 3, 65, .inl (fun _ => 0))), (q28, .inl (dA 4, 65, .inr (.inl (fun _ => 0)))), (q29, .inl (dA 0, 65, .inl (fun _ => 0))), (q30, .inl (dA 0, 5, .inl (fun _ => 0))), (q31, .inl (dA 0, 5, .inl (fun _ => 0))), (q32, .inl (dA 0, 5, .inl (fun _ => 0)))] := hD
  refine lv_aload_n hx hb d59_266 rfl (lv_at hl 0 rfl) ?_
  refine lv_bipush (v := 41) hx hb d59_267 (by decide) ?_
  refine ms_newa (atype := .int) (ty := .int) (a0 := (41, .inl (fun _ => 0))) X ms_k124 rfl 0 rfl (fun _ h => h) hP hD hS (fun _ => rfl) (by decide) (by decide) (by decide) (Nat.le_of_ble_eq_true rfl) (Nat.le_of_ble_eq_true rfl) d59_269 (fun q33 H hP hD hS => ?_)
  have hP : va_P D vwCl [(h, .inr (2, [.ref q1, .ref q2, .ref q3, .ref q4, .int 0, .int 0, .ref q5, .int 0, .int 0, .int 0, .int 0, .int 0, .int 0, .int 0, .int 0, .ref q6, .ref q7, .ref q8, .int 0, .int 0, .ref q9, .ref q10, .ref q11, .int 0, .int 0, .ref q12, .ref q13, .ref q14, .ref q15, .ref q16, .ref q17, .int 0, .ref q18, .ref q19, .ref q20, .ref q21, .ref q22, .ref q23, .ref q24, .ref q25, .ref q26, .ref q27, .ref q28, .int 0, .ref q29, .int 0, .int 0, .int 0, .int 0, .int 0, .ref q30, .ref q31, .ref q32, .int 0, .null, .int 0, .null, .int 0, .int 0, .int 0])), (q1, .inl (dA 0, 5161, .inl (fun _ => 0))), (q2, .inl (dA 0, 5161, .inl (fun _ => 0))), (q3, .inl (dA 0, 5120, .inl (fun _ => 0))), (q4, .inl (dA 0, 40, .inl (fun _ => 0))), (q5, .inl (dA 1, 120, .inl (fun _ => 0))), (q6, .inl (dA 0, 8, .inl (fun _ => 0))), (q7, .inl (dA 0, 8, .inl (fun _ => 0))), (q8, .inl (dA 0, 8, .inl (fun _ => 0))), (q9, .inl (dA 0, 30, .inl (fun _ => 0))), (q10, .inl (dA 0, 30, .inl (fun _ => 0))), (q11, .inl (dA 0, 40, .inl (fun _ => 0))), (q12, .inl (dA 0, 130, .inl (fun _ => 0))), (q13, .inl (dA 0, 130, .inl (fun _ => 0))), (q14, .inl (dA 0, 130, .inl (fun _ => 0))), (q15, .inl (dA 0, 130, .inl (fun _ => 0))), (q16, .inl (dA 0, 130, .inl (fun _ => 0))), (q17, .inl (dA 0, 130, .inl (fun _ => 0))), (q18, .inl (dA 0, 65, .inl (fun _ => 0))), (q19, .inl (dA 0, 65, .inl (fun _ => 0))), (q20, .inl (dA 0, 65, .inl (fun _ => 0))), (q21, .inl (dA 0, 65, .inl (fun _ => 0))), (q22, .inl (dA 0, 65, .inl (fun _ => 0))), (q23, .inl (dA 0, 65, .inl (fun _ => 0))), (q24, .inl (dA 0, 65, .inl (fun _ => 0))), (q25, .inl (dA 0, 65, .inl (fun _ => 0))), (q26, .inl (dA 3, 65, .inl (fun _ => 0))), (q27, .inl (dA 3, 65, .inl (fun _ => 0))), (q28, .inl (dA 4, 65, .inr (.inl (fun _ => 0)))), (q29, .inl (dA 0, 65, .inl (fun _ => 0))), (q30, .inl (dA 0, 5, .inl (fun _ => 0))), (q31, .inl (dA 0, 5, .inl (fun _ => 0))), (q32, .inl (dA 0, 5, .inl (fun _ => 0))), (q33, .inl (dA 0, 41, .inl (fun _ => 0)))] H := hP
  have hD : va_D A [(h, .inr (2, [.ref q1, .ref q2, .ref q3, .ref q4, .int 0, .int 0, .ref q5, .int 0, .int 0, .int 0, .int 0, .int 0, .int 0, .int 0, .int 0, .ref q6, .ref q7, .ref q8, .int 0, .int 0, .ref q9, .ref q10, .ref q11, .int 0, .int 0, .ref q12, .ref q13, .ref q14, .ref q15, .ref q16, .ref q17, .int 0, .ref q18, .ref q19, .ref q20, .ref q21, .ref q22, .ref q23, .ref q24, .ref q25, .ref q26, .ref q27, .ref q28, .int 0, .ref q29, .int 0, .int 0, .int 0, .int 0, .int 0, .ref q30, .ref q31, .ref q32, .int 0, .null, .int 0, .null, .int 0, .int 0, .int 0])), (q1, .inl (dA 0, 5161, .inl (fun _ => 0))), (q2, .inl (dA 0, 5161, .inl (fun _ => 0))), (q3, .inl (dA 0, 5120, .inl (fun _ => 0))), (q4, .inl (dA 0, 40, .inl (fun _ => 0))), (q5, .inl (dA 1, 120, .inl (fun _ => 0))), (q6, .inl (dA 0, 8, .inl (fun _ => 0))), (q7, .inl (dA 0, 8, .inl (fun _ => 0))), (q8, .inl (dA 0, 8, .inl (fun _ => 0))), (q9, .inl (dA 0, 30, .inl (fun _ => 0))), (q10, .inl (dA 0, 30, .inl (fun _ => 0))), (q11, .inl (dA 0, 40, .inl (fun _ => 0))), (q12, .inl (dA 0, 130, .inl (fun _ => 0))), (q13, .inl (dA 0, 130, .inl (fun _ => 0))), (q14, .inl (dA 0, 130, .inl (fun _ => 0))), (q15, .inl (dA 0, 130, .inl (fun _ => 0))), (q16, .inl (dA 0, 130, .inl (fun _ => 0))), (q17, .inl (dA 0, 130, .inl (fun _ => 0))), (q18, .inl (dA 0, 65, .inl (fun _ => 0))), (q19, .inl (dA 0, 65, .inl (fun _ => 0))), (q20, .inl (dA 0, 65, .inl (fun _ => 0))), (q21, .inl (dA 0, 65, .inl (fun _ => 0))), (q22, .inl (dA 0, 65, .inl (fun _ => 0))), (q23, .inl (dA 0, 65, .inl (fun _ => 0))), (q24, .inl (dA 0, 65, .inl (fun _ => 0))), (q25, .inl (dA 0, 65, .inl (fun _ => 0))), (q26, .inl (dA 3, 65, .inl (fun _ => 0))), (q27, .inl (dA 3, 65, .inl (fun _ => 0))), (q28, .inl (dA 4, 65, .inr (.inl (fun _ => 0)))), (q29, .inl (dA 0, 65, .inl (fun _ => 0))), (q30, .inl (dA 0, 5, .inl (fun _ => 0))), (q31, .inl (dA 0, 5, .inl (fun _ => 0))), (q32, .inl (dA 0, 5, .inl (fun _ => 0))), (q33, .inl (dA 0, 41, .inl (fun _ => 0)))] := hD
  refine va_putF (D := D) (ci := 2) (v := .ref q33) (ty := (.array .int)) (C := kR2) (T := kT2) (N := 60) hx hb hts ku2 kt2 kp2 kn2 hown hK hP hD hS 0 rfl rfl 54 (by decide) (hts _ ms_k1370) (fun _ h => h) rfl hin rfl (by decide +kernel) rfl rfl (Nat.le_of_ble_eq_true rfl) d59_271 (fun H locs hP hD hS => ?_)
  have hP : va_P D vwCl [(h, .inr (2, [.ref q1, .ref q2, .ref q3, .ref q4, .int 0, .int 0, .ref q5, .int 0, .int 0, .int 0, .int 0, .int 0, .int 0, .int 0, .int 0, .ref q6, .ref q7, .ref q8, .int 0, .int 0, .ref q9, .ref q10, .ref q11, .int 0, .int 0, .ref q12, .ref q13, .ref q14, .ref q15, .ref q16, .ref q17, .int 0, .ref q18, .ref q19, .ref q20, .ref q21, .ref q22, .ref q23, .ref q24, .ref q25, .ref q26, .ref q27, .ref q28, .int 0, .ref q29, .int 0, .int 0, .int 0, .int 0, .int 0, .ref q30, .ref q31, .ref q32, .int 0, .ref q33, .int 0, .null, .int 0, .int 0, .int 0])), (q1, .inl (dA 0, 5161, .inl (fun _ => 0))), (q2, .inl (dA 0, 5161, .inl (fun _ => 0))), (q3, .inl (dA 0, 5120, .inl (fun _ => 0))), (q4, .inl (dA 0, 40, .inl (fun _ => 0))), (q5, .inl (dA 1, 120, .inl (fun _ => 0))), (q6, .inl (dA 0, 8, .inl (fun _ => 0))), (q7, .inl (dA 0, 8, .inl (fun _ => 0))), (q8, .inl (dA 0, 8, .inl (fun _ => 0))), (q9, .inl (dA 0, 30, .inl (fun _ => 0))), (q10, .inl (dA 0, 30, .inl (fun _ => 0))), (q11, .inl (dA 0, 40, .inl (fun _ => 0))), (q12, .inl (dA 0, 130, .inl (fun _ => 0))), (q13, .inl (dA 0, 130, .inl (fun _ => 0))), (q14, .inl (dA 0, 130, .inl (fun _ => 0))), (q15, .inl (dA 0, 130, .inl (fun _ => 0))), (q16, .inl (dA 0, 130, .inl (fun _ => 0))), (q17, .inl (dA 0, 130, .inl (fun _ => 0))), (q18, .inl (dA 0, 65, .inl (fun _ => 0))), (q19, .inl (dA 0, 65, .inl (fun _ => 0))), (q20, .inl (dA 0, 65, .inl (fun _ => 0))), (q21, .inl (dA 0, 65, .inl (fun _ => 0))), (q22, .inl (dA 0, 65, .inl (fun _ => 0))), (q23, .inl (dA 0, 65, .inl (fun _ => 0))), (q24, .inl (dA 0, 65, .inl (fun _ => 0))), (q25, .inl (dA 0, 65, .inl (fun _ => 0))), (q26, .inl (dA 3, 65, .inl (fun _ => 0))), (q27, .inl (dA 3, 65, .inl (fun _ => 0))), (q28, .inl (dA 4, 65, .inr (.inl (fun _ => 0)))), (q29, .inl (dA 0, 65, .inl (fun _ => 0))), (q30, .inl (dA 0, 5, .inl (fun _ => 0))), (q31, .inl (dA 0, 5, .inl (fun _ => 0))), (q32, .inl (dA 0, 5, .inl (fun _ => 0))), (q33, .inl (dA 0, 41, .inl (fun _ => 0)))] H := hP
  have hD : va_D A [(h, .inr (2, [.ref q1, .ref q2, .ref q3, .ref q4, .int 0, .int 0, .ref q5, .int 0, .int 0, .int 0, .int 0, .int 0, .int 0, .int 0, .int 0, .ref q6, .ref q7, .ref q8, .int 0, .int 0, .ref q9, .ref q10, .ref q11, .int 0, .int 0, .ref q12, .ref q13, .ref q14, .ref q15, .ref q16, .ref q17, .int 0, .ref q18, .ref q19, .ref q20, .ref q21, .ref q22, .ref q23, .ref q24, .ref q25, .ref q26, .ref q27, .ref q28, .int 0, .ref q29, .int 0, .int 0, .int 0, .int 0, .int 0, .ref q30, .ref q31, .ref q32, .int 0, .ref q33, .int 0, .null, .int 0, .int 0, .int 0])), (q1, .inl (dA 0, 5161, .inl (fun _ => 0))), (q2, .inl (dA 0, 5161, .inl (fun _ => 0))), (q3, .inl (dA 0, 5120, .inl (fun _ => 0))), (q4, .inl (dA 0, 40, .inl (fun _ => 0))), (q5, .inl (dA 1, 120, .inl (fun _ => 0))), (q6, .inl (dA 0, 8, .inl (fun _ => 0))), (q7, .inl (dA 0, 8, .inl (fun _ => 0))), (q8, .inl (dA 0, 8, .inl (fun _ => 0))), (q9, .inl (dA 0, 30, .inl (fun _ => 0))), (q10, .inl (dA 0, 30, .inl (fun _ => 0))), (q11, .inl (dA 0, 40, .inl (fun _ => 0))), (q12, .inl (dA 0, 130, .inl (fun _ => 0))), (q13, .inl (dA 0, 130, .inl (fun _ => 0))), (q14, .inl (dA 0, 130, .inl (fun _ => 0))), (q15, .inl (dA 0, 130, .inl (fun _ => 0))), (q16, .inl (dA 0, 130, .inl (fun _ => 0))), (q17, .inl (dA 0, 130, .inl (fun _ => 0))), (q18, .inl (dA 0, 65, .inl (fun _ => 0))), (q19, .inl (dA 0, 65, .inl (fun _ => 0))), (q20, .inl (dA 0, 65, .inl (fun _ => 0))), (q21, .inl (dA 0, 65, .inl (fun _ => 0))), (q22, .inl (dA 0, 65, .inl (fun _ => 0))), (q23, .inl (dA 0, 65, .inl (fun _ => 0))), (q24, .inl (dA 0, 65, .inl (fun _ => 0))), (q25, .inl (dA 0, 65, .inl (fun _ => 0))), (q26, .inl (dA 3, 65, .inl (fun _ => 0))), (q27, .inl (dA 3, 65, .inl (fun _ => 0))), (q28, .inl (dA 4, 65, .inr (.inl (fun _ => 0)))), (q29, .inl (dA 0, 65, .inl (fun _ => 0))), (q30, .inl (dA 0, 5, .inl (fun _ => 0))), (q31, .inl (dA 0, 5, .inl (fun _ => 0))), (q32, .inl (dA 0, 5, .inl (fun _ => 0))), (q33, .inl (dA 0, 41, .inl (fun _ => 0)))] := hD
  refine lv_aload_n hx hb d59_274 rfl (lv_at hl 0 rfl) ?_
  refine lv_bipush (v := 40) hx hb d59_275 (by decide) ?_
  refine ms_newa (atype := .int) (ty := .int) (a0 := (40, .inl (fun _ => 0))) X ms_k124 rfl 0 rfl (fun _ h => h) hP hD hS (fun _ => rfl) (by decide) (by decide) (by decide) (Nat.le_of_ble_eq_true rfl) (Nat.le_of_ble_eq_true rfl) d59_277 (fun q34 H hP hD hS => ?_)
  have hP : va_P D vwCl [(h, .inr (2, [.ref q1, .ref q2, .ref q3, .ref q4, .int 0, .int 0, .ref q5, .int 0, .int 0, .int 0, .int 0, .int 0, .int 0, .int 0, .int 0, .ref q6, .ref q7, .ref q8, .int 0, .int 0, .ref q9, .ref q10, .ref q11, .int 0, .int 0, .ref q12, .ref q13, .ref q14, .ref q15, .ref q16, .ref q17, .int 0, .ref q18, .ref q19, .ref q20, .ref q21, .ref q22, .ref q23, .ref q24, .ref q25, .ref q26, .ref q27, .ref q28, .int 0, .ref q29, .int 0, .int 0, .int 0, .int 0, .int 0, .ref q30, .ref q31, .ref q32, .int 0, .ref q33, .int 0, .null, .int 0, .int 0, .int 0])), (q1, .inl (dA 0, 5161, .inl (fun _ => 0))), (q2, .inl (dA 0, 5161, .inl (fun _ => 0))), (q3, .inl (dA 0, 5120, .inl (fun _ => 0))), (q4, .inl (dA 0, 40, .inl (fun _ => 0))), (q5, .inl (dA 1, 120, .inl (fun _ => 0))), (q6, .inl (dA 0, 8, .inl (fun _ => 0))), (q7, .inl (dA 0, 8, .inl (fun _ => 0))), (q8, .inl (dA 0, 8, .inl (fun _ => 0))), (q9, .inl (dA 0, 30, .inl (fun _ => 0))), (q10, .inl (dA 0, 30, .inl (fun _ => 0))), (q11, .inl (dA 0, 40, .inl (fun _ => 0))), (q12, .inl (dA 0, 130, .inl (fun _ => 0))), (q13, .inl (dA 0, 130, .inl (fun _ => 0))), (q14, .inl (dA 0, 130, .inl (fun _ => 0))), (q15, .inl (dA 0, 130, .inl (fun _ => 0))), (q16, .inl (dA 0, 130, .inl (fun _ => 0))), (q17, .inl (dA 0, 130, .inl (fun _ => 0))), (q18, .inl (dA 0, 65, .inl (fun _ => 0))), (q19, .inl (dA 0, 65, .inl (fun _ => 0))), (q20, .inl (dA 0, 65, .inl (fun _ => 0))), (q21, .inl (dA 0, 65, .inl (fun _ => 0))), (q22, .inl (dA 0, 65, .inl (fun _ => 0))), (q23, .inl (dA 0, 65, .inl (fun _ => 0))), (q24, .inl (dA 0, 65, .inl (fun _ => 0))), (q25, .inl (dA 0, 65, .inl (fun _ => 0))), (q26, .inl (dA 3, 65, .inl (fun _ => 0))), (q27, .inl (dA 3, 65, .inl (fun _ => 0))), (q28, .inl (dA 4, 65, .inr (.inl (fun _ => 0)))), (q29, .inl (dA 0, 65, .inl (fun _ => 0))), (q30, .inl (dA 0, 5, .inl (fun _ => 0))), (q31, .inl (dA 0, 5, .inl (fun _ => 0))), (q32, .inl (dA 0, 5, .inl (fun _ => 0))), (q33, .inl (dA 0, 41, .inl (fun _ => 0))), (q34, .inl (dA 0, 40, .inl (fun _ => 0)))] H := hP
  have hD : va_D A [(h, .inr (2, [.ref q1, .ref q2, .ref q3, .ref q4, .int 0, .int 0, .ref q5, .int 0, .int 0, .int 0, .int 0, .int 0, .int 0, .int 0, .int 0, .ref q6, .ref q7, .ref q8, .int 0, .int 0, .ref q9, .ref q10, .ref q11, .int 0, .int 0, .ref q12, .ref q13, .ref q14, .ref q15, .ref q16, .ref q17, .int 0, .ref q18, .ref q19, .ref q20, .ref q21, .ref q22, .ref q23, .ref q24, .ref q25, .ref q26, .ref q27, .ref q28, .int 0, .ref q29, .int 0, .int 0, .int 0, .int 0, .int 0, .ref q30, .ref q31, .ref q32, .int 0, .ref q33, .int 0, .null, .int 0, .int 0, .int 0])), (q1, .inl (dA 0, 5161, .inl (fun _ => 0))), (q2, .inl (dA 0, 5161, .inl (fun _ => 0))), (q3, .inl (dA 0, 5120, .inl (fun _ => 0))), (q4, .inl (dA 0, 40, .inl (fun _ => 0))), (q5, .inl (dA 1, 120, .inl (fun _ => 0))), (q6, .inl (dA 0, 8, .inl (fun _ => 0))), (q7, .inl (dA 0, 8, .inl (fun _ => 0))), (q8, .inl (dA 0, 8, .inl (fun _ => 0))), (q9, .inl (dA 0, 30, .inl (fun _ => 0))), (q10, .inl (dA 0, 30, .inl (fun _ => 0))), (q11, .inl (dA 0, 40, .inl (fun _ => 0))), (q12, .inl (dA 0, 130, .inl (fun _ => 0))), (q13, .inl (dA 0, 130, .inl (fun _ => 0))), (q14, .inl (dA 0, 130, .inl (fun _ => 0))), (q15, .inl (dA 0, 130, .inl (fun _ => 0))), (q16, .inl (dA 0, 130, .inl (fun _ => 0))), (q17, .inl (dA 0, 130, .inl (fun _ => 0))), (q18, .inl (dA 0, 65, .inl (fun _ => 0))), (q19, .inl (dA 0, 65, .inl (fun _ => 0))), (q20, .inl (dA 0, 65, .inl (fun _ => 0))), (q21, .inl (dA 0, 65, .inl (fun _ => 0))), (q22, .inl (dA 0, 65, .inl (fun _ => 0))), (q23, .inl (dA 0, 65, .inl (fun _ => 0))), (q24, .inl (dA 0, 65, .inl (fun _ => 0))), (q25, .inl (dA 0, 65, .inl (fun _ => 0))), (q26, .inl (dA 3, 65, .inl (fun _ => 0))), (q27, .inl (dA 3, 65, .inl (fun _ => 0))), (q28, .inl (dA 4, 65, .inr (.inl (fun _ => 0)))), (q29, .inl (dA 0, 65, .inl (fun _ => 0))), (q30, .inl (dA 0, 5, .inl (fun _ => 0))), (q31, .inl (dA 0, 5, .inl (fun _ => 0))), (q32, .inl (dA 0, 5, .inl (fun _ => 0))), (q33, .inl (dA 0, 41, .inl (fun _ => 0))), (q34, .inl (dA 0, 40, .inl (fun _ => 0)))] := hD
  refine va_putF (D := D) (ci := 2) (v := .ref q34) (ty := (.array .int)) (C := kR2) (T := kT2) (N := 60) hx hb hts ku2 kt2 kp2 kn2 hown hK hP hD hS 0 rfl rfl 56 (by decide) (hts _ ms_k1372) (fun _ h => h) rfl hin rfl (by decide +kernel) rfl rfl (Nat.le_of_ble_eq_true rfl) d59_279 (fun H locs hP hD hS => ?_)
  have hP : va_P D vwCl [(h, .inr (2, [.ref q1, .ref q2, .ref q3, .ref q4, .int 0, .int 0, .ref q5, .int 0, .int 0, .int 0, .int 0, .int 0, .int 0, .int 0, .int 0, .ref q6, .ref q7, .ref q8, .int 0, .int 0, .ref q9, .ref q10, .ref q11, .int 0, .int 0, .ref q12, .ref q13, .ref q14, .ref q15, .ref q16, .ref q17, .int 0, .ref q18, .ref q19, .ref q20, .ref q21, .ref q22, .ref q23, .ref q24, .ref q25, .ref q26, .ref q27, .ref q28, .int 0, .ref q29, .int 0, .int 0, .int 0, .int 0, .int 0, .ref q30, .ref q31, .ref q32, .int 0, .ref q33, .int 0, .ref q34, .int 0, .int 0, .int 0])), (q1, .inl (dA 0, 5161, .inl (fun _ => 0))), (q2, .inl (dA 0, 5161, .inl (fun _ => 0))), (q3, .inl (dA 0, 5120, .inl (fun _ => 0))), (q4, .inl (dA 0, 40, .inl (fun _ => 0))), (q5, .inl (dA 1, 120, .inl (fun _ => 0))), (q6, .inl (dA 0, 8, .inl (fun _ => 0))), (q7, .inl (dA 0, 8, .inl (fun _ => 0))), (q8, .inl (dA 0, 8, .inl (fun _ => 0))), (q9, .inl (dA 0, 30, .inl (fun _ => 0))), (q10, .inl (dA 0, 30, .inl (fun _ => 0))), (q11, .inl (dA 0, 40, .inl (fun _ => 0))), (q12, .inl (dA 0, 130, .inl (fun _ => 0))), (q13, .inl (dA 0, 130, .inl (fun _ => 0))), (q14, .inl (dA 0, 130, .inl (fun _ => 0))), (q15, .inl (dA 0, 130, .inl (fun _ => 0))), (q16, .inl (dA 0, 130, .inl (fun _ => 0))), (q17, .inl (dA 0, 130, .inl (fun _ => 0))), (q18, .inl (dA 0, 65, .inl (fun _ => 0))), (q19, .inl (dA 0, 65, .inl (fun _ => 0))), (q20, .inl (dA 0, 65, .inl (fun _ => 0))), (q21, .inl (dA 0, 65, .inl (fun _ => 0))), (q22, .inl (dA 0, 65, .inl (fun _ => 0))), (q23, .inl (dA 0, 65, .inl (fun _ => 0))), (q24, .inl (dA 0, 65, .inl (fun _ => 0))), (q25, .inl (dA 0, 65, .inl (fun _ => 0))), (q26, .inl (dA 3, 65, .inl (fun _ => 0))), (q27, .inl (dA 3, 65, .inl (fun _ => 0))), (q28, .inl (dA 4, 65, .inr (.inl (fun _ => 0)))), (q29, .inl (dA 0, 65, .inl (fun _ => 0))), (q30, .inl (dA 0, 5, .inl (fun _ => 0))), (q31, .inl (dA 0, 5, .inl (fun _ => 0))), (q32, .inl (dA 0, 5, .inl (fun _ => 0))), (q33, .inl (dA 0, 41, .inl (fun _ => 0))), (q34, .inl (dA 0, 40, .inl (fun _ => 0)))] H := hP
  have hD : va_D A [(h, .inr (2, [.ref q1, .ref q2, .ref q3, .ref q4, .int 0, .int 0, .ref q5, .int 0, .int 0, .int 0, .int 0, .int 0, .int 0, .int 0, .int 0, .ref q6, .ref q7, .ref q8, .int 0, .int 0, .ref q9, .ref q10, .ref q11, .int 0, .int 0, .ref q12, .ref q13, .ref q14, .ref q15, .ref q16, .ref q17, .int 0, .ref q18, .ref q19, .ref q20, .ref q21, .ref q22, .ref q23, .ref q24, .ref q25, .ref q26, .ref q27, .ref q28, .int 0, .ref q29, .int 0, .int 0, .int 0, .int 0, .int 0, .ref q30, .ref q31, .ref q32, .int 0, .ref q33, .int 0, .ref q34, .int 0, .int 0, .int 0])), (q1, .inl (dA 0, 5161, .inl (fun _ => 0))), (q2, .inl (dA 0, 5161, .inl (fun _ => 0))), (q3, .inl (dA 0, 5120, .inl (fun _ => 0))), (q4, .inl (dA 0, 40, .inl (fun _ => 0))), (q5, .inl (dA 1, 120, .inl (fun _ => 0))), (q6, .inl (dA 0, 8, .inl (fun _ => 0))), (q7, .inl (dA 0, 8, .inl (fun _ => 0))), (q8, .inl (dA 0, 8, .inl (fun _ => 0))), (q9, .inl (dA 0, 30, .inl (fun _ => 0))), (q10, .inl (dA 0, 30, .inl (fun _ => 0))), (q11, .inl (dA 0, 40, .inl (fun _ => 0))), (q12, .inl (dA 0, 130, .inl (fun _ => 0))), (q13, .inl (dA 0, 130, .inl (fun _ => 0))), (q14, .inl (dA 0, 130, .inl (fun _ => 0))), (q15, .inl (dA 0, 130, .inl (fun _ => 0))), (q16, .inl (dA 0, 130, .inl (fun _ => 0))), (q17, .inl (dA 0, 130, .inl (fun _ => 0))), (q18, .inl (dA 0, 65, .inl (fun _ => 0))), (q19, .inl (dA 0, 65, .inl (fun _ => 0))), (q20, .inl (dA 0, 65, .inl (fun _ => 0))), (q21, .inl (dA 0, 65, .inl (fun _ => 0))), (q22, .inl (dA 0, 65, .inl (fun _ => 0))), (q23, .inl (dA 0, 65, .inl (fun _ => 0))), (q24, .inl (dA 0, 65, .inl (fun _ => 0))), (q25, .inl (dA 0, 65, .inl (fun _ => 0))), (q26, .inl (dA 3, 65, .inl (fun _ => 0))), (q27, .inl (dA 3, 65, .inl (fun _ => 0))), (q28, .inl (dA 4, 65, .inr (.inl (fun _ => 0)))), (q29, .inl (dA 0, 65, .inl (fun _ => 0))), (q30, .inl (dA 0, 5, .inl (fun _ => 0))), (q31, .inl (dA 0, 5, .inl (fun _ => 0))), (q32, .inl (dA 0, 5, .inl (fun _ => 0))), (q33, .inl (dA 0, 41, .inl (fun _ => 0))), (q34, .inl (dA 0, 40, .inl (fun _ => 0)))] := hD
  exact ms_vret X d59_282 hP hD hS (Nat.le_of_ble_eq_true rfl) (Nat.le_of_ble_eq_true rfl) (⟨(fun k => ([q1, q2, q3, q4, 0, 0, q5, 0, 0, 0, 0, 0, 0, 0, 0, q6, q7, q8, 0, 0, q9, q10, q11, 0, 0, q12, q13, q14, q15, q16, q17, 0, q18, q19, q20, q21, q22, q23, q24, q25, q26, q27, q28, 0, q29, 0, 0, 0, 0, 0, q30, q31, q32, 0, q33, 0, q34] : List Nat).getD k 0), rfl, rfl⟩)

set_option maxRecDepth 100000 in
set_option maxHeartbeats 8000000 in
theorem c_count (l : Launch) (D : va_G) (dA : Nat → ClassId) (s0 : State) (hE : ms_EV D dA s0) (h : Nat) (r : Nat → Nat) (wn : Int32) : ms_C l D s0 yM60 bM60 1 (Option.some Jvm.ClassFile.FieldType.int) 0 0 0 0 [.ref h] [(h, .inr (2, [.ref (r 0), .ref (r 1), .ref (r 2), .ref (r 3), .int 0, .int 0, .ref (r 6), .int 0, .int 0, .int 0, .int 0, .int 0, .int 0, .int 0, .int 0, .ref (r 15), .ref (r 16), .ref (r 17), .int 0, .int 0, .ref (r 20), .ref (r 21), .ref (r 22), .int 0, .int 0, .ref (r 25), .ref (r 26), .ref (r 27), .ref (r 28), .ref (r 29), .ref (r 30), .int 0, .ref (r 32), .ref (r 33), .ref (r 34), .ref (r 35), .ref (r 36), .ref (r 37), .ref (r 38), .ref (r 39), .ref (r 40), .ref (r 41), .ref (r 42), .int 0, .ref (r 44), .int 0, .int 0, .int 0, .int 0, .int 0, .ref (r 50), .ref (r 51), .ref (r 52), .int 0, .ref (r 54), .int 0, .ref (r 56), .int 0, .int wn, .int 0])), ((r 0), .inl (dA 0, 5161, .inl (fun _ => 0)))] (fun vv ww => vv = some (.int 0) ∧ ww = [(h, .inr (2, [.ref (r 0), .ref (r 1), .ref (r 2), .ref (r 3), .int 0, .int 0, .ref (r 6), .int 0, .int 0, .int 0, .int 0, .int 0, .int 0, .int 0, .int 0, .ref (r 15), .ref (r 16), .ref (r 17), .int 0, .int 0, .ref (r 20), .ref (r 21), .ref (r 22), .int 0, .int 0, .ref (r 25), .ref (r 26), .ref (r 27), .ref (r 28), .ref (r 29), .ref (r 30), .int 0, .ref (r 32), .ref (r 33), .ref (r 34), .ref (r 35), .ref (r 36), .ref (r 37), .ref (r 38), .ref (r 39), .ref (r 40), .ref (r 41), .ref (r 42), .int 0, .ref (r 44), .int 0, .int 0, .int 0, .int 0, .int 0, .ref (r 50), .ref (r 51), .ref (r 52), .int 0, .ref (r 54), .int 0, .ref (r 56), .int 0, .int wn, .int 0])), ((r 0), .inl (dA 0, 5161, .inl (fun _ => 0)))]) := by
  refine ms_C.mk hE.1 (by decide) (Nat.le_of_ble_eq_true rfl) [(0, .ref h)] rfl ?_
  intro p e s m below meth c A ls X hin hP hD hS hl
  have hx := X.1
  have hb := X.2.1
  have hml := X.2.2.1
  have hown : s.vm.findClass "MarkupStoreModel" = some m.cls := X.2.2.2.1
  have hts := X.2.2.2.2.2.2.1
  have hK := X.2.2.2.2.2.2.2.2.1
  have hA := X.2.2.2.2.2.2.2.2.2.2
  refine lv_aload_n hx hb d60_0 rfl (lv_at hl 0 rfl) ?_
  refine va_get (D := D) (ci := 2) (v := .ref (r 0)) (C := kR2) (T := kT2) (N := 60) hx hb hts ku2 hown hK hP 0 rfl rfl 0 (by decide) (hts _ ms_k1316) (fun _ h => h) rfl d60_1 ?_
  refine lv_sipush (v := 5160) hx hb d60_4 (by decide) ?_
  refine va_iald hx hb hK hP 1 0 rfl rfl (by unfold vp_in; decide) d60_7 ?_
  refine ms_top (y := 0) (rfl) ?_
  exact ms_iret X d60_8 hP hD hS (Nat.le_of_ble_eq_true rfl) (Nat.le_of_ble_eq_true rfl) (⟨rfl, rfl⟩)
end
section
set_option maxRecDepth 100000 in
set_option maxHeartbeats 8000000 in
theorem c_place (l : Launch) (D : va_G) (dA : Nat → ClassId) (s0 : State) (hE : ms_EV D dA s0) (h : Nat) (r : Nat → Nat) (i : Int32) : ms_C l D s0 yM61 bM61 3 (Option.some Jvm.ClassFile.FieldType.int) 1 20 0 0 [.ref h, .int i] [(h, .inr (2, [.ref (r 0), .ref (r 1), .ref (r 2), .ref (r 3), .int 0, .int 0, .ref (r 6), .int 0, .int 0, .int 0, .int 0, .int 0, .int 0, .int 0, .int 0, .ref (r 15), .ref (r 16), .ref (r 17), .int 0, .int 0, .ref (r 20), .ref (r 21), .ref (r 22), .int 0, .int 0, .ref (r 25), .ref (r 26), .ref (r 27), .ref (r 28), .ref (r 29), .ref (r 30), .int 0, .ref (r 32), .ref (r 33), .ref (r 34), .ref (r 35), .ref (r 36), .ref (r 37), .ref (r 38), .ref (r 39), .ref (r 40), .ref (r 41), .ref (r 42), .int 0, .ref (r 44), .int 0, .int 0, .int 0, .int 0, .int 0, .ref (r 50), .ref (r 51), .ref (r 52), .int 0, .ref (r 54), .int 0, .ref (r 56), .int 0, .int 0, .int 0])), ((r 0), .inl (dA 0, 5161, .inl (fun _ => 0)))] (fun vv ww => vv = some (.int (-1)) ∧ ww = [(h, .inr (2, [.ref (r 0), .ref (r 1), .ref (r 2), .ref (r 3), .int 0, .int 0, .ref (r 6), .int 0, .int 0, .int 0, .int 0, .int 0, .int 0, .int 0, .int 0, .ref (r 15), .ref (r 16), .ref (r 17), .int 0, .int 0, .ref (r 20), .ref (r 21), .ref (r 22), .int 0, .int 0, .ref (r 25), .ref (r 26), .ref (r 27), .ref (r 28), .ref (r 29), .ref (r 30), .int 0, .ref (r 32), .ref (r 33), .ref (r 34), .ref (r 35), .ref (r 36), .ref (r 37), .ref (r 38), .ref (r 39), .ref (r 40), .ref (r 41), .ref (r 42), .int 0, .ref (r 44), .int 0, .int 0, .int 0, .int 0, .int 0, .ref (r 50), .ref (r 51), .ref (r 52), .int 0, .ref (r 54), .int 0, .ref (r 56), .int 0, .int 0, .int 0])), ((r 0), .inl (dA 0, 5161, .inl (fun _ => 0)))]) := by
  refine ms_C.mk hE.1 (by decide) (Nat.le_of_ble_eq_true rfl) [(0, .ref h), (1, .int i)] rfl ?_
  intro p e s m below meth c A ls X hin hP hD hS hl
  have hx := X.1
  have hb := X.2.1
  have hml := X.2.2.1
  have hown : s.vm.findClass "MarkupStoreModel" = some m.cls := X.2.2.2.1
  have hts := X.2.2.2.2.2.2.1
  have hK := X.2.2.2.2.2.2.2.2.1
  have hA := X.2.2.2.2.2.2.2.2.2.2
  refine lv_iconst (v := 0) hx hb d61_0 (by decide) ?_
  refine lv_istore_n hx hb d61_1 rfl hl (by decide) rfl (fun ls hl => ?_)
  have hl : lv_has ls 3 [(2, .int 0), (0, .ref h), (1, .int i)] := hl
  refine lv_iload_n hx hb d61_2 rfl (lv_at hl 0 rfl) ?_
  refine lv_aload_n hx hb d61_3 rfl (lv_at hl 1 rfl) ?_
  refine ms_V (C := "MarkupStoreModel") (rest := [.int 0]) (as := []) (wr := []) X hl (c_count l D dA s0 hE h r 0) (List.forall_mem_cons.mpr ⟨ms_k1583, List.forall_mem_cons.mpr ⟨ms_k1585, List.forall_mem_cons.mpr ⟨ms_p62, List.forall_mem_cons.mpr ⟨ms_k7, List.forall_mem_cons.mpr ⟨ms_k1586, fun _ h => absurd h List.not_mem_nil⟩⟩⟩⟩⟩) ⟨rfl, by decide +kernel, by decide +kernel, (by decide +kernel : (parseMethodDescriptor "()I").map (fun d => d.parameters.length) = some 0)⟩ (va_recv hK hP rfl (q0 := 0) rfl) hP hD hS [0, 1] [] rfl rfl ⟨by decide, by decide, by decide⟩ ⟨⟨Nat.le_of_ble_eq_true rfl, Nat.le_of_ble_eq_true rfl⟩, Nat.le_of_ble_eq_true rfl, Nat.le_of_ble_eq_true rfl⟩ rfl (Nat.le_of_ble_eq_true rfl) d61_4 (fun vv ww H locs hR hP hD hS => ?_)
  obtain ⟨rfl, rfl⟩ := hR
  have hP : va_P D vwCl [(h, .inr (2, [.ref (r 0), .ref (r 1), .ref (r 2), .ref (r 3), .int 0, .int 0, .ref (r 6), .int 0, .int 0, .int 0, .int 0, .int 0, .int 0, .int 0, .int 0, .ref (r 15), .ref (r 16), .ref (r 17), .int 0, .int 0, .ref (r 20), .ref (r 21), .ref (r 22), .int 0, .int 0, .ref (r 25), .ref (r 26), .ref (r 27), .ref (r 28), .ref (r 29), .ref (r 30), .int 0, .ref (r 32), .ref (r 33), .ref (r 34), .ref (r 35), .ref (r 36), .ref (r 37), .ref (r 38), .ref (r 39), .ref (r 40), .ref (r 41), .ref (r 42), .int 0, .ref (r 44), .int 0, .int 0, .int 0, .int 0, .int 0, .ref (r 50), .ref (r 51), .ref (r 52), .int 0, .ref (r 54), .int 0, .ref (r 56), .int 0, .int 0, .int 0])), ((r 0), .inl (dA 0, 5161, .inl (fun _ => 0)))] H := hP
  have hD : va_D A [(h, .inr (2, [.ref (r 0), .ref (r 1), .ref (r 2), .ref (r 3), .int 0, .int 0, .ref (r 6), .int 0, .int 0, .int 0, .int 0, .int 0, .int 0, .int 0, .int 0, .ref (r 15), .ref (r 16), .ref (r 17), .int 0, .int 0, .ref (r 20), .ref (r 21), .ref (r 22), .int 0, .int 0, .ref (r 25), .ref (r 26), .ref (r 27), .ref (r 28), .ref (r 29), .ref (r 30), .int 0, .ref (r 32), .ref (r 33), .ref (r 34), .ref (r 35), .ref (r 36), .ref (r 37), .ref (r 38), .ref (r 39), .ref (r 40), .ref (r 41), .ref (r 42), .int 0, .ref (r 44), .int 0, .int 0, .int 0, .int 0, .int 0, .ref (r 50), .ref (r 51), .ref (r 52), .int 0, .ref (r 54), .int 0, .ref (r 56), .int 0, .int 0, .int 0])), ((r 0), .inl (dA 0, 5161, .inl (fun _ => 0)))] := hD
  refine W.eq (g2 := F0 m 7 ls [.int 0, .int 0]) rfl ?_
  refine lv_icmp_ge hx hb d61_7 rfl (fun _ => ?_) (fun h9 => absurd (by decide) h9)
  refine lv_iconst (v := (-1)) hx hb d61_38 (by decide) ?_
  exact ms_iret X d61_39 hP hD hS (Nat.le_of_ble_eq_true rfl) (Nat.le_of_ble_eq_true rfl) (⟨rfl, rfl⟩)

set_option maxRecDepth 100000 in
set_option maxHeartbeats 8000000 in
theorem c_mtype (l : Launch) (D : va_G) (dA : Nat → ClassId) (s0 : State) (hE : ms_EV D dA s0) (h : Nat) (r : Nat → Nat) (z : Int32) : ms_C l D s0 yM62 bM62 2 (Option.some Jvm.ClassFile.FieldType.boolean) 0 0 0 0 [.ref h, .int z] [(h, .inr (2, [.ref (r 0), .ref (r 1), .ref (r 2), .ref (r 3), .int 0, .int 0, .ref (r 6), .int 0, .int 0, .int 0, .int 0, .int 0, .int 0, .int 0, .int 0, .ref (r 15), .ref (r 16), .ref (r 17), .int 0, .int 0, .ref (r 20), .ref (r 21), .ref (r 22), .int 0, .int 0, .ref (r 25), .ref (r 26), .ref (r 27), .ref (r 28), .ref (r 29), .ref (r 30), .int 0, .ref (r 32), .ref (r 33), .ref (r 34), .ref (r 35), .ref (r 36), .ref (r 37), .ref (r 38), .ref (r 39), .ref (r 40), .ref (r 41), .ref (r 42), .int 0, .ref (r 44), .int 0, .int 0, .int 0, .int 0, .int 0, .ref (r 50), .ref (r 51), .ref (r 52), .int 0, .ref (r 54), .int 0, .ref (r 56), .int 0, .int 0, .int 0])), ((r 6), .inl (dA 1, 120, .inl (fun _ => 0)))] (fun vv _ => vv = some (.int (ms_ty z))) := by
  refine ms_C.mk hE.1 (by decide) (Nat.le_of_ble_eq_true rfl) [(0, .ref h), (1, .int z)] rfl ?_
  intro p e s m below meth c A ls X hin hP hD hS hl
  have hx := X.1
  have hb := X.2.1
  have hml := X.2.2.1
  have hown : s.vm.findClass "MarkupStoreModel" = some m.cls := X.2.2.2.1
  have hts := X.2.2.2.2.2.2.1
  have hK := X.2.2.2.2.2.2.2.2.1
  have hA := X.2.2.2.2.2.2.2.2.2.2
  refine lv_iload_n hx hb d62_0 rfl (lv_at hl 1 rfl) ?_
  refine lv_bipush (v := 32) hx hb d62_1 (by decide) ?_
  refine lv_icmp_lt hx hb d62_3 rfl (fun h1 => ?_) (fun h1 => ?_)
  · refine lv_iconst (v := 0) hx hb d62_21 (by decide) ?_
    exact ms_zret X d62_22 hP hD hS (Nat.le_of_ble_eq_true rfl) (Nat.le_of_ble_eq_true rfl) (by simp [ms_ty, h1]) (rfl)
  · refine lv_iload_n hx hb d62_6 rfl (lv_at hl 1 rfl) ?_
    refine lv_bipush (v := 126) hx hb d62_7 (by decide) ?_
    refine lv_icmp_gt hx hb d62_9 rfl (fun h2 => ?_) (fun h2 => ?_)
    · refine lv_iconst (v := 0) hx hb d62_21 (by decide) ?_
      exact ms_zret X d62_22 hP hD hS (Nat.le_of_ble_eq_true rfl) (Nat.le_of_ble_eq_true rfl) (by simp [ms_ty, h1, h2]) (rfl)
    · refine lv_aload_n hx hb d62_12 rfl (lv_at hl 0 rfl) ?_
      refine va_get (D := D) (ci := 2) (v := .int 0) (C := kR2) (T := kT2) (N := 60) hx hb hts ku2 hown hK hP 0 rfl rfl 7 (by decide) (hts _ ms_k1323) (fun _ h => h) rfl d62_13 ?_
      refine lv_bipush (v := 120) hx hb d62_16 (by decide) ?_
      refine lv_icmp_lt hx hb d62_18 rfl (fun _ => ?_) (fun h9 => absurd (by decide) h9)
      refine lv_aload_n hx hb d62_23 rfl (lv_at hl 0 rfl) ?_
      refine va_get (D := D) (ci := 2) (v := .ref (r 6)) (C := kR2) (T := kT2) (N := 60) hx hb hts ku2 hown hK hP 0 rfl rfl 6 (by decide) (hts _ ms_k1322) (fun _ h => h) rfl d62_24 ?_
      refine lv_aload_n hx hb d62_27 rfl (lv_at hl 0 rfl) ?_
      refine va_get (D := D) (ci := 2) (v := .int 0) (C := kR2) (T := kT2) (N := 60) hx hb hts ku2 hown hK hP 0 rfl rfl 7 (by decide) (hts _ ms_k1323) (fun _ h => h) rfl d62_28 ?_
      refine lv_iload_n hx hb d62_31 rfl (lv_at hl 1 rfl) ?_
      refine va_cast hx hb hK hP hD hS 1 1 rfl rfl (by unfold vp_in; decide) d62_32 (fun H locs hP hD hS => ?_)
      have hP : va_P D vwCl [(h, .inr (2, [.ref (r 0), .ref (r 1), .ref (r 2), .ref (r 3), .int 0, .int 0, .ref (r 6), .int 0, .int 0, .int 0, .int 0, .int 0, .int 0, .int 0, .int 0, .ref (r 15), .ref (r 16), .ref (r 17), .int 0, .int 0, .ref (r 20), .ref (r 21), .ref (r 22), .int 0, .int 0, .ref (r 25), .ref (r 26), .ref (r 27), .ref (r 28), .ref (r 29), .ref (r 30), .int 0, .ref (r 32), .ref (r 33), .ref (r 34), .ref (r 35), .ref (r 36), .ref (r 37), .ref (r 38), .ref (r 39), .ref (r 40), .ref (r 41), .ref (r 42), .int 0, .ref (r 44), .int 0, .int 0, .int 0, .int 0, .int 0, .ref (r 50), .ref (r 51), .ref (r 52), .int 0, .ref (r 54), .int 0, .ref (r 56), .int 0, .int 0, .int 0])), ((r 6), .inl (dA 1, 120, .inl (upd (fun _ => 0) 0 (vp_nar .char z))))] H := hP
      have hD : va_D A [(h, .inr (2, [.ref (r 0), .ref (r 1), .ref (r 2), .ref (r 3), .int 0, .int 0, .ref (r 6), .int 0, .int 0, .int 0, .int 0, .int 0, .int 0, .int 0, .int 0, .ref (r 15), .ref (r 16), .ref (r 17), .int 0, .int 0, .ref (r 20), .ref (r 21), .ref (r 22), .int 0, .int 0, .ref (r 25), .ref (r 26), .ref (r 27), .ref (r 28), .ref (r 29), .ref (r 30), .int 0, .ref (r 32), .ref (r 33), .ref (r 34), .ref (r 35), .ref (r 36), .ref (r 37), .ref (r 38), .ref (r 39), .ref (r 40), .ref (r 41), .ref (r 42), .int 0, .ref (r 44), .int 0, .int 0, .int 0, .int 0, .int 0, .ref (r 50), .ref (r 51), .ref (r 52), .int 0, .ref (r 54), .int 0, .ref (r 56), .int 0, .int 0, .int 0])), ((r 6), .inl (dA 1, 120, .inl (upd (fun _ => 0) 0 (vp_nar .char z))))] := hD
      refine lv_aload_n hx hb d62_33 rfl (lv_at hl 0 rfl) ?_
      refine lv_dup hx hb d62_34 rfl ?_
      refine va_get (D := D) (ci := 2) (v := .int 0) (C := kR2) (T := kT2) (N := 60) hx hb hts ku2 hown hK hP 0 rfl rfl 7 (by decide) (hts _ ms_k1323) (fun _ h => h) rfl d62_35 ?_
      refine lv_iconst (v := 1) hx hb d62_38 (by decide) ?_
      refine lv_iadd hx hb d62_39 ?_
      refine ms_top (y := 1) (by decide) ?_
      refine va_put (D := D) (ci := 2) (v := .int 1) (ty := .int) (C := kR2) (T := kT2) (N := 60) hx hb hts ku2 kt2 kp2 kn2 hown hK hP hD hS 0 rfl rfl 7 (by decide) (hts _ ms_k1323) (fun _ h => h) rfl (by decide +kernel) rfl rfl (Nat.le_of_ble_eq_true rfl) d62_40 (fun H locs hP hD hS => ?_)
      have hP : va_P D vwCl [(h, .inr (2, [.ref (r 0), .ref (r 1), .ref (r 2), .ref (r 3), .int 0, .int 0, .ref (r 6), .int 1, .int 0, .int 0, .int 0, .int 0, .int 0, .int 0, .int 0, .ref (r 15), .ref (r 16), .ref (r 17), .int 0, .int 0, .ref (r 20), .ref (r 21), .ref (r 22), .int 0, .int 0, .ref (r 25), .ref (r 26), .ref (r 27), .ref (r 28), .ref (r 29), .ref (r 30), .int 0, .ref (r 32), .ref (r 33), .ref (r 34), .ref (r 35), .ref (r 36), .ref (r 37), .ref (r 38), .ref (r 39), .ref (r 40), .ref (r 41), .ref (r 42), .int 0, .ref (r 44), .int 0, .int 0, .int 0, .int 0, .int 0, .ref (r 50), .ref (r 51), .ref (r 52), .int 0, .ref (r 54), .int 0, .ref (r 56), .int 0, .int 0, .int 0])), ((r 6), .inl (dA 1, 120, .inl (upd (fun _ => 0) 0 (vp_nar .char z))))] H := hP
      have hD : va_D A [(h, .inr (2, [.ref (r 0), .ref (r 1), .ref (r 2), .ref (r 3), .int 0, .int 0, .ref (r 6), .int 1, .int 0, .int 0, .int 0, .int 0, .int 0, .int 0, .int 0, .ref (r 15), .ref (r 16), .ref (r 17), .int 0, .int 0, .ref (r 20), .ref (r 21), .ref (r 22), .int 0, .int 0, .ref (r 25), .ref (r 26), .ref (r 27), .ref (r 28), .ref (r 29), .ref (r 30), .int 0, .ref (r 32), .ref (r 33), .ref (r 34), .ref (r 35), .ref (r 36), .ref (r 37), .ref (r 38), .ref (r 39), .ref (r 40), .ref (r 41), .ref (r 42), .int 0, .ref (r 44), .int 0, .int 0, .int 0, .int 0, .int 0, .ref (r 50), .ref (r 51), .ref (r 52), .int 0, .ref (r 54), .int 0, .ref (r 56), .int 0, .int 0, .int 0])), ((r 6), .inl (dA 1, 120, .inl (upd (fun _ => 0) 0 (vp_nar .char z))))] := hD
      refine lv_iconst (v := 1) hx hb d62_43 (by decide) ?_
      exact ms_zret X d62_44 hP hD hS (Nat.le_of_ble_eq_true rfl) (Nat.le_of_ble_eq_true rfl) (by simp [ms_ty, h1, h2]) (rfl)

set_option maxRecDepth 100000 in
set_option maxHeartbeats 8000000 in
theorem c_merror (l : Launch) (D : va_G) (dA : Nat → ClassId) (s0 : State) (hE : ms_EV D dA s0) (h : Nat) (r : Nat → Nat) : ms_C l D s0 yM63 bM63 2 (Option.none : Option Jvm.ClassFile.FieldType) 0 0 0 0 [.ref h, .int 0] [(h, .inr (2, [.ref (r 0), .ref (r 1), .ref (r 2), .ref (r 3), .int 0, .int 0, .ref (r 6), .int 0, .int 0, .int (-1), .int 0, .int 0, .int (-1), .int 0, .int 0, .ref (r 15), .ref (r 16), .ref (r 17), .int 0, .int 0, .ref (r 20), .ref (r 21), .ref (r 22), .int 0, .int 0, .ref (r 25), .ref (r 26), .ref (r 27), .ref (r 28), .ref (r 29), .ref (r 30), .int 0, .ref (r 32), .ref (r 33), .ref (r 34), .ref (r 35), .ref (r 36), .ref (r 37), .ref (r 38), .ref (r 39), .ref (r 40), .ref (r 41), .ref (r 42), .int 0, .ref (r 44), .int 0, .int 0, .int 0, .int 0, .int 0, .ref (r 50), .ref (r 51), .ref (r 52), .int 0, .ref (r 54), .int 0, .ref (r 56), .int 0, .int 0, .int 0]))] (fun vv ww => vv = none ∧ ww = [(h, .inr (2, [.ref (r 0), .ref (r 1), .ref (r 2), .ref (r 3), .int 0, .int 0, .ref (r 6), .int 0, .int 0, .int 0, .int 0, .int 0, .int (-1), .int 0, .int 0, .ref (r 15), .ref (r 16), .ref (r 17), .int 0, .int 0, .ref (r 20), .ref (r 21), .ref (r 22), .int 0, .int 0, .ref (r 25), .ref (r 26), .ref (r 27), .ref (r 28), .ref (r 29), .ref (r 30), .int 0, .ref (r 32), .ref (r 33), .ref (r 34), .ref (r 35), .ref (r 36), .ref (r 37), .ref (r 38), .ref (r 39), .ref (r 40), .ref (r 41), .ref (r 42), .int 0, .ref (r 44), .int 0, .int 0, .int 0, .int 0, .int 0, .ref (r 50), .ref (r 51), .ref (r 52), .int 0, .ref (r 54), .int 0, .ref (r 56), .int 0, .int 0, .int 0]))]) := by
  refine ms_C.mk hE.1 (by decide) (Nat.le_of_ble_eq_true rfl) [(0, .ref h), (1, .int 0)] rfl ?_
  intro p e s m below meth c A ls X hin hP hD hS hl
  have hx := X.1
  have hb := X.2.1
  have hml := X.2.2.1
  have hown : s.vm.findClass "MarkupStoreModel" = some m.cls := X.2.2.2.1
  have hts := X.2.2.2.2.2.2.1
  have hK := X.2.2.2.2.2.2.2.2.1
  have hA := X.2.2.2.2.2.2.2.2.2.2
  refine lv_aload_n hx hb d63_0 rfl (lv_at hl 0 rfl) ?_
  refine va_get (D := D) (ci := 2) (v := .int (-1)) (C := kR2) (T := kT2) (N := 60) hx hb hts ku2 hown hK hP 0 rfl rfl 9 (by decide) (hts _ ms_k1325) (fun _ h => h) rfl d63_1 ?_
  refine lv_if_ge hx hb d63_4 rfl (fun h9 => absurd h9 (by decide)) (fun _ => ?_)
  refine lv_aload_n hx hb d63_7 rfl (lv_at hl 0 rfl) ?_
  refine lv_iload_n hx hb d63_8 rfl (lv_at hl 1 rfl) ?_
  refine lv_aload_n hx hb d63_9 rfl (lv_at hl 0 rfl) ?_
  refine va_get (D := D) (ci := 2) (v := .int 0) (C := kR2) (T := kT2) (N := 60) hx hb hts ku2 hown hK hP 0 rfl rfl 7 (by decide) (hts _ ms_k1323) (fun _ h => h) rfl d63_10 ?_
  refine lv_icmp_ge hx hb d63_13 rfl (fun _ => ?_) (fun h9 => absurd (by decide) h9)
  refine lv_aload_n hx hb d63_20 rfl (lv_at hl 0 rfl) ?_
  refine va_get (D := D) (ci := 2) (v := .int 0) (C := kR2) (T := kT2) (N := 60) hx hb hts ku2 hown hK hP 0 rfl rfl 7 (by decide) (hts _ ms_k1323) (fun _ h => h) rfl d63_21 ?_
  refine va_put (D := D) (ci := 2) (v := .int 0) (ty := .int) (C := kR2) (T := kT2) (N := 60) hx hb hts ku2 kt2 kp2 kn2 hown hK hP hD hS 0 rfl rfl 9 (by decide) (hts _ ms_k1325) (fun _ h => h) rfl (by decide +kernel) rfl rfl (Nat.le_of_ble_eq_true rfl) d63_24 (fun H locs hP hD hS => ?_)
  have hP : va_P D vwCl [(h, .inr (2, [.ref (r 0), .ref (r 1), .ref (r 2), .ref (r 3), .int 0, .int 0, .ref (r 6), .int 0, .int 0, .int 0, .int 0, .int 0, .int (-1), .int 0, .int 0, .ref (r 15), .ref (r 16), .ref (r 17), .int 0, .int 0, .ref (r 20), .ref (r 21), .ref (r 22), .int 0, .int 0, .ref (r 25), .ref (r 26), .ref (r 27), .ref (r 28), .ref (r 29), .ref (r 30), .int 0, .ref (r 32), .ref (r 33), .ref (r 34), .ref (r 35), .ref (r 36), .ref (r 37), .ref (r 38), .ref (r 39), .ref (r 40), .ref (r 41), .ref (r 42), .int 0, .ref (r 44), .int 0, .int 0, .int 0, .int 0, .int 0, .ref (r 50), .ref (r 51), .ref (r 52), .int 0, .ref (r 54), .int 0, .ref (r 56), .int 0, .int 0, .int 0]))] H := hP
  have hD : va_D A [(h, .inr (2, [.ref (r 0), .ref (r 1), .ref (r 2), .ref (r 3), .int 0, .int 0, .ref (r 6), .int 0, .int 0, .int 0, .int 0, .int 0, .int (-1), .int 0, .int 0, .ref (r 15), .ref (r 16), .ref (r 17), .int 0, .int 0, .ref (r 20), .ref (r 21), .ref (r 22), .int 0, .int 0, .ref (r 25), .ref (r 26), .ref (r 27), .ref (r 28), .ref (r 29), .ref (r 30), .int 0, .ref (r 32), .ref (r 33), .ref (r 34), .ref (r 35), .ref (r 36), .ref (r 37), .ref (r 38), .ref (r 39), .ref (r 40), .ref (r 41), .ref (r 42), .int 0, .ref (r 44), .int 0, .int 0, .int 0, .int 0, .int 0, .ref (r 50), .ref (r 51), .ref (r 52), .int 0, .ref (r 54), .int 0, .ref (r 56), .int 0, .int 0, .int 0]))] := hD
  exact ms_vret X d63_27 hP hD hS (Nat.le_of_ble_eq_true rfl) (Nat.le_of_ble_eq_true rfl) (⟨rfl, rfl⟩)

set_option maxRecDepth 100000 in
set_option maxHeartbeats 8000000 in
theorem c_parse (l : Launch) (D : va_G) (dA : Nat → ClassId) (s0 : State) (hE : ms_EV D dA s0) (h : Nat) (r : Nat → Nat) : ms_C l D s0 yM64 bM64 5 (Option.none : Option Jvm.ClassFile.FieldType) 1 21 0 0 [.ref h, .int 1, .int 0] [(h, .inr (2, [.ref (r 0), .ref (r 1), .ref (r 2), .ref (r 3), .int 0, .int 0, .ref (r 6), .int 0, .int 0, .int 0, .int 0, .int 0, .int 0, .int 0, .int 0, .ref (r 15), .ref (r 16), .ref (r 17), .int 0, .int 0, .ref (r 20), .ref (r 21), .ref (r 22), .int 0, .int 0, .ref (r 25), .ref (r 26), .ref (r 27), .ref (r 28), .ref (r 29), .ref (r 30), .int 0, .ref (r 32), .ref (r 33), .ref (r 34), .ref (r 35), .ref (r 36), .ref (r 37), .ref (r 38), .ref (r 39), .ref (r 40), .ref (r 41), .ref (r 42), .int 0, .ref (r 44), .int 0, .int 0, .int 0, .int 0, .int 0, .ref (r 50), .ref (r 51), .ref (r 52), .int 0, .ref (r 54), .int 0, .ref (r 56), .int 0, .int 0, .int 0]))] (fun vv ww => vv = none ∧ ww = [(h, .inr (2, [.ref (r 0), .ref (r 1), .ref (r 2), .ref (r 3), .int 0, .int 0, .ref (r 6), .int 0, .int 0, .int 0, .int 0, .int 0, .int (-1), .int 0, .int 0, .ref (r 15), .ref (r 16), .ref (r 17), .int 0, .int 0, .ref (r 20), .ref (r 21), .ref (r 22), .int 0, .int 0, .ref (r 25), .ref (r 26), .ref (r 27), .ref (r 28), .ref (r 29), .ref (r 30), .int 0, .ref (r 32), .ref (r 33), .ref (r 34), .ref (r 35), .ref (r 36), .ref (r 37), .ref (r 38), .ref (r 39), .ref (r 40), .ref (r 41), .ref (r 42), .int 0, .ref (r 44), .int 0, .int 0, .int 0, .int 0, .int 0, .ref (r 50), .ref (r 51), .ref (r 52), .int 0, .ref (r 54), .int 0, .ref (r 56), .int 0, .int 0, .int 0]))]) := by
  refine ms_C.mk hE.1 (by decide) (Nat.le_of_ble_eq_true rfl) [(0, .ref h), (1, .int 1), (2, .int 0)] rfl ?_
  intro p e s m below meth c A ls X hin hP hD hS hl
  have hx := X.1
  have hb := X.2.1
  have hml := X.2.2.1
  have hown : s.vm.findClass "MarkupStoreModel" = some m.cls := X.2.2.2.1
  have hts := X.2.2.2.2.2.2.1
  have hK := X.2.2.2.2.2.2.2.2.1
  have hA := X.2.2.2.2.2.2.2.2.2.2
  refine lv_aload_n hx hb d64_0 rfl (lv_at hl 0 rfl) ?_
  refine lv_iconst (v := 0) hx hb d64_1 (by decide) ?_
  refine va_put (D := D) (ci := 2) (v := .int 0) (ty := .int) (C := kR2) (T := kT2) (N := 60) hx hb hts ku2 kt2 kp2 kn2 hown hK hP hD hS 0 rfl rfl 8 (by decide) (hts _ ms_k1324) (fun _ h => h) rfl (by decide +kernel) rfl rfl (Nat.le_of_ble_eq_true rfl) d64_2 (fun H locs hP hD hS => ?_)
  have hP : va_P D vwCl [(h, .inr (2, [.ref (r 0), .ref (r 1), .ref (r 2), .ref (r 3), .int 0, .int 0, .ref (r 6), .int 0, .int 0, .int 0, .int 0, .int 0, .int 0, .int 0, .int 0, .ref (r 15), .ref (r 16), .ref (r 17), .int 0, .int 0, .ref (r 20), .ref (r 21), .ref (r 22), .int 0, .int 0, .ref (r 25), .ref (r 26), .ref (r 27), .ref (r 28), .ref (r 29), .ref (r 30), .int 0, .ref (r 32), .ref (r 33), .ref (r 34), .ref (r 35), .ref (r 36), .ref (r 37), .ref (r 38), .ref (r 39), .ref (r 40), .ref (r 41), .ref (r 42), .int 0, .ref (r 44), .int 0, .int 0, .int 0, .int 0, .int 0, .ref (r 50), .ref (r 51), .ref (r 52), .int 0, .ref (r 54), .int 0, .ref (r 56), .int 0, .int 0, .int 0]))] H := hP
  have hD : va_D A [(h, .inr (2, [.ref (r 0), .ref (r 1), .ref (r 2), .ref (r 3), .int 0, .int 0, .ref (r 6), .int 0, .int 0, .int 0, .int 0, .int 0, .int 0, .int 0, .int 0, .ref (r 15), .ref (r 16), .ref (r 17), .int 0, .int 0, .ref (r 20), .ref (r 21), .ref (r 22), .int 0, .int 0, .ref (r 25), .ref (r 26), .ref (r 27), .ref (r 28), .ref (r 29), .ref (r 30), .int 0, .ref (r 32), .ref (r 33), .ref (r 34), .ref (r 35), .ref (r 36), .ref (r 37), .ref (r 38), .ref (r 39), .ref (r 40), .ref (r 41), .ref (r 42), .int 0, .ref (r 44), .int 0, .int 0, .int 0, .int 0, .int 0, .ref (r 50), .ref (r 51), .ref (r 52), .int 0, .ref (r 54), .int 0, .ref (r 56), .int 0, .int 0, .int 0]))] := hD
  refine lv_aload_n hx hb d64_5 rfl (lv_at hl 0 rfl) ?_
  refine lv_iconst (v := (-1)) hx hb d64_6 (by decide) ?_
  refine va_put (D := D) (ci := 2) (v := .int (-1)) (ty := .int) (C := kR2) (T := kT2) (N := 60) hx hb hts ku2 kt2 kp2 kn2 hown hK hP hD hS 0 rfl rfl 9 (by decide) (hts _ ms_k1325) (fun _ h => h) rfl (by decide +kernel) rfl rfl (Nat.le_of_ble_eq_true rfl) d64_7 (fun H locs hP hD hS => ?_)
  have hP : va_P D vwCl [(h, .inr (2, [.ref (r 0), .ref (r 1), .ref (r 2), .ref (r 3), .int 0, .int 0, .ref (r 6), .int 0, .int 0, .int (-1), .int 0, .int 0, .int 0, .int 0, .int 0, .ref (r 15), .ref (r 16), .ref (r 17), .int 0, .int 0, .ref (r 20), .ref (r 21), .ref (r 22), .int 0, .int 0, .ref (r 25), .ref (r 26), .ref (r 27), .ref (r 28), .ref (r 29), .ref (r 30), .int 0, .ref (r 32), .ref (r 33), .ref (r 34), .ref (r 35), .ref (r 36), .ref (r 37), .ref (r 38), .ref (r 39), .ref (r 40), .ref (r 41), .ref (r 42), .int 0, .ref (r 44), .int 0, .int 0, .int 0, .int 0, .int 0, .ref (r 50), .ref (r 51), .ref (r 52), .int 0, .ref (r 54), .int 0, .ref (r 56), .int 0, .int 0, .int 0]))] H := hP
  have hD : va_D A [(h, .inr (2, [.ref (r 0), .ref (r 1), .ref (r 2), .ref (r 3), .int 0, .int 0, .ref (r 6), .int 0, .int 0, .int (-1), .int 0, .int 0, .int 0, .int 0, .int 0, .ref (r 15), .ref (r 16), .ref (r 17), .int 0, .int 0, .ref (r 20), .ref (r 21), .ref (r 22), .int 0, .int 0, .ref (r 25), .ref (r 26), .ref (r 27), .ref (r 28), .ref (r 29), .ref (r 30), .int 0, .ref (r 32), .ref (r 33), .ref (r 34), .ref (r 35), .ref (r 36), .ref (r 37), .ref (r 38), .ref (r 39), .ref (r 40), .ref (r 41), .ref (r 42), .int 0, .ref (r 44), .int 0, .int 0, .int 0, .int 0, .int 0, .ref (r 50), .ref (r 51), .ref (r 52), .int 0, .ref (r 54), .int 0, .ref (r 56), .int 0, .int 0, .int 0]))] := hD
  refine lv_aload_n hx hb d64_10 rfl (lv_at hl 0 rfl) ?_
  refine lv_iconst (v := 0) hx hb d64_11 (by decide) ?_
  refine va_put (D := D) (ci := 2) (v := .int 0) (ty := .int) (C := kR2) (T := kT2) (N := 60) hx hb hts ku2 kt2 kp2 kn2 hown hK hP hD hS 0 rfl rfl 10 (by decide) (hts _ ms_k1326) (fun _ h => h) rfl (by decide +kernel) rfl rfl (Nat.le_of_ble_eq_true rfl) d64_12 (fun H locs hP hD hS => ?_)
  have hP : va_P D vwCl [(h, .inr (2, [.ref (r 0), .ref (r 1), .ref (r 2), .ref (r 3), .int 0, .int 0, .ref (r 6), .int 0, .int 0, .int (-1), .int 0, .int 0, .int 0, .int 0, .int 0, .ref (r 15), .ref (r 16), .ref (r 17), .int 0, .int 0, .ref (r 20), .ref (r 21), .ref (r 22), .int 0, .int 0, .ref (r 25), .ref (r 26), .ref (r 27), .ref (r 28), .ref (r 29), .ref (r 30), .int 0, .ref (r 32), .ref (r 33), .ref (r 34), .ref (r 35), .ref (r 36), .ref (r 37), .ref (r 38), .ref (r 39), .ref (r 40), .ref (r 41), .ref (r 42), .int 0, .ref (r 44), .int 0, .int 0, .int 0, .int 0, .int 0, .ref (r 50), .ref (r 51), .ref (r 52), .int 0, .ref (r 54), .int 0, .ref (r 56), .int 0, .int 0, .int 0]))] H := hP
  have hD : va_D A [(h, .inr (2, [.ref (r 0), .ref (r 1), .ref (r 2), .ref (r 3), .int 0, .int 0, .ref (r 6), .int 0, .int 0, .int (-1), .int 0, .int 0, .int 0, .int 0, .int 0, .ref (r 15), .ref (r 16), .ref (r 17), .int 0, .int 0, .ref (r 20), .ref (r 21), .ref (r 22), .int 0, .int 0, .ref (r 25), .ref (r 26), .ref (r 27), .ref (r 28), .ref (r 29), .ref (r 30), .int 0, .ref (r 32), .ref (r 33), .ref (r 34), .ref (r 35), .ref (r 36), .ref (r 37), .ref (r 38), .ref (r 39), .ref (r 40), .ref (r 41), .ref (r 42), .int 0, .ref (r 44), .int 0, .int 0, .int 0, .int 0, .int 0, .ref (r 50), .ref (r 51), .ref (r 52), .int 0, .ref (r 54), .int 0, .ref (r 56), .int 0, .int 0, .int 0]))] := hD
  refine lv_aload_n hx hb d64_15 rfl (lv_at hl 0 rfl) ?_
  refine lv_iconst (v := 0) hx hb d64_16 (by decide) ?_
  refine va_put (D := D) (ci := 2) (v := .int 0) (ty := .boolean) (C := kR2) (T := kT2) (N := 60) hx hb hts ku2 kt2 kp2 kn2 hown hK hP hD hS 0 rfl rfl 11 (by decide) (hts _ ms_k1327) (fun _ h => h) rfl (by decide +kernel) rfl rfl (Nat.le_of_ble_eq_true rfl) d64_17 (fun H locs hP hD hS => ?_)
  have hP : va_P D vwCl [(h, .inr (2, [.ref (r 0), .ref (r 1), .ref (r 2), .ref (r 3), .int 0, .int 0, .ref (r 6), .int 0, .int 0, .int (-1), .int 0, .int 0, .int 0, .int 0, .int 0, .ref (r 15), .ref (r 16), .ref (r 17), .int 0, .int 0, .ref (r 20), .ref (r 21), .ref (r 22), .int 0, .int 0, .ref (r 25), .ref (r 26), .ref (r 27), .ref (r 28), .ref (r 29), .ref (r 30), .int 0, .ref (r 32), .ref (r 33), .ref (r 34), .ref (r 35), .ref (r 36), .ref (r 37), .ref (r 38), .ref (r 39), .ref (r 40), .ref (r 41), .ref (r 42), .int 0, .ref (r 44), .int 0, .int 0, .int 0, .int 0, .int 0, .ref (r 50), .ref (r 51), .ref (r 52), .int 0, .ref (r 54), .int 0, .ref (r 56), .int 0, .int 0, .int 0]))] H := hP
  have hD : va_D A [(h, .inr (2, [.ref (r 0), .ref (r 1), .ref (r 2), .ref (r 3), .int 0, .int 0, .ref (r 6), .int 0, .int 0, .int (-1), .int 0, .int 0, .int 0, .int 0, .int 0, .ref (r 15), .ref (r 16), .ref (r 17), .int 0, .int 0, .ref (r 20), .ref (r 21), .ref (r 22), .int 0, .int 0, .ref (r 25), .ref (r 26), .ref (r 27), .ref (r 28), .ref (r 29), .ref (r 30), .int 0, .ref (r 32), .ref (r 33), .ref (r 34), .ref (r 35), .ref (r 36), .ref (r 37), .ref (r 38), .ref (r 39), .ref (r 40), .ref (r 41), .ref (r 42), .int 0, .ref (r 44), .int 0, .int 0, .int 0, .int 0, .int 0, .ref (r 50), .ref (r 51), .ref (r 52), .int 0, .ref (r 54), .int 0, .ref (r 56), .int 0, .int 0, .int 0]))] := hD
  refine lv_aload_n hx hb d64_20 rfl (lv_at hl 0 rfl) ?_
  refine lv_iconst (v := (-1)) hx hb d64_21 (by decide) ?_
  refine va_put (D := D) (ci := 2) (v := .int (-1)) (ty := .int) (C := kR2) (T := kT2) (N := 60) hx hb hts ku2 kt2 kp2 kn2 hown hK hP hD hS 0 rfl rfl 12 (by decide) (hts _ ms_k1328) (fun _ h => h) rfl (by decide +kernel) rfl rfl (Nat.le_of_ble_eq_true rfl) d64_22 (fun H locs hP hD hS => ?_)
  have hP : va_P D vwCl [(h, .inr (2, [.ref (r 0), .ref (r 1), .ref (r 2), .ref (r 3), .int 0, .int 0, .ref (r 6), .int 0, .int 0, .int (-1), .int 0, .int 0, .int (-1), .int 0, .int 0, .ref (r 15), .ref (r 16), .ref (r 17), .int 0, .int 0, .ref (r 20), .ref (r 21), .ref (r 22), .int 0, .int 0, .ref (r 25), .ref (r 26), .ref (r 27), .ref (r 28), .ref (r 29), .ref (r 30), .int 0, .ref (r 32), .ref (r 33), .ref (r 34), .ref (r 35), .ref (r 36), .ref (r 37), .ref (r 38), .ref (r 39), .ref (r 40), .ref (r 41), .ref (r 42), .int 0, .ref (r 44), .int 0, .int 0, .int 0, .int 0, .int 0, .ref (r 50), .ref (r 51), .ref (r 52), .int 0, .ref (r 54), .int 0, .ref (r 56), .int 0, .int 0, .int 0]))] H := hP
  have hD : va_D A [(h, .inr (2, [.ref (r 0), .ref (r 1), .ref (r 2), .ref (r 3), .int 0, .int 0, .ref (r 6), .int 0, .int 0, .int (-1), .int 0, .int 0, .int (-1), .int 0, .int 0, .ref (r 15), .ref (r 16), .ref (r 17), .int 0, .int 0, .ref (r 20), .ref (r 21), .ref (r 22), .int 0, .int 0, .ref (r 25), .ref (r 26), .ref (r 27), .ref (r 28), .ref (r 29), .ref (r 30), .int 0, .ref (r 32), .ref (r 33), .ref (r 34), .ref (r 35), .ref (r 36), .ref (r 37), .ref (r 38), .ref (r 39), .ref (r 40), .ref (r 41), .ref (r 42), .int 0, .ref (r 44), .int 0, .int 0, .int 0, .int 0, .int 0, .ref (r 50), .ref (r 51), .ref (r 52), .int 0, .ref (r 54), .int 0, .ref (r 56), .int 0, .int 0, .int 0]))] := hD
  refine lv_aload_n hx hb d64_25 rfl (lv_at hl 0 rfl) ?_
  refine lv_iload_n hx hb d64_26 rfl (lv_at hl 2 rfl) ?_
  refine va_put (D := D) (ci := 2) (v := .int 0) (ty := .int) (C := kR2) (T := kT2) (N := 60) hx hb hts ku2 kt2 kp2 kn2 hown hK hP hD hS 0 rfl rfl 13 (by decide) (hts _ ms_k1329) (fun _ h => h) rfl (by decide +kernel) rfl rfl (Nat.le_of_ble_eq_true rfl) d64_27 (fun H locs hP hD hS => ?_)
  have hP : va_P D vwCl [(h, .inr (2, [.ref (r 0), .ref (r 1), .ref (r 2), .ref (r 3), .int 0, .int 0, .ref (r 6), .int 0, .int 0, .int (-1), .int 0, .int 0, .int (-1), .int 0, .int 0, .ref (r 15), .ref (r 16), .ref (r 17), .int 0, .int 0, .ref (r 20), .ref (r 21), .ref (r 22), .int 0, .int 0, .ref (r 25), .ref (r 26), .ref (r 27), .ref (r 28), .ref (r 29), .ref (r 30), .int 0, .ref (r 32), .ref (r 33), .ref (r 34), .ref (r 35), .ref (r 36), .ref (r 37), .ref (r 38), .ref (r 39), .ref (r 40), .ref (r 41), .ref (r 42), .int 0, .ref (r 44), .int 0, .int 0, .int 0, .int 0, .int 0, .ref (r 50), .ref (r 51), .ref (r 52), .int 0, .ref (r 54), .int 0, .ref (r 56), .int 0, .int 0, .int 0]))] H := hP
  have hD : va_D A [(h, .inr (2, [.ref (r 0), .ref (r 1), .ref (r 2), .ref (r 3), .int 0, .int 0, .ref (r 6), .int 0, .int 0, .int (-1), .int 0, .int 0, .int (-1), .int 0, .int 0, .ref (r 15), .ref (r 16), .ref (r 17), .int 0, .int 0, .ref (r 20), .ref (r 21), .ref (r 22), .int 0, .int 0, .ref (r 25), .ref (r 26), .ref (r 27), .ref (r 28), .ref (r 29), .ref (r 30), .int 0, .ref (r 32), .ref (r 33), .ref (r 34), .ref (r 35), .ref (r 36), .ref (r 37), .ref (r 38), .ref (r 39), .ref (r 40), .ref (r 41), .ref (r 42), .int 0, .ref (r 44), .int 0, .int 0, .int 0, .int 0, .int 0, .ref (r 50), .ref (r 51), .ref (r 52), .int 0, .ref (r 54), .int 0, .ref (r 56), .int 0, .int 0, .int 0]))] := hD
  refine lv_aload_n hx hb d64_30 rfl (lv_at hl 0 rfl) ?_
  refine lv_iconst (v := 0) hx hb d64_31 (by decide) ?_
  refine va_put (D := D) (ci := 2) (v := .int 0) (ty := .int) (C := kR2) (T := kT2) (N := 60) hx hb hts ku2 kt2 kp2 kn2 hown hK hP hD hS 0 rfl rfl 14 (by decide) (hts _ ms_k1330) (fun _ h => h) rfl (by decide +kernel) rfl rfl (Nat.le_of_ble_eq_true rfl) d64_32 (fun H locs hP hD hS => ?_)
  have hP : va_P D vwCl [(h, .inr (2, [.ref (r 0), .ref (r 1), .ref (r 2), .ref (r 3), .int 0, .int 0, .ref (r 6), .int 0, .int 0, .int (-1), .int 0, .int 0, .int (-1), .int 0, .int 0, .ref (r 15), .ref (r 16), .ref (r 17), .int 0, .int 0, .ref (r 20), .ref (r 21), .ref (r 22), .int 0, .int 0, .ref (r 25), .ref (r 26), .ref (r 27), .ref (r 28), .ref (r 29), .ref (r 30), .int 0, .ref (r 32), .ref (r 33), .ref (r 34), .ref (r 35), .ref (r 36), .ref (r 37), .ref (r 38), .ref (r 39), .ref (r 40), .ref (r 41), .ref (r 42), .int 0, .ref (r 44), .int 0, .int 0, .int 0, .int 0, .int 0, .ref (r 50), .ref (r 51), .ref (r 52), .int 0, .ref (r 54), .int 0, .ref (r 56), .int 0, .int 0, .int 0]))] H := hP
  have hD : va_D A [(h, .inr (2, [.ref (r 0), .ref (r 1), .ref (r 2), .ref (r 3), .int 0, .int 0, .ref (r 6), .int 0, .int 0, .int (-1), .int 0, .int 0, .int (-1), .int 0, .int 0, .ref (r 15), .ref (r 16), .ref (r 17), .int 0, .int 0, .ref (r 20), .ref (r 21), .ref (r 22), .int 0, .int 0, .ref (r 25), .ref (r 26), .ref (r 27), .ref (r 28), .ref (r 29), .ref (r 30), .int 0, .ref (r 32), .ref (r 33), .ref (r 34), .ref (r 35), .ref (r 36), .ref (r 37), .ref (r 38), .ref (r 39), .ref (r 40), .ref (r 41), .ref (r 42), .int 0, .ref (r 44), .int 0, .int 0, .int 0, .int 0, .int 0, .ref (r 50), .ref (r 51), .ref (r 52), .int 0, .ref (r 54), .int 0, .ref (r 56), .int 0, .int 0, .int 0]))] := hD
  refine lv_aload_n hx hb d64_35 rfl (lv_at hl 0 rfl) ?_
  refine va_get (D := D) (ci := 2) (v := .int (-1)) (C := kR2) (T := kT2) (N := 60) hx hb hts ku2 hown hK hP 0 rfl rfl 9 (by decide) (hts _ ms_k1325) (fun _ h => h) rfl d64_36 ?_
  refine lv_if_ge hx hb d64_39 rfl (fun h9 => absurd h9 (by decide)) (fun _ => ?_)
  refine lv_aload_n hx hb d64_42 rfl (lv_at hl 0 rfl) ?_
  refine va_get (D := D) (ci := 2) (v := .int 0) (C := kR2) (T := kT2) (N := 60) hx hb hts ku2 hown hK hP 0 rfl rfl 8 (by decide) (hts _ ms_k1324) (fun _ h => h) rfl d64_43 ?_
  refine lv_aload_n hx hb d64_46 rfl (lv_at hl 0 rfl) ?_
  refine va_get (D := D) (ci := 2) (v := .int 0) (C := kR2) (T := kT2) (N := 60) hx hb hts ku2 hown hK hP 0 rfl rfl 7 (by decide) (hts _ ms_k1323) (fun _ h => h) rfl d64_47 ?_
  refine lv_icmp_ge hx hb d64_50 rfl (fun _ => ?_) (fun h9 => absurd (by decide) h9)
  refine lv_aload_n hx hb d64_246 rfl (lv_at hl 0 rfl) ?_
  refine va_get (D := D) (ci := 2) (v := .int 0) (C := kR2) (T := kT2) (N := 60) hx hb hts ku2 hown hK hP 0 rfl rfl 14 (by decide) (hts _ ms_k1330) (fun _ h => h) rfl d64_247 ?_
  refine lv_if_gt hx hb d64_250 rfl (fun h9 => absurd h9 (by decide)) (fun _ => ?_)
  refine lv_aload_n hx hb d64_253 rfl (lv_at hl 0 rfl) ?_
  refine va_get (D := D) (ci := 2) (v := .int 0) (C := kR2) (T := kT2) (N := 60) hx hb hts ku2 hown hK hP 0 rfl rfl 10 (by decide) (hts _ ms_k1326) (fun _ h => h) rfl d64_254 ?_
  refine lv_if_ne hx hb d64_257 rfl (fun h9 => absurd h9 (by decide)) (fun _ => ?_)
  refine lv_aload_n hx hb d64_260 rfl (lv_at hl 0 rfl) ?_
  refine lv_aload_n hx hb d64_261 rfl (lv_at hl 0 rfl) ?_
  refine va_get (D := D) (ci := 2) (v := .int 0) (C := kR2) (T := kT2) (N := 60) hx hb hts ku2 hown hK hP 0 rfl rfl 7 (by decide) (hts _ ms_k1323) (fun _ h => h) rfl d64_262 ?_
  refine ms_V (C := "MarkupStoreModel") (rest := []) (as := [.int 0]) (wr := []) X hl (c_merror l D dA s0 hE h r) (List.forall_mem_cons.mpr ⟨ms_k1520, List.forall_mem_cons.mpr ⟨ms_k1522, List.forall_mem_cons.mpr ⟨ms_p47, List.forall_mem_cons.mpr ⟨ms_k7, List.forall_mem_cons.mpr ⟨ms_k1523, fun _ h => absurd h List.not_mem_nil⟩⟩⟩⟩⟩) ⟨rfl, by decide +kernel, by decide +kernel, (by decide +kernel : (parseMethodDescriptor "(I)V").map (fun d => d.parameters.length) = some 1)⟩ (va_recv hK hP rfl (q0 := 0) rfl) hP hD hS [0] [] rfl rfl ⟨by decide, by decide, by decide⟩ ⟨⟨Nat.le_of_ble_eq_true rfl, Nat.le_of_ble_eq_true rfl⟩, Nat.le_of_ble_eq_true rfl, Nat.le_of_ble_eq_true rfl⟩ rfl (Nat.le_of_ble_eq_true rfl) d64_265 (fun vv ww H locs hR hP hD hS => ?_)
  obtain ⟨rfl, rfl⟩ := hR
  have hP : va_P D vwCl [(h, .inr (2, [.ref (r 0), .ref (r 1), .ref (r 2), .ref (r 3), .int 0, .int 0, .ref (r 6), .int 0, .int 0, .int 0, .int 0, .int 0, .int (-1), .int 0, .int 0, .ref (r 15), .ref (r 16), .ref (r 17), .int 0, .int 0, .ref (r 20), .ref (r 21), .ref (r 22), .int 0, .int 0, .ref (r 25), .ref (r 26), .ref (r 27), .ref (r 28), .ref (r 29), .ref (r 30), .int 0, .ref (r 32), .ref (r 33), .ref (r 34), .ref (r 35), .ref (r 36), .ref (r 37), .ref (r 38), .ref (r 39), .ref (r 40), .ref (r 41), .ref (r 42), .int 0, .ref (r 44), .int 0, .int 0, .int 0, .int 0, .int 0, .ref (r 50), .ref (r 51), .ref (r 52), .int 0, .ref (r 54), .int 0, .ref (r 56), .int 0, .int 0, .int 0]))] H := hP
  have hD : va_D A [(h, .inr (2, [.ref (r 0), .ref (r 1), .ref (r 2), .ref (r 3), .int 0, .int 0, .ref (r 6), .int 0, .int 0, .int 0, .int 0, .int 0, .int (-1), .int 0, .int 0, .ref (r 15), .ref (r 16), .ref (r 17), .int 0, .int 0, .ref (r 20), .ref (r 21), .ref (r 22), .int 0, .int 0, .ref (r 25), .ref (r 26), .ref (r 27), .ref (r 28), .ref (r 29), .ref (r 30), .int 0, .ref (r 32), .ref (r 33), .ref (r 34), .ref (r 35), .ref (r 36), .ref (r 37), .ref (r 38), .ref (r 39), .ref (r 40), .ref (r 41), .ref (r 42), .int 0, .ref (r 44), .int 0, .int 0, .int 0, .int 0, .int 0, .ref (r 50), .ref (r 51), .ref (r 52), .int 0, .ref (r 54), .int 0, .ref (r 56), .int 0, .int 0, .int 0]))] := hD
  refine W.eq (g2 := F0 m 268 ls []) rfl ?_
  exact ms_vret X d64_268 hP hD hS (Nat.le_of_ble_eq_true rfl) (Nat.le_of_ble_eq_true rfl) (⟨rfl, rfl⟩)

set_option maxRecDepth 100000 in
set_option maxHeartbeats 8000000 in
theorem c_loaded (l : Launch) (D : va_G) (dA : Nat → ClassId) (s0 : State) (hE : ms_EV D dA s0) (h : Nat) (r : Nat → Nat) : ms_C l D s0 yM65 bM65 2 (Option.some Jvm.ClassFile.FieldType.int) 2 45 0 0 [.ref h] [(h, .inr (2, [.ref (r 0), .ref (r 1), .ref (r 2), .ref (r 3), .int 0, .int 0, .ref (r 6), .int 0, .int 0, .int 0, .int 0, .int 0, .int 0, .int 0, .int 0, .ref (r 15), .ref (r 16), .ref (r 17), .int 0, .int 0, .ref (r 20), .ref (r 21), .ref (r 22), .int 0, .int 0, .ref (r 25), .ref (r 26), .ref (r 27), .ref (r 28), .ref (r 29), .ref (r 30), .int 0, .ref (r 32), .ref (r 33), .ref (r 34), .ref (r 35), .ref (r 36), .ref (r 37), .ref (r 38), .ref (r 39), .ref (r 40), .ref (r 41), .ref (r 42), .int 0, .ref (r 44), .int 0, .int 0, .int 0, .int 0, .int 0, .ref (r 50), .ref (r 51), .ref (r 52), .int 0, .ref (r 54), .int 0, .ref (r 56), .int 0, .int 0, .int 0]))] (fun vv ww => vv = some (.int (-1)) ∧ ww = [(h, .inr (2, [.ref (r 0), .ref (r 1), .ref (r 2), .ref (r 3), .int 0, .int 0, .ref (r 6), .int 0, .int 0, .int 0, .int 0, .int 0, .int (-1), .int 0, .int 0, .ref (r 15), .ref (r 16), .ref (r 17), .int 0, .int 0, .ref (r 20), .ref (r 21), .ref (r 22), .int 0, .int 0, .ref (r 25), .ref (r 26), .ref (r 27), .ref (r 28), .ref (r 29), .ref (r 30), .int 0, .ref (r 32), .ref (r 33), .ref (r 34), .ref (r 35), .ref (r 36), .ref (r 37), .ref (r 38), .ref (r 39), .ref (r 40), .ref (r 41), .ref (r 42), .int 0, .ref (r 44), .int 0, .int 0, .int 0, .int 0, .int 0, .ref (r 50), .ref (r 51), .ref (r 52), .int 0, .ref (r 54), .int 0, .ref (r 56), .int 0, .int 0, .int 0]))]) := by
  refine ms_C.mk hE.1 (by decide) (Nat.le_of_ble_eq_true rfl) [(0, .ref h)] rfl ?_
  intro p e s m below meth c A ls X hin hP hD hS hl
  have hx := X.1
  have hb := X.2.1
  have hml := X.2.2.1
  have hown : s.vm.findClass "MarkupStoreModel" = some m.cls := X.2.2.2.1
  have hts := X.2.2.2.2.2.2.1
  have hK := X.2.2.2.2.2.2.2.2.1
  have hA := X.2.2.2.2.2.2.2.2.2.2
  refine lv_aload_n hx hb d65_0 rfl (lv_at hl 0 rfl) ?_
  refine lv_iconst (v := 1) hx hb d65_1 (by decide) ?_
  refine lv_iconst (v := 0) hx hb d65_2 (by decide) ?_
  refine ms_V (C := "MarkupStoreModel") (rest := []) (as := [.int 1, .int 0]) (wr := []) X hl (c_parse l D dA s0 hE h r) (List.forall_mem_cons.mpr ⟨ms_k1512, List.forall_mem_cons.mpr ⟨ms_k1514, List.forall_mem_cons.mpr ⟨ms_p45, List.forall_mem_cons.mpr ⟨ms_k7, List.forall_mem_cons.mpr ⟨ms_k1515, fun _ h => absurd h List.not_mem_nil⟩⟩⟩⟩⟩) ⟨rfl, by decide +kernel, by decide +kernel, (by decide +kernel : (parseMethodDescriptor "(ZI)V").map (fun d => d.parameters.length) = some 2)⟩ (va_recv hK hP rfl (q0 := 0) rfl) hP hD hS [0] [] rfl rfl ⟨by decide, by decide, by decide⟩ ⟨⟨Nat.le_of_ble_eq_true rfl, Nat.le_of_ble_eq_true rfl⟩, Nat.le_of_ble_eq_true rfl, Nat.le_of_ble_eq_true rfl⟩ rfl (Nat.le_of_ble_eq_true rfl) d65_3 (fun vv ww H locs hR hP hD hS => ?_)
  obtain ⟨rfl, rfl⟩ := hR
  have hP : va_P D vwCl [(h, .inr (2, [.ref (r 0), .ref (r 1), .ref (r 2), .ref (r 3), .int 0, .int 0, .ref (r 6), .int 0, .int 0, .int 0, .int 0, .int 0, .int (-1), .int 0, .int 0, .ref (r 15), .ref (r 16), .ref (r 17), .int 0, .int 0, .ref (r 20), .ref (r 21), .ref (r 22), .int 0, .int 0, .ref (r 25), .ref (r 26), .ref (r 27), .ref (r 28), .ref (r 29), .ref (r 30), .int 0, .ref (r 32), .ref (r 33), .ref (r 34), .ref (r 35), .ref (r 36), .ref (r 37), .ref (r 38), .ref (r 39), .ref (r 40), .ref (r 41), .ref (r 42), .int 0, .ref (r 44), .int 0, .int 0, .int 0, .int 0, .int 0, .ref (r 50), .ref (r 51), .ref (r 52), .int 0, .ref (r 54), .int 0, .ref (r 56), .int 0, .int 0, .int 0]))] H := hP
  have hD : va_D A [(h, .inr (2, [.ref (r 0), .ref (r 1), .ref (r 2), .ref (r 3), .int 0, .int 0, .ref (r 6), .int 0, .int 0, .int 0, .int 0, .int 0, .int (-1), .int 0, .int 0, .ref (r 15), .ref (r 16), .ref (r 17), .int 0, .int 0, .ref (r 20), .ref (r 21), .ref (r 22), .int 0, .int 0, .ref (r 25), .ref (r 26), .ref (r 27), .ref (r 28), .ref (r 29), .ref (r 30), .int 0, .ref (r 32), .ref (r 33), .ref (r 34), .ref (r 35), .ref (r 36), .ref (r 37), .ref (r 38), .ref (r 39), .ref (r 40), .ref (r 41), .ref (r 42), .int 0, .ref (r 44), .int 0, .int 0, .int 0, .int 0, .int 0, .ref (r 50), .ref (r 51), .ref (r 52), .int 0, .ref (r 54), .int 0, .ref (r 56), .int 0, .int 0, .int 0]))] := hD
  refine W.eq (g2 := F0 m 6 ls []) rfl ?_
  refine lv_aload_n hx hb d65_6 rfl (lv_at hl 0 rfl) ?_
  refine va_get (D := D) (ci := 2) (v := .int 0) (C := kR2) (T := kT2) (N := 60) hx hb hts ku2 hown hK hP 0 rfl rfl 9 (by decide) (hts _ ms_k1325) (fun _ h => h) rfl d65_7 ?_
  refine lv_if_lt hx hb d65_10 rfl (fun h9 => absurd h9 (by decide)) (fun _ => ?_)
  refine lv_iconst (v := (-1)) hx hb d65_13 (by decide) ?_
  refine lv_aload_n hx hb d65_14 rfl (lv_at hl 0 rfl) ?_
  refine va_get (D := D) (ci := 2) (v := .int 0) (C := kR2) (T := kT2) (N := 60) hx hb hts ku2 hown hK hP 0 rfl rfl 9 (by decide) (hts _ ms_k1325) (fun _ h => h) rfl d65_15 ?_
  refine lv_isub hx hb d65_18 ?_
  refine ms_top (y := (-1)) (by decide) ?_
  exact ms_iret X d65_19 hP hD hS (Nat.le_of_ble_eq_true rfl) (Nat.le_of_ble_eq_true rfl) (⟨rfl, rfl⟩)

set_option maxRecDepth 100000 in
set_option maxHeartbeats 8000000 in
theorem c_mload (l : Launch) (D : va_G) (dA : Nat → ClassId) (s0 : State) (hE : ms_EV D dA s0) (h : Nat) (r : Nat → Nat) : ms_C l D s0 yM66 bM66 2 (Option.some Jvm.ClassFile.FieldType.int) 3 66 0 0 [.ref h] [(h, .inr (2, [.ref (r 0), .ref (r 1), .ref (r 2), .ref (r 3), .int 0, .int 0, .ref (r 6), .int 0, .int 0, .int 0, .int 0, .int 0, .int 0, .int 0, .int 0, .ref (r 15), .ref (r 16), .ref (r 17), .int 0, .int 0, .ref (r 20), .ref (r 21), .ref (r 22), .int 0, .int 0, .ref (r 25), .ref (r 26), .ref (r 27), .ref (r 28), .ref (r 29), .ref (r 30), .int 0, .ref (r 32), .ref (r 33), .ref (r 34), .ref (r 35), .ref (r 36), .ref (r 37), .ref (r 38), .ref (r 39), .ref (r 40), .ref (r 41), .ref (r 42), .int 0, .ref (r 44), .int 0, .int 0, .int 0, .int 0, .int 0, .ref (r 50), .ref (r 51), .ref (r 52), .int 0, .ref (r 54), .int 0, .ref (r 56), .int 0, .int 0, .int 0]))] (fun vv _ => vv = some (.int (-1))) := by
  refine ms_C.mk hE.1 (by decide) (Nat.le_of_ble_eq_true rfl) [(0, .ref h)] rfl ?_
  intro p e s m below meth c A ls X hin hP hD hS hl
  have hx := X.1
  have hb := X.2.1
  have hml := X.2.2.1
  have hown : s.vm.findClass "MarkupStoreModel" = some m.cls := X.2.2.2.1
  have hts := X.2.2.2.2.2.2.1
  have hK := X.2.2.2.2.2.2.2.2.1
  have hA := X.2.2.2.2.2.2.2.2.2.2
  refine lv_aload_n hx hb d66_0 rfl (lv_at hl 0 rfl) ?_
  refine ms_V (C := "MarkupStoreModel") (rest := []) (as := []) (wr := []) X hl (c_loaded l D dA s0 hE h r) (List.forall_mem_cons.mpr ⟨ms_k1508, List.forall_mem_cons.mpr ⟨ms_k1510, List.forall_mem_cons.mpr ⟨ms_p44, List.forall_mem_cons.mpr ⟨ms_k7, List.forall_mem_cons.mpr ⟨ms_k1511, fun _ h => absurd h List.not_mem_nil⟩⟩⟩⟩⟩) ⟨rfl, by decide +kernel, by decide +kernel, (by decide +kernel : (parseMethodDescriptor "()I").map (fun d => d.parameters.length) = some 0)⟩ (va_recv hK hP rfl (q0 := 0) rfl) hP hD hS [0] [] rfl rfl ⟨by decide, by decide, by decide⟩ ⟨⟨Nat.le_of_ble_eq_true rfl, Nat.le_of_ble_eq_true rfl⟩, Nat.le_of_ble_eq_true rfl, Nat.le_of_ble_eq_true rfl⟩ rfl (Nat.le_of_ble_eq_true rfl) d66_1 (fun vv ww H locs hR hP hD hS => ?_)
  obtain ⟨rfl, rfl⟩ := hR
  have hP : va_P D vwCl [(h, .inr (2, [.ref (r 0), .ref (r 1), .ref (r 2), .ref (r 3), .int 0, .int 0, .ref (r 6), .int 0, .int 0, .int 0, .int 0, .int 0, .int (-1), .int 0, .int 0, .ref (r 15), .ref (r 16), .ref (r 17), .int 0, .int 0, .ref (r 20), .ref (r 21), .ref (r 22), .int 0, .int 0, .ref (r 25), .ref (r 26), .ref (r 27), .ref (r 28), .ref (r 29), .ref (r 30), .int 0, .ref (r 32), .ref (r 33), .ref (r 34), .ref (r 35), .ref (r 36), .ref (r 37), .ref (r 38), .ref (r 39), .ref (r 40), .ref (r 41), .ref (r 42), .int 0, .ref (r 44), .int 0, .int 0, .int 0, .int 0, .int 0, .ref (r 50), .ref (r 51), .ref (r 52), .int 0, .ref (r 54), .int 0, .ref (r 56), .int 0, .int 0, .int 0]))] H := hP
  have hD : va_D A [(h, .inr (2, [.ref (r 0), .ref (r 1), .ref (r 2), .ref (r 3), .int 0, .int 0, .ref (r 6), .int 0, .int 0, .int 0, .int 0, .int 0, .int (-1), .int 0, .int 0, .ref (r 15), .ref (r 16), .ref (r 17), .int 0, .int 0, .ref (r 20), .ref (r 21), .ref (r 22), .int 0, .int 0, .ref (r 25), .ref (r 26), .ref (r 27), .ref (r 28), .ref (r 29), .ref (r 30), .int 0, .ref (r 32), .ref (r 33), .ref (r 34), .ref (r 35), .ref (r 36), .ref (r 37), .ref (r 38), .ref (r 39), .ref (r 40), .ref (r 41), .ref (r 42), .int 0, .ref (r 44), .int 0, .int 0, .int 0, .int 0, .int 0, .ref (r 50), .ref (r 51), .ref (r 52), .int 0, .ref (r 54), .int 0, .ref (r 56), .int 0, .int 0, .int 0]))] := hD
  refine W.eq (g2 := F0 m 4 ls [.int (-1)]) rfl ?_
  refine lv_istore_n hx hb d66_4 rfl hl (by decide) rfl (fun ls hl => ?_)
  have hl : lv_has ls 2 [(1, .int (-1)), (0, .ref h)] := hl
  refine lv_aload_n hx hb d66_5 rfl (lv_at hl 1 rfl) ?_
  refine lv_iconst (v := 0) hx hb d66_6 (by decide) ?_
  refine va_put (D := D) (ci := 2) (v := .int 0) (ty := .int) (C := kR2) (T := kT2) (N := 60) hx hb hts ku2 kt2 kp2 kn2 hown hK hP hD hS 0 rfl rfl 7 (by decide) (hts _ ms_k1323) (fun _ h => h) rfl (by decide +kernel) rfl rfl (Nat.le_of_ble_eq_true rfl) d66_7 (fun H locs hP hD hS => ?_)
  have hP : va_P D vwCl [(h, .inr (2, [.ref (r 0), .ref (r 1), .ref (r 2), .ref (r 3), .int 0, .int 0, .ref (r 6), .int 0, .int 0, .int 0, .int 0, .int 0, .int (-1), .int 0, .int 0, .ref (r 15), .ref (r 16), .ref (r 17), .int 0, .int 0, .ref (r 20), .ref (r 21), .ref (r 22), .int 0, .int 0, .ref (r 25), .ref (r 26), .ref (r 27), .ref (r 28), .ref (r 29), .ref (r 30), .int 0, .ref (r 32), .ref (r 33), .ref (r 34), .ref (r 35), .ref (r 36), .ref (r 37), .ref (r 38), .ref (r 39), .ref (r 40), .ref (r 41), .ref (r 42), .int 0, .ref (r 44), .int 0, .int 0, .int 0, .int 0, .int 0, .ref (r 50), .ref (r 51), .ref (r 52), .int 0, .ref (r 54), .int 0, .ref (r 56), .int 0, .int 0, .int 0]))] H := hP
  have hD : va_D A [(h, .inr (2, [.ref (r 0), .ref (r 1), .ref (r 2), .ref (r 3), .int 0, .int 0, .ref (r 6), .int 0, .int 0, .int 0, .int 0, .int 0, .int (-1), .int 0, .int 0, .ref (r 15), .ref (r 16), .ref (r 17), .int 0, .int 0, .ref (r 20), .ref (r 21), .ref (r 22), .int 0, .int 0, .ref (r 25), .ref (r 26), .ref (r 27), .ref (r 28), .ref (r 29), .ref (r 30), .int 0, .ref (r 32), .ref (r 33), .ref (r 34), .ref (r 35), .ref (r 36), .ref (r 37), .ref (r 38), .ref (r 39), .ref (r 40), .ref (r 41), .ref (r 42), .int 0, .ref (r 44), .int 0, .int 0, .int 0, .int 0, .int 0, .ref (r 50), .ref (r 51), .ref (r 52), .int 0, .ref (r 54), .int 0, .ref (r 56), .int 0, .int 0, .int 0]))] := hD
  refine lv_iload_n hx hb d66_10 rfl (lv_at hl 0 rfl) ?_
  exact ms_iret X d66_11 hP hD hS (Nat.le_of_ble_eq_true rfl) (Nat.le_of_ble_eq_true rfl) rfl

set_option maxRecDepth 100000 in
set_option maxHeartbeats 8000000 in
theorem c_minsert (l : Launch) (D : va_G) (dA : Nat → ClassId) (s0 : State) (hE : ms_EV D dA s0) (h : Nat) (r : Nat → Nat) (i : Int32) (j : Int32) : ms_C l D s0 yM67 bM67 5 (Option.some Jvm.ClassFile.FieldType.int) 2 42 0 0 [.ref h, .int i, .int j] [(h, .inr (2, [.ref (r 0), .ref (r 1), .ref (r 2), .ref (r 3), .int 0, .int 0, .ref (r 6), .int 0, .int 0, .int 0, .int 0, .int 0, .int 0, .int 0, .int 0, .ref (r 15), .ref (r 16), .ref (r 17), .int 0, .int 0, .ref (r 20), .ref (r 21), .ref (r 22), .int 0, .int 0, .ref (r 25), .ref (r 26), .ref (r 27), .ref (r 28), .ref (r 29), .ref (r 30), .int 0, .ref (r 32), .ref (r 33), .ref (r 34), .ref (r 35), .ref (r 36), .ref (r 37), .ref (r 38), .ref (r 39), .ref (r 40), .ref (r 41), .ref (r 42), .int 0, .ref (r 44), .int 0, .int 0, .int 0, .int 0, .int 0, .ref (r 50), .ref (r 51), .ref (r 52), .int 0, .ref (r 54), .int 0, .ref (r 56), .int 0, .int 0, .int 0])), ((r 0), .inl (dA 0, 5161, .inl (fun _ => 0)))] (fun vv _ => vv = some (.int (-1000))) := by
  refine ms_C.mk hE.1 (by decide) (Nat.le_of_ble_eq_true rfl) [(0, .ref h), (1, .int i), (2, .int j)] rfl ?_
  intro p e s m below meth c A ls X hin hP hD hS hl
  have hx := X.1
  have hb := X.2.1
  have hml := X.2.2.1
  have hown : s.vm.findClass "MarkupStoreModel" = some m.cls := X.2.2.2.1
  have hts := X.2.2.2.2.2.2.1
  have hK := X.2.2.2.2.2.2.2.2.1
  have hA := X.2.2.2.2.2.2.2.2.2.2
  refine lv_aload_n hx hb d67_0 rfl (lv_at hl 0 rfl) ?_
  refine lv_iload_n hx hb d67_1 rfl (lv_at hl 1 rfl) ?_
  refine ms_V (C := "MarkupStoreModel") (rest := []) (as := [.int i]) (wr := []) X hl (c_place l D dA s0 hE h r i) (List.forall_mem_cons.mpr ⟨ms_k1603, List.forall_mem_cons.mpr ⟨ms_k1605, List.forall_mem_cons.mpr ⟨ms_p66, List.forall_mem_cons.mpr ⟨ms_k7, List.forall_mem_cons.mpr ⟨ms_k1606, fun _ h => absurd h List.not_mem_nil⟩⟩⟩⟩⟩) ⟨rfl, by decide +kernel, by decide +kernel, (by decide +kernel : (parseMethodDescriptor "(I)I").map (fun d => d.parameters.length) = some 1)⟩ (va_recv hK hP rfl (q0 := 0) rfl) hP hD hS [0, 1] [] rfl rfl ⟨by decide, by decide, by decide⟩ ⟨⟨Nat.le_of_ble_eq_true rfl, Nat.le_of_ble_eq_true rfl⟩, Nat.le_of_ble_eq_true rfl, Nat.le_of_ble_eq_true rfl⟩ rfl (Nat.le_of_ble_eq_true rfl) d67_2 (fun vv ww H locs hR hP hD hS => ?_)
  obtain ⟨rfl, rfl⟩ := hR
  have hP : va_P D vwCl [(h, .inr (2, [.ref (r 0), .ref (r 1), .ref (r 2), .ref (r 3), .int 0, .int 0, .ref (r 6), .int 0, .int 0, .int 0, .int 0, .int 0, .int 0, .int 0, .int 0, .ref (r 15), .ref (r 16), .ref (r 17), .int 0, .int 0, .ref (r 20), .ref (r 21), .ref (r 22), .int 0, .int 0, .ref (r 25), .ref (r 26), .ref (r 27), .ref (r 28), .ref (r 29), .ref (r 30), .int 0, .ref (r 32), .ref (r 33), .ref (r 34), .ref (r 35), .ref (r 36), .ref (r 37), .ref (r 38), .ref (r 39), .ref (r 40), .ref (r 41), .ref (r 42), .int 0, .ref (r 44), .int 0, .int 0, .int 0, .int 0, .int 0, .ref (r 50), .ref (r 51), .ref (r 52), .int 0, .ref (r 54), .int 0, .ref (r 56), .int 0, .int 0, .int 0])), ((r 0), .inl (dA 0, 5161, .inl (fun _ => 0)))] H := hP
  have hD : va_D A [(h, .inr (2, [.ref (r 0), .ref (r 1), .ref (r 2), .ref (r 3), .int 0, .int 0, .ref (r 6), .int 0, .int 0, .int 0, .int 0, .int 0, .int 0, .int 0, .int 0, .ref (r 15), .ref (r 16), .ref (r 17), .int 0, .int 0, .ref (r 20), .ref (r 21), .ref (r 22), .int 0, .int 0, .ref (r 25), .ref (r 26), .ref (r 27), .ref (r 28), .ref (r 29), .ref (r 30), .int 0, .ref (r 32), .ref (r 33), .ref (r 34), .ref (r 35), .ref (r 36), .ref (r 37), .ref (r 38), .ref (r 39), .ref (r 40), .ref (r 41), .ref (r 42), .int 0, .ref (r 44), .int 0, .int 0, .int 0, .int 0, .int 0, .ref (r 50), .ref (r 51), .ref (r 52), .int 0, .ref (r 54), .int 0, .ref (r 56), .int 0, .int 0, .int 0])), ((r 0), .inl (dA 0, 5161, .inl (fun _ => 0)))] := hD
  refine W.eq (g2 := F0 m 5 ls [.int (-1)]) rfl ?_
  refine lv_istore_n hx hb d67_5 rfl hl (by decide) rfl (fun ls hl => ?_)
  have hl : lv_has ls 5 [(3, .int (-1)), (0, .ref h), (1, .int i), (2, .int j)] := hl
  refine lv_iload_n hx hb d67_6 rfl (lv_at hl 0 rfl) ?_
  refine lv_if_ge hx hb d67_7 rfl (fun h9 => absurd h9 (by decide)) (fun _ => ?_)
  refine lv_sipush (v := (-1000)) hx hb d67_10 (by decide) ?_
  refine lv_goto hx hb d67_13 rfl ?_
  refine lv_istore hx hb d67_22 hl (by decide) rfl (fun ls hl => ?_)
  have hl : lv_has ls 5 [(4, .int (-1000)), (3, .int (-1)), (0, .ref h), (1, .int i), (2, .int j)] := hl
  refine lv_aload_n hx hb d67_24 rfl (lv_at hl 2 rfl) ?_
  refine lv_iconst (v := 0) hx hb d67_25 (by decide) ?_
  refine va_put (D := D) (ci := 2) (v := .int 0) (ty := .int) (C := kR2) (T := kT2) (N := 60) hx hb hts ku2 kt2 kp2 kn2 hown hK hP hD hS 0 rfl rfl 7 (by decide) (hts _ ms_k1323) (fun _ h => h) rfl (by decide +kernel) rfl rfl (Nat.le_of_ble_eq_true rfl) d67_26 (fun H locs hP hD hS => ?_)
  have hP : va_P D vwCl [(h, .inr (2, [.ref (r 0), .ref (r 1), .ref (r 2), .ref (r 3), .int 0, .int 0, .ref (r 6), .int 0, .int 0, .int 0, .int 0, .int 0, .int 0, .int 0, .int 0, .ref (r 15), .ref (r 16), .ref (r 17), .int 0, .int 0, .ref (r 20), .ref (r 21), .ref (r 22), .int 0, .int 0, .ref (r 25), .ref (r 26), .ref (r 27), .ref (r 28), .ref (r 29), .ref (r 30), .int 0, .ref (r 32), .ref (r 33), .ref (r 34), .ref (r 35), .ref (r 36), .ref (r 37), .ref (r 38), .ref (r 39), .ref (r 40), .ref (r 41), .ref (r 42), .int 0, .ref (r 44), .int 0, .int 0, .int 0, .int 0, .int 0, .ref (r 50), .ref (r 51), .ref (r 52), .int 0, .ref (r 54), .int 0, .ref (r 56), .int 0, .int 0, .int 0])), ((r 0), .inl (dA 0, 5161, .inl (fun _ => 0)))] H := hP
  have hD : va_D A [(h, .inr (2, [.ref (r 0), .ref (r 1), .ref (r 2), .ref (r 3), .int 0, .int 0, .ref (r 6), .int 0, .int 0, .int 0, .int 0, .int 0, .int 0, .int 0, .int 0, .ref (r 15), .ref (r 16), .ref (r 17), .int 0, .int 0, .ref (r 20), .ref (r 21), .ref (r 22), .int 0, .int 0, .ref (r 25), .ref (r 26), .ref (r 27), .ref (r 28), .ref (r 29), .ref (r 30), .int 0, .ref (r 32), .ref (r 33), .ref (r 34), .ref (r 35), .ref (r 36), .ref (r 37), .ref (r 38), .ref (r 39), .ref (r 40), .ref (r 41), .ref (r 42), .int 0, .ref (r 44), .int 0, .int 0, .int 0, .int 0, .int 0, .ref (r 50), .ref (r 51), .ref (r 52), .int 0, .ref (r 54), .int 0, .ref (r 56), .int 0, .int 0, .int 0])), ((r 0), .inl (dA 0, 5161, .inl (fun _ => 0)))] := hD
  refine lv_iload hx hb d67_29 (lv_at hl 0 rfl) ?_
  exact ms_iret X d67_31 hP hD hS (Nat.le_of_ble_eq_true rfl) (Nat.le_of_ble_eq_true rfl) rfl

set_option maxRecDepth 100000 in
set_option maxHeartbeats 8000000 in
theorem c_mremove (l : Launch) (D : va_G) (dA : Nat → ClassId) (s0 : State) (hE : ms_EV D dA s0) (h : Nat) (r : Nat → Nat) (i : Int32) : ms_C l D s0 yM68 bM68 11 (Option.some Jvm.ClassFile.FieldType.int) 2 42 0 0 [.ref h, .int i] [(h, .inr (2, [.ref (r 0), .ref (r 1), .ref (r 2), .ref (r 3), .int 0, .int 0, .ref (r 6), .int 0, .int 0, .int 0, .int 0, .int 0, .int 0, .int 0, .int 0, .ref (r 15), .ref (r 16), .ref (r 17), .int 0, .int 0, .ref (r 20), .ref (r 21), .ref (r 22), .int 0, .int 0, .ref (r 25), .ref (r 26), .ref (r 27), .ref (r 28), .ref (r 29), .ref (r 30), .int 0, .ref (r 32), .ref (r 33), .ref (r 34), .ref (r 35), .ref (r 36), .ref (r 37), .ref (r 38), .ref (r 39), .ref (r 40), .ref (r 41), .ref (r 42), .int 0, .ref (r 44), .int 0, .int 0, .int 0, .int 0, .int 0, .ref (r 50), .ref (r 51), .ref (r 52), .int 0, .ref (r 54), .int 0, .ref (r 56), .int 0, .int 0, .int 0])), ((r 0), .inl (dA 0, 5161, .inl (fun _ => 0)))] (fun vv _ => vv = some (.int (-1000))) := by
  refine ms_C.mk hE.1 (by decide) (Nat.le_of_ble_eq_true rfl) [(0, .ref h), (1, .int i)] rfl ?_
  intro p e s m below meth c A ls X hin hP hD hS hl
  have hx := X.1
  have hb := X.2.1
  have hml := X.2.2.1
  have hown : s.vm.findClass "MarkupStoreModel" = some m.cls := X.2.2.2.1
  have hts := X.2.2.2.2.2.2.1
  have hK := X.2.2.2.2.2.2.2.2.1
  have hA := X.2.2.2.2.2.2.2.2.2.2
  refine lv_aload_n hx hb d68_0 rfl (lv_at hl 0 rfl) ?_
  refine lv_iload_n hx hb d68_1 rfl (lv_at hl 1 rfl) ?_
  refine ms_V (C := "MarkupStoreModel") (rest := []) (as := [.int i]) (wr := []) X hl (c_place l D dA s0 hE h r i) (List.forall_mem_cons.mpr ⟨ms_k1603, List.forall_mem_cons.mpr ⟨ms_k1605, List.forall_mem_cons.mpr ⟨ms_p66, List.forall_mem_cons.mpr ⟨ms_k7, List.forall_mem_cons.mpr ⟨ms_k1606, fun _ h => absurd h List.not_mem_nil⟩⟩⟩⟩⟩) ⟨rfl, by decide +kernel, by decide +kernel, (by decide +kernel : (parseMethodDescriptor "(I)I").map (fun d => d.parameters.length) = some 1)⟩ (va_recv hK hP rfl (q0 := 0) rfl) hP hD hS [0, 1] [] rfl rfl ⟨by decide, by decide, by decide⟩ ⟨⟨Nat.le_of_ble_eq_true rfl, Nat.le_of_ble_eq_true rfl⟩, Nat.le_of_ble_eq_true rfl, Nat.le_of_ble_eq_true rfl⟩ rfl (Nat.le_of_ble_eq_true rfl) d68_2 (fun vv ww H locs hR hP hD hS => ?_)
  obtain ⟨rfl, rfl⟩ := hR
  have hP : va_P D vwCl [(h, .inr (2, [.ref (r 0), .ref (r 1), .ref (r 2), .ref (r 3), .int 0, .int 0, .ref (r 6), .int 0, .int 0, .int 0, .int 0, .int 0, .int 0, .int 0, .int 0, .ref (r 15), .ref (r 16), .ref (r 17), .int 0, .int 0, .ref (r 20), .ref (r 21), .ref (r 22), .int 0, .int 0, .ref (r 25), .ref (r 26), .ref (r 27), .ref (r 28), .ref (r 29), .ref (r 30), .int 0, .ref (r 32), .ref (r 33), .ref (r 34), .ref (r 35), .ref (r 36), .ref (r 37), .ref (r 38), .ref (r 39), .ref (r 40), .ref (r 41), .ref (r 42), .int 0, .ref (r 44), .int 0, .int 0, .int 0, .int 0, .int 0, .ref (r 50), .ref (r 51), .ref (r 52), .int 0, .ref (r 54), .int 0, .ref (r 56), .int 0, .int 0, .int 0])), ((r 0), .inl (dA 0, 5161, .inl (fun _ => 0)))] H := hP
  have hD : va_D A [(h, .inr (2, [.ref (r 0), .ref (r 1), .ref (r 2), .ref (r 3), .int 0, .int 0, .ref (r 6), .int 0, .int 0, .int 0, .int 0, .int 0, .int 0, .int 0, .int 0, .ref (r 15), .ref (r 16), .ref (r 17), .int 0, .int 0, .ref (r 20), .ref (r 21), .ref (r 22), .int 0, .int 0, .ref (r 25), .ref (r 26), .ref (r 27), .ref (r 28), .ref (r 29), .ref (r 30), .int 0, .ref (r 32), .ref (r 33), .ref (r 34), .ref (r 35), .ref (r 36), .ref (r 37), .ref (r 38), .ref (r 39), .ref (r 40), .ref (r 41), .ref (r 42), .int 0, .ref (r 44), .int 0, .int 0, .int 0, .int 0, .int 0, .ref (r 50), .ref (r 51), .ref (r 52), .int 0, .ref (r 54), .int 0, .ref (r 56), .int 0, .int 0, .int 0])), ((r 0), .inl (dA 0, 5161, .inl (fun _ => 0)))] := hD
  refine W.eq (g2 := F0 m 5 ls [.int (-1)]) rfl ?_
  refine lv_istore_n hx hb d68_5 rfl hl (by decide) rfl (fun ls hl => ?_)
  have hl : lv_has ls 11 [(2, .int (-1)), (0, .ref h), (1, .int i)] := hl
  refine lv_iload_n hx hb d68_6 rfl (lv_at hl 0 rfl) ?_
  refine lv_if_lt hx hb d68_7 rfl (fun _ => ?_) (fun h9 => absurd (by decide) h9)
  refine lv_iload_n hx hb d68_19 rfl (lv_at hl 0 rfl) ?_
  refine lv_if_ge hx hb d68_20 rfl (fun h9 => absurd h9 (by decide)) (fun _ => ?_)
  refine lv_sipush (v := (-1000)) hx hb d68_23 (by decide) ?_
  refine lv_goto hx hb d68_26 rfl ?_
  exact ms_iret X d68_32 hP hD hS (Nat.le_of_ble_eq_true rfl) (Nat.le_of_ble_eq_true rfl) rfl

set_option maxRecDepth 100000 in
set_option maxHeartbeats 8000000 in
theorem c_mreplace (l : Launch) (D : va_G) (dA : Nat → ClassId) (s0 : State) (hE : ms_EV D dA s0) (h : Nat) (r : Nat → Nat) (i : Int32) : ms_C l D s0 yM69 bM69 5 (Option.some Jvm.ClassFile.FieldType.boolean) 2 42 0 0 [.ref h, .int i] [(h, .inr (2, [.ref (r 0), .ref (r 1), .ref (r 2), .ref (r 3), .int 0, .int 0, .ref (r 6), .int 0, .int 0, .int 0, .int 0, .int 0, .int 0, .int 0, .int 0, .ref (r 15), .ref (r 16), .ref (r 17), .int 0, .int 0, .ref (r 20), .ref (r 21), .ref (r 22), .int 0, .int 0, .ref (r 25), .ref (r 26), .ref (r 27), .ref (r 28), .ref (r 29), .ref (r 30), .int 0, .ref (r 32), .ref (r 33), .ref (r 34), .ref (r 35), .ref (r 36), .ref (r 37), .ref (r 38), .ref (r 39), .ref (r 40), .ref (r 41), .ref (r 42), .int 0, .ref (r 44), .int 0, .int 0, .int 0, .int 0, .int 0, .ref (r 50), .ref (r 51), .ref (r 52), .int 0, .ref (r 54), .int 0, .ref (r 56), .int 0, .int 0, .int 0])), ((r 0), .inl (dA 0, 5161, .inl (fun _ => 0)))] (fun vv _ => vv = some (.int 0)) := by
  refine ms_C.mk hE.1 (by decide) (Nat.le_of_ble_eq_true rfl) [(0, .ref h), (1, .int i)] rfl ?_
  intro p e s m below meth c A ls X hin hP hD hS hl
  have hx := X.1
  have hb := X.2.1
  have hml := X.2.2.1
  have hown : s.vm.findClass "MarkupStoreModel" = some m.cls := X.2.2.2.1
  have hts := X.2.2.2.2.2.2.1
  have hK := X.2.2.2.2.2.2.2.2.1
  have hA := X.2.2.2.2.2.2.2.2.2.2
  refine lv_aload_n hx hb d69_0 rfl (lv_at hl 0 rfl) ?_
  refine lv_iload_n hx hb d69_1 rfl (lv_at hl 1 rfl) ?_
  refine ms_V (C := "MarkupStoreModel") (rest := []) (as := [.int i]) (wr := []) X hl (c_place l D dA s0 hE h r i) (List.forall_mem_cons.mpr ⟨ms_k1603, List.forall_mem_cons.mpr ⟨ms_k1605, List.forall_mem_cons.mpr ⟨ms_p66, List.forall_mem_cons.mpr ⟨ms_k7, List.forall_mem_cons.mpr ⟨ms_k1606, fun _ h => absurd h List.not_mem_nil⟩⟩⟩⟩⟩) ⟨rfl, by decide +kernel, by decide +kernel, (by decide +kernel : (parseMethodDescriptor "(I)I").map (fun d => d.parameters.length) = some 1)⟩ (va_recv hK hP rfl (q0 := 0) rfl) hP hD hS [0, 1] [] rfl rfl ⟨by decide, by decide, by decide⟩ ⟨⟨Nat.le_of_ble_eq_true rfl, Nat.le_of_ble_eq_true rfl⟩, Nat.le_of_ble_eq_true rfl, Nat.le_of_ble_eq_true rfl⟩ rfl (Nat.le_of_ble_eq_true rfl) d69_2 (fun vv ww H locs hR hP hD hS => ?_)
  obtain ⟨rfl, rfl⟩ := hR
  have hP : va_P D vwCl [(h, .inr (2, [.ref (r 0), .ref (r 1), .ref (r 2), .ref (r 3), .int 0, .int 0, .ref (r 6), .int 0, .int 0, .int 0, .int 0, .int 0, .int 0, .int 0, .int 0, .ref (r 15), .ref (r 16), .ref (r 17), .int 0, .int 0, .ref (r 20), .ref (r 21), .ref (r 22), .int 0, .int 0, .ref (r 25), .ref (r 26), .ref (r 27), .ref (r 28), .ref (r 29), .ref (r 30), .int 0, .ref (r 32), .ref (r 33), .ref (r 34), .ref (r 35), .ref (r 36), .ref (r 37), .ref (r 38), .ref (r 39), .ref (r 40), .ref (r 41), .ref (r 42), .int 0, .ref (r 44), .int 0, .int 0, .int 0, .int 0, .int 0, .ref (r 50), .ref (r 51), .ref (r 52), .int 0, .ref (r 54), .int 0, .ref (r 56), .int 0, .int 0, .int 0])), ((r 0), .inl (dA 0, 5161, .inl (fun _ => 0)))] H := hP
  have hD : va_D A [(h, .inr (2, [.ref (r 0), .ref (r 1), .ref (r 2), .ref (r 3), .int 0, .int 0, .ref (r 6), .int 0, .int 0, .int 0, .int 0, .int 0, .int 0, .int 0, .int 0, .ref (r 15), .ref (r 16), .ref (r 17), .int 0, .int 0, .ref (r 20), .ref (r 21), .ref (r 22), .int 0, .int 0, .ref (r 25), .ref (r 26), .ref (r 27), .ref (r 28), .ref (r 29), .ref (r 30), .int 0, .ref (r 32), .ref (r 33), .ref (r 34), .ref (r 35), .ref (r 36), .ref (r 37), .ref (r 38), .ref (r 39), .ref (r 40), .ref (r 41), .ref (r 42), .int 0, .ref (r 44), .int 0, .int 0, .int 0, .int 0, .int 0, .ref (r 50), .ref (r 51), .ref (r 52), .int 0, .ref (r 54), .int 0, .ref (r 56), .int 0, .int 0, .int 0])), ((r 0), .inl (dA 0, 5161, .inl (fun _ => 0)))] := hD
  refine W.eq (g2 := F0 m 5 ls [.int (-1)]) rfl ?_
  refine lv_istore_n hx hb d69_5 rfl hl (by decide) rfl (fun ls hl => ?_)
  have hl : lv_has ls 5 [(2, .int (-1)), (0, .ref h), (1, .int i)] := hl
  refine lv_iload_n hx hb d69_6 rfl (lv_at hl 0 rfl) ?_
  refine lv_if_lt hx hb d69_7 rfl (fun _ => ?_) (fun h9 => absurd (by decide) h9)
  refine lv_iconst (v := 0) hx hb d69_30 (by decide) ?_
  refine lv_istore_n hx hb d69_31 rfl hl (by decide) rfl (fun ls hl => ?_)
  have hl : lv_has ls 5 [(3, .int 0), (2, .int (-1)), (0, .ref h), (1, .int i)] := hl
  refine lv_iload_n hx hb d69_32 rfl (lv_at hl 0 rfl) ?_
  refine lv_if_eq hx hb d69_33 rfl (fun _ => ?_) (fun h9 => absurd (by decide) h9)
  refine lv_iconst (v := 0) hx hb d69_64 (by decide) ?_
  refine lv_istore hx hb d69_65 hl (by decide) rfl (fun ls hl => ?_)
  have hl : lv_has ls 5 [(4, .int 0), (3, .int 0), (2, .int (-1)), (0, .ref h), (1, .int i)] := hl
  refine lv_iload hx hb d69_67 (lv_at hl 0 rfl) ?_
  refine lv_aload_n hx hb d69_69 rfl (lv_at hl 3 rfl) ?_
  refine va_get (D := D) (ci := 2) (v := .int 0) (C := kR2) (T := kT2) (N := 60) hx hb hts ku2 hown hK hP 0 rfl rfl 7 (by decide) (hts _ ms_k1323) (fun _ h => h) rfl d69_70 ?_
  refine lv_icmp_ge hx hb d69_73 rfl (fun _ => ?_) (fun h9 => absurd (by decide) h9)
  refine lv_iconst (v := 0) hx hb d69_137 (by decide) ?_
  refine lv_istore hx hb d69_138 hl (by decide) rfl (fun ls hl => ?_)
  have hl : lv_has ls 5 [(4, .int 0), (3, .int 0), (2, .int (-1)), (0, .ref h), (1, .int i)] := hl
  refine lv_iload hx hb d69_140 (lv_at hl 0 rfl) ?_
  refine lv_aload_n hx hb d69_142 rfl (lv_at hl 3 rfl) ?_
  refine va_get (D := D) (ci := 2) (v := .int 0) (C := kR2) (T := kT2) (N := 60) hx hb hts ku2 hown hK hP 0 rfl rfl 7 (by decide) (hts _ ms_k1323) (fun _ h => h) rfl d69_143 ?_
  refine lv_icmp_ge hx hb d69_146 rfl (fun _ => ?_) (fun h9 => absurd (by decide) h9)
  refine lv_iload_n hx hb d69_175 rfl (lv_at hl 1 rfl) ?_
  refine lv_if_eq hx hb d69_176 rfl (fun _ => ?_) (fun h9 => absurd (by decide) h9)
  refine lv_aload_n hx hb d69_199 rfl (lv_at hl 3 rfl) ?_
  refine lv_iconst (v := 0) hx hb d69_200 (by decide) ?_
  refine va_put (D := D) (ci := 2) (v := .int 0) (ty := .int) (C := kR2) (T := kT2) (N := 60) hx hb hts ku2 kt2 kp2 kn2 hown hK hP hD hS 0 rfl rfl 7 (by decide) (hts _ ms_k1323) (fun _ h => h) rfl (by decide +kernel) rfl rfl (Nat.le_of_ble_eq_true rfl) d69_201 (fun H locs hP hD hS => ?_)
  have hP : va_P D vwCl [(h, .inr (2, [.ref (r 0), .ref (r 1), .ref (r 2), .ref (r 3), .int 0, .int 0, .ref (r 6), .int 0, .int 0, .int 0, .int 0, .int 0, .int 0, .int 0, .int 0, .ref (r 15), .ref (r 16), .ref (r 17), .int 0, .int 0, .ref (r 20), .ref (r 21), .ref (r 22), .int 0, .int 0, .ref (r 25), .ref (r 26), .ref (r 27), .ref (r 28), .ref (r 29), .ref (r 30), .int 0, .ref (r 32), .ref (r 33), .ref (r 34), .ref (r 35), .ref (r 36), .ref (r 37), .ref (r 38), .ref (r 39), .ref (r 40), .ref (r 41), .ref (r 42), .int 0, .ref (r 44), .int 0, .int 0, .int 0, .int 0, .int 0, .ref (r 50), .ref (r 51), .ref (r 52), .int 0, .ref (r 54), .int 0, .ref (r 56), .int 0, .int 0, .int 0])), ((r 0), .inl (dA 0, 5161, .inl (fun _ => 0)))] H := hP
  have hD : va_D A [(h, .inr (2, [.ref (r 0), .ref (r 1), .ref (r 2), .ref (r 3), .int 0, .int 0, .ref (r 6), .int 0, .int 0, .int 0, .int 0, .int 0, .int 0, .int 0, .int 0, .ref (r 15), .ref (r 16), .ref (r 17), .int 0, .int 0, .ref (r 20), .ref (r 21), .ref (r 22), .int 0, .int 0, .ref (r 25), .ref (r 26), .ref (r 27), .ref (r 28), .ref (r 29), .ref (r 30), .int 0, .ref (r 32), .ref (r 33), .ref (r 34), .ref (r 35), .ref (r 36), .ref (r 37), .ref (r 38), .ref (r 39), .ref (r 40), .ref (r 41), .ref (r 42), .int 0, .ref (r 44), .int 0, .int 0, .int 0, .int 0, .int 0, .ref (r 50), .ref (r 51), .ref (r 52), .int 0, .ref (r 54), .int 0, .ref (r 56), .int 0, .int 0, .int 0])), ((r 0), .inl (dA 0, 5161, .inl (fun _ => 0)))] := hD
  refine lv_iload_n hx hb d69_204 rfl (lv_at hl 1 rfl) ?_
  exact ms_zret X d69_205 hP hD hS (Nat.le_of_ble_eq_true rfl) (Nat.le_of_ble_eq_true rfl) rfl (rfl)

set_option maxRecDepth 100000 in
set_option maxHeartbeats 8000000 in
theorem c_mquery (l : Launch) (D : va_G) (dA : Nat → ClassId) (s0 : State) (hE : ms_EV D dA s0) (h : Nat) (r : Nat → Nat) (i : Int32) : ms_C l D s0 yM70 bM70 4 (Option.some Jvm.ClassFile.FieldType.int) 2 42 0 0 [.ref h, .int i] [(h, .inr (2, [.ref (r 0), .ref (r 1), .ref (r 2), .ref (r 3), .int 0, .int 0, .ref (r 6), .int 0, .int 0, .int 0, .int 0, .int 0, .int 0, .int 0, .int 0, .ref (r 15), .ref (r 16), .ref (r 17), .int 0, .int 0, .ref (r 20), .ref (r 21), .ref (r 22), .int 0, .int 0, .ref (r 25), .ref (r 26), .ref (r 27), .ref (r 28), .ref (r 29), .ref (r 30), .int 0, .ref (r 32), .ref (r 33), .ref (r 34), .ref (r 35), .ref (r 36), .ref (r 37), .ref (r 38), .ref (r 39), .ref (r 40), .ref (r 41), .ref (r 42), .int 0, .ref (r 44), .int 0, .int 0, .int 0, .int 0, .int 0, .ref (r 50), .ref (r 51), .ref (r 52), .int 0, .ref (r 54), .int 0, .ref (r 56), .int 0, .int 0, .int 0])), ((r 0), .inl (dA 0, 5161, .inl (fun _ => 0)))] (fun vv _ => vv = some (.int (-1000))) := by
  refine ms_C.mk hE.1 (by decide) (Nat.le_of_ble_eq_true rfl) [(0, .ref h), (1, .int i)] rfl ?_
  intro p e s m below meth c A ls X hin hP hD hS hl
  have hx := X.1
  have hb := X.2.1
  have hml := X.2.2.1
  have hown : s.vm.findClass "MarkupStoreModel" = some m.cls := X.2.2.2.1
  have hts := X.2.2.2.2.2.2.1
  have hK := X.2.2.2.2.2.2.2.2.1
  have hA := X.2.2.2.2.2.2.2.2.2.2
  refine lv_aload_n hx hb d70_0 rfl (lv_at hl 0 rfl) ?_
  refine lv_iload_n hx hb d70_1 rfl (lv_at hl 1 rfl) ?_
  refine ms_V (C := "MarkupStoreModel") (rest := []) (as := [.int i]) (wr := []) X hl (c_place l D dA s0 hE h r i) (List.forall_mem_cons.mpr ⟨ms_k1603, List.forall_mem_cons.mpr ⟨ms_k1605, List.forall_mem_cons.mpr ⟨ms_p66, List.forall_mem_cons.mpr ⟨ms_k7, List.forall_mem_cons.mpr ⟨ms_k1606, fun _ h => absurd h List.not_mem_nil⟩⟩⟩⟩⟩) ⟨rfl, by decide +kernel, by decide +kernel, (by decide +kernel : (parseMethodDescriptor "(I)I").map (fun d => d.parameters.length) = some 1)⟩ (va_recv hK hP rfl (q0 := 0) rfl) hP hD hS [0, 1] [] rfl rfl ⟨by decide, by decide, by decide⟩ ⟨⟨Nat.le_of_ble_eq_true rfl, Nat.le_of_ble_eq_true rfl⟩, Nat.le_of_ble_eq_true rfl, Nat.le_of_ble_eq_true rfl⟩ rfl (Nat.le_of_ble_eq_true rfl) d70_2 (fun vv ww H locs hR hP hD hS => ?_)
  obtain ⟨rfl, rfl⟩ := hR
  have hP : va_P D vwCl [(h, .inr (2, [.ref (r 0), .ref (r 1), .ref (r 2), .ref (r 3), .int 0, .int 0, .ref (r 6), .int 0, .int 0, .int 0, .int 0, .int 0, .int 0, .int 0, .int 0, .ref (r 15), .ref (r 16), .ref (r 17), .int 0, .int 0, .ref (r 20), .ref (r 21), .ref (r 22), .int 0, .int 0, .ref (r 25), .ref (r 26), .ref (r 27), .ref (r 28), .ref (r 29), .ref (r 30), .int 0, .ref (r 32), .ref (r 33), .ref (r 34), .ref (r 35), .ref (r 36), .ref (r 37), .ref (r 38), .ref (r 39), .ref (r 40), .ref (r 41), .ref (r 42), .int 0, .ref (r 44), .int 0, .int 0, .int 0, .int 0, .int 0, .ref (r 50), .ref (r 51), .ref (r 52), .int 0, .ref (r 54), .int 0, .ref (r 56), .int 0, .int 0, .int 0])), ((r 0), .inl (dA 0, 5161, .inl (fun _ => 0)))] H := hP
  have hD : va_D A [(h, .inr (2, [.ref (r 0), .ref (r 1), .ref (r 2), .ref (r 3), .int 0, .int 0, .ref (r 6), .int 0, .int 0, .int 0, .int 0, .int 0, .int 0, .int 0, .int 0, .ref (r 15), .ref (r 16), .ref (r 17), .int 0, .int 0, .ref (r 20), .ref (r 21), .ref (r 22), .int 0, .int 0, .ref (r 25), .ref (r 26), .ref (r 27), .ref (r 28), .ref (r 29), .ref (r 30), .int 0, .ref (r 32), .ref (r 33), .ref (r 34), .ref (r 35), .ref (r 36), .ref (r 37), .ref (r 38), .ref (r 39), .ref (r 40), .ref (r 41), .ref (r 42), .int 0, .ref (r 44), .int 0, .int 0, .int 0, .int 0, .int 0, .ref (r 50), .ref (r 51), .ref (r 52), .int 0, .ref (r 54), .int 0, .ref (r 56), .int 0, .int 0, .int 0])), ((r 0), .inl (dA 0, 5161, .inl (fun _ => 0)))] := hD
  refine W.eq (g2 := F0 m 5 ls [.int (-1)]) rfl ?_
  refine lv_istore_n hx hb d70_5 rfl hl (by decide) rfl (fun ls hl => ?_)
  have hl : lv_has ls 4 [(2, .int (-1)), (0, .ref h), (1, .int i)] := hl
  refine lv_iload_n hx hb d70_6 rfl (lv_at hl 0 rfl) ?_
  refine lv_if_ge hx hb d70_7 rfl (fun h9 => absurd h9 (by decide)) (fun _ => ?_)
  refine lv_sipush (v := (-1000)) hx hb d70_10 (by decide) ?_
  refine lv_goto hx hb d70_13 rfl ?_
  refine lv_istore_n hx hb d70_21 rfl hl (by decide) rfl (fun ls hl => ?_)
  have hl : lv_has ls 4 [(3, .int (-1000)), (2, .int (-1)), (0, .ref h), (1, .int i)] := hl
  refine lv_aload_n hx hb d70_22 rfl (lv_at hl 2 rfl) ?_
  refine lv_iconst (v := 0) hx hb d70_23 (by decide) ?_
  refine va_put (D := D) (ci := 2) (v := .int 0) (ty := .int) (C := kR2) (T := kT2) (N := 60) hx hb hts ku2 kt2 kp2 kn2 hown hK hP hD hS 0 rfl rfl 7 (by decide) (hts _ ms_k1323) (fun _ h => h) rfl (by decide +kernel) rfl rfl (Nat.le_of_ble_eq_true rfl) d70_24 (fun H locs hP hD hS => ?_)
  have hP : va_P D vwCl [(h, .inr (2, [.ref (r 0), .ref (r 1), .ref (r 2), .ref (r 3), .int 0, .int 0, .ref (r 6), .int 0, .int 0, .int 0, .int 0, .int 0, .int 0, .int 0, .int 0, .ref (r 15), .ref (r 16), .ref (r 17), .int 0, .int 0, .ref (r 20), .ref (r 21), .ref (r 22), .int 0, .int 0, .ref (r 25), .ref (r 26), .ref (r 27), .ref (r 28), .ref (r 29), .ref (r 30), .int 0, .ref (r 32), .ref (r 33), .ref (r 34), .ref (r 35), .ref (r 36), .ref (r 37), .ref (r 38), .ref (r 39), .ref (r 40), .ref (r 41), .ref (r 42), .int 0, .ref (r 44), .int 0, .int 0, .int 0, .int 0, .int 0, .ref (r 50), .ref (r 51), .ref (r 52), .int 0, .ref (r 54), .int 0, .ref (r 56), .int 0, .int 0, .int 0])), ((r 0), .inl (dA 0, 5161, .inl (fun _ => 0)))] H := hP
  have hD : va_D A [(h, .inr (2, [.ref (r 0), .ref (r 1), .ref (r 2), .ref (r 3), .int 0, .int 0, .ref (r 6), .int 0, .int 0, .int 0, .int 0, .int 0, .int 0, .int 0, .int 0, .ref (r 15), .ref (r 16), .ref (r 17), .int 0, .int 0, .ref (r 20), .ref (r 21), .ref (r 22), .int 0, .int 0, .ref (r 25), .ref (r 26), .ref (r 27), .ref (r 28), .ref (r 29), .ref (r 30), .int 0, .ref (r 32), .ref (r 33), .ref (r 34), .ref (r 35), .ref (r 36), .ref (r 37), .ref (r 38), .ref (r 39), .ref (r 40), .ref (r 41), .ref (r 42), .int 0, .ref (r 44), .int 0, .int 0, .int 0, .int 0, .int 0, .ref (r 50), .ref (r 51), .ref (r 52), .int 0, .ref (r 54), .int 0, .ref (r 56), .int 0, .int 0, .int 0])), ((r 0), .inl (dA 0, 5161, .inl (fun _ => 0)))] := hD
  refine lv_iload_n hx hb d70_27 rfl (lv_at hl 0 rfl) ?_
  exact ms_iret X d70_28 hP hD hS (Nat.le_of_ble_eq_true rfl) (Nat.le_of_ble_eq_true rfl) rfl

set_option maxRecDepth 100000 in
set_option maxHeartbeats 8000000 in
theorem c_mkind (l : Launch) (D : va_G) (dA : Nat → ClassId) (s0 : State) (hE : ms_EV D dA s0) (h : Nat) (r : Nat → Nat) (i : Int32) : ms_C l D s0 yM71 bM71 3 (Option.some Jvm.ClassFile.FieldType.int) 2 42 0 0 [.ref h, .int i] [(h, .inr (2, [.ref (r 0), .ref (r 1), .ref (r 2), .ref (r 3), .int 0, .int 0, .ref (r 6), .int 0, .int 0, .int 0, .int 0, .int 0, .int 0, .int 0, .int 0, .ref (r 15), .ref (r 16), .ref (r 17), .int 0, .int 0, .ref (r 20), .ref (r 21), .ref (r 22), .int 0, .int 0, .ref (r 25), .ref (r 26), .ref (r 27), .ref (r 28), .ref (r 29), .ref (r 30), .int 0, .ref (r 32), .ref (r 33), .ref (r 34), .ref (r 35), .ref (r 36), .ref (r 37), .ref (r 38), .ref (r 39), .ref (r 40), .ref (r 41), .ref (r 42), .int 0, .ref (r 44), .int 0, .int 0, .int 0, .int 0, .int 0, .ref (r 50), .ref (r 51), .ref (r 52), .int 0, .ref (r 54), .int 0, .ref (r 56), .int 0, .int 0, .int 0])), ((r 0), .inl (dA 0, 5161, .inl (fun _ => 0)))] (fun vv _ => vv = some (.int (-1000))) := by
  refine ms_C.mk hE.1 (by decide) (Nat.le_of_ble_eq_true rfl) [(0, .ref h), (1, .int i)] rfl ?_
  intro p e s m below meth c A ls X hin hP hD hS hl
  have hx := X.1
  have hb := X.2.1
  have hml := X.2.2.1
  have hown : s.vm.findClass "MarkupStoreModel" = some m.cls := X.2.2.2.1
  have hts := X.2.2.2.2.2.2.1
  have hK := X.2.2.2.2.2.2.2.2.1
  have hA := X.2.2.2.2.2.2.2.2.2.2
  refine lv_aload_n hx hb d71_0 rfl (lv_at hl 0 rfl) ?_
  refine lv_iload_n hx hb d71_1 rfl (lv_at hl 1 rfl) ?_
  refine ms_V (C := "MarkupStoreModel") (rest := []) (as := [.int i]) (wr := []) X hl (c_place l D dA s0 hE h r i) (List.forall_mem_cons.mpr ⟨ms_k1603, List.forall_mem_cons.mpr ⟨ms_k1605, List.forall_mem_cons.mpr ⟨ms_p66, List.forall_mem_cons.mpr ⟨ms_k7, List.forall_mem_cons.mpr ⟨ms_k1606, fun _ h => absurd h List.not_mem_nil⟩⟩⟩⟩⟩) ⟨rfl, by decide +kernel, by decide +kernel, (by decide +kernel : (parseMethodDescriptor "(I)I").map (fun d => d.parameters.length) = some 1)⟩ (va_recv hK hP rfl (q0 := 0) rfl) hP hD hS [0, 1] [] rfl rfl ⟨by decide, by decide, by decide⟩ ⟨⟨Nat.le_of_ble_eq_true rfl, Nat.le_of_ble_eq_true rfl⟩, Nat.le_of_ble_eq_true rfl, Nat.le_of_ble_eq_true rfl⟩ rfl (Nat.le_of_ble_eq_true rfl) d71_2 (fun vv ww H locs hR hP hD hS => ?_)
  obtain ⟨rfl, rfl⟩ := hR
  have hP : va_P D vwCl [(h, .inr (2, [.ref (r 0), .ref (r 1), .ref (r 2), .ref (r 3), .int 0, .int 0, .ref (r 6), .int 0, .int 0, .int 0, .int 0, .int 0, .int 0, .int 0, .int 0, .ref (r 15), .ref (r 16), .ref (r 17), .int 0, .int 0, .ref (r 20), .ref (r 21), .ref (r 22), .int 0, .int 0, .ref (r 25), .ref (r 26), .ref (r 27), .ref (r 28), .ref (r 29), .ref (r 30), .int 0, .ref (r 32), .ref (r 33), .ref (r 34), .ref (r 35), .ref (r 36), .ref (r 37), .ref (r 38), .ref (r 39), .ref (r 40), .ref (r 41), .ref (r 42), .int 0, .ref (r 44), .int 0, .int 0, .int 0, .int 0, .int 0, .ref (r 50), .ref (r 51), .ref (r 52), .int 0, .ref (r 54), .int 0, .ref (r 56), .int 0, .int 0, .int 0])), ((r 0), .inl (dA 0, 5161, .inl (fun _ => 0)))] H := hP
  have hD : va_D A [(h, .inr (2, [.ref (r 0), .ref (r 1), .ref (r 2), .ref (r 3), .int 0, .int 0, .ref (r 6), .int 0, .int 0, .int 0, .int 0, .int 0, .int 0, .int 0, .int 0, .ref (r 15), .ref (r 16), .ref (r 17), .int 0, .int 0, .ref (r 20), .ref (r 21), .ref (r 22), .int 0, .int 0, .ref (r 25), .ref (r 26), .ref (r 27), .ref (r 28), .ref (r 29), .ref (r 30), .int 0, .ref (r 32), .ref (r 33), .ref (r 34), .ref (r 35), .ref (r 36), .ref (r 37), .ref (r 38), .ref (r 39), .ref (r 40), .ref (r 41), .ref (r 42), .int 0, .ref (r 44), .int 0, .int 0, .int 0, .int 0, .int 0, .ref (r 50), .ref (r 51), .ref (r 52), .int 0, .ref (r 54), .int 0, .ref (r 56), .int 0, .int 0, .int 0])), ((r 0), .inl (dA 0, 5161, .inl (fun _ => 0)))] := hD
  refine W.eq (g2 := F0 m 5 ls [.int (-1)]) rfl ?_
  refine lv_istore_n hx hb d71_5 rfl hl (by decide) rfl (fun ls hl => ?_)
  have hl : lv_has ls 3 [(2, .int (-1)), (0, .ref h), (1, .int i)] := hl
  refine lv_iload_n hx hb d71_6 rfl (lv_at hl 0 rfl) ?_
  refine lv_if_ge hx hb d71_7 rfl (fun h9 => absurd h9 (by decide)) (fun _ => ?_)
  refine lv_sipush (v := (-1000)) hx hb d71_10 (by decide) ?_
  refine lv_goto hx hb d71_13 rfl ?_
  exact ms_iret X d71_22 hP hD hS (Nat.le_of_ble_eq_true rfl) (Nat.le_of_ble_eq_true rfl) rfl

set_option maxRecDepth 100000 in
set_option maxHeartbeats 8000000 in
theorem c_mnode (l : Launch) (D : va_G) (dA : Nat → ClassId) (s0 : State) (hE : ms_EV D dA s0) (h : Nat) (r : Nat → Nat) (i : Int32) (j : Int32) : ms_C l D s0 yM72 bM72 4 (Option.some Jvm.ClassFile.FieldType.int) 2 42 0 0 [.ref h, .int i, .int j] [(h, .inr (2, [.ref (r 0), .ref (r 1), .ref (r 2), .ref (r 3), .int 0, .int 0, .ref (r 6), .int 0, .int 0, .int 0, .int 0, .int 0, .int 0, .int 0, .int 0, .ref (r 15), .ref (r 16), .ref (r 17), .int 0, .int 0, .ref (r 20), .ref (r 21), .ref (r 22), .int 0, .int 0, .ref (r 25), .ref (r 26), .ref (r 27), .ref (r 28), .ref (r 29), .ref (r 30), .int 0, .ref (r 32), .ref (r 33), .ref (r 34), .ref (r 35), .ref (r 36), .ref (r 37), .ref (r 38), .ref (r 39), .ref (r 40), .ref (r 41), .ref (r 42), .int 0, .ref (r 44), .int 0, .int 0, .int 0, .int 0, .int 0, .ref (r 50), .ref (r 51), .ref (r 52), .int 0, .ref (r 54), .int 0, .ref (r 56), .int 0, .int 0, .int 0])), ((r 0), .inl (dA 0, 5161, .inl (fun _ => 0)))] (fun vv _ => vv = some (.int (-1000))) := by
  refine ms_C.mk hE.1 (by decide) (Nat.le_of_ble_eq_true rfl) [(0, .ref h), (1, .int i), (2, .int j)] rfl ?_
  intro p e s m below meth c A ls X hin hP hD hS hl
  have hx := X.1
  have hb := X.2.1
  have hml := X.2.2.1
  have hown : s.vm.findClass "MarkupStoreModel" = some m.cls := X.2.2.2.1
  have hts := X.2.2.2.2.2.2.1
  have hK := X.2.2.2.2.2.2.2.2.1
  have hA := X.2.2.2.2.2.2.2.2.2.2
  refine lv_aload_n hx hb d72_0 rfl (lv_at hl 0 rfl) ?_
  refine lv_iload_n hx hb d72_1 rfl (lv_at hl 1 rfl) ?_
  refine ms_V (C := "MarkupStoreModel") (rest := []) (as := [.int i]) (wr := []) X hl (c_place l D dA s0 hE h r i) (List.forall_mem_cons.mpr ⟨ms_k1603, List.forall_mem_cons.mpr ⟨ms_k1605, List.forall_mem_cons.mpr ⟨ms_p66, List.forall_mem_cons.mpr ⟨ms_k7, List.forall_mem_cons.mpr ⟨ms_k1606, fun _ h => absurd h List.not_mem_nil⟩⟩⟩⟩⟩) ⟨rfl, by decide +kernel, by decide +kernel, (by decide +kernel : (parseMethodDescriptor "(I)I").map (fun d => d.parameters.length) = some 1)⟩ (va_recv hK hP rfl (q0 := 0) rfl) hP hD hS [0, 1] [] rfl rfl ⟨by decide, by decide, by decide⟩ ⟨⟨Nat.le_of_ble_eq_true rfl, Nat.le_of_ble_eq_true rfl⟩, Nat.le_of_ble_eq_true rfl, Nat.le_of_ble_eq_true rfl⟩ rfl (Nat.le_of_ble_eq_true rfl) d72_2 (fun vv ww H locs hR hP hD hS => ?_)
  obtain ⟨rfl, rfl⟩ := hR
  have hP : va_P D vwCl [(h, .inr (2, [.ref (r 0), .ref (r 1), .ref (r 2), .ref (r 3), .int 0, .int 0, .ref (r 6), .int 0, .int 0, .int 0, .int 0, .int 0, .int 0, .int 0, .int 0, .ref (r 15), .ref (r 16), .ref (r 17), .int 0, .int 0, .ref (r 20), .ref (r 21), .ref (r 22), .int 0, .int 0, .ref (r 25), .ref (r 26), .ref (r 27), .ref (r 28), .ref (r 29), .ref (r 30), .int 0, .ref (r 32), .ref (r 33), .ref (r 34), .ref (r 35), .ref (r 36), .ref (r 37), .ref (r 38), .ref (r 39), .ref (r 40), .ref (r 41), .ref (r 42), .int 0, .ref (r 44), .int 0, .int 0, .int 0, .int 0, .int 0, .ref (r 50), .ref (r 51), .ref (r 52), .int 0, .ref (r 54), .int 0, .ref (r 56), .int 0, .int 0, .int 0])), ((r 0), .inl (dA 0, 5161, .inl (fun _ => 0)))] H := hP
  have hD : va_D A [(h, .inr (2, [.ref (r 0), .ref (r 1), .ref (r 2), .ref (r 3), .int 0, .int 0, .ref (r 6), .int 0, .int 0, .int 0, .int 0, .int 0, .int 0, .int 0, .int 0, .ref (r 15), .ref (r 16), .ref (r 17), .int 0, .int 0, .ref (r 20), .ref (r 21), .ref (r 22), .int 0, .int 0, .ref (r 25), .ref (r 26), .ref (r 27), .ref (r 28), .ref (r 29), .ref (r 30), .int 0, .ref (r 32), .ref (r 33), .ref (r 34), .ref (r 35), .ref (r 36), .ref (r 37), .ref (r 38), .ref (r 39), .ref (r 40), .ref (r 41), .ref (r 42), .int 0, .ref (r 44), .int 0, .int 0, .int 0, .int 0, .int 0, .ref (r 50), .ref (r 51), .ref (r 52), .int 0, .ref (r 54), .int 0, .ref (r 56), .int 0, .int 0, .int 0])), ((r 0), .inl (dA 0, 5161, .inl (fun _ => 0)))] := hD
  refine W.eq (g2 := F0 m 5 ls [.int (-1)]) rfl ?_
  refine lv_istore_n hx hb d72_5 rfl hl (by decide) rfl (fun ls hl => ?_)
  have hl : lv_has ls 4 [(3, .int (-1)), (0, .ref h), (1, .int i), (2, .int j)] := hl
  refine lv_iload_n hx hb d72_6 rfl (lv_at hl 0 rfl) ?_
  refine lv_if_ge hx hb d72_7 rfl (fun h9 => absurd h9 (by decide)) (fun _ => ?_)
  refine lv_sipush (v := (-1000)) hx hb d72_10 (by decide) ?_
  exact ms_iret X d72_13 hP hD hS (Nat.le_of_ble_eq_true rfl) (Nat.le_of_ble_eq_true rfl) rfl

set_option maxRecDepth 100000 in
set_option maxHeartbeats 8000000 in
theorem c_mletter (l : Launch) (D : va_G) (dA : Nat → ClassId) (s0 : State) (hE : ms_EV D dA s0) (h : Nat) (r : Nat → Nat) (i : Int32) (j : Int32) : ms_C l D s0 yM73 bM73 4 (Option.some Jvm.ClassFile.FieldType.int) 2 42 0 0 [.ref h, .int i, .int j] [(h, .inr (2, [.ref (r 0), .ref (r 1), .ref (r 2), .ref (r 3), .int 0, .int 0, .ref (r 6), .int 0, .int 0, .int 0, .int 0, .int 0, .int 0, .int 0, .int 0, .ref (r 15), .ref (r 16), .ref (r 17), .int 0, .int 0, .ref (r 20), .ref (r 21), .ref (r 22), .int 0, .int 0, .ref (r 25), .ref (r 26), .ref (r 27), .ref (r 28), .ref (r 29), .ref (r 30), .int 0, .ref (r 32), .ref (r 33), .ref (r 34), .ref (r 35), .ref (r 36), .ref (r 37), .ref (r 38), .ref (r 39), .ref (r 40), .ref (r 41), .ref (r 42), .int 0, .ref (r 44), .int 0, .int 0, .int 0, .int 0, .int 0, .ref (r 50), .ref (r 51), .ref (r 52), .int 0, .ref (r 54), .int 0, .ref (r 56), .int 0, .int 0, .int 0])), ((r 0), .inl (dA 0, 5161, .inl (fun _ => 0)))] (fun vv _ => vv = some (.int 0)) := by
  refine ms_C.mk hE.1 (by decide) (Nat.le_of_ble_eq_true rfl) [(0, .ref h), (1, .int i), (2, .int j)] rfl ?_
  intro p e s m below meth c A ls X hin hP hD hS hl
  have hx := X.1
  have hb := X.2.1
  have hml := X.2.2.1
  have hown : s.vm.findClass "MarkupStoreModel" = some m.cls := X.2.2.2.1
  have hts := X.2.2.2.2.2.2.1
  have hK := X.2.2.2.2.2.2.2.2.1
  have hA := X.2.2.2.2.2.2.2.2.2.2
  refine lv_aload_n hx hb d73_0 rfl (lv_at hl 0 rfl) ?_
  refine lv_iload_n hx hb d73_1 rfl (lv_at hl 1 rfl) ?_
  refine ms_V (C := "MarkupStoreModel") (rest := []) (as := [.int i]) (wr := []) X hl (c_place l D dA s0 hE h r i) (List.forall_mem_cons.mpr ⟨ms_k1603, List.forall_mem_cons.mpr ⟨ms_k1605, List.forall_mem_cons.mpr ⟨ms_p66, List.forall_mem_cons.mpr ⟨ms_k7, List.forall_mem_cons.mpr ⟨ms_k1606, fun _ h => absurd h List.not_mem_nil⟩⟩⟩⟩⟩) ⟨rfl, by decide +kernel, by decide +kernel, (by decide +kernel : (parseMethodDescriptor "(I)I").map (fun d => d.parameters.length) = some 1)⟩ (va_recv hK hP rfl (q0 := 0) rfl) hP hD hS [0, 1] [] rfl rfl ⟨by decide, by decide, by decide⟩ ⟨⟨Nat.le_of_ble_eq_true rfl, Nat.le_of_ble_eq_true rfl⟩, Nat.le_of_ble_eq_true rfl, Nat.le_of_ble_eq_true rfl⟩ rfl (Nat.le_of_ble_eq_true rfl) d73_2 (fun vv ww H locs hR hP hD hS => ?_)
  obtain ⟨rfl, rfl⟩ := hR
  have hP : va_P D vwCl [(h, .inr (2, [.ref (r 0), .ref (r 1), .ref (r 2), .ref (r 3), .int 0, .int 0, .ref (r 6), .int 0, .int 0, .int 0, .int 0, .int 0, .int 0, .int 0, .int 0, .ref (r 15), .ref (r 16), .ref (r 17), .int 0, .int 0, .ref (r 20), .ref (r 21), .ref (r 22), .int 0, .int 0, .ref (r 25), .ref (r 26), .ref (r 27), .ref (r 28), .ref (r 29), .ref (r 30), .int 0, .ref (r 32), .ref (r 33), .ref (r 34), .ref (r 35), .ref (r 36), .ref (r 37), .ref (r 38), .ref (r 39), .ref (r 40), .ref (r 41), .ref (r 42), .int 0, .ref (r 44), .int 0, .int 0, .int 0, .int 0, .int 0, .ref (r 50), .ref (r 51), .ref (r 52), .int 0, .ref (r 54), .int 0, .ref (r 56), .int 0, .int 0, .int 0])), ((r 0), .inl (dA 0, 5161, .inl (fun _ => 0)))] H := hP
  have hD : va_D A [(h, .inr (2, [.ref (r 0), .ref (r 1), .ref (r 2), .ref (r 3), .int 0, .int 0, .ref (r 6), .int 0, .int 0, .int 0, .int 0, .int 0, .int 0, .int 0, .int 0, .ref (r 15), .ref (r 16), .ref (r 17), .int 0, .int 0, .ref (r 20), .ref (r 21), .ref (r 22), .int 0, .int 0, .ref (r 25), .ref (r 26), .ref (r 27), .ref (r 28), .ref (r 29), .ref (r 30), .int 0, .ref (r 32), .ref (r 33), .ref (r 34), .ref (r 35), .ref (r 36), .ref (r 37), .ref (r 38), .ref (r 39), .ref (r 40), .ref (r 41), .ref (r 42), .int 0, .ref (r 44), .int 0, .int 0, .int 0, .int 0, .int 0, .ref (r 50), .ref (r 51), .ref (r 52), .int 0, .ref (r 54), .int 0, .ref (r 56), .int 0, .int 0, .int 0])), ((r 0), .inl (dA 0, 5161, .inl (fun _ => 0)))] := hD
  refine W.eq (g2 := F0 m 5 ls [.int (-1)]) rfl ?_
  refine lv_istore_n hx hb d73_5 rfl hl (by decide) rfl (fun ls hl => ?_)
  have hl : lv_has ls 4 [(3, .int (-1)), (0, .ref h), (1, .int i), (2, .int j)] := hl
  refine lv_iload_n hx hb d73_6 rfl (lv_at hl 0 rfl) ?_
  refine lv_if_lt hx hb d73_7 rfl (fun _ => ?_) (fun h9 => absurd (by decide) h9)
  refine lv_iconst (v := 0) hx hb d73_24 (by decide) ?_
  refine lv_goto hx hb d73_25 rfl ?_
  exact ms_iret X d73_37 hP hD hS (Nat.le_of_ble_eq_true rfl) (Nat.le_of_ble_eq_true rfl) rfl

set_option maxRecDepth 100000 in
set_option maxHeartbeats 8000000 in
theorem c_mlabel (l : Launch) (D : va_G) (dA : Nat → ClassId) (s0 : State) (hE : ms_EV D dA s0) (h : Nat) (r : Nat → Nat) (i : Int32) (j : Int32) : ms_C l D s0 yM74 bM74 4 (Option.some Jvm.ClassFile.FieldType.int) 2 42 0 0 [.ref h, .int i, .int j] [(h, .inr (2, [.ref (r 0), .ref (r 1), .ref (r 2), .ref (r 3), .int 0, .int 0, .ref (r 6), .int 0, .int 0, .int 0, .int 0, .int 0, .int 0, .int 0, .int 0, .ref (r 15), .ref (r 16), .ref (r 17), .int 0, .int 0, .ref (r 20), .ref (r 21), .ref (r 22), .int 0, .int 0, .ref (r 25), .ref (r 26), .ref (r 27), .ref (r 28), .ref (r 29), .ref (r 30), .int 0, .ref (r 32), .ref (r 33), .ref (r 34), .ref (r 35), .ref (r 36), .ref (r 37), .ref (r 38), .ref (r 39), .ref (r 40), .ref (r 41), .ref (r 42), .int 0, .ref (r 44), .int 0, .int 0, .int 0, .int 0, .int 0, .ref (r 50), .ref (r 51), .ref (r 52), .int 0, .ref (r 54), .int 0, .ref (r 56), .int 0, .int 0, .int 0])), ((r 0), .inl (dA 0, 5161, .inl (fun _ => 0)))] (fun vv _ => vv = some (.int 0)) := by
  refine ms_C.mk hE.1 (by decide) (Nat.le_of_ble_eq_true rfl) [(0, .ref h), (1, .int i), (2, .int j)] rfl ?_
  intro p e s m below meth c A ls X hin hP hD hS hl
  have hx := X.1
  have hb := X.2.1
  have hml := X.2.2.1
  have hown : s.vm.findClass "MarkupStoreModel" = some m.cls := X.2.2.2.1
  have hts := X.2.2.2.2.2.2.1
  have hK := X.2.2.2.2.2.2.2.2.1
  have hA := X.2.2.2.2.2.2.2.2.2.2
  refine lv_aload_n hx hb d74_0 rfl (lv_at hl 0 rfl) ?_
  refine lv_iload_n hx hb d74_1 rfl (lv_at hl 1 rfl) ?_
  refine ms_V (C := "MarkupStoreModel") (rest := []) (as := [.int i]) (wr := []) X hl (c_place l D dA s0 hE h r i) (List.forall_mem_cons.mpr ⟨ms_k1603, List.forall_mem_cons.mpr ⟨ms_k1605, List.forall_mem_cons.mpr ⟨ms_p66, List.forall_mem_cons.mpr ⟨ms_k7, List.forall_mem_cons.mpr ⟨ms_k1606, fun _ h => absurd h List.not_mem_nil⟩⟩⟩⟩⟩) ⟨rfl, by decide +kernel, by decide +kernel, (by decide +kernel : (parseMethodDescriptor "(I)I").map (fun d => d.parameters.length) = some 1)⟩ (va_recv hK hP rfl (q0 := 0) rfl) hP hD hS [0, 1] [] rfl rfl ⟨by decide, by decide, by decide⟩ ⟨⟨Nat.le_of_ble_eq_true rfl, Nat.le_of_ble_eq_true rfl⟩, Nat.le_of_ble_eq_true rfl, Nat.le_of_ble_eq_true rfl⟩ rfl (Nat.le_of_ble_eq_true rfl) d74_2 (fun vv ww H locs hR hP hD hS => ?_)
  obtain ⟨rfl, rfl⟩ := hR
  have hP : va_P D vwCl [(h, .inr (2, [.ref (r 0), .ref (r 1), .ref (r 2), .ref (r 3), .int 0, .int 0, .ref (r 6), .int 0, .int 0, .int 0, .int 0, .int 0, .int 0, .int 0, .int 0, .ref (r 15), .ref (r 16), .ref (r 17), .int 0, .int 0, .ref (r 20), .ref (r 21), .ref (r 22), .int 0, .int 0, .ref (r 25), .ref (r 26), .ref (r 27), .ref (r 28), .ref (r 29), .ref (r 30), .int 0, .ref (r 32), .ref (r 33), .ref (r 34), .ref (r 35), .ref (r 36), .ref (r 37), .ref (r 38), .ref (r 39), .ref (r 40), .ref (r 41), .ref (r 42), .int 0, .ref (r 44), .int 0, .int 0, .int 0, .int 0, .int 0, .ref (r 50), .ref (r 51), .ref (r 52), .int 0, .ref (r 54), .int 0, .ref (r 56), .int 0, .int 0, .int 0])), ((r 0), .inl (dA 0, 5161, .inl (fun _ => 0)))] H := hP
  have hD : va_D A [(h, .inr (2, [.ref (r 0), .ref (r 1), .ref (r 2), .ref (r 3), .int 0, .int 0, .ref (r 6), .int 0, .int 0, .int 0, .int 0, .int 0, .int 0, .int 0, .int 0, .ref (r 15), .ref (r 16), .ref (r 17), .int 0, .int 0, .ref (r 20), .ref (r 21), .ref (r 22), .int 0, .int 0, .ref (r 25), .ref (r 26), .ref (r 27), .ref (r 28), .ref (r 29), .ref (r 30), .int 0, .ref (r 32), .ref (r 33), .ref (r 34), .ref (r 35), .ref (r 36), .ref (r 37), .ref (r 38), .ref (r 39), .ref (r 40), .ref (r 41), .ref (r 42), .int 0, .ref (r 44), .int 0, .int 0, .int 0, .int 0, .int 0, .ref (r 50), .ref (r 51), .ref (r 52), .int 0, .ref (r 54), .int 0, .ref (r 56), .int 0, .int 0, .int 0])), ((r 0), .inl (dA 0, 5161, .inl (fun _ => 0)))] := hD
  refine W.eq (g2 := F0 m 5 ls [.int (-1)]) rfl ?_
  refine lv_istore_n hx hb d74_5 rfl hl (by decide) rfl (fun ls hl => ?_)
  have hl : lv_has ls 4 [(3, .int (-1)), (0, .ref h), (1, .int i), (2, .int j)] := hl
  refine lv_iload_n hx hb d74_6 rfl (lv_at hl 0 rfl) ?_
  refine lv_if_lt hx hb d74_7 rfl (fun _ => ?_) (fun h9 => absurd (by decide) h9)
  refine lv_iconst (v := 0) hx hb d74_24 (by decide) ?_
  refine lv_goto hx hb d74_25 rfl ?_
  exact ms_iret X d74_37 hP hD hS (Nat.le_of_ble_eq_true rfl) (Nat.le_of_ble_eq_true rfl) rfl

set_option maxRecDepth 100000 in
set_option maxHeartbeats 8000000 in
theorem c_mresult (l : Launch) (D : va_G) (dA : Nat → ClassId) (s0 : State) (hE : ms_EV D dA s0) (h : Nat) (r : Nat → Nat) (i : Int32) : ms_C l D s0 yM75 bM75 2 (Option.some Jvm.ClassFile.FieldType.int) 0 0 0 0 [.ref h, .int i] [(h, .inr (2, [.ref (r 0), .ref (r 1), .ref (r 2), .ref (r 3), .int 0, .int 0, .ref (r 6), .int 0, .int 0, .int 0, .int 0, .int 0, .int 0, .int 0, .int 0, .ref (r 15), .ref (r 16), .ref (r 17), .int 0, .int 0, .ref (r 20), .ref (r 21), .ref (r 22), .int 0, .int 0, .ref (r 25), .ref (r 26), .ref (r 27), .ref (r 28), .ref (r 29), .ref (r 30), .int 0, .ref (r 32), .ref (r 33), .ref (r 34), .ref (r 35), .ref (r 36), .ref (r 37), .ref (r 38), .ref (r 39), .ref (r 40), .ref (r 41), .ref (r 42), .int 0, .ref (r 44), .int 0, .int 0, .int 0, .int 0, .int 0, .ref (r 50), .ref (r 51), .ref (r 52), .int 0, .ref (r 54), .int 0, .ref (r 56), .int 0, .int 0, .int 0]))] (fun vv _ => vv = some (.int (-1000))) := by
  refine ms_C.mk hE.1 (by decide) (Nat.le_of_ble_eq_true rfl) [(0, .ref h), (1, .int i)] rfl ?_
  intro p e s m below meth c A ls X hin hP hD hS hl
  have hx := X.1
  have hb := X.2.1
  have hml := X.2.2.1
  have hown : s.vm.findClass "MarkupStoreModel" = some m.cls := X.2.2.2.1
  have hts := X.2.2.2.2.2.2.1
  have hK := X.2.2.2.2.2.2.2.2.1
  have hA := X.2.2.2.2.2.2.2.2.2.2
  refine lv_iload_n hx hb d75_0 rfl (lv_at hl 1 rfl) ?_
  refine lv_if_lt hx hb d75_1 rfl (fun hc => ?_) (fun hc => ?_)
  · refine lv_sipush (v := (-1000)) hx hb d75_21 (by decide) ?_
    exact ms_iret X d75_24 hP hD hS (Nat.le_of_ble_eq_true rfl) (Nat.le_of_ble_eq_true rfl) rfl
  · refine lv_iload_n hx hb d75_4 rfl (lv_at hl 1 rfl) ?_
    refine lv_aload_n hx hb d75_5 rfl (lv_at hl 0 rfl) ?_
    refine va_get (D := D) (ci := 2) (v := .int 0) (C := kR2) (T := kT2) (N := 60) hx hb hts ku2 hown hK hP 0 rfl rfl 55 (by decide) (hts _ ms_k1371) (fun _ h => h) rfl d75_6 ?_
    refine lv_icmp_ge hx hb d75_9 rfl (fun _ => ?_) (fun h9 => absurd (Int32.not_lt.mp hc) h9)
    refine lv_sipush (v := (-1000)) hx hb d75_21 (by decide) ?_
    exact ms_iret X d75_24 hP hD hS (Nat.le_of_ble_eq_true rfl) (Nat.le_of_ble_eq_true rfl) rfl

set_option maxRecDepth 100000 in
set_option maxHeartbeats 8000000 in
theorem c_mroot (l : Launch) (D : va_G) (dA : Nat → ClassId) (s0 : State) (hE : ms_EV D dA s0) (h : Nat) (r : Nat → Nat) : ms_C l D s0 yM76 bM76 1 (Option.some Jvm.ClassFile.FieldType.int) 1 20 0 0 [.ref h] [(h, .inr (2, [.ref (r 0), .ref (r 1), .ref (r 2), .ref (r 3), .int 0, .int 0, .ref (r 6), .int 0, .int 0, .int 0, .int 0, .int 0, .int 0, .int 0, .int 0, .ref (r 15), .ref (r 16), .ref (r 17), .int 0, .int 0, .ref (r 20), .ref (r 21), .ref (r 22), .int 0, .int 0, .ref (r 25), .ref (r 26), .ref (r 27), .ref (r 28), .ref (r 29), .ref (r 30), .int 0, .ref (r 32), .ref (r 33), .ref (r 34), .ref (r 35), .ref (r 36), .ref (r 37), .ref (r 38), .ref (r 39), .ref (r 40), .ref (r 41), .ref (r 42), .int 0, .ref (r 44), .int 0, .int 0, .int 0, .int 0, .int 0, .ref (r 50), .ref (r 51), .ref (r 52), .int 0, .ref (r 54), .int 0, .ref (r 56), .int 0, .int 0, .int 0])), ((r 0), .inl (dA 0, 5161, .inl (fun _ => 0)))] (fun vv _ => vv = some (.int (-1000))) := by
  refine ms_C.mk hE.1 (by decide) (Nat.le_of_ble_eq_true rfl) [(0, .ref h)] rfl ?_
  intro p e s m below meth c A ls X hin hP hD hS hl
  have hx := X.1
  have hb := X.2.1
  have hml := X.2.2.1
  have hown : s.vm.findClass "MarkupStoreModel" = some m.cls := X.2.2.2.1
  have hts := X.2.2.2.2.2.2.1
  have hK := X.2.2.2.2.2.2.2.2.1
  have hA := X.2.2.2.2.2.2.2.2.2.2
  refine lv_aload_n hx hb d76_0 rfl (lv_at hl 0 rfl) ?_
  refine ms_V (C := "MarkupStoreModel") (rest := []) (as := []) (wr := []) X hl (c_count l D dA s0 hE h r 0) (List.forall_mem_cons.mpr ⟨ms_k1583, List.forall_mem_cons.mpr ⟨ms_k1585, List.forall_mem_cons.mpr ⟨ms_p62, List.forall_mem_cons.mpr ⟨ms_k7, List.forall_mem_cons.mpr ⟨ms_k1586, fun _ h => absurd h List.not_mem_nil⟩⟩⟩⟩⟩) ⟨rfl, by decide +kernel, by decide +kernel, (by decide +kernel : (parseMethodDescriptor "()I").map (fun d => d.parameters.length) = some 0)⟩ (va_recv hK hP rfl (q0 := 0) rfl) hP hD hS [0, 1] [] rfl rfl ⟨by decide, by decide, by decide⟩ ⟨⟨Nat.le_of_ble_eq_true rfl, Nat.le_of_ble_eq_true rfl⟩, Nat.le_of_ble_eq_true rfl, Nat.le_of_ble_eq_true rfl⟩ rfl (Nat.le_of_ble_eq_true rfl) d76_1 (fun vv ww H locs hR hP hD hS => ?_)
  obtain ⟨rfl, rfl⟩ := hR
  have hP : va_P D vwCl [(h, .inr (2, [.ref (r 0), .ref (r 1), .ref (r 2), .ref (r 3), .int 0, .int 0, .ref (r 6), .int 0, .int 0, .int 0, .int 0, .int 0, .int 0, .int 0, .int 0, .ref (r 15), .ref (r 16), .ref (r 17), .int 0, .int 0, .ref (r 20), .ref (r 21), .ref (r 22), .int 0, .int 0, .ref (r 25), .ref (r 26), .ref (r 27), .ref (r 28), .ref (r 29), .ref (r 30), .int 0, .ref (r 32), .ref (r 33), .ref (r 34), .ref (r 35), .ref (r 36), .ref (r 37), .ref (r 38), .ref (r 39), .ref (r 40), .ref (r 41), .ref (r 42), .int 0, .ref (r 44), .int 0, .int 0, .int 0, .int 0, .int 0, .ref (r 50), .ref (r 51), .ref (r 52), .int 0, .ref (r 54), .int 0, .ref (r 56), .int 0, .int 0, .int 0])), ((r 0), .inl (dA 0, 5161, .inl (fun _ => 0)))] H := hP
  have hD : va_D A [(h, .inr (2, [.ref (r 0), .ref (r 1), .ref (r 2), .ref (r 3), .int 0, .int 0, .ref (r 6), .int 0, .int 0, .int 0, .int 0, .int 0, .int 0, .int 0, .int 0, .ref (r 15), .ref (r 16), .ref (r 17), .int 0, .int 0, .ref (r 20), .ref (r 21), .ref (r 22), .int 0, .int 0, .ref (r 25), .ref (r 26), .ref (r 27), .ref (r 28), .ref (r 29), .ref (r 30), .int 0, .ref (r 32), .ref (r 33), .ref (r 34), .ref (r 35), .ref (r 36), .ref (r 37), .ref (r 38), .ref (r 39), .ref (r 40), .ref (r 41), .ref (r 42), .int 0, .ref (r 44), .int 0, .int 0, .int 0, .int 0, .int 0, .ref (r 50), .ref (r 51), .ref (r 52), .int 0, .ref (r 54), .int 0, .ref (r 56), .int 0, .int 0, .int 0])), ((r 0), .inl (dA 0, 5161, .inl (fun _ => 0)))] := hD
  refine W.eq (g2 := F0 m 4 ls [.int 0]) rfl ?_
  refine lv_if_ne hx hb d76_4 rfl (fun h9 => absurd h9 (by decide)) (fun _ => ?_)
  refine lv_sipush (v := (-1000)) hx hb d76_7 (by decide) ?_
  refine lv_goto hx hb d76_10 rfl ?_
  exact ms_iret X d76_25 hP hD hS (Nat.le_of_ble_eq_true rfl) (Nat.le_of_ble_eq_true rfl) rfl

set_option maxRecDepth 100000 in
set_option maxHeartbeats 8000000 in
theorem c_mnodes (l : Launch) (D : va_G) (dA : Nat → ClassId) (s0 : State) (hE : ms_EV D dA s0) (h : Nat) (r : Nat → Nat) : ms_C l D s0 yM77 bM77 1 (Option.some Jvm.ClassFile.FieldType.int) 1 20 0 0 [.ref h] [(h, .inr (2, [.ref (r 0), .ref (r 1), .ref (r 2), .ref (r 3), .int 0, .int 0, .ref (r 6), .int 0, .int 0, .int 0, .int 0, .int 0, .int 0, .int 0, .int 0, .ref (r 15), .ref (r 16), .ref (r 17), .int 0, .int 0, .ref (r 20), .ref (r 21), .ref (r 22), .int 0, .int 0, .ref (r 25), .ref (r 26), .ref (r 27), .ref (r 28), .ref (r 29), .ref (r 30), .int 0, .ref (r 32), .ref (r 33), .ref (r 34), .ref (r 35), .ref (r 36), .ref (r 37), .ref (r 38), .ref (r 39), .ref (r 40), .ref (r 41), .ref (r 42), .int 0, .ref (r 44), .int 0, .int 0, .int 0, .int 0, .int 0, .ref (r 50), .ref (r 51), .ref (r 52), .int 0, .ref (r 54), .int 0, .ref (r 56), .int 0, .int 0, .int 0])), ((r 0), .inl (dA 0, 5161, .inl (fun _ => 0)))] (fun vv _ => vv = some (.int 0)) := by
  refine ms_C.mk hE.1 (by decide) (Nat.le_of_ble_eq_true rfl) [(0, .ref h)] rfl ?_
  intro p e s m below meth c A ls X hin hP hD hS hl
  have hx := X.1
  have hb := X.2.1
  have hml := X.2.2.1
  have hown : s.vm.findClass "MarkupStoreModel" = some m.cls := X.2.2.2.1
  have hts := X.2.2.2.2.2.2.1
  have hK := X.2.2.2.2.2.2.2.2.1
  have hA := X.2.2.2.2.2.2.2.2.2.2
  refine lv_aload_n hx hb d77_0 rfl (lv_at hl 0 rfl) ?_
  refine ms_V (C := "MarkupStoreModel") (rest := []) (as := []) (wr := []) X hl (c_count l D dA s0 hE h r 0) (List.forall_mem_cons.mpr ⟨ms_k1583, List.forall_mem_cons.mpr ⟨ms_k1585, List.forall_mem_cons.mpr ⟨ms_p62, List.forall_mem_cons.mpr ⟨ms_k7, List.forall_mem_cons.mpr ⟨ms_k1586, fun _ h => absurd h List.not_mem_nil⟩⟩⟩⟩⟩) ⟨rfl, by decide +kernel, by decide +kernel, (by decide +kernel : (parseMethodDescriptor "()I").map (fun d => d.parameters.length) = some 0)⟩ (va_recv hK hP rfl (q0 := 0) rfl) hP hD hS [0, 1] [] rfl rfl ⟨by decide, by decide, by decide⟩ ⟨⟨Nat.le_of_ble_eq_true rfl, Nat.le_of_ble_eq_true rfl⟩, Nat.le_of_ble_eq_true rfl, Nat.le_of_ble_eq_true rfl⟩ rfl (Nat.le_of_ble_eq_true rfl) d77_1 (fun vv ww H locs hR hP hD hS => ?_)
  obtain ⟨rfl, rfl⟩ := hR
  have hP : va_P D vwCl [(h, .inr (2, [.ref (r 0), .ref (r 1), .ref (r 2), .ref (r 3), .int 0, .int 0, .ref (r 6), .int 0, .int 0, .int 0, .int 0, .int 0, .int 0, .int 0, .int 0, .ref (r 15), .ref (r 16), .ref (r 17), .int 0, .int 0, .ref (r 20), .ref (r 21), .ref (r 22), .int 0, .int 0, .ref (r 25), .ref (r 26), .ref (r 27), .ref (r 28), .ref (r 29), .ref (r 30), .int 0, .ref (r 32), .ref (r 33), .ref (r 34), .ref (r 35), .ref (r 36), .ref (r 37), .ref (r 38), .ref (r 39), .ref (r 40), .ref (r 41), .ref (r 42), .int 0, .ref (r 44), .int 0, .int 0, .int 0, .int 0, .int 0, .ref (r 50), .ref (r 51), .ref (r 52), .int 0, .ref (r 54), .int 0, .ref (r 56), .int 0, .int 0, .int 0])), ((r 0), .inl (dA 0, 5161, .inl (fun _ => 0)))] H := hP
  have hD : va_D A [(h, .inr (2, [.ref (r 0), .ref (r 1), .ref (r 2), .ref (r 3), .int 0, .int 0, .ref (r 6), .int 0, .int 0, .int 0, .int 0, .int 0, .int 0, .int 0, .int 0, .ref (r 15), .ref (r 16), .ref (r 17), .int 0, .int 0, .ref (r 20), .ref (r 21), .ref (r 22), .int 0, .int 0, .ref (r 25), .ref (r 26), .ref (r 27), .ref (r 28), .ref (r 29), .ref (r 30), .int 0, .ref (r 32), .ref (r 33), .ref (r 34), .ref (r 35), .ref (r 36), .ref (r 37), .ref (r 38), .ref (r 39), .ref (r 40), .ref (r 41), .ref (r 42), .int 0, .ref (r 44), .int 0, .int 0, .int 0, .int 0, .int 0, .ref (r 50), .ref (r 51), .ref (r 52), .int 0, .ref (r 54), .int 0, .ref (r 56), .int 0, .int 0, .int 0])), ((r 0), .inl (dA 0, 5161, .inl (fun _ => 0)))] := hD
  refine W.eq (g2 := F0 m 4 ls [.int 0]) rfl ?_
  exact ms_iret X d77_4 hP hD hS (Nat.le_of_ble_eq_true rfl) (Nat.le_of_ble_eq_true rfl) rfl

set_option maxRecDepth 100000 in
set_option maxHeartbeats 8000000 in
theorem c_mwrite (l : Launch) (D : va_G) (dA : Nat → ClassId) (s0 : State) (hE : ms_EV D dA s0) (h : Nat) (r : Nat → Nat) (i : Int32) : ms_C l D s0 yM78 bM78 6 (Option.none : Option Jvm.ClassFile.FieldType) 1 20 0 0 [.ref h, .int i] [(h, .inr (2, [.ref (r 0), .ref (r 1), .ref (r 2), .ref (r 3), .int 0, .int 0, .ref (r 6), .int 0, .int 0, .int 0, .int 0, .int 0, .int 0, .int 0, .int 0, .ref (r 15), .ref (r 16), .ref (r 17), .int 0, .int 0, .ref (r 20), .ref (r 21), .ref (r 22), .int 0, .int 0, .ref (r 25), .ref (r 26), .ref (r 27), .ref (r 28), .ref (r 29), .ref (r 30), .int 0, .ref (r 32), .ref (r 33), .ref (r 34), .ref (r 35), .ref (r 36), .ref (r 37), .ref (r 38), .ref (r 39), .ref (r 40), .ref (r 41), .ref (r 42), .int 0, .ref (r 44), .int 0, .int 0, .int 0, .int 0, .int 0, .ref (r 50), .ref (r 51), .ref (r 52), .int 0, .ref (r 54), .int 0, .ref (r 56), .int 0, .int 0, .int 0])), ((r 0), .inl (dA 0, 5161, .inl (fun _ => 0)))] (fun vv ww => vv = none ∧ ww = [(h, .inr (2, [.ref (r 0), .ref (r 1), .ref (r 2), .ref (r 3), .int 0, .int 0, .ref (r 6), .int 0, .int 0, .int 0, .int 0, .int 0, .int 0, .int 0, .int 0, .ref (r 15), .ref (r 16), .ref (r 17), .int 0, .int 0, .ref (r 20), .ref (r 21), .ref (r 22), .int 0, .int 0, .ref (r 25), .ref (r 26), .ref (r 27), .ref (r 28), .ref (r 29), .ref (r 30), .int 0, .ref (r 32), .ref (r 33), .ref (r 34), .ref (r 35), .ref (r 36), .ref (r 37), .ref (r 38), .ref (r 39), .ref (r 40), .ref (r 41), .ref (r 42), .int 0, .ref (r 44), .int 0, .int 0, .int 0, .int 0, .int 0, .ref (r 50), .ref (r 51), .ref (r 52), .int 0, .ref (r 54), .int 0, .ref (r 56), .int 0, .int i, .int 0])), ((r 0), .inl (dA 0, 5161, .inl (fun _ => 0)))]) := by
  refine ms_C.mk hE.1 (by decide) (Nat.le_of_ble_eq_true rfl) [(0, .ref h), (1, .int i)] rfl ?_
  intro p e s m below meth c A ls X hin hP hD hS hl
  have hx := X.1
  have hb := X.2.1
  have hml := X.2.2.1
  have hown : s.vm.findClass "MarkupStoreModel" = some m.cls := X.2.2.2.1
  have hts := X.2.2.2.2.2.2.1
  have hK := X.2.2.2.2.2.2.2.2.1
  have hA := X.2.2.2.2.2.2.2.2.2.2
  refine lv_aload_n hx hb d78_0 rfl (lv_at hl 0 rfl) ?_
  refine lv_iload_n hx hb d78_1 rfl (lv_at hl 1 rfl) ?_
  refine va_put (D := D) (ci := 2) (v := .int i) (ty := .int) (C := kR2) (T := kT2) (N := 60) hx hb hts ku2 kt2 kp2 kn2 hown hK hP hD hS 0 rfl rfl 58 (by decide) (hts _ ms_k1374) (fun _ h => h) rfl (by decide +kernel) rfl rfl (Nat.le_of_ble_eq_true rfl) d78_2 (fun H locs hP hD hS => ?_)
  have hP : va_P D vwCl [(h, .inr (2, [.ref (r 0), .ref (r 1), .ref (r 2), .ref (r 3), .int 0, .int 0, .ref (r 6), .int 0, .int 0, .int 0, .int 0, .int 0, .int 0, .int 0, .int 0, .ref (r 15), .ref (r 16), .ref (r 17), .int 0, .int 0, .ref (r 20), .ref (r 21), .ref (r 22), .int 0, .int 0, .ref (r 25), .ref (r 26), .ref (r 27), .ref (r 28), .ref (r 29), .ref (r 30), .int 0, .ref (r 32), .ref (r 33), .ref (r 34), .ref (r 35), .ref (r 36), .ref (r 37), .ref (r 38), .ref (r 39), .ref (r 40), .ref (r 41), .ref (r 42), .int 0, .ref (r 44), .int 0, .int 0, .int 0, .int 0, .int 0, .ref (r 50), .ref (r 51), .ref (r 52), .int 0, .ref (r 54), .int 0, .ref (r 56), .int 0, .int i, .int 0])), ((r 0), .inl (dA 0, 5161, .inl (fun _ => 0)))] H := hP
  have hD : va_D A [(h, .inr (2, [.ref (r 0), .ref (r 1), .ref (r 2), .ref (r 3), .int 0, .int 0, .ref (r 6), .int 0, .int 0, .int 0, .int 0, .int 0, .int 0, .int 0, .int 0, .ref (r 15), .ref (r 16), .ref (r 17), .int 0, .int 0, .ref (r 20), .ref (r 21), .ref (r 22), .int 0, .int 0, .ref (r 25), .ref (r 26), .ref (r 27), .ref (r 28), .ref (r 29), .ref (r 30), .int 0, .ref (r 32), .ref (r 33), .ref (r 34), .ref (r 35), .ref (r 36), .ref (r 37), .ref (r 38), .ref (r 39), .ref (r 40), .ref (r 41), .ref (r 42), .int 0, .ref (r 44), .int 0, .int 0, .int 0, .int 0, .int 0, .ref (r 50), .ref (r 51), .ref (r 52), .int 0, .ref (r 54), .int 0, .ref (r 56), .int 0, .int i, .int 0])), ((r 0), .inl (dA 0, 5161, .inl (fun _ => 0)))] := hD
  refine lv_aload_n hx hb d78_5 rfl (lv_at hl 0 rfl) ?_
  refine lv_iconst (v := 0) hx hb d78_6 (by decide) ?_
  refine va_put (D := D) (ci := 2) (v := .int 0) (ty := .int) (C := kR2) (T := kT2) (N := 60) hx hb hts ku2 kt2 kp2 kn2 hown hK hP hD hS 0 rfl rfl 57 (by decide) (hts _ ms_k1373) (fun _ h => h) rfl (by decide +kernel) rfl rfl (Nat.le_of_ble_eq_true rfl) d78_7 (fun H locs hP hD hS => ?_)
  have hP : va_P D vwCl [(h, .inr (2, [.ref (r 0), .ref (r 1), .ref (r 2), .ref (r 3), .int 0, .int 0, .ref (r 6), .int 0, .int 0, .int 0, .int 0, .int 0, .int 0, .int 0, .int 0, .ref (r 15), .ref (r 16), .ref (r 17), .int 0, .int 0, .ref (r 20), .ref (r 21), .ref (r 22), .int 0, .int 0, .ref (r 25), .ref (r 26), .ref (r 27), .ref (r 28), .ref (r 29), .ref (r 30), .int 0, .ref (r 32), .ref (r 33), .ref (r 34), .ref (r 35), .ref (r 36), .ref (r 37), .ref (r 38), .ref (r 39), .ref (r 40), .ref (r 41), .ref (r 42), .int 0, .ref (r 44), .int 0, .int 0, .int 0, .int 0, .int 0, .ref (r 50), .ref (r 51), .ref (r 52), .int 0, .ref (r 54), .int 0, .ref (r 56), .int 0, .int i, .int 0])), ((r 0), .inl (dA 0, 5161, .inl (fun _ => 0)))] H := hP
  have hD : va_D A [(h, .inr (2, [.ref (r 0), .ref (r 1), .ref (r 2), .ref (r 3), .int 0, .int 0, .ref (r 6), .int 0, .int 0, .int 0, .int 0, .int 0, .int 0, .int 0, .int 0, .ref (r 15), .ref (r 16), .ref (r 17), .int 0, .int 0, .ref (r 20), .ref (r 21), .ref (r 22), .int 0, .int 0, .ref (r 25), .ref (r 26), .ref (r 27), .ref (r 28), .ref (r 29), .ref (r 30), .int 0, .ref (r 32), .ref (r 33), .ref (r 34), .ref (r 35), .ref (r 36), .ref (r 37), .ref (r 38), .ref (r 39), .ref (r 40), .ref (r 41), .ref (r 42), .int 0, .ref (r 44), .int 0, .int 0, .int 0, .int 0, .int 0, .ref (r 50), .ref (r 51), .ref (r 52), .int 0, .ref (r 54), .int 0, .ref (r 56), .int 0, .int i, .int 0])), ((r 0), .inl (dA 0, 5161, .inl (fun _ => 0)))] := hD
  refine lv_aload_n hx hb d78_10 rfl (lv_at hl 0 rfl) ?_
  refine lv_iconst (v := 0) hx hb d78_11 (by decide) ?_
  refine va_put (D := D) (ci := 2) (v := .int 0) (ty := .int) (C := kR2) (T := kT2) (N := 60) hx hb hts ku2 kt2 kp2 kn2 hown hK hP hD hS 0 rfl rfl 59 (by decide) (hts _ ms_k1375) (fun _ h => h) rfl (by decide +kernel) rfl rfl (Nat.le_of_ble_eq_true rfl) d78_12 (fun H locs hP hD hS => ?_)
  have hP : va_P D vwCl [(h, .inr (2, [.ref (r 0), .ref (r 1), .ref (r 2), .ref (r 3), .int 0, .int 0, .ref (r 6), .int 0, .int 0, .int 0, .int 0, .int 0, .int 0, .int 0, .int 0, .ref (r 15), .ref (r 16), .ref (r 17), .int 0, .int 0, .ref (r 20), .ref (r 21), .ref (r 22), .int 0, .int 0, .ref (r 25), .ref (r 26), .ref (r 27), .ref (r 28), .ref (r 29), .ref (r 30), .int 0, .ref (r 32), .ref (r 33), .ref (r 34), .ref (r 35), .ref (r 36), .ref (r 37), .ref (r 38), .ref (r 39), .ref (r 40), .ref (r 41), .ref (r 42), .int 0, .ref (r 44), .int 0, .int 0, .int 0, .int 0, .int 0, .ref (r 50), .ref (r 51), .ref (r 52), .int 0, .ref (r 54), .int 0, .ref (r 56), .int 0, .int i, .int 0])), ((r 0), .inl (dA 0, 5161, .inl (fun _ => 0)))] H := hP
  have hD : va_D A [(h, .inr (2, [.ref (r 0), .ref (r 1), .ref (r 2), .ref (r 3), .int 0, .int 0, .ref (r 6), .int 0, .int 0, .int 0, .int 0, .int 0, .int 0, .int 0, .int 0, .ref (r 15), .ref (r 16), .ref (r 17), .int 0, .int 0, .ref (r 20), .ref (r 21), .ref (r 22), .int 0, .int 0, .ref (r 25), .ref (r 26), .ref (r 27), .ref (r 28), .ref (r 29), .ref (r 30), .int 0, .ref (r 32), .ref (r 33), .ref (r 34), .ref (r 35), .ref (r 36), .ref (r 37), .ref (r 38), .ref (r 39), .ref (r 40), .ref (r 41), .ref (r 42), .int 0, .ref (r 44), .int 0, .int 0, .int 0, .int 0, .int 0, .ref (r 50), .ref (r 51), .ref (r 52), .int 0, .ref (r 54), .int 0, .ref (r 56), .int 0, .int i, .int 0])), ((r 0), .inl (dA 0, 5161, .inl (fun _ => 0)))] := hD
  refine lv_iconst (v := 0) hx hb d78_15 (by decide) ?_
  refine lv_istore_n hx hb d78_16 rfl hl (by decide) rfl (fun ls hl => ?_)
  have hl : lv_has ls 6 [(2, .int 0), (0, .ref h), (1, .int i)] := hl
  refine lv_iload_n hx hb d78_17 rfl (lv_at hl 0 rfl) ?_
  refine lv_aload_n hx hb d78_18 rfl (lv_at hl 1 rfl) ?_
  refine ms_V (C := "MarkupStoreModel") (rest := [.int 0]) (as := []) (wr := []) X hl (c_count l D dA s0 hE h r i) (List.forall_mem_cons.mpr ⟨ms_k1583, List.forall_mem_cons.mpr ⟨ms_k1585, List.forall_mem_cons.mpr ⟨ms_p62, List.forall_mem_cons.mpr ⟨ms_k7, List.forall_mem_cons.mpr ⟨ms_k1586, fun _ h => absurd h List.not_mem_nil⟩⟩⟩⟩⟩) ⟨rfl, by decide +kernel, by decide +kernel, (by decide +kernel : (parseMethodDescriptor "()I").map (fun d => d.parameters.length) = some 0)⟩ (va_recv hK hP rfl (q0 := 0) rfl) hP hD hS [0, 1] [] rfl rfl ⟨by decide, by decide, by decide⟩ ⟨⟨Nat.le_of_ble_eq_true rfl, Nat.le_of_ble_eq_true rfl⟩, Nat.le_of_ble_eq_true rfl, Nat.le_of_ble_eq_true rfl⟩ rfl (Nat.le_of_ble_eq_true rfl) d78_19 (fun vv ww H locs hR hP hD hS => ?_)
  obtain ⟨rfl, rfl⟩ := hR
  have hP : va_P D vwCl [(h, .inr (2, [.ref (r 0), .ref (r 1), .ref (r 2), .ref (r 3), .int 0, .int 0, .ref (r 6), .int 0, .int 0, .int 0, .int 0, .int 0, .int 0, .int 0, .int 0, .ref (r 15), .ref (r 16), .ref (r 17), .int 0, .int 0, .ref (r 20), .ref (r 21), .ref (r 22), .int 0, .int 0, .ref (r 25), .ref (r 26), .ref (r 27), .ref (r 28), .ref (r 29), .ref (r 30), .int 0, .ref (r 32), .ref (r 33), .ref (r 34), .ref (r 35), .ref (r 36), .ref (r 37), .ref (r 38), .ref (r 39), .ref (r 40), .ref (r 41), .ref (r 42), .int 0, .ref (r 44), .int 0, .int 0, .int 0, .int 0, .int 0, .ref (r 50), .ref (r 51), .ref (r 52), .int 0, .ref (r 54), .int 0, .ref (r 56), .int 0, .int i, .int 0])), ((r 0), .inl (dA 0, 5161, .inl (fun _ => 0)))] H := hP
  have hD : va_D A [(h, .inr (2, [.ref (r 0), .ref (r 1), .ref (r 2), .ref (r 3), .int 0, .int 0, .ref (r 6), .int 0, .int 0, .int 0, .int 0, .int 0, .int 0, .int 0, .int 0, .ref (r 15), .ref (r 16), .ref (r 17), .int 0, .int 0, .ref (r 20), .ref (r 21), .ref (r 22), .int 0, .int 0, .ref (r 25), .ref (r 26), .ref (r 27), .ref (r 28), .ref (r 29), .ref (r 30), .int 0, .ref (r 32), .ref (r 33), .ref (r 34), .ref (r 35), .ref (r 36), .ref (r 37), .ref (r 38), .ref (r 39), .ref (r 40), .ref (r 41), .ref (r 42), .int 0, .ref (r 44), .int 0, .int 0, .int 0, .int 0, .int 0, .ref (r 50), .ref (r 51), .ref (r 52), .int 0, .ref (r 54), .int 0, .ref (r 56), .int 0, .int i, .int 0])), ((r 0), .inl (dA 0, 5161, .inl (fun _ => 0)))] := hD
  refine W.eq (g2 := F0 m 22 ls [.int 0, .int 0]) rfl ?_
  refine lv_icmp_ge hx hb d78_22 rfl (fun _ => ?_) (fun h9 => absurd (by decide) h9)
  exact ms_vret X d78_219 hP hD hS (Nat.le_of_ble_eq_true rfl) (Nat.le_of_ble_eq_true rfl) (⟨rfl, rfl⟩)

set_option maxRecDepth 100000 in
set_option maxHeartbeats 8000000 in
theorem c_mlength (l : Launch) (D : va_G) (dA : Nat → ClassId) (s0 : State) (hE : ms_EV D dA s0) (h : Nat) (r : Nat → Nat) : ms_C l D s0 yM79 bM79 1 (Option.some Jvm.ClassFile.FieldType.int) 2 45 0 0 [.ref h] [(h, .inr (2, [.ref (r 0), .ref (r 1), .ref (r 2), .ref (r 3), .int 0, .int 0, .ref (r 6), .int 0, .int 0, .int 0, .int 0, .int 0, .int 0, .int 0, .int 0, .ref (r 15), .ref (r 16), .ref (r 17), .int 0, .int 0, .ref (r 20), .ref (r 21), .ref (r 22), .int 0, .int 0, .ref (r 25), .ref (r 26), .ref (r 27), .ref (r 28), .ref (r 29), .ref (r 30), .int 0, .ref (r 32), .ref (r 33), .ref (r 34), .ref (r 35), .ref (r 36), .ref (r 37), .ref (r 38), .ref (r 39), .ref (r 40), .ref (r 41), .ref (r 42), .int 0, .ref (r 44), .int 0, .int 0, .int 0, .int 0, .int 0, .ref (r 50), .ref (r 51), .ref (r 52), .int 0, .ref (r 54), .int 0, .ref (r 56), .int 0, .int 0, .int 0])), ((r 0), .inl (dA 0, 5161, .inl (fun _ => 0)))] (fun vv _ => vv = some (.int 0)) := by
  refine ms_C.mk hE.1 (by decide) (Nat.le_of_ble_eq_true rfl) [(0, .ref h)] rfl ?_
  intro p e s m below meth c A ls X hin hP hD hS hl
  have hx := X.1
  have hb := X.2.1
  have hml := X.2.2.1
  have hown : s.vm.findClass "MarkupStoreModel" = some m.cls := X.2.2.2.1
  have hts := X.2.2.2.2.2.2.1
  have hK := X.2.2.2.2.2.2.2.2.1
  have hA := X.2.2.2.2.2.2.2.2.2.2
  refine lv_aload_n hx hb d79_0 rfl (lv_at hl 0 rfl) ?_
  refine lv_iconst (v := (-1)) hx hb d79_1 (by decide) ?_
  refine ms_V (C := "MarkupStoreModel") (rest := []) (as := [.int (-1)]) (wr := []) X hl (c_mwrite l D dA s0 hE h r (-1)) (List.forall_mem_cons.mpr ⟨ms_k1800, List.forall_mem_cons.mpr ⟨ms_k1802, List.forall_mem_cons.mpr ⟨ms_p100, List.forall_mem_cons.mpr ⟨ms_k7, List.forall_mem_cons.mpr ⟨ms_k1803, fun _ h => absurd h List.not_mem_nil⟩⟩⟩⟩⟩) ⟨rfl, by decide +kernel, by decide +kernel, (by decide +kernel : (parseMethodDescriptor "(I)V").map (fun d => d.parameters.length) = some 1)⟩ (va_recv hK hP rfl (q0 := 0) rfl) hP hD hS [0, 1] [] rfl rfl ⟨by decide, by decide, by decide⟩ ⟨⟨Nat.le_of_ble_eq_true rfl, Nat.le_of_ble_eq_true rfl⟩, Nat.le_of_ble_eq_true rfl, Nat.le_of_ble_eq_true rfl⟩ rfl (Nat.le_of_ble_eq_true rfl) d79_2 (fun vv ww H locs hR hP hD hS => ?_)
  obtain ⟨rfl, rfl⟩ := hR
  have hP : va_P D vwCl [(h, .inr (2, [.ref (r 0), .ref (r 1), .ref (r 2), .ref (r 3), .int 0, .int 0, .ref (r 6), .int 0, .int 0, .int 0, .int 0, .int 0, .int 0, .int 0, .int 0, .ref (r 15), .ref (r 16), .ref (r 17), .int 0, .int 0, .ref (r 20), .ref (r 21), .ref (r 22), .int 0, .int 0, .ref (r 25), .ref (r 26), .ref (r 27), .ref (r 28), .ref (r 29), .ref (r 30), .int 0, .ref (r 32), .ref (r 33), .ref (r 34), .ref (r 35), .ref (r 36), .ref (r 37), .ref (r 38), .ref (r 39), .ref (r 40), .ref (r 41), .ref (r 42), .int 0, .ref (r 44), .int 0, .int 0, .int 0, .int 0, .int 0, .ref (r 50), .ref (r 51), .ref (r 52), .int 0, .ref (r 54), .int 0, .ref (r 56), .int 0, .int (-1), .int 0])), ((r 0), .inl (dA 0, 5161, .inl (fun _ => 0)))] H := hP
  have hD : va_D A [(h, .inr (2, [.ref (r 0), .ref (r 1), .ref (r 2), .ref (r 3), .int 0, .int 0, .ref (r 6), .int 0, .int 0, .int 0, .int 0, .int 0, .int 0, .int 0, .int 0, .ref (r 15), .ref (r 16), .ref (r 17), .int 0, .int 0, .ref (r 20), .ref (r 21), .ref (r 22), .int 0, .int 0, .ref (r 25), .ref (r 26), .ref (r 27), .ref (r 28), .ref (r 29), .ref (r 30), .int 0, .ref (r 32), .ref (r 33), .ref (r 34), .ref (r 35), .ref (r 36), .ref (r 37), .ref (r 38), .ref (r 39), .ref (r 40), .ref (r 41), .ref (r 42), .int 0, .ref (r 44), .int 0, .int 0, .int 0, .int 0, .int 0, .ref (r 50), .ref (r 51), .ref (r 52), .int 0, .ref (r 54), .int 0, .ref (r 56), .int 0, .int (-1), .int 0])), ((r 0), .inl (dA 0, 5161, .inl (fun _ => 0)))] := hD
  refine W.eq (g2 := F0 m 5 ls []) rfl ?_
  refine lv_aload_n hx hb d79_5 rfl (lv_at hl 0 rfl) ?_
  refine va_get (D := D) (ci := 2) (v := .int 0) (C := kR2) (T := kT2) (N := 60) hx hb hts ku2 hown hK hP 0 rfl rfl 57 (by decide) (hts _ ms_k1373) (fun _ h => h) rfl d79_6 ?_
  exact ms_iret X d79_9 hP hD hS (Nat.le_of_ble_eq_true rfl) (Nat.le_of_ble_eq_true rfl) rfl

set_option maxRecDepth 100000 in
set_option maxHeartbeats 8000000 in
theorem c_mwritten (l : Launch) (D : va_G) (dA : Nat → ClassId) (s0 : State) (hE : ms_EV D dA s0) (h : Nat) (r : Nat → Nat) (i : Int32) : ms_C l D s0 yM80 bM80 2 (Option.some Jvm.ClassFile.FieldType.int) 2 45 0 0 [.ref h, .int i] [(h, .inr (2, [.ref (r 0), .ref (r 1), .ref (r 2), .ref (r 3), .int 0, .int 0, .ref (r 6), .int 0, .int 0, .int 0, .int 0, .int 0, .int 0, .int 0, .int 0, .ref (r 15), .ref (r 16), .ref (r 17), .int 0, .int 0, .ref (r 20), .ref (r 21), .ref (r 22), .int 0, .int 0, .ref (r 25), .ref (r 26), .ref (r 27), .ref (r 28), .ref (r 29), .ref (r 30), .int 0, .ref (r 32), .ref (r 33), .ref (r 34), .ref (r 35), .ref (r 36), .ref (r 37), .ref (r 38), .ref (r 39), .ref (r 40), .ref (r 41), .ref (r 42), .int 0, .ref (r 44), .int 0, .int 0, .int 0, .int 0, .int 0, .ref (r 50), .ref (r 51), .ref (r 52), .int 0, .ref (r 54), .int 0, .ref (r 56), .int 0, .int 0, .int 0])), ((r 0), .inl (dA 0, 5161, .inl (fun _ => 0)))] (fun vv _ => vv = some (.int 0)) := by
  refine ms_C.mk hE.1 (by decide) (Nat.le_of_ble_eq_true rfl) [(0, .ref h), (1, .int i)] rfl ?_
  intro p e s m below meth c A ls X hin hP hD hS hl
  have hx := X.1
  have hb := X.2.1
  have hml := X.2.2.1
  have hown : s.vm.findClass "MarkupStoreModel" = some m.cls := X.2.2.2.1
  have hts := X.2.2.2.2.2.2.1
  have hK := X.2.2.2.2.2.2.2.2.1
  have hA := X.2.2.2.2.2.2.2.2.2.2
  refine lv_aload_n hx hb d80_0 rfl (lv_at hl 0 rfl) ?_
  refine lv_iload_n hx hb d80_1 rfl (lv_at hl 1 rfl) ?_
  refine ms_V (C := "MarkupStoreModel") (rest := []) (as := [.int i]) (wr := []) X hl (c_mwrite l D dA s0 hE h r i) (List.forall_mem_cons.mpr ⟨ms_k1800, List.forall_mem_cons.mpr ⟨ms_k1802, List.forall_mem_cons.mpr ⟨ms_p100, List.forall_mem_cons.mpr ⟨ms_k7, List.forall_mem_cons.mpr ⟨ms_k1803, fun _ h => absurd h List.not_mem_nil⟩⟩⟩⟩⟩) ⟨rfl, by decide +kernel, by decide +kernel, (by decide +kernel : (parseMethodDescriptor "(I)V").map (fun d => d.parameters.length) = some 1)⟩ (va_recv hK hP rfl (q0 := 0) rfl) hP hD hS [0, 1] [] rfl rfl ⟨by decide, by decide, by decide⟩ ⟨⟨Nat.le_of_ble_eq_true rfl, Nat.le_of_ble_eq_true rfl⟩, Nat.le_of_ble_eq_true rfl, Nat.le_of_ble_eq_true rfl⟩ rfl (Nat.le_of_ble_eq_true rfl) d80_2 (fun vv ww H locs hR hP hD hS => ?_)
  obtain ⟨rfl, rfl⟩ := hR
  have hP : va_P D vwCl [(h, .inr (2, [.ref (r 0), .ref (r 1), .ref (r 2), .ref (r 3), .int 0, .int 0, .ref (r 6), .int 0, .int 0, .int 0, .int 0, .int 0, .int 0, .int 0, .int 0, .ref (r 15), .ref (r 16), .ref (r 17), .int 0, .int 0, .ref (r 20), .ref (r 21), .ref (r 22), .int 0, .int 0, .ref (r 25), .ref (r 26), .ref (r 27), .ref (r 28), .ref (r 29), .ref (r 30), .int 0, .ref (r 32), .ref (r 33), .ref (r 34), .ref (r 35), .ref (r 36), .ref (r 37), .ref (r 38), .ref (r 39), .ref (r 40), .ref (r 41), .ref (r 42), .int 0, .ref (r 44), .int 0, .int 0, .int 0, .int 0, .int 0, .ref (r 50), .ref (r 51), .ref (r 52), .int 0, .ref (r 54), .int 0, .ref (r 56), .int 0, .int i, .int 0])), ((r 0), .inl (dA 0, 5161, .inl (fun _ => 0)))] H := hP
  have hD : va_D A [(h, .inr (2, [.ref (r 0), .ref (r 1), .ref (r 2), .ref (r 3), .int 0, .int 0, .ref (r 6), .int 0, .int 0, .int 0, .int 0, .int 0, .int 0, .int 0, .int 0, .ref (r 15), .ref (r 16), .ref (r 17), .int 0, .int 0, .ref (r 20), .ref (r 21), .ref (r 22), .int 0, .int 0, .ref (r 25), .ref (r 26), .ref (r 27), .ref (r 28), .ref (r 29), .ref (r 30), .int 0, .ref (r 32), .ref (r 33), .ref (r 34), .ref (r 35), .ref (r 36), .ref (r 37), .ref (r 38), .ref (r 39), .ref (r 40), .ref (r 41), .ref (r 42), .int 0, .ref (r 44), .int 0, .int 0, .int 0, .int 0, .int 0, .ref (r 50), .ref (r 51), .ref (r 52), .int 0, .ref (r 54), .int 0, .ref (r 56), .int 0, .int i, .int 0])), ((r 0), .inl (dA 0, 5161, .inl (fun _ => 0)))] := hD
  refine W.eq (g2 := F0 m 5 ls []) rfl ?_
  refine lv_aload_n hx hb d80_5 rfl (lv_at hl 0 rfl) ?_
  refine va_get (D := D) (ci := 2) (v := .int 0) (C := kR2) (T := kT2) (N := 60) hx hb hts ku2 hown hK hP 0 rfl rfl 59 (by decide) (hts _ ms_k1375) (fun _ h => h) rfl d80_6 ?_
  exact ms_iret X d80_9 hP hD hS (Nat.le_of_ble_eq_true rfl) (Nat.le_of_ble_eq_true rfl) rfl

set_option maxRecDepth 100000 in
set_option maxHeartbeats 8000000 in
theorem lp_save {p : Program} {l : Launch} {e : Env} {R : Room} {s s0 : State} {m : MethodId} {args : Array Value} {below : List Frame} {meth : Method} {c : Code} {A : Nat → Prop} {Q : State → Prop} (D : va_G) (dA : Nat → ClassId) (h : Nat) (r : Nat → Nat) (f : Nat → Int32) (X : ms_X D (ms_tys dA) s0 p s m args meth c A yM81 bM81 2 (Option.none : Option Jvm.ClassFile.FieldType))
    (kx : ∀ (g : Nat → Int32) (H : Heap) (locs : List Loc) (ls : Array Slot), va_P D vwCl [(h, .inr (2, [.ref (r 0), .ref (r 1), .ref (r 2), .ref (r 3), .int 0, .int 0, .ref (r 6), .int 0, .int 0, .int 0, .int 0, .int 0, .int 0, .int 0, .int 0, .ref (r 15), .ref (r 16), .ref (r 17), .int 0, .int 0, .ref (r 20), .ref (r 21), .ref (r 22), .int 0, .int 0, .ref (r 25), .ref (r 26), .ref (r 27), .ref (r 28), .ref (r 29), .ref (r 30), .int 0, .ref (r 32), .ref (r 33), .ref (r 34), .ref (r 35), .ref (r 36), .ref (r 37), .ref (r 38), .ref (r 39), .ref (r 40), .ref (r 41), .ref (r 42), .int 0, .ref (r 44), .int 0, .int 0, .int 0, .int 0, .int 0, .ref (r 50), .ref (r 51), .ref (r 52), .int 0, .ref (r 54), .int 0, .ref (r 56), .int 0, .int 0, .int 0])), ((r 1), .inl (dA 0, 5161, .inl g)), ((r 0), .inl (dA 0, 5161, .inl f))] H → va_D A [(h, .inr (2, [.ref (r 0), .ref (r 1), .ref (r 2), .ref (r 3), .int 0, .int 0, .ref (r 6), .int 0, .int 0, .int 0, .int 0, .int 0, .int 0, .int 0, .int 0, .ref (r 15), .ref (r 16), .ref (r 17), .int 0, .int 0, .ref (r 20), .ref (r 21), .ref (r 22), .int 0, .int 0, .ref (r 25), .ref (r 26), .ref (r 27), .ref (r 28), .ref (r 29), .ref (r 30), .int 0, .ref (r 32), .ref (r 33), .ref (r 34), .ref (r 35), .ref (r 36), .ref (r 37), .ref (r 38), .ref (r 39), .ref (r 40), .ref (r 41), .ref (r 42), .int 0, .ref (r 44), .int 0, .int 0, .int 0, .int 0, .int 0, .ref (r 50), .ref (r 51), .ref (r 52), .int 0, .ref (r 54), .int 0, .ref (r 56), .int 0, .int 0, .int 0])), ((r 1), .inl (dA 0, 5161, .inl g)), ((r 0), .inl (dA 0, 5161, .inl f))] → va_S A s.heap H locs → lv_has ls 2 [(1, .int (nI 5161)), (0, .ref h)] → W p l e R s m args below meth c H locs 0 0 Q (F0 m 27 ls [])) : ∀ (n k : Nat) (g : Nat → Int32) (H : Heap) (locs : List Loc) (ls : Array Slot), k + n = 5161 → va_P D vwCl [(h, .inr (2, [.ref (r 0), .ref (r 1), .ref (r 2), .ref (r 3), .int 0, .int 0, .ref (r 6), .int 0, .int 0, .int 0, .int 0, .int 0, .int 0, .int 0, .int 0, .ref (r 15), .ref (r 16), .ref (r 17), .int 0, .int 0, .ref (r 20), .ref (r 21), .ref (r 22), .int 0, .int 0, .ref (r 25), .ref (r 26), .ref (r 27), .ref (r 28), .ref (r 29), .ref (r 30), .int 0, .ref (r 32), .ref (r 33), .ref (r 34), .ref (r 35), .ref (r 36), .ref (r 37), .ref (r 38), .ref (r 39), .ref (r 40), .ref (r 41), .ref (r 42), .int 0, .ref (r 44), .int 0, .int 0, .int 0, .int 0, .int 0, .ref (r 50), .ref (r 51), .ref (r 52), .int 0, .ref (r 54), .int 0, .ref (r 56), .int 0, .int 0, .int 0])), ((r 1), .inl (dA 0, 5161, .inl g)), ((r 0), .inl (dA 0, 5161, .inl f))] H → va_D A [(h, .inr (2, [.ref (r 0), .ref (r 1), .ref (r 2), .ref (r 3), .int 0, .int 0, .ref (r 6), .int 0, .int 0, .int 0, .int 0, .int 0, .int 0, .int 0, .int 0, .ref (r 15), .ref (r 16), .ref (r 17), .int 0, .int 0, .ref (r 20), .ref (r 21), .ref (r 22), .int 0, .int 0, .ref (r 25), .ref (r 26), .ref (r 27), .ref (r 28), .ref (r 29), .ref (r 30), .int 0, .ref (r 32), .ref (r 33), .ref (r 34), .ref (r 35), .ref (r 36), .ref (r 37), .ref (r 38), .ref (r 39), .ref (r 40), .ref (r 41), .ref (r 42), .int 0, .ref (r 44), .int 0, .int 0, .int 0, .int 0, .int 0, .ref (r 50), .ref (r 51), .ref (r 52), .int 0, .ref (r 54), .int 0, .ref (r 56), .int 0, .int 0, .int 0])), ((r 1), .inl (dA 0, 5161, .inl g)), ((r 0), .inl (dA 0, 5161, .inl f))] → va_S A s.heap H locs → lv_has ls 2 [(1, .int (nI k)), (0, .ref h)] → W p l e R s m args below meth c H locs 0 0 Q (F0 m 2 ls []) := by
  have hx := X.1
  have hb := X.2.1
  have hml := X.2.2.1
  have hown : s.vm.findClass "MarkupStoreModel" = some m.cls := X.2.2.2.1
  have hts := X.2.2.2.2.2.2.1
  have hK := X.2.2.2.2.2.2.2.2.1
  intro n
  induction n with
  | zero =>
    intro k g H locs ls hk hP hD hS hl
    obtain rfl : k = 5161 := by omega
    refine lv_iload_n hx hb d81_2 rfl (lv_at hl 0 rfl) ?_
    refine lv_sipush (v := 5161) hx hb d81_3 (by decide) ?_
    refine lv_icmp_ge hx hb d81_6 rfl (fun _ => ?_) (fun h9 => absurd (by decide) h9)
    exact kx g H locs ls hP hD hS hl
  | succ n ih =>
    intro k g H locs ls hk hP hD hS hl
    refine lv_iload_n hx hb d81_2 rfl (lv_at hl 0 rfl) ?_
    refine lv_sipush (v := 5161) hx hb d81_3 (by decide) ?_
    refine lv_icmp_ge hx hb d81_6 rfl (fun h9 => absurd h9 (show ¬ ((5161 : Int32) ≤ nI k) from nI_ge (a := k) (b := 5161) (by omega) (by decide))) (fun _ => ?_)
    refine lv_aload_n hx hb d81_9 rfl (lv_at hl 1 rfl) ?_
    refine va_get (D := D) (ci := 2) (v := .ref (r 1)) (C := kR2) (T := kT2) (N := 60) hx hb hts ku2 hown hK hP 0 rfl rfl 1 (by decide) (hts _ ms_k1317) (fun _ h => h) rfl d81_10 ?_
    refine lv_iload_n hx hb d81_13 rfl (lv_at hl 0 rfl) ?_
    refine lv_aload_n hx hb d81_14 rfl (lv_at hl 1 rfl) ?_
    refine va_get (D := D) (ci := 2) (v := .ref (r 0)) (C := kR2) (T := kT2) (N := 60) hx hb hts ku2 hown hK hP 0 rfl rfl 0 (by decide) (hts _ ms_k1316) (fun _ h => h) rfl d81_15 ?_
    refine lv_iload_n hx hb d81_18 rfl (lv_at hl 0 rfl) ?_
    refine va_iald hx hb hK hP 2 0 rfl rfl (vp_in_nI (by omega) (by decide)) d81_19 ?_
    refine va_iast hx hb hK hP hD hS 1 0 rfl rfl (vp_in_nI (by omega) (by decide)) d81_20 (fun H locs hP hD hS => ?_)
    have hP : va_P D vwCl [(h, .inr (2, [.ref (r 0), .ref (r 1), .ref (r 2), .ref (r 3), .int 0, .int 0, .ref (r 6), .int 0, .int 0, .int 0, .int 0, .int 0, .int 0, .int 0, .int 0, .ref (r 15), .ref (r 16), .ref (r 17), .int 0, .int 0, .ref (r 20), .ref (r 21), .ref (r 22), .int 0, .int 0, .ref (r 25), .ref (r 26), .ref (r 27), .ref (r 28), .ref (r 29), .ref (r 30), .int 0, .ref (r 32), .ref (r 33), .ref (r 34), .ref (r 35), .ref (r 36), .ref (r 37), .ref (r 38), .ref (r 39), .ref (r 40), .ref (r 41), .ref (r 42), .int 0, .ref (r 44), .int 0, .int 0, .int 0, .int 0, .int 0, .ref (r 50), .ref (r 51), .ref (r 52), .int 0, .ref (r 54), .int 0, .ref (r 56), .int 0, .int 0, .int 0])), ((r 1), .inl (dA 0, 5161, .inl (upd g (nI k).toNatClampNeg (f (nI k).toNatClampNeg)))), ((r 0), .inl (dA 0, 5161, .inl f))] H := hP
    have hD : va_D A [(h, .inr (2, [.ref (r 0), .ref (r 1), .ref (r 2), .ref (r 3), .int 0, .int 0, .ref (r 6), .int 0, .int 0, .int 0, .int 0, .int 0, .int 0, .int 0, .int 0, .ref (r 15), .ref (r 16), .ref (r 17), .int 0, .int 0, .ref (r 20), .ref (r 21), .ref (r 22), .int 0, .int 0, .ref (r 25), .ref (r 26), .ref (r 27), .ref (r 28), .ref (r 29), .ref (r 30), .int 0, .ref (r 32), .ref (r 33), .ref (r 34), .ref (r 35), .ref (r 36), .ref (r 37), .ref (r 38), .ref (r 39), .ref (r 40), .ref (r 41), .ref (r 42), .int 0, .ref (r 44), .int 0, .int 0, .int 0, .int 0, .int 0, .ref (r 50), .ref (r 51), .ref (r 52), .int 0, .ref (r 54), .int 0, .ref (r 56), .int 0, .int 0, .int 0])), ((r 1), .inl (dA 0, 5161, .inl (upd g (nI k).toNatClampNeg (f (nI k).toNatClampNeg)))), ((r 0), .inl (dA 0, 5161, .inl f))] := hD
    refine lv_iinc (k := 0) (v := (nI (k + 1))) hx hb d81_21 hl rfl (nI_1 k) (by decide) rfl (fun ls hl => ?_)
    have hl : lv_has ls 2 [(1, .int (nI (k + 1))), (0, .ref h)] := hl
    refine lv_goto hx hb d81_24 rfl ?_
    exact ih (k + 1) _ H locs ls (by omega) hP hD hS hl

set_option maxRecDepth 100000 in
set_option maxHeartbeats 8000000 in
theorem c_msave (l : Launch) (D : va_G) (dA : Nat → ClassId) (s0 : State) (hE : ms_EV D dA s0) (h : Nat) (r : Nat → Nat) : ms_C l D s0 yM81 bM81 2 (Option.none : Option Jvm.ClassFile.FieldType) 0 0 0 0 [.ref h] [(h, .inr (2, [.ref (r 0), .ref (r 1), .ref (r 2), .ref (r 3), .int 0, .int 0, .ref (r 6), .int 0, .int 0, .int 0, .int 0, .int 0, .int 0, .int 0, .int 0, .ref (r 15), .ref (r 16), .ref (r 17), .int 0, .int 0, .ref (r 20), .ref (r 21), .ref (r 22), .int 0, .int 0, .ref (r 25), .ref (r 26), .ref (r 27), .ref (r 28), .ref (r 29), .ref (r 30), .int 0, .ref (r 32), .ref (r 33), .ref (r 34), .ref (r 35), .ref (r 36), .ref (r 37), .ref (r 38), .ref (r 39), .ref (r 40), .ref (r 41), .ref (r 42), .int 0, .ref (r 44), .int 0, .int 0, .int 0, .int 0, .int 0, .ref (r 50), .ref (r 51), .ref (r 52), .int 0, .ref (r 54), .int 0, .ref (r 56), .int 0, .int 0, .int 0])), ((r 1), .inl (dA 0, 5161, .inl (fun _ => 0))), ((r 0), .inl (dA 0, 5161, .inl (fun _ => 0)))] (fun vv ww => vv = none ∧ ww = [(h, .inr (2, [.ref (r 0), .ref (r 1), .ref (r 2), .ref (r 3), .int 0, .int 0, .ref (r 6), .int 0, .int 0, .int 0, .int 0, .int 0, .int 0, .int 0, .int 0, .ref (r 15), .ref (r 16), .ref (r 17), .int 0, .int 0, .ref (r 20), .ref (r 21), .ref (r 22), .int 0, .int 0, .ref (r 25), .ref (r 26), .ref (r 27), .ref (r 28), .ref (r 29), .ref (r 30), .int 0, .ref (r 32), .ref (r 33), .ref (r 34), .ref (r 35), .ref (r 36), .ref (r 37), .ref (r 38), .ref (r 39), .ref (r 40), .ref (r 41), .ref (r 42), .int 0, .ref (r 44), .int 0, .int 0, .int 0, .int 0, .int 0, .ref (r 50), .ref (r 51), .ref (r 52), .int 0, .ref (r 54), .int 0, .ref (r 56), .int 0, .int 0, .int 0])), ((r 0), .inl (dA 0, 5161, .inl (fun _ => 0)))]) := by
  refine ms_C.mk hE.1 (by decide) (Nat.le_of_ble_eq_true rfl) [(0, .ref h)] rfl ?_
  intro p e s m below meth c A ls X hin hP hD hS hl
  have hx := X.1
  have hb := X.2.1
  have hml := X.2.2.1
  have hown : s.vm.findClass "MarkupStoreModel" = some m.cls := X.2.2.2.1
  have hts := X.2.2.2.2.2.2.1
  have hK := X.2.2.2.2.2.2.2.2.1
  have hA := X.2.2.2.2.2.2.2.2.2.2
  refine lv_iconst (v := 0) hx hb d81_0 (by decide) ?_
  refine lv_istore_n hx hb d81_1 rfl hl (by decide) rfl (fun ls hl => ?_)
  have hl : lv_has ls 2 [(1, .int 0), (0, .ref h)] := hl
  refine lp_save D dA h r _ X (fun g H locs ls hP hD hS hl => ?_) 5161 0 _ _ _ _ rfl hP hD hS hl
  have hP : va_P D vwCl [(h, .inr (2, [.ref (r 0), .ref (r 1), .ref (r 2), .ref (r 3), .int 0, .int 0, .ref (r 6), .int 0, .int 0, .int 0, .int 0, .int 0, .int 0, .int 0, .int 0, .ref (r 15), .ref (r 16), .ref (r 17), .int 0, .int 0, .ref (r 20), .ref (r 21), .ref (r 22), .int 0, .int 0, .ref (r 25), .ref (r 26), .ref (r 27), .ref (r 28), .ref (r 29), .ref (r 30), .int 0, .ref (r 32), .ref (r 33), .ref (r 34), .ref (r 35), .ref (r 36), .ref (r 37), .ref (r 38), .ref (r 39), .ref (r 40), .ref (r 41), .ref (r 42), .int 0, .ref (r 44), .int 0, .int 0, .int 0, .int 0, .int 0, .ref (r 50), .ref (r 51), .ref (r 52), .int 0, .ref (r 54), .int 0, .ref (r 56), .int 0, .int 0, .int 0])), ((r 1), .inl (dA 0, 5161, .inl g)), ((r 0), .inl (dA 0, 5161, .inl (fun _ => 0)))] H := hP
  have hD : va_D A [(h, .inr (2, [.ref (r 0), .ref (r 1), .ref (r 2), .ref (r 3), .int 0, .int 0, .ref (r 6), .int 0, .int 0, .int 0, .int 0, .int 0, .int 0, .int 0, .int 0, .ref (r 15), .ref (r 16), .ref (r 17), .int 0, .int 0, .ref (r 20), .ref (r 21), .ref (r 22), .int 0, .int 0, .ref (r 25), .ref (r 26), .ref (r 27), .ref (r 28), .ref (r 29), .ref (r 30), .int 0, .ref (r 32), .ref (r 33), .ref (r 34), .ref (r 35), .ref (r 36), .ref (r 37), .ref (r 38), .ref (r 39), .ref (r 40), .ref (r 41), .ref (r 42), .int 0, .ref (r 44), .int 0, .int 0, .int 0, .int 0, .int 0, .ref (r 50), .ref (r 51), .ref (r 52), .int 0, .ref (r 54), .int 0, .ref (r 56), .int 0, .int 0, .int 0])), ((r 1), .inl (dA 0, 5161, .inl g)), ((r 0), .inl (dA 0, 5161, .inl (fun _ => 0)))] := hD
  refine lv_aload_n hx hb d81_27 rfl (lv_at hl 1 rfl) ?_
  refine lv_iconst (v := 0) hx hb d81_28 (by decide) ?_
  refine va_put (D := D) (ci := 2) (v := .int 0) (ty := .int) (C := kR2) (T := kT2) (N := 60) hx hb hts ku2 kt2 kp2 kn2 hown hK hP hD hS 0 rfl rfl 5 (by decide) (hts _ ms_k1321) (fun _ h => h) rfl (by decide +kernel) rfl rfl (Nat.le_of_ble_eq_true rfl) d81_29 (fun H locs hP hD hS => ?_)
  have hP : va_P D vwCl [(h, .inr (2, [.ref (r 0), .ref (r 1), .ref (r 2), .ref (r 3), .int 0, .int 0, .ref (r 6), .int 0, .int 0, .int 0, .int 0, .int 0, .int 0, .int 0, .int 0, .ref (r 15), .ref (r 16), .ref (r 17), .int 0, .int 0, .ref (r 20), .ref (r 21), .ref (r 22), .int 0, .int 0, .ref (r 25), .ref (r 26), .ref (r 27), .ref (r 28), .ref (r 29), .ref (r 30), .int 0, .ref (r 32), .ref (r 33), .ref (r 34), .ref (r 35), .ref (r 36), .ref (r 37), .ref (r 38), .ref (r 39), .ref (r 40), .ref (r 41), .ref (r 42), .int 0, .ref (r 44), .int 0, .int 0, .int 0, .int 0, .int 0, .ref (r 50), .ref (r 51), .ref (r 52), .int 0, .ref (r 54), .int 0, .ref (r 56), .int 0, .int 0, .int 0])), ((r 1), .inl (dA 0, 5161, .inl g)), ((r 0), .inl (dA 0, 5161, .inl (fun _ => 0)))] H := hP
  have hD : va_D A [(h, .inr (2, [.ref (r 0), .ref (r 1), .ref (r 2), .ref (r 3), .int 0, .int 0, .ref (r 6), .int 0, .int 0, .int 0, .int 0, .int 0, .int 0, .int 0, .int 0, .ref (r 15), .ref (r 16), .ref (r 17), .int 0, .int 0, .ref (r 20), .ref (r 21), .ref (r 22), .int 0, .int 0, .ref (r 25), .ref (r 26), .ref (r 27), .ref (r 28), .ref (r 29), .ref (r 30), .int 0, .ref (r 32), .ref (r 33), .ref (r 34), .ref (r 35), .ref (r 36), .ref (r 37), .ref (r 38), .ref (r 39), .ref (r 40), .ref (r 41), .ref (r 42), .int 0, .ref (r 44), .int 0, .int 0, .int 0, .int 0, .int 0, .ref (r 50), .ref (r 51), .ref (r 52), .int 0, .ref (r 54), .int 0, .ref (r 56), .int 0, .int 0, .int 0])), ((r 1), .inl (dA 0, 5161, .inl g)), ((r 0), .inl (dA 0, 5161, .inl (fun _ => 0)))] := hD
  have hP := hP.sub (ws' := [(h, .inr (2, [.ref (r 0), .ref (r 1), .ref (r 2), .ref (r 3), .int 0, .int 0, .ref (r 6), .int 0, .int 0, .int 0, .int 0, .int 0, .int 0, .int 0, .int 0, .ref (r 15), .ref (r 16), .ref (r 17), .int 0, .int 0, .ref (r 20), .ref (r 21), .ref (r 22), .int 0, .int 0, .ref (r 25), .ref (r 26), .ref (r 27), .ref (r 28), .ref (r 29), .ref (r 30), .int 0, .ref (r 32), .ref (r 33), .ref (r 34), .ref (r 35), .ref (r 36), .ref (r 37), .ref (r 38), .ref (r 39), .ref (r 40), .ref (r 41), .ref (r 42), .int 0, .ref (r 44), .int 0, .int 0, .int 0, .int 0, .int 0, .ref (r 50), .ref (r 51), .ref (r 52), .int 0, .ref (r 54), .int 0, .ref (r 56), .int 0, .int 0, .int 0])), ((r 0), .inl (dA 0, 5161, .inl (fun _ => 0)))]) [0, 2] rfl
  have hD := hD.sub (ws' := [(h, .inr (2, [.ref (r 0), .ref (r 1), .ref (r 2), .ref (r 3), .int 0, .int 0, .ref (r 6), .int 0, .int 0, .int 0, .int 0, .int 0, .int 0, .int 0, .int 0, .ref (r 15), .ref (r 16), .ref (r 17), .int 0, .int 0, .ref (r 20), .ref (r 21), .ref (r 22), .int 0, .int 0, .ref (r 25), .ref (r 26), .ref (r 27), .ref (r 28), .ref (r 29), .ref (r 30), .int 0, .ref (r 32), .ref (r 33), .ref (r 34), .ref (r 35), .ref (r 36), .ref (r 37), .ref (r 38), .ref (r 39), .ref (r 40), .ref (r 41), .ref (r 42), .int 0, .ref (r 44), .int 0, .int 0, .int 0, .int 0, .int 0, .ref (r 50), .ref (r 51), .ref (r 52), .int 0, .ref (r 54), .int 0, .ref (r 56), .int 0, .int 0, .int 0])), ((r 0), .inl (dA 0, 5161, .inl (fun _ => 0)))]) [0, 2] (by decide) rfl
  exact ms_vret X d81_32 hP hD hS (Nat.le_of_ble_eq_true rfl) (Nat.le_of_ble_eq_true rfl) (⟨rfl, rfl⟩)

set_option maxRecDepth 100000 in
set_option maxHeartbeats 8000000 in
theorem c_mcommit (l : Launch) (D : va_G) (dA : Nat → ClassId) (s0 : State) (hE : ms_EV D dA s0) (h : Nat) (r : Nat → Nat) : ms_C l D s0 yM82 bM82 2 (Option.some Jvm.ClassFile.FieldType.int) 1 21 0 0 [.ref h] [(h, .inr (2, [.ref (r 0), .ref (r 1), .ref (r 2), .ref (r 3), .int 0, .int 0, .ref (r 6), .int 0, .int 0, .int 0, .int 0, .int 0, .int 0, .int 0, .int 0, .ref (r 15), .ref (r 16), .ref (r 17), .int 0, .int 0, .ref (r 20), .ref (r 21), .ref (r 22), .int 0, .int 0, .ref (r 25), .ref (r 26), .ref (r 27), .ref (r 28), .ref (r 29), .ref (r 30), .int 0, .ref (r 32), .ref (r 33), .ref (r 34), .ref (r 35), .ref (r 36), .ref (r 37), .ref (r 38), .ref (r 39), .ref (r 40), .ref (r 41), .ref (r 42), .int 0, .ref (r 44), .int 0, .int 0, .int 0, .int 0, .int 0, .ref (r 50), .ref (r 51), .ref (r 52), .int 0, .ref (r 54), .int 0, .ref (r 56), .int 0, .int 0, .int 0])), ((r 1), .inl (dA 0, 5161, .inl (fun _ => 0))), ((r 0), .inl (dA 0, 5161, .inl (fun _ => 0)))] (fun vv _ => vv = some (.int 0)) := by
  refine ms_C.mk hE.1 (by decide) (Nat.le_of_ble_eq_true rfl) [(0, .ref h)] rfl ?_
  intro p e s m below meth c A ls X hin hP hD hS hl
  have hx := X.1
  have hb := X.2.1
  have hml := X.2.2.1
  have hown : s.vm.findClass "MarkupStoreModel" = some m.cls := X.2.2.2.1
  have hts := X.2.2.2.2.2.2.1
  have hK := X.2.2.2.2.2.2.2.2.1
  have hA := X.2.2.2.2.2.2.2.2.2.2
  refine lv_aload_n hx hb d82_0 rfl (lv_at hl 0 rfl) ?_
  refine va_get (D := D) (ci := 2) (v := .int 0) (C := kR2) (T := kT2) (N := 60) hx hb hts ku2 hown hK hP 0 rfl rfl 5 (by decide) (hts _ ms_k1321) (fun _ h => h) rfl d82_1 ?_
  refine lv_istore_n hx hb d82_4 rfl hl (by decide) rfl (fun ls hl => ?_)
  have hl : lv_has ls 2 [(1, .int 0), (0, .ref h)] := hl
  refine lv_aload_n hx hb d82_5 rfl (lv_at hl 1 rfl) ?_
  refine ms_V (C := "MarkupStoreModel") (rest := []) (as := []) (wr := []) X hl (c_msave l D dA s0 hE h r) (List.forall_mem_cons.mpr ⟨ms_k1595, List.forall_mem_cons.mpr ⟨ms_k1597, List.forall_mem_cons.mpr ⟨ms_p65, List.forall_mem_cons.mpr ⟨ms_k7, List.forall_mem_cons.mpr ⟨ms_k1598, fun _ h => absurd h List.not_mem_nil⟩⟩⟩⟩⟩) ⟨rfl, by decide +kernel, by decide +kernel, (by decide +kernel : (parseMethodDescriptor "()V").map (fun d => d.parameters.length) = some 0)⟩ (va_recv hK hP rfl (q0 := 0) rfl) hP hD hS [0, 1, 2] [] rfl rfl ⟨by decide, by decide, by decide⟩ ⟨⟨Nat.le_of_ble_eq_true rfl, Nat.le_of_ble_eq_true rfl⟩, Nat.le_of_ble_eq_true rfl, Nat.le_of_ble_eq_true rfl⟩ rfl (Nat.le_of_ble_eq_true rfl) d82_6 (fun vv ww H locs hR hP hD hS => ?_)
  obtain ⟨rfl, rfl⟩ := hR
  have hP : va_P D vwCl [(h, .inr (2, [.ref (r 0), .ref (r 1), .ref (r 2), .ref (r 3), .int 0, .int 0, .ref (r 6), .int 0, .int 0, .int 0, .int 0, .int 0, .int 0, .int 0, .int 0, .ref (r 15), .ref (r 16), .ref (r 17), .int 0, .int 0, .ref (r 20), .ref (r 21), .ref (r 22), .int 0, .int 0, .ref (r 25), .ref (r 26), .ref (r 27), .ref (r 28), .ref (r 29), .ref (r 30), .int 0, .ref (r 32), .ref (r 33), .ref (r 34), .ref (r 35), .ref (r 36), .ref (r 37), .ref (r 38), .ref (r 39), .ref (r 40), .ref (r 41), .ref (r 42), .int 0, .ref (r 44), .int 0, .int 0, .int 0, .int 0, .int 0, .ref (r 50), .ref (r 51), .ref (r 52), .int 0, .ref (r 54), .int 0, .ref (r 56), .int 0, .int 0, .int 0])), ((r 0), .inl (dA 0, 5161, .inl (fun _ => 0)))] H := hP
  have hD : va_D A [(h, .inr (2, [.ref (r 0), .ref (r 1), .ref (r 2), .ref (r 3), .int 0, .int 0, .ref (r 6), .int 0, .int 0, .int 0, .int 0, .int 0, .int 0, .int 0, .int 0, .ref (r 15), .ref (r 16), .ref (r 17), .int 0, .int 0, .ref (r 20), .ref (r 21), .ref (r 22), .int 0, .int 0, .ref (r 25), .ref (r 26), .ref (r 27), .ref (r 28), .ref (r 29), .ref (r 30), .int 0, .ref (r 32), .ref (r 33), .ref (r 34), .ref (r 35), .ref (r 36), .ref (r 37), .ref (r 38), .ref (r 39), .ref (r 40), .ref (r 41), .ref (r 42), .int 0, .ref (r 44), .int 0, .int 0, .int 0, .int 0, .int 0, .ref (r 50), .ref (r 51), .ref (r 52), .int 0, .ref (r 54), .int 0, .ref (r 56), .int 0, .int 0, .int 0])), ((r 0), .inl (dA 0, 5161, .inl (fun _ => 0)))] := hD
  refine W.eq (g2 := F0 m 9 ls []) rfl ?_
  refine lv_iload_n hx hb d82_9 rfl (lv_at hl 0 rfl) ?_
  exact ms_iret X d82_10 hP hD hS (Nat.le_of_ble_eq_true rfl) (Nat.le_of_ble_eq_true rfl) rfl

set_option maxRecDepth 100000 in
set_option maxHeartbeats 8000000 in
theorem lp_crash {p : Program} {l : Launch} {e : Env} {R : Room} {s s0 : State} {m : MethodId} {args : Array Value} {below : List Frame} {meth : Method} {c : Code} {A : Nat → Prop} {Q : State → Prop} (D : va_G) (dA : Nat → ClassId) (h : Nat) (r : Nat → Nat) (f : Nat → Int32) (X : ms_X D (ms_tys dA) s0 p s m args meth c A yM83 bM83 3 (Option.some Jvm.ClassFile.FieldType.int))
    (kx : ∀ (g : Nat → Int32) (H : Heap) (locs : List Loc) (ls : Array Slot), va_P D vwCl [(h, .inr (2, [.ref (r 0), .ref (r 1), .ref (r 2), .ref (r 3), .int 0, .int 0, .ref (r 6), .int 0, .int 0, .int 0, .int 0, .int 0, .int 0, .int 0, .int 0, .ref (r 15), .ref (r 16), .ref (r 17), .int 0, .int 0, .ref (r 20), .ref (r 21), .ref (r 22), .int 0, .int 0, .ref (r 25), .ref (r 26), .ref (r 27), .ref (r 28), .ref (r 29), .ref (r 30), .int 0, .ref (r 32), .ref (r 33), .ref (r 34), .ref (r 35), .ref (r 36), .ref (r 37), .ref (r 38), .ref (r 39), .ref (r 40), .ref (r 41), .ref (r 42), .int 0, .ref (r 44), .int 0, .int 0, .int 0, .int 0, .int 0, .ref (r 50), .ref (r 51), .ref (r 52), .int 0, .ref (r 54), .int 0, .ref (r 56), .int 0, .int 0, .int 0])), ((r 0), .inl (dA 0, 5161, .inl g)), ((r 1), .inl (dA 0, 5161, .inl f))] H → va_D A [(h, .inr (2, [.ref (r 0), .ref (r 1), .ref (r 2), .ref (r 3), .int 0, .int 0, .ref (r 6), .int 0, .int 0, .int 0, .int 0, .int 0, .int 0, .int 0, .int 0, .ref (r 15), .ref (r 16), .ref (r 17), .int 0, .int 0, .ref (r 20), .ref (r 21), .ref (r 22), .int 0, .int 0, .ref (r 25), .ref (r 26), .ref (r 27), .ref (r 28), .ref (r 29), .ref (r 30), .int 0, .ref (r 32), .ref (r 33), .ref (r 34), .ref (r 35), .ref (r 36), .ref (r 37), .ref (r 38), .ref (r 39), .ref (r 40), .ref (r 41), .ref (r 42), .int 0, .ref (r 44), .int 0, .int 0, .int 0, .int 0, .int 0, .ref (r 50), .ref (r 51), .ref (r 52), .int 0, .ref (r 54), .int 0, .ref (r 56), .int 0, .int 0, .int 0])), ((r 0), .inl (dA 0, 5161, .inl g)), ((r 1), .inl (dA 0, 5161, .inl f))] → va_S A s.heap H locs → lv_has ls 3 [(2, .int (nI 5161)), (1, .int 0), (0, .ref h)] → W p l e R s m args below meth c H locs 0 0 Q (F0 m 32 ls [])) : ∀ (n k : Nat) (g : Nat → Int32) (H : Heap) (locs : List Loc) (ls : Array Slot), k + n = 5161 → va_P D vwCl [(h, .inr (2, [.ref (r 0), .ref (r 1), .ref (r 2), .ref (r 3), .int 0, .int 0, .ref (r 6), .int 0, .int 0, .int 0, .int 0, .int 0, .int 0, .int 0, .int 0, .ref (r 15), .ref (r 16), .ref (r 17), .int 0, .int 0, .ref (r 20), .ref (r 21), .ref (r 22), .int 0, .int 0, .ref (r 25), .ref (r 26), .ref (r 27), .ref (r 28), .ref (r 29), .ref (r 30), .int 0, .ref (r 32), .ref (r 33), .ref (r 34), .ref (r 35), .ref (r 36), .ref (r 37), .ref (r 38), .ref (r 39), .ref (r 40), .ref (r 41), .ref (r 42), .int 0, .ref (r 44), .int 0, .int 0, .int 0, .int 0, .int 0, .ref (r 50), .ref (r 51), .ref (r 52), .int 0, .ref (r 54), .int 0, .ref (r 56), .int 0, .int 0, .int 0])), ((r 0), .inl (dA 0, 5161, .inl g)), ((r 1), .inl (dA 0, 5161, .inl f))] H → va_D A [(h, .inr (2, [.ref (r 0), .ref (r 1), .ref (r 2), .ref (r 3), .int 0, .int 0, .ref (r 6), .int 0, .int 0, .int 0, .int 0, .int 0, .int 0, .int 0, .int 0, .ref (r 15), .ref (r 16), .ref (r 17), .int 0, .int 0, .ref (r 20), .ref (r 21), .ref (r 22), .int 0, .int 0, .ref (r 25), .ref (r 26), .ref (r 27), .ref (r 28), .ref (r 29), .ref (r 30), .int 0, .ref (r 32), .ref (r 33), .ref (r 34), .ref (r 35), .ref (r 36), .ref (r 37), .ref (r 38), .ref (r 39), .ref (r 40), .ref (r 41), .ref (r 42), .int 0, .ref (r 44), .int 0, .int 0, .int 0, .int 0, .int 0, .ref (r 50), .ref (r 51), .ref (r 52), .int 0, .ref (r 54), .int 0, .ref (r 56), .int 0, .int 0, .int 0])), ((r 0), .inl (dA 0, 5161, .inl g)), ((r 1), .inl (dA 0, 5161, .inl f))] → va_S A s.heap H locs → lv_has ls 3 [(2, .int (nI k)), (1, .int 0), (0, .ref h)] → W p l e R s m args below meth c H locs 0 0 Q (F0 m 7 ls []) := by
  have hx := X.1
  have hb := X.2.1
  have hml := X.2.2.1
  have hown : s.vm.findClass "MarkupStoreModel" = some m.cls := X.2.2.2.1
  have hts := X.2.2.2.2.2.2.1
  have hK := X.2.2.2.2.2.2.2.2.1
  intro n
  induction n with
  | zero =>
    intro k g H locs ls hk hP hD hS hl
    obtain rfl : k = 5161 := by omega
    refine lv_iload_n hx hb d83_7 rfl (lv_at hl 0 rfl) ?_
    refine lv_sipush (v := 5161) hx hb d83_8 (by decide) ?_
    refine lv_icmp_ge hx hb d83_11 rfl (fun _ => ?_) (fun h9 => absurd (by decide) h9)
    exact kx g H locs ls hP hD hS hl
  | succ n ih =>
    intro k g H locs ls hk hP hD hS hl
    refine lv_iload_n hx hb d83_7 rfl (lv_at hl 0 rfl) ?_
    refine lv_sipush (v := 5161) hx hb d83_8 (by decide) ?_
    refine lv_icmp_ge hx hb d83_11 rfl (fun h9 => absurd h9 (show ¬ ((5161 : Int32) ≤ nI k) from nI_ge (a := k) (b := 5161) (by omega) (by decide))) (fun _ => ?_)
    refine lv_aload_n hx hb d83_14 rfl (lv_at hl 2 rfl) ?_
    refine va_get (D := D) (ci := 2) (v := .ref (r 0)) (C := kR2) (T := kT2) (N := 60) hx hb hts ku2 hown hK hP 0 rfl rfl 0 (by decide) (hts _ ms_k1316) (fun _ h => h) rfl d83_15 ?_
    refine lv_iload_n hx hb d83_18 rfl (lv_at hl 0 rfl) ?_
    refine lv_aload_n hx hb d83_19 rfl (lv_at hl 2 rfl) ?_
    refine va_get (D := D) (ci := 2) (v := .ref (r 1)) (C := kR2) (T := kT2) (N := 60) hx hb hts ku2 hown hK hP 0 rfl rfl 1 (by decide) (hts _ ms_k1317) (fun _ h => h) rfl d83_20 ?_
    refine lv_iload_n hx hb d83_23 rfl (lv_at hl 0 rfl) ?_
    refine va_iald hx hb hK hP 2 0 rfl rfl (vp_in_nI (by omega) (by decide)) d83_24 ?_
    refine va_iast hx hb hK hP hD hS 1 0 rfl rfl (vp_in_nI (by omega) (by decide)) d83_25 (fun H locs hP hD hS => ?_)
    have hP : va_P D vwCl [(h, .inr (2, [.ref (r 0), .ref (r 1), .ref (r 2), .ref (r 3), .int 0, .int 0, .ref (r 6), .int 0, .int 0, .int 0, .int 0, .int 0, .int 0, .int 0, .int 0, .ref (r 15), .ref (r 16), .ref (r 17), .int 0, .int 0, .ref (r 20), .ref (r 21), .ref (r 22), .int 0, .int 0, .ref (r 25), .ref (r 26), .ref (r 27), .ref (r 28), .ref (r 29), .ref (r 30), .int 0, .ref (r 32), .ref (r 33), .ref (r 34), .ref (r 35), .ref (r 36), .ref (r 37), .ref (r 38), .ref (r 39), .ref (r 40), .ref (r 41), .ref (r 42), .int 0, .ref (r 44), .int 0, .int 0, .int 0, .int 0, .int 0, .ref (r 50), .ref (r 51), .ref (r 52), .int 0, .ref (r 54), .int 0, .ref (r 56), .int 0, .int 0, .int 0])), ((r 0), .inl (dA 0, 5161, .inl (upd g (nI k).toNatClampNeg (f (nI k).toNatClampNeg)))), ((r 1), .inl (dA 0, 5161, .inl f))] H := hP
    have hD : va_D A [(h, .inr (2, [.ref (r 0), .ref (r 1), .ref (r 2), .ref (r 3), .int 0, .int 0, .ref (r 6), .int 0, .int 0, .int 0, .int 0, .int 0, .int 0, .int 0, .int 0, .ref (r 15), .ref (r 16), .ref (r 17), .int 0, .int 0, .ref (r 20), .ref (r 21), .ref (r 22), .int 0, .int 0, .ref (r 25), .ref (r 26), .ref (r 27), .ref (r 28), .ref (r 29), .ref (r 30), .int 0, .ref (r 32), .ref (r 33), .ref (r 34), .ref (r 35), .ref (r 36), .ref (r 37), .ref (r 38), .ref (r 39), .ref (r 40), .ref (r 41), .ref (r 42), .int 0, .ref (r 44), .int 0, .int 0, .int 0, .int 0, .int 0, .ref (r 50), .ref (r 51), .ref (r 52), .int 0, .ref (r 54), .int 0, .ref (r 56), .int 0, .int 0, .int 0])), ((r 0), .inl (dA 0, 5161, .inl (upd g (nI k).toNatClampNeg (f (nI k).toNatClampNeg)))), ((r 1), .inl (dA 0, 5161, .inl f))] := hD
    refine lv_iinc (k := 0) (v := (nI (k + 1))) hx hb d83_26 hl rfl (nI_1 k) (by decide) rfl (fun ls hl => ?_)
    have hl : lv_has ls 3 [(2, .int (nI (k + 1))), (1, .int 0), (0, .ref h)] := hl
    refine lv_goto hx hb d83_29 rfl ?_
    exact ih (k + 1) _ H locs ls (by omega) hP hD hS hl

set_option maxRecDepth 100000 in
set_option maxHeartbeats 8000000 in
theorem c_mcrash (l : Launch) (D : va_G) (dA : Nat → ClassId) (s0 : State) (hE : ms_EV D dA s0) (h : Nat) (r : Nat → Nat) : ms_C l D s0 yM83 bM83 3 (Option.some Jvm.ClassFile.FieldType.int) 0 0 0 0 [.ref h] [(h, .inr (2, [.ref (r 0), .ref (r 1), .ref (r 2), .ref (r 3), .int 0, .int 0, .ref (r 6), .int 0, .int 0, .int 0, .int 0, .int 0, .int 0, .int 0, .int 0, .ref (r 15), .ref (r 16), .ref (r 17), .int 0, .int 0, .ref (r 20), .ref (r 21), .ref (r 22), .int 0, .int 0, .ref (r 25), .ref (r 26), .ref (r 27), .ref (r 28), .ref (r 29), .ref (r 30), .int 0, .ref (r 32), .ref (r 33), .ref (r 34), .ref (r 35), .ref (r 36), .ref (r 37), .ref (r 38), .ref (r 39), .ref (r 40), .ref (r 41), .ref (r 42), .int 0, .ref (r 44), .int 0, .int 0, .int 0, .int 0, .int 0, .ref (r 50), .ref (r 51), .ref (r 52), .int 0, .ref (r 54), .int 0, .ref (r 56), .int 0, .int 0, .int 0])), ((r 0), .inl (dA 0, 5161, .inl (fun _ => 0))), ((r 1), .inl (dA 0, 5161, .inl (fun _ => 0)))] (fun vv _ => vv = some (.int 0)) := by
  refine ms_C.mk hE.1 (by decide) (Nat.le_of_ble_eq_true rfl) [(0, .ref h)] rfl ?_
  intro p e s m below meth c A ls X hin hP hD hS hl
  have hx := X.1
  have hb := X.2.1
  have hml := X.2.2.1
  have hown : s.vm.findClass "MarkupStoreModel" = some m.cls := X.2.2.2.1
  have hts := X.2.2.2.2.2.2.1
  have hK := X.2.2.2.2.2.2.2.2.1
  have hA := X.2.2.2.2.2.2.2.2.2.2
  refine lv_aload_n hx hb d83_0 rfl (lv_at hl 0 rfl) ?_
  refine va_get (D := D) (ci := 2) (v := .int 0) (C := kR2) (T := kT2) (N := 60) hx hb hts ku2 hown hK hP 0 rfl rfl 5 (by decide) (hts _ ms_k1321) (fun _ h => h) rfl d83_1 ?_
  refine lv_istore_n hx hb d83_4 rfl hl (by decide) rfl (fun ls hl => ?_)
  have hl : lv_has ls 3 [(1, .int 0), (0, .ref h)] := hl
  refine lv_iconst (v := 0) hx hb d83_5 (by decide) ?_
  refine lv_istore_n hx hb d83_6 rfl hl (by decide) rfl (fun ls hl => ?_)
  have hl : lv_has ls 3 [(2, .int 0), (1, .int 0), (0, .ref h)] := hl
  refine lp_crash D dA h r _ X (fun g H locs ls hP hD hS hl => ?_) 5161 0 _ _ _ _ rfl hP hD hS hl
  have hP : va_P D vwCl [(h, .inr (2, [.ref (r 0), .ref (r 1), .ref (r 2), .ref (r 3), .int 0, .int 0, .ref (r 6), .int 0, .int 0, .int 0, .int 0, .int 0, .int 0, .int 0, .int 0, .ref (r 15), .ref (r 16), .ref (r 17), .int 0, .int 0, .ref (r 20), .ref (r 21), .ref (r 22), .int 0, .int 0, .ref (r 25), .ref (r 26), .ref (r 27), .ref (r 28), .ref (r 29), .ref (r 30), .int 0, .ref (r 32), .ref (r 33), .ref (r 34), .ref (r 35), .ref (r 36), .ref (r 37), .ref (r 38), .ref (r 39), .ref (r 40), .ref (r 41), .ref (r 42), .int 0, .ref (r 44), .int 0, .int 0, .int 0, .int 0, .int 0, .ref (r 50), .ref (r 51), .ref (r 52), .int 0, .ref (r 54), .int 0, .ref (r 56), .int 0, .int 0, .int 0])), ((r 0), .inl (dA 0, 5161, .inl g)), ((r 1), .inl (dA 0, 5161, .inl (fun _ => 0)))] H := hP
  have hD : va_D A [(h, .inr (2, [.ref (r 0), .ref (r 1), .ref (r 2), .ref (r 3), .int 0, .int 0, .ref (r 6), .int 0, .int 0, .int 0, .int 0, .int 0, .int 0, .int 0, .int 0, .ref (r 15), .ref (r 16), .ref (r 17), .int 0, .int 0, .ref (r 20), .ref (r 21), .ref (r 22), .int 0, .int 0, .ref (r 25), .ref (r 26), .ref (r 27), .ref (r 28), .ref (r 29), .ref (r 30), .int 0, .ref (r 32), .ref (r 33), .ref (r 34), .ref (r 35), .ref (r 36), .ref (r 37), .ref (r 38), .ref (r 39), .ref (r 40), .ref (r 41), .ref (r 42), .int 0, .ref (r 44), .int 0, .int 0, .int 0, .int 0, .int 0, .ref (r 50), .ref (r 51), .ref (r 52), .int 0, .ref (r 54), .int 0, .ref (r 56), .int 0, .int 0, .int 0])), ((r 0), .inl (dA 0, 5161, .inl g)), ((r 1), .inl (dA 0, 5161, .inl (fun _ => 0)))] := hD
  refine lv_aload_n hx hb d83_32 rfl (lv_at hl 2 rfl) ?_
  refine lv_iconst (v := 0) hx hb d83_33 (by decide) ?_
  refine va_put (D := D) (ci := 2) (v := .int 0) (ty := .int) (C := kR2) (T := kT2) (N := 60) hx hb hts ku2 kt2 kp2 kn2 hown hK hP hD hS 0 rfl rfl 5 (by decide) (hts _ ms_k1321) (fun _ h => h) rfl (by decide +kernel) rfl rfl (Nat.le_of_ble_eq_true rfl) d83_34 (fun H locs hP hD hS => ?_)
  have hP : va_P D vwCl [(h, .inr (2, [.ref (r 0), .ref (r 1), .ref (r 2), .ref (r 3), .int 0, .int 0, .ref (r 6), .int 0, .int 0, .int 0, .int 0, .int 0, .int 0, .int 0, .int 0, .ref (r 15), .ref (r 16), .ref (r 17), .int 0, .int 0, .ref (r 20), .ref (r 21), .ref (r 22), .int 0, .int 0, .ref (r 25), .ref (r 26), .ref (r 27), .ref (r 28), .ref (r 29), .ref (r 30), .int 0, .ref (r 32), .ref (r 33), .ref (r 34), .ref (r 35), .ref (r 36), .ref (r 37), .ref (r 38), .ref (r 39), .ref (r 40), .ref (r 41), .ref (r 42), .int 0, .ref (r 44), .int 0, .int 0, .int 0, .int 0, .int 0, .ref (r 50), .ref (r 51), .ref (r 52), .int 0, .ref (r 54), .int 0, .ref (r 56), .int 0, .int 0, .int 0])), ((r 0), .inl (dA 0, 5161, .inl g)), ((r 1), .inl (dA 0, 5161, .inl (fun _ => 0)))] H := hP
  have hD : va_D A [(h, .inr (2, [.ref (r 0), .ref (r 1), .ref (r 2), .ref (r 3), .int 0, .int 0, .ref (r 6), .int 0, .int 0, .int 0, .int 0, .int 0, .int 0, .int 0, .int 0, .ref (r 15), .ref (r 16), .ref (r 17), .int 0, .int 0, .ref (r 20), .ref (r 21), .ref (r 22), .int 0, .int 0, .ref (r 25), .ref (r 26), .ref (r 27), .ref (r 28), .ref (r 29), .ref (r 30), .int 0, .ref (r 32), .ref (r 33), .ref (r 34), .ref (r 35), .ref (r 36), .ref (r 37), .ref (r 38), .ref (r 39), .ref (r 40), .ref (r 41), .ref (r 42), .int 0, .ref (r 44), .int 0, .int 0, .int 0, .int 0, .int 0, .ref (r 50), .ref (r 51), .ref (r 52), .int 0, .ref (r 54), .int 0, .ref (r 56), .int 0, .int 0, .int 0])), ((r 0), .inl (dA 0, 5161, .inl g)), ((r 1), .inl (dA 0, 5161, .inl (fun _ => 0)))] := hD
  refine lv_aload_n hx hb d83_37 rfl (lv_at hl 2 rfl) ?_
  refine lv_iconst (v := 0) hx hb d83_38 (by decide) ?_
  refine va_put (D := D) (ci := 2) (v := .int 0) (ty := .int) (C := kR2) (T := kT2) (N := 60) hx hb hts ku2 kt2 kp2 kn2 hown hK hP hD hS 0 rfl rfl 7 (by decide) (hts _ ms_k1323) (fun _ h => h) rfl (by decide +kernel) rfl rfl (Nat.le_of_ble_eq_true rfl) d83_39 (fun H locs hP hD hS => ?_)
  have hP : va_P D vwCl [(h, .inr (2, [.ref (r 0), .ref (r 1), .ref (r 2), .ref (r 3), .int 0, .int 0, .ref (r 6), .int 0, .int 0, .int 0, .int 0, .int 0, .int 0, .int 0, .int 0, .ref (r 15), .ref (r 16), .ref (r 17), .int 0, .int 0, .ref (r 20), .ref (r 21), .ref (r 22), .int 0, .int 0, .ref (r 25), .ref (r 26), .ref (r 27), .ref (r 28), .ref (r 29), .ref (r 30), .int 0, .ref (r 32), .ref (r 33), .ref (r 34), .ref (r 35), .ref (r 36), .ref (r 37), .ref (r 38), .ref (r 39), .ref (r 40), .ref (r 41), .ref (r 42), .int 0, .ref (r 44), .int 0, .int 0, .int 0, .int 0, .int 0, .ref (r 50), .ref (r 51), .ref (r 52), .int 0, .ref (r 54), .int 0, .ref (r 56), .int 0, .int 0, .int 0])), ((r 0), .inl (dA 0, 5161, .inl g)), ((r 1), .inl (dA 0, 5161, .inl (fun _ => 0)))] H := hP
  have hD : va_D A [(h, .inr (2, [.ref (r 0), .ref (r 1), .ref (r 2), .ref (r 3), .int 0, .int 0, .ref (r 6), .int 0, .int 0, .int 0, .int 0, .int 0, .int 0, .int 0, .int 0, .ref (r 15), .ref (r 16), .ref (r 17), .int 0, .int 0, .ref (r 20), .ref (r 21), .ref (r 22), .int 0, .int 0, .ref (r 25), .ref (r 26), .ref (r 27), .ref (r 28), .ref (r 29), .ref (r 30), .int 0, .ref (r 32), .ref (r 33), .ref (r 34), .ref (r 35), .ref (r 36), .ref (r 37), .ref (r 38), .ref (r 39), .ref (r 40), .ref (r 41), .ref (r 42), .int 0, .ref (r 44), .int 0, .int 0, .int 0, .int 0, .int 0, .ref (r 50), .ref (r 51), .ref (r 52), .int 0, .ref (r 54), .int 0, .ref (r 56), .int 0, .int 0, .int 0])), ((r 0), .inl (dA 0, 5161, .inl g)), ((r 1), .inl (dA 0, 5161, .inl (fun _ => 0)))] := hD
  refine lv_iload_n hx hb d83_42 rfl (lv_at hl 1 rfl) ?_
  exact ms_iret X d83_43 hP hD hS (Nat.le_of_ble_eq_true rfl) (Nat.le_of_ble_eq_true rfl) rfl
end
