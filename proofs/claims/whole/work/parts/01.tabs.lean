-- ===== PART A: goes FIRST, ahead of the names: the tables' words, and 'selects' of the private methods out of them =====
/-- a private method of a class that the tables say can be made, by its rows of tables_1 -/
def lw_okq (q : MethodName × Nat) : Prop := (q.1.cls ≠ "java/lang/invoke/MethodHandle" ∧ q.1.cls ≠ "java/lang/invoke/VarHandle") ∧ Cond.instantiable q.1.cls q.2 ∈ tables_1 ∧ Cond.privateMethod q.1 ∈ tables_1 ∧ Cond.instanceMethod q.1 ∈ tables_1
theorem lw_p0 : lw_okq (⟨"MarkupStore", "useBuffer", "()Ljava/lang/String;"⟩, 6) := ⟨⟨by decide +kernel, by decide +kernel⟩, List.mem_of_getElem? (i := 32) (by decide +kernel), List.mem_of_getElem? (i := 238) (by decide +kernel), List.mem_of_getElem? (i := 239) (by decide +kernel)⟩
theorem lw_p1 : lw_okq (⟨"MarkupStore$MarkupReader", "readElement", "(LMarkupStore$Node;[I)Z"⟩, 6) := ⟨⟨by decide +kernel, by decide +kernel⟩, List.mem_of_getElem? (i := 236) (by decide +kernel), List.mem_of_getElem? (i := 423) (by decide +kernel), List.mem_of_getElem? (i := 424) (by decide +kernel)⟩
theorem lw_p2 : lw_okq (⟨"MarkupStore$MarkupReader", "make", "(ILMarkupStore$Node;[I)LMarkupStore$Node;"⟩, 6) := ⟨⟨by decide +kernel, by decide +kernel⟩, List.mem_of_getElem? (i := 236) (by decide +kernel), List.mem_of_getElem? (i := 427) (by decide +kernel), List.mem_of_getElem? (i := 428) (by decide +kernel)⟩
theorem lw_p3 : lw_okq (⟨"java/util/ArrayList", "add", "(Ljava/lang/Object;[Ljava/lang/Object;I)V"⟩, 3) := ⟨⟨by decide +kernel, by decide +kernel⟩, List.mem_of_getElem? (i := 323) (by decide +kernel), List.mem_of_getElem? (i := 499) (by decide +kernel), List.mem_of_getElem? (i := 500) (by decide +kernel)⟩
theorem lw_p4 : lw_okq (⟨"java/util/ArrayList", "grow", "()[Ljava/lang/Object;"⟩, 3) := ⟨⟨by decide +kernel, by decide +kernel⟩, List.mem_of_getElem? (i := 323) (by decide +kernel), List.mem_of_getElem? (i := 503) (by decide +kernel), List.mem_of_getElem? (i := 504) (by decide +kernel)⟩
theorem lw_p5 : lw_okq (⟨"java/util/ArrayList", "grow", "(I)[Ljava/lang/Object;"⟩, 3) := ⟨⟨by decide +kernel, by decide +kernel⟩, List.mem_of_getElem? (i := 323) (by decide +kernel), List.mem_of_getElem? (i := 507) (by decide +kernel), List.mem_of_getElem? (i := 508) (by decide +kernel)⟩
theorem lw_p6 : lw_okq (⟨"MarkupStore$MarkupReader", "readAttribute", "(LMarkupStore$Node;)Z"⟩, 6) := ⟨⟨by decide +kernel, by decide +kernel⟩, List.mem_of_getElem? (i := 236) (by decide +kernel), List.mem_of_getElem? (i := 581) (by decide +kernel), List.mem_of_getElem? (i := 582) (by decide +kernel)⟩
theorem lw_p7 : lw_okq (⟨"MarkupStore$MarkupReader", "readValue", "(C)Ljava/lang/String;"⟩, 6) := ⟨⟨by decide +kernel, by decide +kernel⟩, List.mem_of_getElem? (i := 236) (by decide +kernel), List.mem_of_getElem? (i := 630) (by decide +kernel), List.mem_of_getElem? (i := 631) (by decide +kernel)⟩
theorem lw_p8 : lw_okq (⟨"MarkupStore$MarkupReader", "readEntity", "()C"⟩, 6) := ⟨⟨by decide +kernel, by decide +kernel⟩, List.mem_of_getElem? (i := 236) (by decide +kernel), List.mem_of_getElem? (i := 635) (by decide +kernel), List.mem_of_getElem? (i := 636) (by decide +kernel)⟩
theorem lw_p9 : lw_okq (⟨"MarkupStore$MarkupReader", "skip", "(Ljava/lang/String;)Z"⟩, 6) := ⟨⟨by decide +kernel, by decide +kernel⟩, List.mem_of_getElem? (i := 236) (by decide +kernel), List.mem_of_getElem? (i := 640) (by decide +kernel), List.mem_of_getElem? (i := 641) (by decide +kernel)⟩
theorem lw_p10 : lw_okq (⟨"MarkupStore$MarkupReader", "readContent", "(LMarkupStore$Node;)Z"⟩, 6) := ⟨⟨by decide +kernel, by decide +kernel⟩, List.mem_of_getElem? (i := 236) (by decide +kernel), List.mem_of_getElem? (i := 671) (by decide +kernel), List.mem_of_getElem? (i := 672) (by decide +kernel)⟩
theorem lw_p11 : lw_okq (⟨"MarkupStore$MarkupReader", "readPiece", "(LMarkupStore$Node;[I)Z"⟩, 6) := ⟨⟨by decide +kernel, by decide +kernel⟩, List.mem_of_getElem? (i := 236) (by decide +kernel), List.mem_of_getElem? (i := 687) (by decide +kernel), List.mem_of_getElem? (i := 688) (by decide +kernel)⟩
theorem lw_p12 : lw_okq (⟨"MarkupStore$MarkupReader", "readComment", "(LMarkupStore$Node;[I)Z"⟩, 6) := ⟨⟨by decide +kernel, by decide +kernel⟩, List.mem_of_getElem? (i := 236) (by decide +kernel), List.mem_of_getElem? (i := 691) (by decide +kernel), List.mem_of_getElem? (i := 692) (by decide +kernel)⟩
theorem lw_p13 : lw_okq (⟨"MarkupStore$MarkupReader", "readEndTag", "(LMarkupStore$Node;)Z"⟩, 6) := ⟨⟨by decide +kernel, by decide +kernel⟩, List.mem_of_getElem? (i := 236) (by decide +kernel), List.mem_of_getElem? (i := 695) (by decide +kernel), List.mem_of_getElem? (i := 696) (by decide +kernel)⟩
theorem lw_p14 : lw_okq (⟨"MarkupStore$Tree", "setPlaces", "()V"⟩, 6) := ⟨⟨by decide +kernel, by decide +kernel⟩, List.mem_of_getElem? (i := 73) (by decide +kernel), List.mem_of_getElem? (i := 724) (by decide +kernel), List.mem_of_getElem? (i := 725) (by decide +kernel)⟩
theorem lw_p15 : lw_okq (⟨"MarkupStore", "beginBatch", "()V"⟩, 6) := ⟨⟨by decide +kernel, by decide +kernel⟩, List.mem_of_getElem? (i := 32) (by decide +kernel), List.mem_of_getElem? (i := 734) (by decide +kernel), List.mem_of_getElem? (i := 735) (by decide +kernel)⟩
def lw_privs_1 : List (MethodName × Nat) := [(⟨"MarkupStore", "useBuffer", "()Ljava/lang/String;"⟩, 6), (⟨"MarkupStore$MarkupReader", "readElement", "(LMarkupStore$Node;[I)Z"⟩, 6), (⟨"MarkupStore$MarkupReader", "make", "(ILMarkupStore$Node;[I)LMarkupStore$Node;"⟩, 6), (⟨"java/util/ArrayList", "add", "(Ljava/lang/Object;[Ljava/lang/Object;I)V"⟩, 3), (⟨"java/util/ArrayList", "grow", "()[Ljava/lang/Object;"⟩, 3), (⟨"java/util/ArrayList", "grow", "(I)[Ljava/lang/Object;"⟩, 3), (⟨"MarkupStore$MarkupReader", "readAttribute", "(LMarkupStore$Node;)Z"⟩, 6), (⟨"MarkupStore$MarkupReader", "readValue", "(C)Ljava/lang/String;"⟩, 6), (⟨"MarkupStore$MarkupReader", "readEntity", "()C"⟩, 6), (⟨"MarkupStore$MarkupReader", "skip", "(Ljava/lang/String;)Z"⟩, 6), (⟨"MarkupStore$MarkupReader", "readContent", "(LMarkupStore$Node;)Z"⟩, 6), (⟨"MarkupStore$MarkupReader", "readPiece", "(LMarkupStore$Node;[I)Z"⟩, 6), (⟨"MarkupStore$MarkupReader", "readComment", "(LMarkupStore$Node;[I)Z"⟩, 6), (⟨"MarkupStore$MarkupReader", "readEndTag", "(LMarkupStore$Node;)Z"⟩, 6), (⟨"MarkupStore$Tree", "setPlaces", "()V"⟩, 6), (⟨"MarkupStore", "beginBatch", "()V"⟩, 6)]
theorem lw_r1 : ∀ q ∈ lw_privs_1, lw_okq q := List.forall_mem_cons.mpr ⟨lw_p0, List.forall_mem_cons.mpr ⟨lw_p1, List.forall_mem_cons.mpr ⟨lw_p2, List.forall_mem_cons.mpr ⟨lw_p3, List.forall_mem_cons.mpr ⟨lw_p4, List.forall_mem_cons.mpr ⟨lw_p5, List.forall_mem_cons.mpr ⟨lw_p6, List.forall_mem_cons.mpr ⟨lw_p7, List.forall_mem_cons.mpr ⟨lw_p8, List.forall_mem_cons.mpr ⟨lw_p9, List.forall_mem_cons.mpr ⟨lw_p10, List.forall_mem_cons.mpr ⟨lw_p11, List.forall_mem_cons.mpr ⟨lw_p12, List.forall_mem_cons.mpr ⟨lw_p13, List.forall_mem_cons.mpr ⟨lw_p14, List.forall_mem_cons.mpr ⟨lw_p15, fun _ h => absurd h List.not_mem_nil⟩⟩⟩⟩⟩⟩⟩⟩⟩⟩⟩⟩⟩⟩⟩⟩
theorem lw_p16 : lw_okq (⟨"MarkupStore", "joinNew", "(LMarkupStore$Node;Ljava/lang/String;Ljava/lang/String;)I"⟩, 6) := ⟨⟨by decide +kernel, by decide +kernel⟩, List.mem_of_getElem? (i := 32) (by decide +kernel), List.mem_of_getElem? (i := 799) (by decide +kernel), List.mem_of_getElem? (i := 800) (by decide +kernel)⟩
theorem lw_p17 : lw_okq (⟨"MarkupStore", "joined", "(Ljava/lang/String;Ljava/lang/String;)Ljava/lang/String;"⟩, 6) := ⟨⟨by decide +kernel, by decide +kernel⟩, List.mem_of_getElem? (i := 32) (by decide +kernel), List.mem_of_getElem? (i := 804) (by decide +kernel), List.mem_of_getElem? (i := 805) (by decide +kernel)⟩
theorem lw_p18 : lw_okq (⟨"MarkupStore", "putNew", "(LMarkupStore$MarkupReader;I)I"⟩, 6) := ⟨⟨by decide +kernel, by decide +kernel⟩, List.mem_of_getElem? (i := 32) (by decide +kernel), List.mem_of_getElem? (i := 842) (by decide +kernel), List.mem_of_getElem? (i := 843) (by decide +kernel)⟩
theorem lw_p19 : lw_okq (⟨"MarkupStore$PathReader", "readPath", "(I)LMarkupStore$Path;"⟩, 3) := ⟨⟨by decide +kernel, by decide +kernel⟩, List.mem_of_getElem? (i := 871) (by decide +kernel), List.mem_of_getElem? (i := 885) (by decide +kernel), List.mem_of_getElem? (i := 886) (by decide +kernel)⟩
theorem lw_p20 : lw_okq (⟨"MarkupStore$PathReader", "readStep", "(I)LMarkupStore$Step;"⟩, 3) := ⟨⟨by decide +kernel, by decide +kernel⟩, List.mem_of_getElem? (i := 871) (by decide +kernel), List.mem_of_getElem? (i := 911) (by decide +kernel), List.mem_of_getElem? (i := 912) (by decide +kernel)⟩
theorem lw_p21 : lw_okq (⟨"MarkupStore$PathReader", "readPredicate", "(I)LMarkupStore$Predicate;"⟩, 3) := ⟨⟨by decide +kernel, by decide +kernel⟩, List.mem_of_getElem? (i := 871) (by decide +kernel), List.mem_of_getElem? (i := 1010) (by decide +kernel), List.mem_of_getElem? (i := 1011) (by decide +kernel)⟩
theorem lw_p22 : lw_okq (⟨"MarkupStore$PathReader", "readPosition", "()I"⟩, 3) := ⟨⟨by decide +kernel, by decide +kernel⟩, List.mem_of_getElem? (i := 871) (by decide +kernel), List.mem_of_getElem? (i := 1064) (by decide +kernel), List.mem_of_getElem? (i := 1065) (by decide +kernel)⟩
theorem lw_p23 : lw_okq (⟨"MarkupStore$PathReader", "readComparison", "(LMarkupStore$Predicate;Ljava/lang/String;)V"⟩, 3) := ⟨⟨by decide +kernel, by decide +kernel⟩, List.mem_of_getElem? (i := 871) (by decide +kernel), List.mem_of_getElem? (i := 1069) (by decide +kernel), List.mem_of_getElem? (i := 1070) (by decide +kernel)⟩
theorem lw_p24 : lw_okq (⟨"MarkupStore$Walker", "settle", "(LMarkupStore$Predicate;)V"⟩, 1) := ⟨⟨by decide +kernel, by decide +kernel⟩, List.mem_of_getElem? (i := 1083) (by decide +kernel), List.mem_of_getElem? (i := 1106) (by decide +kernel), List.mem_of_getElem? (i := 1107) (by decide +kernel)⟩
theorem lw_p25 : lw_okq (⟨"MarkupStore$Walker", "withAttribute", "(LMarkupStore$Predicate;)J"⟩, 1) := ⟨⟨by decide +kernel, by decide +kernel⟩, List.mem_of_getElem? (i := 1083) (by decide +kernel), List.mem_of_getElem? (i := 1110) (by decide +kernel), List.mem_of_getElem? (i := 1111) (by decide +kernel)⟩
theorem lw_p26 : lw_okq (⟨"MarkupStore$Walker", "goals", "(LMarkupStore$Predicate;)J"⟩, 1) := ⟨⟨by decide +kernel, by decide +kernel⟩, List.mem_of_getElem? (i := 1083) (by decide +kernel), List.mem_of_getElem? (i := 1121) (by decide +kernel), List.mem_of_getElem? (i := 1122) (by decide +kernel)⟩
theorem lw_p27 : lw_okq (⟨"MarkupStore$Walker", "stringValueFits", "(LMarkupStore$Node;LMarkupStore$Predicate;)Z"⟩, 1) := ⟨⟨by decide +kernel, by decide +kernel⟩, List.mem_of_getElem? (i := 1083) (by decide +kernel), List.mem_of_getElem? (i := 1128) (by decide +kernel), List.mem_of_getElem? (i := 1129) (by decide +kernel)⟩
theorem lw_p28 : lw_okq (⟨"MarkupStore$Walker", "origins", "(LMarkupStore$Path;J)J"⟩, 1) := ⟨⟨by decide +kernel, by decide +kernel⟩, List.mem_of_getElem? (i := 1083) (by decide +kernel), List.mem_of_getElem? (i := 1135) (by decide +kernel), List.mem_of_getElem? (i := 1136) (by decide +kernel)⟩
theorem lw_p29 : lw_okq (⟨"MarkupStore$Walker", "lead", "(LMarkupStore$Step;I)J"⟩, 1) := ⟨⟨by decide +kernel, by decide +kernel⟩, List.mem_of_getElem? (i := 1083) (by decide +kernel), List.mem_of_getElem? (i := 1139) (by decide +kernel), List.mem_of_getElem? (i := 1140) (by decide +kernel)⟩
theorem lw_p30 : lw_okq (⟨"MarkupStore$Walker", "documentAxis", "(C)J"⟩, 1) := ⟨⟨by decide +kernel, by decide +kernel⟩, List.mem_of_getElem? (i := 1083) (by decide +kernel), List.mem_of_getElem? (i := 1143) (by decide +kernel), List.mem_of_getElem? (i := 1144) (by decide +kernel)⟩
theorem lw_p31 : lw_okq (⟨"MarkupStore$Walker", "axis", "(CLMarkupStore$Node;)J"⟩, 1) := ⟨⟨by decide +kernel, by decide +kernel⟩, List.mem_of_getElem? (i := 1083) (by decide +kernel), List.mem_of_getElem? (i := 1147) (by decide +kernel), List.mem_of_getElem? (i := 1148) (by decide +kernel)⟩
def lw_privs_2 : List (MethodName × Nat) := [(⟨"MarkupStore", "joinNew", "(LMarkupStore$Node;Ljava/lang/String;Ljava/lang/String;)I"⟩, 6), (⟨"MarkupStore", "joined", "(Ljava/lang/String;Ljava/lang/String;)Ljava/lang/String;"⟩, 6), (⟨"MarkupStore", "putNew", "(LMarkupStore$MarkupReader;I)I"⟩, 6), (⟨"MarkupStore$PathReader", "readPath", "(I)LMarkupStore$Path;"⟩, 3), (⟨"MarkupStore$PathReader", "readStep", "(I)LMarkupStore$Step;"⟩, 3), (⟨"MarkupStore$PathReader", "readPredicate", "(I)LMarkupStore$Predicate;"⟩, 3), (⟨"MarkupStore$PathReader", "readPosition", "()I"⟩, 3), (⟨"MarkupStore$PathReader", "readComparison", "(LMarkupStore$Predicate;Ljava/lang/String;)V"⟩, 3), (⟨"MarkupStore$Walker", "settle", "(LMarkupStore$Predicate;)V"⟩, 1), (⟨"MarkupStore$Walker", "withAttribute", "(LMarkupStore$Predicate;)J"⟩, 1), (⟨"MarkupStore$Walker", "goals", "(LMarkupStore$Predicate;)J"⟩, 1), (⟨"MarkupStore$Walker", "stringValueFits", "(LMarkupStore$Node;LMarkupStore$Predicate;)Z"⟩, 1), (⟨"MarkupStore$Walker", "origins", "(LMarkupStore$Path;J)J"⟩, 1), (⟨"MarkupStore$Walker", "lead", "(LMarkupStore$Step;I)J"⟩, 1), (⟨"MarkupStore$Walker", "documentAxis", "(C)J"⟩, 1), (⟨"MarkupStore$Walker", "axis", "(CLMarkupStore$Node;)J"⟩, 1)]
theorem lw_r2 : ∀ q ∈ lw_privs_2, lw_okq q := List.forall_mem_cons.mpr ⟨lw_p16, List.forall_mem_cons.mpr ⟨lw_p17, List.forall_mem_cons.mpr ⟨lw_p18, List.forall_mem_cons.mpr ⟨lw_p19, List.forall_mem_cons.mpr ⟨lw_p20, List.forall_mem_cons.mpr ⟨lw_p21, List.forall_mem_cons.mpr ⟨lw_p22, List.forall_mem_cons.mpr ⟨lw_p23, List.forall_mem_cons.mpr ⟨lw_p24, List.forall_mem_cons.mpr ⟨lw_p25, List.forall_mem_cons.mpr ⟨lw_p26, List.forall_mem_cons.mpr ⟨lw_p27, List.forall_mem_cons.mpr ⟨lw_p28, List.forall_mem_cons.mpr ⟨lw_p29, List.forall_mem_cons.mpr ⟨lw_p30, List.forall_mem_cons.mpr ⟨lw_p31, fun _ h => absurd h List.not_mem_nil⟩⟩⟩⟩⟩⟩⟩⟩⟩⟩⟩⟩⟩⟩⟩⟩
theorem lw_p32 : lw_okq (⟨"MarkupStore$Walker", "ancestors", "(LMarkupStore$Node;)J"⟩, 1) := ⟨⟨by decide +kernel, by decide +kernel⟩, List.mem_of_getElem? (i := 1083) (by decide +kernel), List.mem_of_getElem? (i := 1151) (by decide +kernel), List.mem_of_getElem? (i := 1152) (by decide +kernel)⟩
theorem lw_p33 : lw_okq (⟨"MarkupStore$Walker", "children", "(LMarkupStore$Node;)J"⟩, 1) := ⟨⟨by decide +kernel, by decide +kernel⟩, List.mem_of_getElem? (i := 1083) (by decide +kernel), List.mem_of_getElem? (i := 1155) (by decide +kernel), List.mem_of_getElem? (i := 1156) (by decide +kernel)⟩
theorem lw_p34 : lw_okq (⟨"MarkupStore$Walker", "sift", "(LMarkupStore$Predicate;JZ)J"⟩, 1) := ⟨⟨by decide +kernel, by decide +kernel⟩, List.mem_of_getElem? (i := 1083) (by decide +kernel), List.mem_of_getElem? (i := 1164) (by decide +kernel), List.mem_of_getElem? (i := 1165) (by decide +kernel)⟩
theorem lw_p35 : lw_okq (⟨"MarkupStore$Walker", "atPosition", "(IJZ)J"⟩, 1) := ⟨⟨by decide +kernel, by decide +kernel⟩, List.mem_of_getElem? (i := 1083) (by decide +kernel), List.mem_of_getElem? (i := 1168) (by decide +kernel), List.mem_of_getElem? (i := 1169) (by decide +kernel)⟩
theorem lw_p36 : lw_okq (⟨"MarkupStore$Walker", "whence", "(LMarkupStore$Step;J)J"⟩, 1) := ⟨⟨by decide +kernel, by decide +kernel⟩, List.mem_of_getElem? (i := 1083) (by decide +kernel), List.mem_of_getElem? (i := 1178) (by decide +kernel), List.mem_of_getElem? (i := 1179) (by decide +kernel)⟩
theorem lw_p37 : lw_okq (⟨"MarkupStore$Walker", "leadAll", "(LMarkupStore$Step;J)J"⟩, 1) := ⟨⟨by decide +kernel, by decide +kernel⟩, List.mem_of_getElem? (i := 1083) (by decide +kernel), List.mem_of_getElem? (i := 1186) (by decide +kernel), List.mem_of_getElem? (i := 1187) (by decide +kernel)⟩
theorem lw_p38 : lw_okq (⟨"MarkupStore", "keepFound", "(J)V"⟩, 6) := ⟨⟨by decide +kernel, by decide +kernel⟩, List.mem_of_getElem? (i := 32) (by decide +kernel), List.mem_of_getElem? (i := 1193) (by decide +kernel), List.mem_of_getElem? (i := 1194) (by decide +kernel)⟩
theorem lw_p39 : lw_okq (⟨"MarkupStore$Scribe", "closeUpTo", "(LMarkupStore$Node;LMarkupStore$Node;)V"⟩, 3) := ⟨⟨by decide +kernel, by decide +kernel⟩, List.mem_of_getElem? (i := 1247) (by decide +kernel), List.mem_of_getElem? (i := 1269) (by decide +kernel), List.mem_of_getElem? (i := 1270) (by decide +kernel)⟩
theorem lw_p40 : lw_okq (⟨"MarkupStore$Scribe", "putAll", "(Ljava/lang/String;)V"⟩, 3) := ⟨⟨by decide +kernel, by decide +kernel⟩, List.mem_of_getElem? (i := 1247) (by decide +kernel), List.mem_of_getElem? (i := 1274) (by decide +kernel), List.mem_of_getElem? (i := 1275) (by decide +kernel)⟩
theorem lw_p41 : lw_okq (⟨"MarkupStore$Scribe", "put", "(C)V"⟩, 3) := ⟨⟨by decide +kernel, by decide +kernel⟩, List.mem_of_getElem? (i := 1247) (by decide +kernel), List.mem_of_getElem? (i := 1280) (by decide +kernel), List.mem_of_getElem? (i := 1281) (by decide +kernel)⟩
theorem lw_p42 : lw_okq (⟨"MarkupStore$Scribe", "putStart", "(LMarkupStore$Node;Z)V"⟩, 3) := ⟨⟨by decide +kernel, by decide +kernel⟩, List.mem_of_getElem? (i := 1247) (by decide +kernel), List.mem_of_getElem? (i := 1285) (by decide +kernel), List.mem_of_getElem? (i := 1286) (by decide +kernel)⟩
theorem lw_p43 : lw_okq (⟨"MarkupStore$Scribe", "putValue", "(Ljava/lang/String;CLjava/lang/String;)V"⟩, 3) := ⟨⟨by decide +kernel, by decide +kernel⟩, List.mem_of_getElem? (i := 1247) (by decide +kernel), List.mem_of_getElem? (i := 1296) (by decide +kernel), List.mem_of_getElem? (i := 1297) (by decide +kernel)⟩
theorem lw_p44 : lw_okq (⟨"MarkupStoreModel", "loaded", "()I"⟩, 60) := ⟨⟨by decide +kernel, by decide +kernel⟩, List.mem_of_getElem? (i := 1311) (by decide +kernel), List.mem_of_getElem? (i := 1509) (by decide +kernel), List.mem_of_getElem? (i := 1510) (by decide +kernel)⟩
theorem lw_p45 : lw_okq (⟨"MarkupStoreModel", "parse", "(ZI)V"⟩, 60) := ⟨⟨by decide +kernel, by decide +kernel⟩, List.mem_of_getElem? (i := 1311) (by decide +kernel), List.mem_of_getElem? (i := 1513) (by decide +kernel), List.mem_of_getElem? (i := 1514) (by decide +kernel)⟩
theorem lw_p46 : lw_okq (⟨"MarkupStoreModel", "look", "(I)C"⟩, 60) := ⟨⟨by decide +kernel, by decide +kernel⟩, List.mem_of_getElem? (i := 1311) (by decide +kernel), List.mem_of_getElem? (i := 1517) (by decide +kernel), List.mem_of_getElem? (i := 1518) (by decide +kernel)⟩
theorem lw_p47 : lw_okq (⟨"MarkupStoreModel", "error", "(I)V"⟩, 60) := ⟨⟨by decide +kernel, by decide +kernel⟩, List.mem_of_getElem? (i := 1311) (by decide +kernel), List.mem_of_getElem? (i := 1521) (by decide +kernel), List.mem_of_getElem? (i := 1522) (by decide +kernel)⟩
def lw_privs_3 : List (MethodName × Nat) := [(⟨"MarkupStore$Walker", "ancestors", "(LMarkupStore$Node;)J"⟩, 1), (⟨"MarkupStore$Walker", "children", "(LMarkupStore$Node;)J"⟩, 1), (⟨"MarkupStore$Walker", "sift", "(LMarkupStore$Predicate;JZ)J"⟩, 1), (⟨"MarkupStore$Walker", "atPosition", "(IJZ)J"⟩, 1), (⟨"MarkupStore$Walker", "whence", "(LMarkupStore$Step;J)J"⟩, 1), (⟨"MarkupStore$Walker", "leadAll", "(LMarkupStore$Step;J)J"⟩, 1), (⟨"MarkupStore", "keepFound", "(J)V"⟩, 6), (⟨"MarkupStore$Scribe", "closeUpTo", "(LMarkupStore$Node;LMarkupStore$Node;)V"⟩, 3), (⟨"MarkupStore$Scribe", "putAll", "(Ljava/lang/String;)V"⟩, 3), (⟨"MarkupStore$Scribe", "put", "(C)V"⟩, 3), (⟨"MarkupStore$Scribe", "putStart", "(LMarkupStore$Node;Z)V"⟩, 3), (⟨"MarkupStore$Scribe", "putValue", "(Ljava/lang/String;CLjava/lang/String;)V"⟩, 3), (⟨"MarkupStoreModel", "loaded", "()I"⟩, 60), (⟨"MarkupStoreModel", "parse", "(ZI)V"⟩, 60), (⟨"MarkupStoreModel", "look", "(I)C"⟩, 60), (⟨"MarkupStoreModel", "error", "(I)V"⟩, 60)]
theorem lw_r3 : ∀ q ∈ lw_privs_3, lw_okq q := List.forall_mem_cons.mpr ⟨lw_p32, List.forall_mem_cons.mpr ⟨lw_p33, List.forall_mem_cons.mpr ⟨lw_p34, List.forall_mem_cons.mpr ⟨lw_p35, List.forall_mem_cons.mpr ⟨lw_p36, List.forall_mem_cons.mpr ⟨lw_p37, List.forall_mem_cons.mpr ⟨lw_p38, List.forall_mem_cons.mpr ⟨lw_p39, List.forall_mem_cons.mpr ⟨lw_p40, List.forall_mem_cons.mpr ⟨lw_p41, List.forall_mem_cons.mpr ⟨lw_p42, List.forall_mem_cons.mpr ⟨lw_p43, List.forall_mem_cons.mpr ⟨lw_p44, List.forall_mem_cons.mpr ⟨lw_p45, List.forall_mem_cons.mpr ⟨lw_p46, List.forall_mem_cons.mpr ⟨lw_p47, fun _ h => absurd h List.not_mem_nil⟩⟩⟩⟩⟩⟩⟩⟩⟩⟩⟩⟩⟩⟩⟩⟩
theorem lw_p48 : lw_okq (⟨"MarkupStoreModel", "tag", "(Z)V"⟩, 60) := ⟨⟨by decide +kernel, by decide +kernel⟩, List.mem_of_getElem? (i := 1311) (by decide +kernel), List.mem_of_getElem? (i := 1525) (by decide +kernel), List.mem_of_getElem? (i := 1526) (by decide +kernel)⟩
theorem lw_p49 : lw_okq (⟨"MarkupStoreModel", "startTag", "()V"⟩, 60) := ⟨⟨by decide +kernel, by decide +kernel⟩, List.mem_of_getElem? (i := 1311) (by decide +kernel), List.mem_of_getElem? (i := 1532) (by decide +kernel), List.mem_of_getElem? (i := 1533) (by decide +kernel)⟩
theorem lw_p50 : lw_okq (⟨"MarkupStoreModel", "make", "(I)I"⟩, 60) := ⟨⟨by decide +kernel, by decide +kernel⟩, List.mem_of_getElem? (i := 1311) (by decide +kernel), List.mem_of_getElem? (i := 1536) (by decide +kernel), List.mem_of_getElem? (i := 1537) (by decide +kernel)⟩
theorem lw_p51 : lw_okq (⟨"MarkupStoreModel", "letters", "(I)I"⟩, 60) := ⟨⟨by decide +kernel, by decide +kernel⟩, List.mem_of_getElem? (i := 1311) (by decide +kernel), List.mem_of_getElem? (i := 1540) (by decide +kernel), List.mem_of_getElem? (i := 1541) (by decide +kernel)⟩
theorem lw_p52 : lw_okq (⟨"MarkupStoreModel", "attribute", "(III)I"⟩, 60) := ⟨⟨by decide +kernel, by decide +kernel⟩, List.mem_of_getElem? (i := 1311) (by decide +kernel), List.mem_of_getElem? (i := 1544) (by decide +kernel), List.mem_of_getElem? (i := 1545) (by decide +kernel)⟩
theorem lw_p53 : lw_okq (⟨"MarkupStoreModel", "twice", "(III)Z"⟩, 60) := ⟨⟨by decide +kernel, by decide +kernel⟩, List.mem_of_getElem? (i := 1311) (by decide +kernel), List.mem_of_getElem? (i := 1548) (by decide +kernel), List.mem_of_getElem? (i := 1549) (by decide +kernel)⟩
theorem lw_p54 : lw_okq (⟨"MarkupStoreModel", "must", "(IC)Z"⟩, 60) := ⟨⟨by decide +kernel, by decide +kernel⟩, List.mem_of_getElem? (i := 1311) (by decide +kernel), List.mem_of_getElem? (i := 1552) (by decide +kernel), List.mem_of_getElem? (i := 1553) (by decide +kernel)⟩
theorem lw_p55 : lw_okq (⟨"MarkupStoreModel", "isEntity", "(I)Z"⟩, 60) := ⟨⟨by decide +kernel, by decide +kernel⟩, List.mem_of_getElem? (i := 1311) (by decide +kernel), List.mem_of_getElem? (i := 1556) (by decide +kernel), List.mem_of_getElem? (i := 1557) (by decide +kernel)⟩
theorem lw_p56 : lw_okq (⟨"MarkupStoreModel", "word", "(ICCCC)Z"⟩, 60) := ⟨⟨by decide +kernel, by decide +kernel⟩, List.mem_of_getElem? (i := 1311) (by decide +kernel), List.mem_of_getElem? (i := 1560) (by decide +kernel), List.mem_of_getElem? (i := 1561) (by decide +kernel)⟩
theorem lw_p57 : lw_okq (⟨"MarkupStoreModel", "append", "(IIIC)V"⟩, 60) := ⟨⟨by decide +kernel, by decide +kernel⟩, List.mem_of_getElem? (i := 1311) (by decide +kernel), List.mem_of_getElem? (i := 1564) (by decide +kernel), List.mem_of_getElem? (i := 1565) (by decide +kernel)⟩
theorem lw_p58 : lw_okq (⟨"MarkupStoreModel", "endTag", "()V"⟩, 60) := ⟨⟨by decide +kernel, by decide +kernel⟩, List.mem_of_getElem? (i := 1311) (by decide +kernel), List.mem_of_getElem? (i := 1568) (by decide +kernel), List.mem_of_getElem? (i := 1569) (by decide +kernel)⟩
theorem lw_p59 : lw_okq (⟨"MarkupStoreModel", "comment", "()V"⟩, 60) := ⟨⟨by decide +kernel, by decide +kernel⟩, List.mem_of_getElem? (i := 1311) (by decide +kernel), List.mem_of_getElem? (i := 1572) (by decide +kernel), List.mem_of_getElem? (i := 1573) (by decide +kernel)⟩
theorem lw_p60 : lw_okq (⟨"MarkupStoreModel", "set", "(III)V"⟩, 60) := ⟨⟨by decide +kernel, by decide +kernel⟩, List.mem_of_getElem? (i := 1311) (by decide +kernel), List.mem_of_getElem? (i := 1576) (by decide +kernel), List.mem_of_getElem? (i := 1577) (by decide +kernel)⟩
theorem lw_p61 : lw_okq (⟨"MarkupStoreModel", "install", "(II)V"⟩, 60) := ⟨⟨by decide +kernel, by decide +kernel⟩, List.mem_of_getElem? (i := 1311) (by decide +kernel), List.mem_of_getElem? (i := 1580) (by decide +kernel), List.mem_of_getElem? (i := 1581) (by decide +kernel)⟩
theorem lw_p62 : lw_okq (⟨"MarkupStoreModel", "count", "()I"⟩, 60) := ⟨⟨by decide +kernel, by decide +kernel⟩, List.mem_of_getElem? (i := 1311) (by decide +kernel), List.mem_of_getElem? (i := 1584) (by decide +kernel), List.mem_of_getElem? (i := 1585) (by decide +kernel)⟩
theorem lw_p63 : lw_okq (⟨"MarkupStoreModel", "f", "(II)I"⟩, 60) := ⟨⟨by decide +kernel, by decide +kernel⟩, List.mem_of_getElem? (i := 1311) (by decide +kernel), List.mem_of_getElem? (i := 1588) (by decide +kernel), List.mem_of_getElem? (i := 1589) (by decide +kernel)⟩
def lw_privs_4 : List (MethodName × Nat) := [(⟨"MarkupStoreModel", "tag", "(Z)V"⟩, 60), (⟨"MarkupStoreModel", "startTag", "()V"⟩, 60), (⟨"MarkupStoreModel", "make", "(I)I"⟩, 60), (⟨"MarkupStoreModel", "letters", "(I)I"⟩, 60), (⟨"MarkupStoreModel", "attribute", "(III)I"⟩, 60), (⟨"MarkupStoreModel", "twice", "(III)Z"⟩, 60), (⟨"MarkupStoreModel", "must", "(IC)Z"⟩, 60), (⟨"MarkupStoreModel", "isEntity", "(I)Z"⟩, 60), (⟨"MarkupStoreModel", "word", "(ICCCC)Z"⟩, 60), (⟨"MarkupStoreModel", "append", "(IIIC)V"⟩, 60), (⟨"MarkupStoreModel", "endTag", "()V"⟩, 60), (⟨"MarkupStoreModel", "comment", "()V"⟩, 60), (⟨"MarkupStoreModel", "set", "(III)V"⟩, 60), (⟨"MarkupStoreModel", "install", "(II)V"⟩, 60), (⟨"MarkupStoreModel", "count", "()I"⟩, 60), (⟨"MarkupStoreModel", "f", "(II)I"⟩, 60)]
theorem lw_r4 : ∀ q ∈ lw_privs_4, lw_okq q := List.forall_mem_cons.mpr ⟨lw_p48, List.forall_mem_cons.mpr ⟨lw_p49, List.forall_mem_cons.mpr ⟨lw_p50, List.forall_mem_cons.mpr ⟨lw_p51, List.forall_mem_cons.mpr ⟨lw_p52, List.forall_mem_cons.mpr ⟨lw_p53, List.forall_mem_cons.mpr ⟨lw_p54, List.forall_mem_cons.mpr ⟨lw_p55, List.forall_mem_cons.mpr ⟨lw_p56, List.forall_mem_cons.mpr ⟨lw_p57, List.forall_mem_cons.mpr ⟨lw_p58, List.forall_mem_cons.mpr ⟨lw_p59, List.forall_mem_cons.mpr ⟨lw_p60, List.forall_mem_cons.mpr ⟨lw_p61, List.forall_mem_cons.mpr ⟨lw_p62, List.forall_mem_cons.mpr ⟨lw_p63, fun _ h => absurd h List.not_mem_nil⟩⟩⟩⟩⟩⟩⟩⟩⟩⟩⟩⟩⟩⟩⟩⟩
theorem lw_p64 : lw_okq (⟨"MarkupStoreModel", "labelBy", "(III)V"⟩, 60) := ⟨⟨by decide +kernel, by decide +kernel⟩, List.mem_of_getElem? (i := 1311) (by decide +kernel), List.mem_of_getElem? (i := 1592) (by decide +kernel), List.mem_of_getElem? (i := 1593) (by decide +kernel)⟩
theorem lw_p65 : lw_okq (⟨"MarkupStoreModel", "save", "()V"⟩, 60) := ⟨⟨by decide +kernel, by decide +kernel⟩, List.mem_of_getElem? (i := 1311) (by decide +kernel), List.mem_of_getElem? (i := 1596) (by decide +kernel), List.mem_of_getElem? (i := 1597) (by decide +kernel)⟩
theorem lw_p66 : lw_okq (⟨"MarkupStoreModel", "place", "(I)I"⟩, 60) := ⟨⟨by decide +kernel, by decide +kernel⟩, List.mem_of_getElem? (i := 1311) (by decide +kernel), List.mem_of_getElem? (i := 1604) (by decide +kernel), List.mem_of_getElem? (i := 1605) (by decide +kernel)⟩
theorem lw_p67 : lw_okq (⟨"MarkupStoreModel", "doc", "(I)I"⟩, 60) := ⟨⟨by decide +kernel, by decide +kernel⟩, List.mem_of_getElem? (i := 1311) (by decide +kernel), List.mem_of_getElem? (i := 1608) (by decide +kernel), List.mem_of_getElem? (i := 1609) (by decide +kernel)⟩
theorem lw_p68 : lw_okq (⟨"MarkupStoreModel", "inserted", "(II)I"⟩, 60) := ⟨⟨by decide +kernel, by decide +kernel⟩, List.mem_of_getElem? (i := 1311) (by decide +kernel), List.mem_of_getElem? (i := 1612) (by decide +kernel), List.mem_of_getElem? (i := 1613) (by decide +kernel)⟩
theorem lw_p69 : lw_okq (⟨"MarkupStoreModel", "depth", "(I)I"⟩, 60) := ⟨⟨by decide +kernel, by decide +kernel⟩, List.mem_of_getElem? (i := 1311) (by decide +kernel), List.mem_of_getElem? (i := 1616) (by decide +kernel), List.mem_of_getElem? (i := 1617) (by decide +kernel)⟩
theorem lw_p70 : lw_okq (⟨"MarkupStoreModel", "sibling", "(II)I"⟩, 60) := ⟨⟨by decide +kernel, by decide +kernel⟩, List.mem_of_getElem? (i := 1311) (by decide +kernel), List.mem_of_getElem? (i := 1620) (by decide +kernel), List.mem_of_getElem? (i := 1621) (by decide +kernel)⟩
theorem lw_p71 : lw_okq (⟨"MarkupStoreModel", "order", "(I)I"⟩, 60) := ⟨⟨by decide +kernel, by decide +kernel⟩, List.mem_of_getElem? (i := 1311) (by decide +kernel), List.mem_of_getElem? (i := 1624) (by decide +kernel), List.mem_of_getElem? (i := 1625) (by decide +kernel)⟩
theorem lw_p72 : lw_okq (⟨"MarkupStoreModel", "child", "(II)I"⟩, 60) := ⟨⟨by decide +kernel, by decide +kernel⟩, List.mem_of_getElem? (i := 1311) (by decide +kernel), List.mem_of_getElem? (i := 1628) (by decide +kernel), List.mem_of_getElem? (i := 1629) (by decide +kernel)⟩
theorem lw_p73 : lw_okq (⟨"MarkupStoreModel", "joined", "(IZ)I"⟩, 60) := ⟨⟨by decide +kernel, by decide +kernel⟩, List.mem_of_getElem? (i := 1311) (by decide +kernel), List.mem_of_getElem? (i := 1632) (by decide +kernel), List.mem_of_getElem? (i := 1633) (by decide +kernel)⟩
theorem lw_p74 : lw_okq (⟨"MarkupStoreModel", "between", "(III)V"⟩, 60) := ⟨⟨by decide +kernel, by decide +kernel⟩, List.mem_of_getElem? (i := 1311) (by decide +kernel), List.mem_of_getElem? (i := 1636) (by decide +kernel), List.mem_of_getElem? (i := 1637) (by decide +kernel)⟩
theorem lw_p75 : lw_okq (⟨"MarkupStoreModel", "tailBy", "(I)V"⟩, 60) := ⟨⟨by decide +kernel, by decide +kernel⟩, List.mem_of_getElem? (i := 1311) (by decide +kernel), List.mem_of_getElem? (i := 1643) (by decide +kernel), List.mem_of_getElem? (i := 1644) (by decide +kernel)⟩
theorem lw_p76 : lw_okq (⟨"MarkupStoreModel", "below", "()I"⟩, 60) := ⟨⟨by decide +kernel, by decide +kernel⟩, List.mem_of_getElem? (i := 1311) (by decide +kernel), List.mem_of_getElem? (i := 1647) (by decide +kernel), List.mem_of_getElem? (i := 1648) (by decide +kernel)⟩
theorem lw_p77 : lw_okq (⟨"MarkupStoreModel", "end", "(I)I"⟩, 60) := ⟨⟨by decide +kernel, by decide +kernel⟩, List.mem_of_getElem? (i := 1311) (by decide +kernel), List.mem_of_getElem? (i := 1651) (by decide +kernel), List.mem_of_getElem? (i := 1652) (by decide +kernel)⟩
theorem lw_p78 : lw_okq (⟨"MarkupStoreModel", "drop", "(II)V"⟩, 60) := ⟨⟨by decide +kernel, by decide +kernel⟩, List.mem_of_getElem? (i := 1311) (by decide +kernel), List.mem_of_getElem? (i := 1659) (by decide +kernel), List.mem_of_getElem? (i := 1660) (by decide +kernel)⟩
theorem lw_p79 : lw_okq (⟨"MarkupStoreModel", "asked", "(I)I"⟩, 60) := ⟨⟨by decide +kernel, by decide +kernel⟩, List.mem_of_getElem? (i := 1311) (by decide +kernel), List.mem_of_getElem? (i := 1671) (by decide +kernel), List.mem_of_getElem? (i := 1672) (by decide +kernel)⟩
def lw_privs_5 : List (MethodName × Nat) := [(⟨"MarkupStoreModel", "labelBy", "(III)V"⟩, 60), (⟨"MarkupStoreModel", "save", "()V"⟩, 60), (⟨"MarkupStoreModel", "place", "(I)I"⟩, 60), (⟨"MarkupStoreModel", "doc", "(I)I"⟩, 60), (⟨"MarkupStoreModel", "inserted", "(II)I"⟩, 60), (⟨"MarkupStoreModel", "depth", "(I)I"⟩, 60), (⟨"MarkupStoreModel", "sibling", "(II)I"⟩, 60), (⟨"MarkupStoreModel", "order", "(I)I"⟩, 60), (⟨"MarkupStoreModel", "child", "(II)I"⟩, 60), (⟨"MarkupStoreModel", "joined", "(IZ)I"⟩, 60), (⟨"MarkupStoreModel", "between", "(III)V"⟩, 60), (⟨"MarkupStoreModel", "tailBy", "(I)V"⟩, 60), (⟨"MarkupStoreModel", "below", "()I"⟩, 60), (⟨"MarkupStoreModel", "end", "(I)I"⟩, 60), (⟨"MarkupStoreModel", "drop", "(II)V"⟩, 60), (⟨"MarkupStoreModel", "asked", "(I)I"⟩, 60)]
theorem lw_r5 : ∀ q ∈ lw_privs_5, lw_okq q := List.forall_mem_cons.mpr ⟨lw_p64, List.forall_mem_cons.mpr ⟨lw_p65, List.forall_mem_cons.mpr ⟨lw_p66, List.forall_mem_cons.mpr ⟨lw_p67, List.forall_mem_cons.mpr ⟨lw_p68, List.forall_mem_cons.mpr ⟨lw_p69, List.forall_mem_cons.mpr ⟨lw_p70, List.forall_mem_cons.mpr ⟨lw_p71, List.forall_mem_cons.mpr ⟨lw_p72, List.forall_mem_cons.mpr ⟨lw_p73, List.forall_mem_cons.mpr ⟨lw_p74, List.forall_mem_cons.mpr ⟨lw_p75, List.forall_mem_cons.mpr ⟨lw_p76, List.forall_mem_cons.mpr ⟨lw_p77, List.forall_mem_cons.mpr ⟨lw_p78, List.forall_mem_cons.mpr ⟨lw_p79, fun _ h => absurd h List.not_mem_nil⟩⟩⟩⟩⟩⟩⟩⟩⟩⟩⟩⟩⟩⟩⟩⟩
theorem lw_p80 : lw_okq (⟨"MarkupStoreModel", "readPath", "()V"⟩, 60) := ⟨⟨by decide +kernel, by decide +kernel⟩, List.mem_of_getElem? (i := 1311) (by decide +kernel), List.mem_of_getElem? (i := 1675) (by decide +kernel), List.mem_of_getElem? (i := 1676) (by decide +kernel)⟩
theorem lw_p81 : lw_okq (⟨"MarkupStoreModel", "beginPath", "()V"⟩, 60) := ⟨⟨by decide +kernel, by decide +kernel⟩, List.mem_of_getElem? (i := 1311) (by decide +kernel), List.mem_of_getElem? (i := 1679) (by decide +kernel), List.mem_of_getElem? (i := 1680) (by decide +kernel)⟩
theorem lw_p82 : lw_okq (⟨"MarkupStoreModel", "beginStep", "()V"⟩, 60) := ⟨⟨by decide +kernel, by decide +kernel⟩, List.mem_of_getElem? (i := 1311) (by decide +kernel), List.mem_of_getElem? (i := 1683) (by decide +kernel), List.mem_of_getElem? (i := 1684) (by decide +kernel)⟩
theorem lw_p83 : lw_okq (⟨"MarkupStoreModel", "behindStep", "()V"⟩, 60) := ⟨⟨by decide +kernel, by decide +kernel⟩, List.mem_of_getElem? (i := 1311) (by decide +kernel), List.mem_of_getElem? (i := 1690) (by decide +kernel), List.mem_of_getElem? (i := 1691) (by decide +kernel)⟩
theorem lw_p84 : lw_okq (⟨"MarkupStoreModel", "string", "(I)V"⟩, 60) := ⟨⟨by decide +kernel, by decide +kernel⟩, List.mem_of_getElem? (i := 1311) (by decide +kernel), List.mem_of_getElem? (i := 1694) (by decide +kernel), List.mem_of_getElem? (i := 1695) (by decide +kernel)⟩
theorem lw_p85 : lw_okq (⟨"MarkupStoreModel", "beginPredicate", "()V"⟩, 60) := ⟨⟨by decide +kernel, by decide +kernel⟩, List.mem_of_getElem? (i := 1311) (by decide +kernel), List.mem_of_getElem? (i := 1698) (by decide +kernel), List.mem_of_getElem? (i := 1699) (by decide +kernel)⟩
theorem lw_p86 : lw_okq (⟨"MarkupStoreModel", "attributePredicate", "(I)V"⟩, 60) := ⟨⟨by decide +kernel, by decide +kernel⟩, List.mem_of_getElem? (i := 1311) (by decide +kernel), List.mem_of_getElem? (i := 1705) (by decide +kernel), List.mem_of_getElem? (i := 1706) (by decide +kernel)⟩
theorem lw_p87 : lw_okq (⟨"MarkupStoreModel", "fill", "(I)V"⟩, 60) := ⟨⟨by decide +kernel, by decide +kernel⟩, List.mem_of_getElem? (i := 1311) (by decide +kernel), List.mem_of_getElem? (i := 1709) (by decide +kernel), List.mem_of_getElem? (i := 1710) (by decide +kernel)⟩
theorem lw_p88 : lw_okq (⟨"MarkupStoreModel", "lead", "(II)J"⟩, 60) := ⟨⟨by decide +kernel, by decide +kernel⟩, List.mem_of_getElem? (i := 1311) (by decide +kernel), List.mem_of_getElem? (i := 1713) (by decide +kernel), List.mem_of_getElem? (i := 1714) (by decide +kernel)⟩
theorem lw_p89 : lw_okq (⟨"MarkupStoreModel", "walk", "(II)J"⟩, 60) := ⟨⟨by decide +kernel, by decide +kernel⟩, List.mem_of_getElem? (i := 1311) (by decide +kernel), List.mem_of_getElem? (i := 1717) (by decide +kernel), List.mem_of_getElem? (i := 1718) (by decide +kernel)⟩
theorem lw_p90 : lw_okq (⟨"MarkupStoreModel", "gather", "(II)V"⟩, 60) := ⟨⟨by decide +kernel, by decide +kernel⟩, List.mem_of_getElem? (i := 1311) (by decide +kernel), List.mem_of_getElem? (i := 1721) (by decide +kernel), List.mem_of_getElem? (i := 1722) (by decide +kernel)⟩
theorem lw_p91 : lw_okq (⟨"MarkupStoreModel", "entries", "(II)V"⟩, 60) := ⟨⟨by decide +kernel, by decide +kernel⟩, List.mem_of_getElem? (i := 1311) (by decide +kernel), List.mem_of_getElem? (i := 1725) (by decide +kernel), List.mem_of_getElem? (i := 1726) (by decide +kernel)⟩
theorem lw_p92 : lw_okq (⟨"MarkupStoreModel", "entry", "(I)V"⟩, 60) := ⟨⟨by decide +kernel, by decide +kernel⟩, List.mem_of_getElem? (i := 1311) (by decide +kernel), List.mem_of_getElem? (i := 1729) (by decide +kernel), List.mem_of_getElem? (i := 1730) (by decide +kernel)⟩
theorem lw_p93 : lw_okq (⟨"MarkupStoreModel", "sameParent", "(II)Z"⟩, 60) := ⟨⟨by decide +kernel, by decide +kernel⟩, List.mem_of_getElem? (i := 1311) (by decide +kernel), List.mem_of_getElem? (i := 1733) (by decide +kernel), List.mem_of_getElem? (i := 1734) (by decide +kernel)⟩
theorem lw_p94 : lw_okq (⟨"MarkupStoreModel", "isKind", "(II)Z"⟩, 60) := ⟨⟨by decide +kernel, by decide +kernel⟩, List.mem_of_getElem? (i := 1311) (by decide +kernel), List.mem_of_getElem? (i := 1737) (by decide +kernel), List.mem_of_getElem? (i := 1738) (by decide +kernel)⟩
theorem lw_p95 : lw_okq (⟨"MarkupStoreModel", "holds", "(IIII)Z"⟩, 60) := ⟨⟨by decide +kernel, by decide +kernel⟩, List.mem_of_getElem? (i := 1311) (by decide +kernel), List.mem_of_getElem? (i := 1741) (by decide +kernel), List.mem_of_getElem? (i := 1742) (by decide +kernel)⟩
def lw_privs_6 : List (MethodName × Nat) := [(⟨"MarkupStoreModel", "readPath", "()V"⟩, 60), (⟨"MarkupStoreModel", "beginPath", "()V"⟩, 60), (⟨"MarkupStoreModel", "beginStep", "()V"⟩, 60), (⟨"MarkupStoreModel", "behindStep", "()V"⟩, 60), (⟨"MarkupStoreModel", "string", "(I)V"⟩, 60), (⟨"MarkupStoreModel", "beginPredicate", "()V"⟩, 60), (⟨"MarkupStoreModel", "attributePredicate", "(I)V"⟩, 60), (⟨"MarkupStoreModel", "fill", "(I)V"⟩, 60), (⟨"MarkupStoreModel", "lead", "(II)J"⟩, 60), (⟨"MarkupStoreModel", "walk", "(II)J"⟩, 60), (⟨"MarkupStoreModel", "gather", "(II)V"⟩, 60), (⟨"MarkupStoreModel", "entries", "(II)V"⟩, 60), (⟨"MarkupStoreModel", "entry", "(I)V"⟩, 60), (⟨"MarkupStoreModel", "sameParent", "(II)Z"⟩, 60), (⟨"MarkupStoreModel", "isKind", "(II)Z"⟩, 60), (⟨"MarkupStoreModel", "holds", "(IIII)Z"⟩, 60)]
theorem lw_r6 : ∀ q ∈ lw_privs_6, lw_okq q := List.forall_mem_cons.mpr ⟨lw_p80, List.forall_mem_cons.mpr ⟨lw_p81, List.forall_mem_cons.mpr ⟨lw_p82, List.forall_mem_cons.mpr ⟨lw_p83, List.forall_mem_cons.mpr ⟨lw_p84, List.forall_mem_cons.mpr ⟨lw_p85, List.forall_mem_cons.mpr ⟨lw_p86, List.forall_mem_cons.mpr ⟨lw_p87, List.forall_mem_cons.mpr ⟨lw_p88, List.forall_mem_cons.mpr ⟨lw_p89, List.forall_mem_cons.mpr ⟨lw_p90, List.forall_mem_cons.mpr ⟨lw_p91, List.forall_mem_cons.mpr ⟨lw_p92, List.forall_mem_cons.mpr ⟨lw_p93, List.forall_mem_cons.mpr ⟨lw_p94, List.forall_mem_cons.mpr ⟨lw_p95, fun _ h => absurd h List.not_mem_nil⟩⟩⟩⟩⟩⟩⟩⟩⟩⟩⟩⟩⟩⟩⟩⟩
theorem lw_p96 : lw_okq (⟨"MarkupStoreModel", "holdsAttribute", "(II)Z"⟩, 60) := ⟨⟨by decide +kernel, by decide +kernel⟩, List.mem_of_getElem? (i := 1311) (by decide +kernel), List.mem_of_getElem? (i := 1745) (by decide +kernel), List.mem_of_getElem? (i := 1746) (by decide +kernel)⟩
theorem lw_p97 : lw_okq (⟨"MarkupStoreModel", "attributeOf", "(III)I"⟩, 60) := ⟨⟨by decide +kernel, by decide +kernel⟩, List.mem_of_getElem? (i := 1311) (by decide +kernel), List.mem_of_getElem? (i := 1749) (by decide +kernel), List.mem_of_getElem? (i := 1750) (by decide +kernel)⟩
theorem lw_p98 : lw_okq (⟨"MarkupStoreModel", "reads", "(IIIZ)Z"⟩, 60) := ⟨⟨by decide +kernel, by decide +kernel⟩, List.mem_of_getElem? (i := 1311) (by decide +kernel), List.mem_of_getElem? (i := 1753) (by decide +kernel), List.mem_of_getElem? (i := 1754) (by decide +kernel)⟩
theorem lw_p99 : lw_okq (⟨"MarkupStoreModel", "kids", "(IZ)I"⟩, 60) := ⟨⟨by decide +kernel, by decide +kernel⟩, List.mem_of_getElem? (i := 1311) (by decide +kernel), List.mem_of_getElem? (i := 1777) (by decide +kernel), List.mem_of_getElem? (i := 1778) (by decide +kernel)⟩
theorem lw_p100 : lw_okq (⟨"MarkupStoreModel", "write", "(I)V"⟩, 60) := ⟨⟨by decide +kernel, by decide +kernel⟩, List.mem_of_getElem? (i := 1311) (by decide +kernel), List.mem_of_getElem? (i := 1801) (by decide +kernel), List.mem_of_getElem? (i := 1802) (by decide +kernel)⟩
theorem lw_p101 : lw_okq (⟨"MarkupStoreModel", "outTag", "(I)V"⟩, 60) := ⟨⟨by decide +kernel, by decide +kernel⟩, List.mem_of_getElem? (i := 1311) (by decide +kernel), List.mem_of_getElem? (i := 1805) (by decide +kernel), List.mem_of_getElem? (i := 1806) (by decide +kernel)⟩
theorem lw_p102 : lw_okq (⟨"MarkupStoreModel", "out", "(I)V"⟩, 60) := ⟨⟨by decide +kernel, by decide +kernel⟩, List.mem_of_getElem? (i := 1311) (by decide +kernel), List.mem_of_getElem? (i := 1809) (by decide +kernel), List.mem_of_getElem? (i := 1810) (by decide +kernel)⟩
theorem lw_p103 : lw_okq (⟨"MarkupStoreModel", "outName", "(I)V"⟩, 60) := ⟨⟨by decide +kernel, by decide +kernel⟩, List.mem_of_getElem? (i := 1311) (by decide +kernel), List.mem_of_getElem? (i := 1813) (by decide +kernel), List.mem_of_getElem? (i := 1814) (by decide +kernel)⟩
theorem lw_p104 : lw_okq (⟨"MarkupStoreModel", "outFour", "(IIII)V"⟩, 60) := ⟨⟨by decide +kernel, by decide +kernel⟩, List.mem_of_getElem? (i := 1311) (by decide +kernel), List.mem_of_getElem? (i := 1817) (by decide +kernel), List.mem_of_getElem? (i := 1818) (by decide +kernel)⟩
theorem lw_p105 : lw_okq (⟨"MarkupStoreModel", "outValue", "(IC)V"⟩, 60) := ⟨⟨by decide +kernel, by decide +kernel⟩, List.mem_of_getElem? (i := 1311) (by decide +kernel), List.mem_of_getElem? (i := 1821) (by decide +kernel), List.mem_of_getElem? (i := 1822) (by decide +kernel)⟩
theorem lw_p106 : lw_okq (⟨"MarkupStoreModel", "outComment", "(I)V"⟩, 60) := ⟨⟨by decide +kernel, by decide +kernel⟩, List.mem_of_getElem? (i := 1311) (by decide +kernel), List.mem_of_getElem? (i := 1825) (by decide +kernel), List.mem_of_getElem? (i := 1826) (by decide +kernel)⟩
def lw_privs_7 : List (MethodName × Nat) := [(⟨"MarkupStoreModel", "holdsAttribute", "(II)Z"⟩, 60), (⟨"MarkupStoreModel", "attributeOf", "(III)I"⟩, 60), (⟨"MarkupStoreModel", "reads", "(IIIZ)Z"⟩, 60), (⟨"MarkupStoreModel", "kids", "(IZ)I"⟩, 60), (⟨"MarkupStoreModel", "write", "(I)V"⟩, 60), (⟨"MarkupStoreModel", "outTag", "(I)V"⟩, 60), (⟨"MarkupStoreModel", "out", "(I)V"⟩, 60), (⟨"MarkupStoreModel", "outName", "(I)V"⟩, 60), (⟨"MarkupStoreModel", "outFour", "(IIII)V"⟩, 60), (⟨"MarkupStoreModel", "outValue", "(IC)V"⟩, 60), (⟨"MarkupStoreModel", "outComment", "(I)V"⟩, 60)]
theorem lw_r7 : ∀ q ∈ lw_privs_7, lw_okq q := List.forall_mem_cons.mpr ⟨lw_p96, List.forall_mem_cons.mpr ⟨lw_p97, List.forall_mem_cons.mpr ⟨lw_p98, List.forall_mem_cons.mpr ⟨lw_p99, List.forall_mem_cons.mpr ⟨lw_p100, List.forall_mem_cons.mpr ⟨lw_p101, List.forall_mem_cons.mpr ⟨lw_p102, List.forall_mem_cons.mpr ⟨lw_p103, List.forall_mem_cons.mpr ⟨lw_p104, List.forall_mem_cons.mpr ⟨lw_p105, List.forall_mem_cons.mpr ⟨lw_p106, fun _ h => absurd h List.not_mem_nil⟩⟩⟩⟩⟩⟩⟩⟩⟩⟩⟩
def lw_privs : List (MethodName × Nat) := lw_privs_1 ++ (lw_privs_2 ++ (lw_privs_3 ++ (lw_privs_4 ++ (lw_privs_5 ++ (lw_privs_6 ++ (lw_privs_7))))))
def lw_tbl : List Cond := k2_sels lw_privs ++ tables_1
theorem lw_privs_ok : ∀ q ∈ lw_privs, lw_okq q := by
  show ∀ q ∈ lw_privs_1 ++ (lw_privs_2 ++ (lw_privs_3 ++ (lw_privs_4 ++ (lw_privs_5 ++ (lw_privs_6 ++ (lw_privs_7)))))), lw_okq q
  exact List.forall_mem_append.mpr ⟨lw_r1, List.forall_mem_append.mpr ⟨lw_r2, List.forall_mem_append.mpr ⟨lw_r3, List.forall_mem_append.mpr ⟨lw_r4, List.forall_mem_append.mpr ⟨lw_r5, List.forall_mem_append.mpr ⟨lw_r6, lw_r7⟩⟩⟩⟩⟩⟩

def kR0 : String := "MarkupStore"
def kT0 : u_T := fun k => match k with
  | 0 => ("MarkupStore", "buffer", "Ljava/lang/StringBuilder;", true)
  | 1 => ("MarkupStore", "scratch", "Ljava/lang/StringBuilder;", true)
  | 2 => ("MarkupStore", "tree", "LMarkupStore$Tree;", true)
  | 3 => ("MarkupStore", "found", "[I", true)
  | 4 => ("MarkupStore", "foundSize", "I", false)
  | _ => ("MarkupStore", "changes", "I", false)
def kt0 : Nat → FieldType := fun k => match k with
  | 0 => (.object "java/lang/StringBuilder")
  | 1 => (.object "java/lang/StringBuilder")
  | 2 => (.object "MarkupStore$Tree")
  | 3 => (.array .int)
  | 4 => .int
  | _ => .int
def kR1 : String := "MarkupStore$Tree"
def kT1 : u_T := fun k => match k with
  | 0 => ("MarkupStore$Tree", "made", "[LMarkupStore$Node;", true)
  | 1 => ("MarkupStore$Tree", "madeSize", "I", false)
  | 2 => ("MarkupStore$Tree", "order", "[LMarkupStore$Node;", true)
  | 3 => ("MarkupStore$Tree", "size", "I", false)
  | 4 => ("MarkupStore$Tree", "kept", "[LMarkupStore$Node;", true)
  | _ => ("MarkupStore$Tree", "keptSize", "I", false)
def kt1 : Nat → FieldType := fun k => match k with
  | 0 => (.array (.object "MarkupStore$Node"))
  | 1 => .int
  | 2 => (.array (.object "MarkupStore$Node"))
  | 3 => .int
  | 4 => (.array (.object "MarkupStore$Node"))
  | _ => .int
def kR2 : String := "MarkupStoreModel"
def kT2 : u_T := fun k => match k with
  | 0 => ("MarkupStoreModel", "t", "[I", true)
  | 1 => ("MarkupStoreModel", "saved", "[I", true)
  | 2 => ("MarkupStoreModel", "w", "[I", true)
  | 3 => ("MarkupStoreModel", "slots", "[I", true)
  | 4 => ("MarkupStoreModel", "made", "I", false)
  | 5 => ("MarkupStoreModel", "changes", "I", false)
  | 6 => ("MarkupStoreModel", "buffer", "[C", true)
  | 7 => ("MarkupStoreModel", "size", "I", false)
  | 8 => ("MarkupStoreModel", "p", "I", false)
  | 9 => ("MarkupStoreModel", "wrong", "I", false)
  | 10 => ("MarkupStoreModel", "many", "I", false)
  | 11 => ("MarkupStoreModel", "over", "Z", false)
  | 12 => ("MarkupStoreModel", "text", "I", false)
  | 13 => ("MarkupStoreModel", "base", "I", false)
  | 14 => ("MarkupStoreModel", "opens", "I", false)
  | 15 => ("MarkupStoreModel", "openAt", "[I", true)
  | 16 => ("MarkupStoreModel", "openFrom", "[I", true)
  | 17 => ("MarkupStoreModel", "openSize", "[I", true)
  | 18 => ("MarkupStoreModel", "entity", "I", false)
  | 19 => ("MarkupStoreModel", "entityLength", "I", false)
  | 20 => ("MarkupStoreModel", "nameFrom", "[I", true)
  | 21 => ("MarkupStoreModel", "nameSize", "[I", true)
  | 22 => ("MarkupStoreModel", "tail", "[I", true)
  | 23 => ("MarkupStoreModel", "tails", "I", false)
  | 24 => ("MarkupStoreModel", "steps", "I", false)
  | 25 => ("MarkupStoreModel", "axis", "[I", true)
  | 26 => ("MarkupStoreModel", "stepKind", "[I", true)
  | 27 => ("MarkupStoreModel", "stepFrom", "[I", true)
  | 28 => ("MarkupStoreModel", "stepSize", "[I", true)
  | 29 => ("MarkupStoreModel", "stepPredicate", "[I", true)
  | 30 => ("MarkupStoreModel", "stepNext", "[I", true)
  | 31 => ("MarkupStoreModel", "predicates", "I", false)
  | 32 => ("MarkupStoreModel", "what", "[I", true)
  | 33 => ("MarkupStoreModel", "position", "[I", true)
  | 34 => ("MarkupStoreModel", "attrFrom", "[I", true)
  | 35 => ("MarkupStoreModel", "attrSize", "[I", true)
  | 36 => ("MarkupStoreModel", "textFrom", "[I", true)
  | 37 => ("MarkupStoreModel", "textSize", "[I", true)
  | 38 => ("MarkupStoreModel", "pathStep", "[I", true)
  | 39 => ("MarkupStoreModel", "predicateNext", "[I", true)
  | 40 => ("MarkupStoreModel", "not", "[Z", true)
  | 41 => ("MarkupStoreModel", "pathAbsolute", "[Z", true)
  | 42 => ("MarkupStoreModel", "mask", "[J", true)
  | 43 => ("MarkupStoreModel", "ended", "I", false)
  | 44 => ("MarkupStoreModel", "endedPath", "[I", true)
  | 45 => ("MarkupStoreModel", "level", "I", false)
  | 46 => ("MarkupStoreModel", "nesting", "I", false)
  | 47 => ("MarkupStoreModel", "state", "I", false)
  | 48 => ("MarkupStoreModel", "topStep", "I", false)
  | 49 => ("MarkupStoreModel", "topAbsolute", "Z", false)
  | 50 => ("MarkupStoreModel", "owner", "[I", true)
  | 51 => ("MarkupStoreModel", "lastStep", "[I", true)
  | 52 => ("MarkupStoreModel", "lastPredicate", "[I", true)
  | 53 => ("MarkupStoreModel", "listed", "I", false)
  | 54 => ("MarkupStoreModel", "list", "[I", true)
  | 55 => ("MarkupStoreModel", "results", "I", false)
  | 56 => ("MarkupStoreModel", "result", "[I", true)
  | 57 => ("MarkupStoreModel", "total", "I", false)
  | 58 => ("MarkupStoreModel", "wanted", "I", false)
  | _ => ("MarkupStoreModel", "found", "I", false)
def kt2 : Nat → FieldType := fun k => match k with
  | 0 => (.array .int)
  | 1 => (.array .int)
  | 2 => (.array .int)
  | 3 => (.array .int)
  | 4 => .int
  | 5 => .int
  | 6 => (.array .char)
  | 7 => .int
  | 8 => .int
  | 9 => .int
  | 10 => .int
  | 11 => .boolean
  | 12 => .int
  | 13 => .int
  | 14 => .int
  | 15 => (.array .int)
  | 16 => (.array .int)
  | 17 => (.array .int)
  | 18 => .int
  | 19 => .int
  | 20 => (.array .int)
  | 21 => (.array .int)
  | 22 => (.array .int)
  | 23 => .int
  | 24 => .int
  | 25 => (.array .int)
  | 26 => (.array .int)
  | 27 => (.array .int)
  | 28 => (.array .int)
  | 29 => (.array .int)
  | 30 => (.array .int)
  | 31 => .int
  | 32 => (.array .int)
  | 33 => (.array .int)
  | 34 => (.array .int)
  | 35 => (.array .int)
  | 36 => (.array .int)
  | 37 => (.array .int)
  | 38 => (.array .int)
  | 39 => (.array .int)
  | 40 => (.array .boolean)
  | 41 => (.array .boolean)
  | 42 => (.array .long)
  | 43 => .int
  | 44 => (.array .int)
  | 45 => .int
  | 46 => .int
  | 47 => .int
  | 48 => .int
  | 49 => .boolean
  | 50 => (.array .int)
  | 51 => (.array .int)
  | 52 => (.array .int)
  | 53 => .int
  | 54 => (.array .int)
  | 55 => .int
  | 56 => (.array .int)
  | 57 => .int
  | 58 => .int
  | _ => .int
def kR3 : String := "java/lang/StringBuilder"
def kT3 : u_T := fun k => match k with
  | 0 => ("java/lang/AbstractStringBuilder", "value", "[B", false)
  | 1 => ("java/lang/AbstractStringBuilder", "coder", "B", false)
  | 2 => ("java/lang/AbstractStringBuilder", "maybeLatin1", "Z", false)
  | _ => ("java/lang/AbstractStringBuilder", "count", "I", false)
def kt3 : Nat → FieldType := fun k => match k with
  | 0 => (.array .byte)
  | 1 => .byte
  | 2 => .boolean
  | _ => .int
def kR4 : String := "java/util/ArrayList"
def kT4 : u_T := fun k => match k with
  | 0 => ("java/util/AbstractList", "modCount", "I", false)
  | 1 => ("java/util/ArrayList", "elementData", "[Ljava/lang/Object;", false)
  | _ => ("java/util/ArrayList", "size", "I", false)
def kt4 : Nat → FieldType := fun k => match k with
  | 0 => .int
  | 1 => (.array (.object "java/lang/Object"))
  | _ => .int
def kR5 : String := "java/lang/String"
def kT5 : u_T := fun k => match k with
  | 0 => ("java/lang/String", "value", "[B", true)
  | 1 => ("java/lang/String", "coder", "B", true)
  | 2 => ("java/lang/String", "hash", "I", false)
  | _ => ("java/lang/String", "hashIsZero", "Z", false)
def kt5 : Nat → FieldType := fun k => match k with
  | 0 => (.array .byte)
  | 1 => .byte
  | 2 => .int
  | _ => .boolean
def kR6 : String := "MarkupStore$MarkupReader"
def kT6 : u_T := fun k => match k with
  | 0 => ("MarkupStore$TextReader", "text", "Ljava/lang/String;", true)
  | 1 => ("MarkupStore$TextReader", "at", "I", false)
  | 2 => ("MarkupStore$TextReader", "wrong", "I", false)
  | 3 => ("MarkupStore$MarkupReader", "read", "Ljava/util/ArrayList;", true)
  | 4 => ("MarkupStore$MarkupReader", "scratch", "Ljava/lang/StringBuilder;", true)
  | _ => ("MarkupStore$MarkupReader", "tooMuch", "Z", false)
def kt6 : Nat → FieldType := fun k => match k with
  | 0 => (.object "java/lang/String")
  | 1 => .int
  | 2 => .int
  | 3 => (.object "java/util/ArrayList")
  | 4 => (.object "java/lang/StringBuilder")
  | _ => .boolean
def kR7 : String := "MarkupStore$Scribe"
def kT7 : u_T := fun k => match k with
  | 0 => ("MarkupStore$Scribe", "wanted", "I", true)
  | 1 => ("MarkupStore$Scribe", "count", "I", false)
  | _ => ("MarkupStore$Scribe", "seen", "I", false)
def kt7 : Nat → FieldType := fun k => match k with
  | 0 => .int
  | 1 => .int
  | _ => .int
def kR8 : String := "MarkupStore$Node"
def kT8 : u_T := fun k => match k with
  | 0 => ("MarkupStore$Node", "kind", "I", true)
  | 1 => ("MarkupStore$Node", "parent", "LMarkupStore$Node;", true)
  | 2 => ("MarkupStore$Node", "depth", "I", true)
  | 3 => ("MarkupStore$Node", "label", "[I", true)
  | 4 => ("MarkupStore$Node", "attributes", "Ljava/util/ArrayList;", true)
  | 5 => ("MarkupStore$Node", "number", "I", false)
  | 6 => ("MarkupStore$Node", "place", "I", false)
  | 7 => ("MarkupStore$Node", "text", "Ljava/lang/String;", false)
  | _ => ("MarkupStore$Node", "keptText", "Ljava/lang/String;", false)
def kt8 : Nat → FieldType := fun k => match k with
  | 0 => .int
  | 1 => (.object "MarkupStore$Node")
  | 2 => .int
  | 3 => (.array .int)
  | 4 => (.object "java/util/ArrayList")
  | 5 => .int
  | 6 => .int
  | 7 => (.object "java/lang/String")
  | _ => (.object "java/lang/String")
def kR9 : String := "MarkupStore$Attribute"
def kT9 : u_T := fun k => match k with
  | 0 => ("MarkupStore$Attribute", "name", "Ljava/lang/String;", true)
  | _ => ("MarkupStore$Attribute", "value", "Ljava/lang/String;", true)
def kt9 : Nat → FieldType := fun k => match k with
  | 0 => (.object "java/lang/String")
  | _ => (.object "java/lang/String")
def kR10 : String := "MarkupStore$PathReader"
def kT10 : u_T := fun k => match k with
  | 0 => ("MarkupStore$TextReader", "text", "Ljava/lang/String;", true)
  | 1 => ("MarkupStore$TextReader", "at", "I", false)
  | _ => ("MarkupStore$TextReader", "wrong", "I", false)
def kt10 : Nat → FieldType := fun k => match k with
  | 0 => (.object "java/lang/String")
  | 1 => .int
  | _ => .int
def kR11 : String := "MarkupStore$Path"
def kT11 : u_T := fun k => match k with
  | 0 => ("MarkupStore$Path", "fromDocument", "Z", true)
  | _ => ("MarkupStore$Path", "steps", "Ljava/util/ArrayList;", true)
def kt11 : Nat → FieldType := fun k => match k with
  | 0 => .boolean
  | _ => (.object "java/util/ArrayList")
def kR12 : String := "MarkupStore$Step"
def kT12 : u_T := fun k => match k with
  | 0 => ("MarkupStore$Step", "axis", "C", false)
  | 1 => ("MarkupStore$Step", "sort", "C", false)
  | 2 => ("MarkupStore$Step", "name", "Ljava/lang/String;", false)
  | 3 => ("MarkupStore$Step", "predicates", "Ljava/util/ArrayList;", true)
  | _ => ("MarkupStore$Step", "ofKind", "J", false)
def kt12 : Nat → FieldType := fun k => match k with
  | 0 => .char
  | 1 => .char
  | 2 => (.object "java/lang/String")
  | 3 => (.object "java/util/ArrayList")
  | _ => .long
def kR13 : String := "MarkupStore$Predicate"
def kT13 : u_T := fun k => match k with
  | 0 => ("MarkupStore$Predicate", "sort", "C", false)
  | 1 => ("MarkupStore$Predicate", "negated", "Z", false)
  | 2 => ("MarkupStore$Predicate", "position", "I", false)
  | 3 => ("MarkupStore$Predicate", "name", "Ljava/lang/String;", false)
  | 4 => ("MarkupStore$Predicate", "path", "LMarkupStore$Path;", false)
  | 5 => ("MarkupStore$Predicate", "comparison", "C", false)
  | 6 => ("MarkupStore$Predicate", "string", "Ljava/lang/String;", false)
  | _ => ("MarkupStore$Predicate", "holds", "J", false)
def kt13 : Nat → FieldType := fun k => match k with
  | 0 => .char
  | 1 => .boolean
  | 2 => .int
  | 3 => (.object "java/lang/String")
  | 4 => (.object "MarkupStore$Path")
  | 5 => .char
  | 6 => (.object "java/lang/String")
  | _ => .long
def kR14 : String := "MarkupStore$Walker"
def kT14 : u_T := fun k => match k with
  | _ => ("MarkupStore$Walker", "tree", "LMarkupStore$Tree;", true)
def kt14 : Nat → FieldType := fun k => match k with
  | _ => (.object "MarkupStore$Tree")
abbrev vwCl : List vw_C := [(kR0, kT0, 6), (kR1, kT1, 6), (kR2, kT2, 60), (kR3, kT3, 4), (kR4, kT4, 3), (kR5, kT5, 4), (kR6, kT6, 6), (kR7, kT7, 3), (kR8, kT8, 9), (kR9, kT9, 2), (kR10, kT10, 3), (kR11, kT11, 2), (kR12, kT12, 5), (kR13, kT13, 8), (kR14, kT14, 1)]
abbrev ms_tys (dA : Nat → ClassId) : List (ClassId × FieldType) := [(dA 0, .int), (dA 1, .char), (dA 2, .byte), (dA 3, .boolean), (dA 4, .long), (dA 5, .object "MarkupStore$Node"), (dA 6, .object "java/lang/Object")]
/-- the String constants: class, entry, text, letters -/
def ms_lit : List (String × Nat × String × List Nat) := [("MarkupStore$Node", 39, "", []), ("java/lang/StringLatin1", 151, "", []), ("java/lang/StringUTF16", 295, "", []), ("MarkupStore$MarkupReader", 170, "&lt", [38, 108, 116]), ("MarkupStore$MarkupReader", 176, "&gt", [38, 103, 116]), ("MarkupStore$MarkupReader", 178, "&amp", [38, 97, 109, 112]), ("MarkupStore$MarkupReader", 180, "&quot", [38, 113, 117, 111, 116]), ("MarkupStore$MarkupReader", 182, "&apos", [38, 97, 112, 111, 115]), ("MarkupStore$MarkupReader", 50, "", []), ("MarkupStore$Step", 18, "", []), ("MarkupStore$PathReader", 103, "DEPABSNLFR", [68, 69, 80, 65, 66, 83, 78, 76, 70, 82]), ("MarkupStore$PathReader", 109, "*#%.", [42, 35, 37, 46]), ("MarkupStore$Predicate", 21, "", []), ("MarkupStore$PathReader", 128, "=", [61]), ("MarkupStore$PathReader", 138, "=~", [61, 126]), ("MarkupStore$Scribe", 69, "</", [60, 47]), ("MarkupStore$Scribe", 94, "=\"", [61, 34]), ("MarkupStore$Scribe", 99, "&quot;", [38, 113, 117, 111, 116, 59]), ("MarkupStore$Scribe", 114, "&amp;", [38, 97, 109, 112, 59]), ("MarkupStore$Scribe", 116, "&lt;", [38, 108, 116, 59]), ("MarkupStore$Scribe", 101, ">", [62]), ("MarkupStore$Scribe", 103, "/>", [47, 62]), ("MarkupStore$Scribe", 55, "&gt;", [38, 103, 116, 59]), ("MarkupStore$Scribe", 61, "<!--", [60, 33, 45, 45]), ("MarkupStore$Scribe", 67, "-->", [45, 45, 62])]
def ms_xs : List Cond := [.selects "java/lang/StringBuilder" ⟨"java/lang/AbstractStringBuilder", "ensureCapacityInternal", "(I)V"⟩ ⟨"java/lang/AbstractStringBuilder", "ensureCapacityInternal", "(I)V"⟩, .selects "java/lang/StringBuilder" ⟨"java/lang/AbstractStringBuilder", "newCapacity", "(I)I"⟩ ⟨"java/lang/AbstractStringBuilder", "newCapacity", "(I)I"⟩, .selects "java/lang/StringBuilder" ⟨"java/lang/AbstractStringBuilder", "inflate", "()V"⟩ ⟨"java/lang/AbstractStringBuilder", "inflate", "()V"⟩, .selects "java/lang/StringBuilder" ⟨"java/lang/AbstractStringBuilder", "appendNull", "()Ljava/lang/AbstractStringBuilder;"⟩ ⟨"java/lang/AbstractStringBuilder", "appendNull", "()Ljava/lang/AbstractStringBuilder;"⟩, .selects "java/lang/StringBuilder" ⟨"java/lang/AbstractStringBuilder", "putStringAt", "(ILjava/lang/String;)V"⟩ ⟨"java/lang/AbstractStringBuilder", "putStringAt", "(ILjava/lang/String;)V"⟩, .selects "java/lang/StringBuilder" ⟨"java/lang/AbstractStringBuilder", "inflateIfNeededFor", "(Ljava/lang/String;)V"⟩ ⟨"java/lang/AbstractStringBuilder", "inflateIfNeededFor", "(Ljava/lang/String;)V"⟩]
theorem ms_xs_good : ∀ w ∈ ms_xs, goodWord w = true := List.forall_mem_cons.mpr ⟨by decide +kernel, List.forall_mem_cons.mpr ⟨by decide +kernel, List.forall_mem_cons.mpr ⟨by decide +kernel, List.forall_mem_cons.mpr ⟨by decide +kernel, List.forall_mem_cons.mpr ⟨by decide +kernel, List.forall_mem_cons.mpr ⟨by decide +kernel, fun _ h => absurd h List.not_mem_nil⟩⟩⟩⟩⟩⟩
