section
-- ===== PART A: goes FIRST, ahead of the names: the tables' words, and 'selects' of the private methods out of them =====
/-- a private method of a class that the tables say can be made, by its rows of tables_1 -/
def lw_okq (q : MethodName × Nat) : Prop := (q.1.cls ≠ "java/lang/invoke/MethodHandle" ∧ q.1.cls ≠ "java/lang/invoke/VarHandle") ∧ Cond.instantiable q.1.cls q.2 ∈ tables_1 ∧ Cond.privateMethod q.1 ∈ tables_1 ∧ Cond.instanceMethod q.1 ∈ tables_1
theorem lw_p0 : lw_okq (⟨"FieldBases$Field", "fills", "(I)Z"⟩, 6) := ⟨⟨by decide +kernel, by decide +kernel⟩, List.mem_of_getElem? (i := 34) (by decide +kernel), List.mem_of_getElem? (i := 172) (by decide +kernel), List.mem_of_getElem? (i := 173) (by decide +kernel)⟩
theorem lw_p1 : lw_okq (⟨"FieldBases$Field", "multiplied", "(II)I"⟩, 6) := ⟨⟨by decide +kernel, by decide +kernel⟩, List.mem_of_getElem? (i := 34) (by decide +kernel), List.mem_of_getElem? (i := 176) (by decide +kernel), List.mem_of_getElem? (i := 177) (by decide +kernel)⟩
theorem lw_p2 : lw_okq (⟨"FieldBases$Text", "powerRead", "(I)I"⟩, 4) := ⟨⟨by decide +kernel, by decide +kernel⟩, List.mem_of_getElem? (i := 129) (by decide +kernel), List.mem_of_getElem? (i := 258) (by decide +kernel), List.mem_of_getElem? (i := 259) (by decide +kernel)⟩
theorem lw_p3 : lw_okq (⟨"FieldBases$Text", "signAt", "(I)I"⟩, 4) := ⟨⟨by decide +kernel, by decide +kernel⟩, List.mem_of_getElem? (i := 129) (by decide +kernel), List.mem_of_getElem? (i := 262) (by decide +kernel), List.mem_of_getElem? (i := 263) (by decide +kernel)⟩
theorem lw_p4 : lw_okq (⟨"FieldBases", "tellsField", "(I)I"⟩, 11) := ⟨⟨by decide +kernel, by decide +kernel⟩, List.mem_of_getElem? (i := 20) (by decide +kernel), List.mem_of_getElem? (i := 274) (by decide +kernel), List.mem_of_getElem? (i := 275) (by decide +kernel)⟩
theorem lw_p5 : lw_okq (⟨"FieldBases", "isElement", "(I)Z"⟩, 11) := ⟨⟨by decide +kernel, by decide +kernel⟩, List.mem_of_getElem? (i := 20) (by decide +kernel), List.mem_of_getElem? (i := 302) (by decide +kernel), List.mem_of_getElem? (i := 303) (by decide +kernel)⟩
theorem lw_p6 : lw_okq (⟨"FieldBases$Text", "numberRead", "()I"⟩, 4) := ⟨⟨by decide +kernel, by decide +kernel⟩, List.mem_of_getElem? (i := 129) (by decide +kernel), List.mem_of_getElem? (i := 524) (by decide +kernel), List.mem_of_getElem? (i := 525) (by decide +kernel)⟩
theorem lw_p7 : lw_okq (⟨"FieldBases", "isSlot", "(I)Z"⟩, 11) := ⟨⟨by decide +kernel, by decide +kernel⟩, List.mem_of_getElem? (i := 20) (by decide +kernel), List.mem_of_getElem? (i := 531) (by decide +kernel), List.mem_of_getElem? (i := 532) (by decide +kernel)⟩
theorem lw_p8 : lw_okq (⟨"FieldBases", "setsSlot", "(I[I)I"⟩, 11) := ⟨⟨by decide +kernel, by decide +kernel⟩, List.mem_of_getElem? (i := 20) (by decide +kernel), List.mem_of_getElem? (i := 535) (by decide +kernel), List.mem_of_getElem? (i := 536) (by decide +kernel)⟩
theorem lw_p9 : lw_okq (⟨"FieldBases", "isPlace", "(I)Z"⟩, 11) := ⟨⟨by decide +kernel, by decide +kernel⟩, List.mem_of_getElem? (i := 20) (by decide +kernel), List.mem_of_getElem? (i := 563) (by decide +kernel), List.mem_of_getElem? (i := 564) (by decide +kernel)⟩
theorem lw_p10 : lw_okq (⟨"FieldBases", "tellsLocated", "([I)I"⟩, 11) := ⟨⟨by decide +kernel, by decide +kernel⟩, List.mem_of_getElem? (i := 20) (by decide +kernel), List.mem_of_getElem? (i := 596) (by decide +kernel), List.mem_of_getElem? (i := 597) (by decide +kernel)⟩
theorem lw_p11 : lw_okq (⟨"FieldBases", "followsState", "()V"⟩, 11) := ⟨⟨by decide +kernel, by decide +kernel⟩, List.mem_of_getElem? (i := 20) (by decide +kernel), List.mem_of_getElem? (i := 710) (by decide +kernel), List.mem_of_getElem? (i := 711) (by decide +kernel)⟩
theorem lw_p12 : lw_okq (⟨"FieldBases$Text", "puts", "(II)I"⟩, 4) := ⟨⟨by decide +kernel, by decide +kernel⟩, List.mem_of_getElem? (i := 129) (by decide +kernel), List.mem_of_getElem? (i := 731) (by decide +kernel), List.mem_of_getElem? (i := 732) (by decide +kernel)⟩
theorem lw_p13 : lw_okq (⟨"FieldBases", "normalSlots", "()I"⟩, 11) := ⟨⟨by decide +kernel, by decide +kernel⟩, List.mem_of_getElem? (i := 20) (by decide +kernel), List.mem_of_getElem? (i := 739) (by decide +kernel), List.mem_of_getElem? (i := 740) (by decide +kernel)⟩
theorem lw_p14 : lw_okq (⟨"FieldBases", "plainSlots", "()I"⟩, 11) := ⟨⟨by decide +kernel, by decide +kernel⟩, List.mem_of_getElem? (i := 20) (by decide +kernel), List.mem_of_getElem? (i := 743) (by decide +kernel), List.mem_of_getElem? (i := 744) (by decide +kernel)⟩
theorem lw_p15 : lw_okq (⟨"java/lang/Throwable", "fillInStackTrace", "(I)Ljava/lang/Throwable;"⟩, 6) := ⟨⟨by decide +kernel, by decide +kernel⟩, List.mem_of_getElem? (i := 795) (by decide +kernel), List.mem_of_getElem? (i := 793) (by decide +kernel), List.mem_of_getElem? (i := 794) (by decide +kernel)⟩
def lw_privs_1 : List (MethodName × Nat) := [(⟨"FieldBases$Field", "fills", "(I)Z"⟩, 6), (⟨"FieldBases$Field", "multiplied", "(II)I"⟩, 6), (⟨"FieldBases$Text", "powerRead", "(I)I"⟩, 4), (⟨"FieldBases$Text", "signAt", "(I)I"⟩, 4), (⟨"FieldBases", "tellsField", "(I)I"⟩, 11), (⟨"FieldBases", "isElement", "(I)Z"⟩, 11), (⟨"FieldBases$Text", "numberRead", "()I"⟩, 4), (⟨"FieldBases", "isSlot", "(I)Z"⟩, 11), (⟨"FieldBases", "setsSlot", "(I[I)I"⟩, 11), (⟨"FieldBases", "isPlace", "(I)Z"⟩, 11), (⟨"FieldBases", "tellsLocated", "([I)I"⟩, 11), (⟨"FieldBases", "followsState", "()V"⟩, 11), (⟨"FieldBases$Text", "puts", "(II)I"⟩, 4), (⟨"FieldBases", "normalSlots", "()I"⟩, 11), (⟨"FieldBases", "plainSlots", "()I"⟩, 11), (⟨"java/lang/Throwable", "fillInStackTrace", "(I)Ljava/lang/Throwable;"⟩, 6)]
theorem lw_r1 : ∀ q ∈ lw_privs_1, lw_okq q := List.forall_mem_cons.mpr ⟨lw_p0, List.forall_mem_cons.mpr ⟨lw_p1, List.forall_mem_cons.mpr ⟨lw_p2, List.forall_mem_cons.mpr ⟨lw_p3, List.forall_mem_cons.mpr ⟨lw_p4, List.forall_mem_cons.mpr ⟨lw_p5, List.forall_mem_cons.mpr ⟨lw_p6, List.forall_mem_cons.mpr ⟨lw_p7, List.forall_mem_cons.mpr ⟨lw_p8, List.forall_mem_cons.mpr ⟨lw_p9, List.forall_mem_cons.mpr ⟨lw_p10, List.forall_mem_cons.mpr ⟨lw_p11, List.forall_mem_cons.mpr ⟨lw_p12, List.forall_mem_cons.mpr ⟨lw_p13, List.forall_mem_cons.mpr ⟨lw_p14, List.forall_mem_cons.mpr ⟨lw_p15, fun _ h => absurd h List.not_mem_nil⟩⟩⟩⟩⟩⟩⟩⟩⟩⟩⟩⟩⟩⟩⟩⟩
theorem lw_p16 : lw_okq (⟨"FieldBasesModel", "fields", "(I)V"⟩, 24) := ⟨⟨by decide +kernel, by decide +kernel⟩, List.mem_of_getElem? (i := 820) (by decide +kernel), List.mem_of_getElem? (i := 826) (by decide +kernel), List.mem_of_getElem? (i := 827) (by decide +kernel)⟩
theorem lw_p17 : lw_okq (⟨"FieldBasesModel", "lays", "()V"⟩, 24) := ⟨⟨by decide +kernel, by decide +kernel⟩, List.mem_of_getElem? (i := 820) (by decide +kernel), List.mem_of_getElem? (i := 833) (by decide +kernel), List.mem_of_getElem? (i := 834) (by decide +kernel)⟩
theorem lw_p18 : lw_okq (⟨"FieldBasesModel", "begin", "()V"⟩, 24) := ⟨⟨by decide +kernel, by decide +kernel⟩, List.mem_of_getElem? (i := 820) (by decide +kernel), List.mem_of_getElem? (i := 930) (by decide +kernel), List.mem_of_getElem? (i := 931) (by decide +kernel)⟩
theorem lw_p19 : lw_okq (⟨"FieldBasesModel", "readsPoly", "()I"⟩, 24) := ⟨⟨by decide +kernel, by decide +kernel⟩, List.mem_of_getElem? (i := 820) (by decide +kernel), List.mem_of_getElem? (i := 934) (by decide +kernel), List.mem_of_getElem? (i := 935) (by decide +kernel)⟩
theorem lw_p20 : lw_okq (⟨"FieldBasesModel", "readsPower", "(I)I"⟩, 24) := ⟨⟨by decide +kernel, by decide +kernel⟩, List.mem_of_getElem? (i := 820) (by decide +kernel), List.mem_of_getElem? (i := 938) (by decide +kernel), List.mem_of_getElem? (i := 939) (by decide +kernel)⟩
theorem lw_p21 : lw_okq (⟨"FieldBasesModel", "sees", "()I"⟩, 24) := ⟨⟨by decide +kernel, by decide +kernel⟩, List.mem_of_getElem? (i := 820) (by decide +kernel), List.mem_of_getElem? (i := 942) (by decide +kernel), List.mem_of_getElem? (i := 943) (by decide +kernel)⟩
theorem lw_p22 : lw_okq (⟨"FieldBasesModel", "fault", "(I)V"⟩, 24) := ⟨⟨by decide +kernel, by decide +kernel⟩, List.mem_of_getElem? (i := 820) (by decide +kernel), List.mem_of_getElem? (i := 946) (by decide +kernel), List.mem_of_getElem? (i := 947) (by decide +kernel)⟩
theorem lw_p23 : lw_okq (⟨"FieldBasesModel", "does", "()V"⟩, 24) := ⟨⟨by decide +kernel, by decide +kernel⟩, List.mem_of_getElem? (i := 820) (by decide +kernel), List.mem_of_getElem? (i := 962) (by decide +kernel), List.mem_of_getElem? (i := 963) (by decide +kernel)⟩
theorem lw_p24 : lw_okq (⟨"FieldBasesModel", "isElement", "(I)Z"⟩, 24) := ⟨⟨by decide +kernel, by decide +kernel⟩, List.mem_of_getElem? (i := 820) (by decide +kernel), List.mem_of_getElem? (i := 976) (by decide +kernel), List.mem_of_getElem? (i := 977) (by decide +kernel)⟩
theorem lw_p25 : lw_okq (⟨"FieldBasesModel", "times", "(II)I"⟩, 24) := ⟨⟨by decide +kernel, by decide +kernel⟩, List.mem_of_getElem? (i := 820) (by decide +kernel), List.mem_of_getElem? (i := 980) (by decide +kernel), List.mem_of_getElem? (i := 981) (by decide +kernel)⟩
theorem lw_p26 : lw_okq (⟨"FieldBasesModel", "inverseOf", "(I)I"⟩, 24) := ⟨⟨by decide +kernel, by decide +kernel⟩, List.mem_of_getElem? (i := 820) (by decide +kernel), List.mem_of_getElem? (i := 991) (by decide +kernel), List.mem_of_getElem? (i := 992) (by decide +kernel)⟩
theorem lw_p27 : lw_okq (⟨"FieldBasesModel", "powered", "(II)I"⟩, 24) := ⟨⟨by decide +kernel, by decide +kernel⟩, List.mem_of_getElem? (i := 820) (by decide +kernel), List.mem_of_getElem? (i := 995) (by decide +kernel), List.mem_of_getElem? (i := 996) (by decide +kernel)⟩
theorem lw_p28 : lw_okq (⟨"FieldBasesModel", "isGenerator", "(I)Z"⟩, 24) := ⟨⟨by decide +kernel, by decide +kernel⟩, List.mem_of_getElem? (i := 820) (by decide +kernel), List.mem_of_getElem? (i := 1008) (by decide +kernel), List.mem_of_getElem? (i := 1009) (by decide +kernel)⟩
theorem lw_p29 : lw_okq (⟨"FieldBasesModel", "orderOf", "(I)I"⟩, 24) := ⟨⟨by decide +kernel, by decide +kernel⟩, List.mem_of_getElem? (i := 820) (by decide +kernel), List.mem_of_getElem? (i := 1012) (by decide +kernel), List.mem_of_getElem? (i := 1013) (by decide +kernel)⟩
theorem lw_p30 : lw_okq (⟨"FieldBasesModel", "tell", "(J)V"⟩, 24) := ⟨⟨by decide +kernel, by decide +kernel⟩, List.mem_of_getElem? (i := 820) (by decide +kernel), List.mem_of_getElem? (i := 1016) (by decide +kernel), List.mem_of_getElem? (i := 1017) (by decide +kernel)⟩
theorem lw_p31 : lw_okq (⟨"FieldBasesModel", "conj", "(II)I"⟩, 24) := ⟨⟨by decide +kernel, by decide +kernel⟩, List.mem_of_getElem? (i := 820) (by decide +kernel), List.mem_of_getElem? (i := 1025) (by decide +kernel), List.mem_of_getElem? (i := 1026) (by decide +kernel)⟩
def lw_privs_2 : List (MethodName × Nat) := [(⟨"FieldBasesModel", "fields", "(I)V"⟩, 24), (⟨"FieldBasesModel", "lays", "()V"⟩, 24), (⟨"FieldBasesModel", "begin", "()V"⟩, 24), (⟨"FieldBasesModel", "readsPoly", "()I"⟩, 24), (⟨"FieldBasesModel", "readsPower", "(I)I"⟩, 24), (⟨"FieldBasesModel", "sees", "()I"⟩, 24), (⟨"FieldBasesModel", "fault", "(I)V"⟩, 24), (⟨"FieldBasesModel", "does", "()V"⟩, 24), (⟨"FieldBasesModel", "isElement", "(I)Z"⟩, 24), (⟨"FieldBasesModel", "times", "(II)I"⟩, 24), (⟨"FieldBasesModel", "inverseOf", "(I)I"⟩, 24), (⟨"FieldBasesModel", "powered", "(II)I"⟩, 24), (⟨"FieldBasesModel", "isGenerator", "(I)Z"⟩, 24), (⟨"FieldBasesModel", "orderOf", "(I)I"⟩, 24), (⟨"FieldBasesModel", "tell", "(J)V"⟩, 24), (⟨"FieldBasesModel", "conj", "(II)I"⟩, 24)]
theorem lw_r2 : ∀ q ∈ lw_privs_2, lw_okq q := List.forall_mem_cons.mpr ⟨lw_p16, List.forall_mem_cons.mpr ⟨lw_p17, List.forall_mem_cons.mpr ⟨lw_p18, List.forall_mem_cons.mpr ⟨lw_p19, List.forall_mem_cons.mpr ⟨lw_p20, List.forall_mem_cons.mpr ⟨lw_p21, List.forall_mem_cons.mpr ⟨lw_p22, List.forall_mem_cons.mpr ⟨lw_p23, List.forall_mem_cons.mpr ⟨lw_p24, List.forall_mem_cons.mpr ⟨lw_p25, List.forall_mem_cons.mpr ⟨lw_p26, List.forall_mem_cons.mpr ⟨lw_p27, List.forall_mem_cons.mpr ⟨lw_p28, List.forall_mem_cons.mpr ⟨lw_p29, List.forall_mem_cons.mpr ⟨lw_p30, List.forall_mem_cons.mpr ⟨lw_p31, fun _ h => absurd h List.not_mem_nil⟩⟩⟩⟩⟩⟩⟩⟩⟩⟩⟩⟩⟩⟩⟩⟩
theorem lw_p32 : lw_okq (⟨"FieldBasesModel", "sizeOf", "(I)I"⟩, 24) := ⟨⟨by decide +kernel, by decide +kernel⟩, List.mem_of_getElem? (i := 820) (by decide +kernel), List.mem_of_getElem? (i := 1033) (by decide +kernel), List.mem_of_getElem? (i := 1034) (by decide +kernel)⟩
theorem lw_p33 : lw_okq (⟨"FieldBasesModel", "rooted", "(II)I"⟩, 24) := ⟨⟨by decide +kernel, by decide +kernel⟩, List.mem_of_getElem? (i := 820) (by decide +kernel), List.mem_of_getElem? (i := 1041) (by decide +kernel), List.mem_of_getElem? (i := 1042) (by decide +kernel)⟩
theorem lw_p34 : lw_okq (⟨"FieldBasesModel", "isPart", "(I)Z"⟩, 24) := ⟨⟨by decide +kernel, by decide +kernel⟩, List.mem_of_getElem? (i := 820) (by decide +kernel), List.mem_of_getElem? (i := 1049) (by decide +kernel), List.mem_of_getElem? (i := 1050) (by decide +kernel)⟩
theorem lw_p35 : lw_okq (⟨"FieldBasesModel", "traceTo", "(II)I"⟩, 24) := ⟨⟨by decide +kernel, by decide +kernel⟩, List.mem_of_getElem? (i := 820) (by decide +kernel), List.mem_of_getElem? (i := 1053) (by decide +kernel), List.mem_of_getElem? (i := 1054) (by decide +kernel)⟩
theorem lw_p36 : lw_okq (⟨"FieldBasesModel", "normTo", "(II)I"⟩, 24) := ⟨⟨by decide +kernel, by decide +kernel⟩, List.mem_of_getElem? (i := 820) (by decide +kernel), List.mem_of_getElem? (i := 1061) (by decide +kernel), List.mem_of_getElem? (i := 1062) (by decide +kernel)⟩
theorem lw_p37 : lw_okq (⟨"FieldBasesModel", "takesSubbase", "(I)V"⟩, 24) := ⟨⟨by decide +kernel, by decide +kernel⟩, List.mem_of_getElem? (i := 820) (by decide +kernel), List.mem_of_getElem? (i := 1110) (by decide +kernel), List.mem_of_getElem? (i := 1111) (by decide +kernel)⟩
theorem lw_p38 : lw_okq (⟨"FieldBasesModel", "rank", "(I)I"⟩, 24) := ⟨⟨by decide +kernel, by decide +kernel⟩, List.mem_of_getElem? (i := 820) (by decide +kernel), List.mem_of_getElem? (i := 1114) (by decide +kernel), List.mem_of_getElem? (i := 1115) (by decide +kernel)⟩
theorem lw_p39 : lw_okq (⟨"FieldBasesModel", "takesConjugates", "(I)V"⟩, 24) := ⟨⟨by decide +kernel, by decide +kernel⟩, List.mem_of_getElem? (i := 820) (by decide +kernel), List.mem_of_getElem? (i := 1125) (by decide +kernel), List.mem_of_getElem? (i := 1126) (by decide +kernel)⟩
theorem lw_p40 : lw_okq (⟨"FieldBasesModel", "isNormal", "(I)Z"⟩, 24) := ⟨⟨by decide +kernel, by decide +kernel⟩, List.mem_of_getElem? (i := 820) (by decide +kernel), List.mem_of_getElem? (i := 1133) (by decide +kernel), List.mem_of_getElem? (i := 1134) (by decide +kernel)⟩
theorem lw_p41 : lw_okq (⟨"FieldBasesModel", "isNormalOver", "(II)Z"⟩, 24) := ⟨⟨by decide +kernel, by decide +kernel⟩, List.mem_of_getElem? (i := 820) (by decide +kernel), List.mem_of_getElem? (i := 1141) (by decide +kernel), List.mem_of_getElem? (i := 1142) (by decide +kernel)⟩
theorem lw_p42 : lw_okq (⟨"FieldBasesModel", "someIsBase", "()V"⟩, 24) := ⟨⟨by decide +kernel, by decide +kernel⟩, List.mem_of_getElem? (i := 820) (by decide +kernel), List.mem_of_getElem? (i := 1149) (by decide +kernel), List.mem_of_getElem? (i := 1150) (by decide +kernel)⟩
theorem lw_p43 : lw_okq (⟨"FieldBasesModel", "laysCoordinates", "()V"⟩, 24) := ⟨⟨by decide +kernel, by decide +kernel⟩, List.mem_of_getElem? (i := 820) (by decide +kernel), List.mem_of_getElem? (i := 1153) (by decide +kernel), List.mem_of_getElem? (i := 1154) (by decide +kernel)⟩
theorem lw_p44 : lw_okq (⟨"FieldBasesModel", "madeOf", "(I)I"⟩, 24) := ⟨⟨by decide +kernel, by decide +kernel⟩, List.mem_of_getElem? (i := 820) (by decide +kernel), List.mem_of_getElem? (i := 1157) (by decide +kernel), List.mem_of_getElem? (i := 1158) (by decide +kernel)⟩
theorem lw_p45 : lw_okq (⟨"FieldBasesModel", "complexityNow", "()I"⟩, 24) := ⟨⟨by decide +kernel, by decide +kernel⟩, List.mem_of_getElem? (i := 820) (by decide +kernel), List.mem_of_getElem? (i := 1161) (by decide +kernel), List.mem_of_getElem? (i := 1162) (by decide +kernel)⟩
theorem lw_p46 : lw_okq (⟨"FieldBasesModel", "takesPowers", "(I)Z"⟩, 24) := ⟨⟨by decide +kernel, by decide +kernel⟩, List.mem_of_getElem? (i := 820) (by decide +kernel), List.mem_of_getElem? (i := 1172) (by decide +kernel), List.mem_of_getElem? (i := 1173) (by decide +kernel)⟩
theorem lw_p47 : lw_okq (⟨"FieldBasesModel", "weightNow", "()I"⟩, 24) := ⟨⟨by decide +kernel, by decide +kernel⟩, List.mem_of_getElem? (i := 820) (by decide +kernel), List.mem_of_getElem? (i := 1176) (by decide +kernel), List.mem_of_getElem? (i := 1177) (by decide +kernel)⟩
def lw_privs_3 : List (MethodName × Nat) := [(⟨"FieldBasesModel", "sizeOf", "(I)I"⟩, 24), (⟨"FieldBasesModel", "rooted", "(II)I"⟩, 24), (⟨"FieldBasesModel", "isPart", "(I)Z"⟩, 24), (⟨"FieldBasesModel", "traceTo", "(II)I"⟩, 24), (⟨"FieldBasesModel", "normTo", "(II)I"⟩, 24), (⟨"FieldBasesModel", "takesSubbase", "(I)V"⟩, 24), (⟨"FieldBasesModel", "rank", "(I)I"⟩, 24), (⟨"FieldBasesModel", "takesConjugates", "(I)V"⟩, 24), (⟨"FieldBasesModel", "isNormal", "(I)Z"⟩, 24), (⟨"FieldBasesModel", "isNormalOver", "(II)Z"⟩, 24), (⟨"FieldBasesModel", "someIsBase", "()V"⟩, 24), (⟨"FieldBasesModel", "laysCoordinates", "()V"⟩, 24), (⟨"FieldBasesModel", "madeOf", "(I)I"⟩, 24), (⟨"FieldBasesModel", "complexityNow", "()I"⟩, 24), (⟨"FieldBasesModel", "takesPowers", "(I)Z"⟩, 24), (⟨"FieldBasesModel", "weightNow", "()I"⟩, 24)]
theorem lw_r3 : ∀ q ∈ lw_privs_3, lw_okq q := List.forall_mem_cons.mpr ⟨lw_p32, List.forall_mem_cons.mpr ⟨lw_p33, List.forall_mem_cons.mpr ⟨lw_p34, List.forall_mem_cons.mpr ⟨lw_p35, List.forall_mem_cons.mpr ⟨lw_p36, List.forall_mem_cons.mpr ⟨lw_p37, List.forall_mem_cons.mpr ⟨lw_p38, List.forall_mem_cons.mpr ⟨lw_p39, List.forall_mem_cons.mpr ⟨lw_p40, List.forall_mem_cons.mpr ⟨lw_p41, List.forall_mem_cons.mpr ⟨lw_p42, List.forall_mem_cons.mpr ⟨lw_p43, List.forall_mem_cons.mpr ⟨lw_p44, List.forall_mem_cons.mpr ⟨lw_p45, List.forall_mem_cons.mpr ⟨lw_p46, List.forall_mem_cons.mpr ⟨lw_p47, fun _ h => absurd h List.not_mem_nil⟩⟩⟩⟩⟩⟩⟩⟩⟩⟩⟩⟩⟩⟩⟩⟩
theorem lw_p48 : lw_okq (⟨"FieldBasesModel", "readsElement", "()I"⟩, 24) := ⟨⟨by decide +kernel, by decide +kernel⟩, List.mem_of_getElem? (i := 820) (by decide +kernel), List.mem_of_getElem? (i := 1194) (by decide +kernel), List.mem_of_getElem? (i := 1195) (by decide +kernel)⟩
theorem lw_p49 : lw_okq (⟨"FieldBasesModel", "holds", "(I)I"⟩, 24) := ⟨⟨by decide +kernel, by decide +kernel⟩, List.mem_of_getElem? (i := 820) (by decide +kernel), List.mem_of_getElem? (i := 1202) (by decide +kernel), List.mem_of_getElem? (i := 1203) (by decide +kernel)⟩
theorem lw_p50 : lw_okq (⟨"FieldBasesModel", "baseAt", "(II)I"⟩, 24) := ⟨⟨by decide +kernel, by decide +kernel⟩, List.mem_of_getElem? (i := 820) (by decide +kernel), List.mem_of_getElem? (i := 1214) (by decide +kernel), List.mem_of_getElem? (i := 1215) (by decide +kernel)⟩
theorem lw_p51 : lw_okq (⟨"FieldBasesModel", "looksAt", "(I)V"⟩, 24) := ⟨⟨by decide +kernel, by decide +kernel⟩, List.mem_of_getElem? (i := 820) (by decide +kernel), List.mem_of_getElem? (i := 1218) (by decide +kernel), List.mem_of_getElem? (i := 1219) (by decide +kernel)⟩
theorem lw_p52 : lw_okq (⟨"FieldBasesModel", "isPlace", "(I)Z"⟩, 24) := ⟨⟨by decide +kernel, by decide +kernel⟩, List.mem_of_getElem? (i := 820) (by decide +kernel), List.mem_of_getElem? (i := 1230) (by decide +kernel), List.mem_of_getElem? (i := 1231) (by decide +kernel)⟩
theorem lw_p53 : lw_okq (⟨"FieldBasesModel", "takesBase", "(I)V"⟩, 24) := ⟨⟨by decide +kernel, by decide +kernel⟩, List.mem_of_getElem? (i := 820) (by decide +kernel), List.mem_of_getElem? (i := 1234) (by decide +kernel), List.mem_of_getElem? (i := 1235) (by decide +kernel)⟩
theorem lw_p54 : lw_okq (⟨"FieldBasesModel", "tellsCoordinates", "(I)I"⟩, 24) := ⟨⟨by decide +kernel, by decide +kernel⟩, List.mem_of_getElem? (i := 820) (by decide +kernel), List.mem_of_getElem? (i := 1258) (by decide +kernel), List.mem_of_getElem? (i := 1259) (by decide +kernel)⟩
theorem lw_p55 : lw_okq (⟨"FieldBasesModel", "isNormalBase", "()Z"⟩, 24) := ⟨⟨by decide +kernel, by decide +kernel⟩, List.mem_of_getElem? (i := 820) (by decide +kernel), List.mem_of_getElem? (i := 1270) (by decide +kernel), List.mem_of_getElem? (i := 1271) (by decide +kernel)⟩
theorem lw_p56 : lw_okq (⟨"FieldBasesModel", "takesDual", "(I)V"⟩, 24) := ⟨⟨by decide +kernel, by decide +kernel⟩, List.mem_of_getElem? (i := 820) (by decide +kernel), List.mem_of_getElem? (i := 1307) (by decide +kernel), List.mem_of_getElem? (i := 1308) (by decide +kernel)⟩
theorem lw_p57 : lw_okq (⟨"FieldBasesModel", "dualAt", "(II)I"⟩, 24) := ⟨⟨by decide +kernel, by decide +kernel⟩, List.mem_of_getElem? (i := 820) (by decide +kernel), List.mem_of_getElem? (i := 1311) (by decide +kernel), List.mem_of_getElem? (i := 1312) (by decide +kernel)⟩
theorem lw_p58 : lw_okq (⟨"FieldBasesModel", "placeOf", "(II)I"⟩, 24) := ⟨⟨by decide +kernel, by decide +kernel⟩, List.mem_of_getElem? (i := 820) (by decide +kernel), List.mem_of_getElem? (i := 1319) (by decide +kernel), List.mem_of_getElem? (i := 1320) (by decide +kernel)⟩
theorem lw_p59 : lw_okq (⟨"FieldBasesModel", "isUnder", "(I)Z"⟩, 24) := ⟨⟨by decide +kernel, by decide +kernel⟩, List.mem_of_getElem? (i := 820) (by decide +kernel), List.mem_of_getElem? (i := 1335) (by decide +kernel), List.mem_of_getElem? (i := 1336) (by decide +kernel)⟩
theorem lw_p60 : lw_okq (⟨"FieldBasesModel", "writes", "(I)V"⟩, 24) := ⟨⟨by decide +kernel, by decide +kernel⟩, List.mem_of_getElem? (i := 820) (by decide +kernel), List.mem_of_getElem? (i := 1367) (by decide +kernel), List.mem_of_getElem? (i := 1368) (by decide +kernel)⟩
theorem lw_p61 : lw_okq (⟨"FieldBasesModel", "lost", "()I"⟩, 24) := ⟨⟨by decide +kernel, by decide +kernel⟩, List.mem_of_getElem? (i := 820) (by decide +kernel), List.mem_of_getElem? (i := 1379) (by decide +kernel), List.mem_of_getElem? (i := 1380) (by decide +kernel)⟩
def lw_privs_4 : List (MethodName × Nat) := [(⟨"FieldBasesModel", "readsElement", "()I"⟩, 24), (⟨"FieldBasesModel", "holds", "(I)I"⟩, 24), (⟨"FieldBasesModel", "baseAt", "(II)I"⟩, 24), (⟨"FieldBasesModel", "looksAt", "(I)V"⟩, 24), (⟨"FieldBasesModel", "isPlace", "(I)Z"⟩, 24), (⟨"FieldBasesModel", "takesBase", "(I)V"⟩, 24), (⟨"FieldBasesModel", "tellsCoordinates", "(I)I"⟩, 24), (⟨"FieldBasesModel", "isNormalBase", "()Z"⟩, 24), (⟨"FieldBasesModel", "takesDual", "(I)V"⟩, 24), (⟨"FieldBasesModel", "dualAt", "(II)I"⟩, 24), (⟨"FieldBasesModel", "placeOf", "(II)I"⟩, 24), (⟨"FieldBasesModel", "isUnder", "(I)Z"⟩, 24), (⟨"FieldBasesModel", "writes", "(I)V"⟩, 24), (⟨"FieldBasesModel", "lost", "()I"⟩, 24)]
theorem lw_r4 : ∀ q ∈ lw_privs_4, lw_okq q := List.forall_mem_cons.mpr ⟨lw_p48, List.forall_mem_cons.mpr ⟨lw_p49, List.forall_mem_cons.mpr ⟨lw_p50, List.forall_mem_cons.mpr ⟨lw_p51, List.forall_mem_cons.mpr ⟨lw_p52, List.forall_mem_cons.mpr ⟨lw_p53, List.forall_mem_cons.mpr ⟨lw_p54, List.forall_mem_cons.mpr ⟨lw_p55, List.forall_mem_cons.mpr ⟨lw_p56, List.forall_mem_cons.mpr ⟨lw_p57, List.forall_mem_cons.mpr ⟨lw_p58, List.forall_mem_cons.mpr ⟨lw_p59, List.forall_mem_cons.mpr ⟨lw_p60, List.forall_mem_cons.mpr ⟨lw_p61, fun _ h => absurd h List.not_mem_nil⟩⟩⟩⟩⟩⟩⟩⟩⟩⟩⟩⟩⟩⟩
def lw_privs : List (MethodName × Nat) := lw_privs_1 ++ (lw_privs_2 ++ (lw_privs_3 ++ (lw_privs_4)))
def lw_tbl : List Cond := k2_sels lw_privs ++ tables_1
theorem lw_privs_ok : ∀ q ∈ lw_privs, lw_okq q := by
  show ∀ q ∈ lw_privs_1 ++ (lw_privs_2 ++ (lw_privs_3 ++ (lw_privs_4))), lw_okq q
  exact List.forall_mem_append.mpr ⟨lw_r1, List.forall_mem_append.mpr ⟨lw_r2, List.forall_mem_append.mpr ⟨lw_r3, lw_r4⟩⟩⟩
-- ===== end of PART A; then your names; then what follows =====
end
section
def RX0 : String := "FieldBases$Field"
def TX0 : u_T := fun k => match k with
  | 0 => ("FieldBases$Field", "modulus", "I", false)
  | 1 => ("FieldBases$Field", "degree", "I", false)
  | 2 => ("FieldBases$Field", "size", "I", false)
  | 3 => ("FieldBases$Field", "powers", "[I", true)
  | 4 => ("FieldBases$Field", "logs", "[I", true)
  | _ => ("FieldBases$Field", "tracedOnes", "I", false)
def tyX0 : Nat → FieldType := fun k => match k with
  | 0 => .int
  | 1 => .int
  | 2 => .int
  | 3 => .array .int
  | 4 => .array .int
  | _ => .int
abbrev wsX00 : List Cond := u_ws RX0 TX0 6
theorem nmX0 : ∀ a, a < 6 → ∀ b, b < 6 → a ≠ b → (TX0 a).2.1 ≠ (TX0 b).2.1 := by decide +kernel
theorem tyX0_ok : ∀ k, k < 6 → parseFieldDescriptor (TX0 k).2.2.1 = some (tyX0 k) := by decide +kernel
abbrev cX0_init : ByteArray := prog_2_method_1_code
def yX0_init : MethodName := ⟨RX0, "<init>", "()V"⟩
abbrev cX0_settle : ByteArray := prog_2_method_2_code
def yX0_settle : MethodName := ⟨RX0, "settle", "(I)V"⟩
abbrev cX0_fills : ByteArray := prog_2_method_3_code
def yX0_fills : MethodName := ⟨RX0, "fills", "(I)Z"⟩
abbrev cX0_multiplied : ByteArray := prog_2_method_4_code
def yX0_multiplied : MethodName := ⟨RX0, "multiplied", "(II)I"⟩
abbrev cX0_times : ByteArray := prog_2_method_5_code
def yX0_times : MethodName := ⟨RX0, "times", "(II)I"⟩
abbrev cX0_turned : ByteArray := prog_2_method_6_code
def yX0_turned : MethodName := ⟨RX0, "turned", "(I)I"⟩
abbrev cX0_raised : ByteArray := prog_2_method_7_code
def yX0_raised : MethodName := ⟨RX0, "raised", "(II)I"⟩
abbrev cX0_squared : ByteArray := prog_2_method_8_code
def yX0_squared : MethodName := ⟨RX0, "squared", "(II)I"⟩
abbrev cX0_orderOf : ByteArray := prog_2_method_9_code
def yX0_orderOf : MethodName := ⟨RX0, "orderOf", "(I)I"⟩
abbrev cX0_generates : ByteArray := prog_2_method_10_code
def yX0_generates : MethodName := ⟨RX0, "generates", "(I)Z"⟩
abbrev cX0_howManyOfOrder : ByteArray := prog_2_method_11_code
def yX0_howManyOfOrder : MethodName := ⟨RX0, "howManyOfOrder", "(I)I"⟩
abbrev cX0_sizeOf : ByteArray := prog_2_method_12_code
def yX0_sizeOf : MethodName := ⟨RX0, "sizeOf", "(I)I"⟩
abbrev cX0_hasSubfield : ByteArray := prog_2_method_13_code
def yX0_hasSubfield : MethodName := ⟨RX0, "hasSubfield", "(I)Z"⟩
abbrev cX0_tracedTo : ByteArray := prog_2_method_14_code
def yX0_tracedTo : MethodName := ⟨RX0, "tracedTo", "(II)I"⟩
abbrev cX0_tracedToOne : ByteArray := prog_2_method_15_code
def yX0_tracedToOne : MethodName := ⟨RX0, "tracedToOne", "(I)I"⟩
abbrev cX0_normedTo : ByteArray := prog_2_method_16_code
def yX0_normedTo : MethodName := ⟨RX0, "normedTo", "(II)I"⟩
abbrev cX0_valueAt : ByteArray := prog_2_method_17_code
def yX0_valueAt : MethodName := ⟨RX0, "valueAt", "(II)I"⟩
abbrev cX0_fillsPowers : ByteArray := prog_2_method_18_code
def yX0_fillsPowers : MethodName := ⟨RX0, "fillsPowers", "([II)V"⟩
abbrev cX0_fillsConjugates : ByteArray := prog_2_method_19_code
def yX0_fillsConjugates : MethodName := ⟨RX0, "fillsConjugates", "([II)V"⟩
def RX1 : String := "FieldBases$Frame"
def TX1 : u_T := fun k => match k with
  | 0 => ("FieldBases$Frame", "leads", "[I", true)
  | 1 => ("FieldBases$Frame", "shares", "[I", true)
  | _ => ("FieldBases$Frame", "rank", "I", false)
def tyX1 : Nat → FieldType := fun k => match k with
  | 0 => .array .int
  | 1 => .array .int
  | _ => .int
abbrev wsX10 : List Cond := u_ws RX1 TX1 3
theorem nmX1 : ∀ a, a < 3 → ∀ b, b < 3 → a ≠ b → (TX1 a).2.1 ≠ (TX1 b).2.1 := by decide +kernel
theorem tyX1_ok : ∀ k, k < 3 → parseFieldDescriptor (TX1 k).2.2.1 = some (tyX1 k) := by decide +kernel
abbrev cX1_init : ByteArray := prog_3_method_1_code
def yX1_init : MethodName := ⟨RX1, "<init>", "()V"⟩
abbrev cX1_empties : ByteArray := prog_3_method_2_code
def yX1_empties : MethodName := ⟨RX1, "empties", "()V"⟩
abbrev cX1_takes : ByteArray := prog_3_method_3_code
def yX1_takes : MethodName := ⟨RX1, "takes", "(I)Z"⟩
abbrev cX1_holds : ByteArray := prog_3_method_4_code
def yX1_holds : MethodName := ⟨RX1, "holds", "([II)Z"⟩
abbrev cX1_located : ByteArray := prog_3_method_5_code
def yX1_located : MethodName := ⟨RX1, "located", "(I)I"⟩
def RX2 : String := "FieldBases$Measure"
def TX2 : u_T := fun k => match k with
  | 0 => ("FieldBases$Measure", "numbers", "LFieldBases$Field;", true)
  | _ => ("FieldBases$Measure", "frame", "LFieldBases$Frame;", true)
def tyX2 : Nat → FieldType := fun k => match k with
  | 0 => .object "FieldBases$Field"
  | _ => .object "FieldBases$Frame"
abbrev wsX20 : List Cond := u_ws RX2 TX2 2
theorem nmX2 : ∀ a, a < 2 → ∀ b, b < 2 → a ≠ b → (TX2 a).2.1 ≠ (TX2 b).2.1 := by decide +kernel
theorem tyX2_ok : ∀ k, k < 2 → parseFieldDescriptor (TX2 k).2.2.1 = some (tyX2 k) := by decide +kernel
abbrev cX2_init : ByteArray := prog_4_method_1_code
def yX2_init : MethodName := ⟨RX2, "<init>", "()V"⟩
abbrev cX2_complexityOf : ByteArray := prog_4_method_2_code
def yX2_complexityOf : MethodName := ⟨RX2, "complexityOf", "([I)I"⟩
abbrev cX2_bitsOfFirst : ByteArray := prog_4_method_3_code
def yX2_bitsOfFirst : MethodName := ⟨RX2, "bitsOfFirst", "([I)I"⟩
abbrev cX2_bitsOfAll : ByteArray := prog_4_method_4_code
def yX2_bitsOfAll : MethodName := ⟨RX2, "bitsOfAll", "([I)I"⟩
abbrev cX2_whoseNormal : ByteArray := prog_4_method_5_code
def yX2_whoseNormal : MethodName := ⟨RX2, "whoseNormal", "([I)I"⟩
abbrev cX2_sumAt : ByteArray := prog_4_method_6_code
def yX2_sumAt : MethodName := ⟨RX2, "sumAt", "([II)I"⟩
abbrev cX2_placeOf : ByteArray := prog_4_method_7_code
def yX2_placeOf : MethodName := ⟨RX2, "placeOf", "([II)I"⟩
abbrev cX2_leastPolynomial : ByteArray := prog_4_method_8_code
def yX2_leastPolynomial : MethodName := ⟨RX2, "leastPolynomial", "(I)I"⟩
abbrev cX2_fillsSubbase : ByteArray := prog_4_method_9_code
def yX2_fillsSubbase : MethodName := ⟨RX2, "fillsSubbase", "([II)V"⟩
abbrev cX2_fillsOverSubbase : ByteArray := prog_4_method_10_code
def yX2_fillsOverSubbase : MethodName := ⟨RX2, "fillsOverSubbase", "([I[III)V"⟩
abbrev cX2_fillsTower : ByteArray := prog_4_method_11_code
def yX2_fillsTower : MethodName := ⟨RX2, "fillsTower", "([I[III)V"⟩
abbrev cX2_traceBits : ByteArray := prog_4_method_12_code
def yX2_traceBits : MethodName := ⟨RX2, "traceBits", "([II)I"⟩
abbrev cX2_fillsDual : ByteArray := prog_4_method_13_code
def yX2_fillsDual : MethodName := ⟨RX2, "fillsDual", "([I[I)V"⟩
abbrev cX2_fillsPlaces : ByteArray := prog_4_method_14_code
def yX2_fillsPlaces : MethodName := ⟨RX2, "fillsPlaces", "([I[II[I)Z"⟩
def RX3 : String := "FieldBases$Past"
def TX3 : u_T := fun k => match k with
  | 0 => ("FieldBases$Past", "states", "[LFieldBases$State;", true)
  | 1 => ("FieldBases$Past", "next", "I", false)
  | _ => ("FieldBases$Past", "held", "I", false)
def tyX3 : Nat → FieldType := fun k => match k with
  | 0 => .array (.object "FieldBases$State")
  | 1 => .int
  | _ => .int
abbrev wsX30 : List Cond := u_ws RX3 TX3 3
theorem nmX3 : ∀ a, a < 3 → ∀ b, b < 3 → a ≠ b → (TX3 a).2.1 ≠ (TX3 b).2.1 := by decide +kernel
theorem tyX3_ok : ∀ k, k < 3 → parseFieldDescriptor (TX3 k).2.2.1 = some (tyX3 k) := by decide +kernel
abbrev cX3_init : ByteArray := prog_5_method_1_code
def yX3_init : MethodName := ⟨RX3, "<init>", "()V"⟩
abbrev cX3_remembers : ByteArray := prog_5_method_2_code
def yX3_remembers : MethodName := ⟨RX3, "remembers", "(LFieldBases$State;)V"⟩
abbrev cX3_restores : ByteArray := prog_5_method_3_code
def yX3_restores : MethodName := ⟨RX3, "restores", "(LFieldBases$State;)Z"⟩
def RX4 : String := "FieldBases$Polynomials"
def TX4 : u_T := fun k => match k with
  | _ => ("", "", "", false)
def tyX4 : Nat → FieldType := fun k => match k with
  | _ => .int
abbrev wsX40 : List Cond := u_ws RX4 TX4 0
theorem nmX4 : ∀ a, a < 0 → ∀ b, b < 0 → a ≠ b → (TX4 a).2.1 ≠ (TX4 b).2.1 := by decide +kernel
theorem tyX4_ok : ∀ k, k < 0 → parseFieldDescriptor (TX4 k).2.2.1 = some (tyX4 k) := by decide +kernel
abbrev cX4_degreeOf : ByteArray := prog_6_method_2_code
def yX4_degreeOf : MethodName := ⟨RX4, "degreeOf", "(I)I"⟩
abbrev cX4_remainder : ByteArray := prog_6_method_3_code
def yX4_remainder : MethodName := ⟨RX4, "remainder", "(II)I"⟩
abbrev cX4_quotient : ByteArray := prog_6_method_4_code
def yX4_quotient : MethodName := ⟨RX4, "quotient", "(II)I"⟩
abbrev cX4_isIrreducible : ByteArray := prog_6_method_5_code
def yX4_isIrreducible : MethodName := ⟨RX4, "isIrreducible", "(I)Z"⟩
abbrev cX4_isGeneratedByX : ByteArray := prog_6_method_6_code
def yX4_isGeneratedByX : MethodName := ⟨RX4, "isGeneratedByX", "(I)Z"⟩
def RX5 : String := "FieldBases$Primes"
def TX5 : u_T := fun k => match k with
  | _ => ("", "", "", false)
def tyX5 : Nat → FieldType := fun k => match k with
  | _ => .int
abbrev wsX50 : List Cond := u_ws RX5 TX5 0
theorem nmX5 : ∀ a, a < 0 → ∀ b, b < 0 → a ≠ b → (TX5 a).2.1 ≠ (TX5 b).2.1 := by decide +kernel
theorem tyX5_ok : ∀ k, k < 0 → parseFieldDescriptor (TX5 k).2.2.1 = some (tyX5 k) := by decide +kernel
abbrev cX5_isPrime : ByteArray := prog_7_method_2_code
def yX5_isPrime : MethodName := ⟨RX5, "isPrime", "(I)Z"⟩
abbrev cX5_powersOfTwo : ByteArray := prog_7_method_3_code
def yX5_powersOfTwo : MethodName := ⟨RX5, "powersOfTwo", "(I)I"⟩
def RX6 : String := "FieldBases$Row"
def TX6 : u_T := fun k => match k with
  | 0 => ("FieldBases$Row", "numbers", "[J", true)
  | _ => ("FieldBases$Row", "length", "I", false)
def tyX6 : Nat → FieldType := fun k => match k with
  | 0 => .array .long
  | _ => .int
abbrev wsX60 : List Cond := u_ws RX6 TX6 2
theorem nmX6 : ∀ a, a < 2 → ∀ b, b < 2 → a ≠ b → (TX6 a).2.1 ≠ (TX6 b).2.1 := by decide +kernel
theorem tyX6_ok : ∀ k, k < 2 → parseFieldDescriptor (TX6 k).2.2.1 = some (tyX6 k) := by decide +kernel
abbrev cX6_init : ByteArray := prog_8_method_1_code
def yX6_init : MethodName := ⟨RX6, "<init>", "()V"⟩
abbrev cX6_empties : ByteArray := prog_8_method_2_code
def yX6_empties : MethodName := ⟨RX6, "empties", "()V"⟩
abbrev cX6_puts : ByteArray := prog_8_method_3_code
def yX6_puts : MethodName := ⟨RX6, "puts", "(J)V"⟩
abbrev cX6_putsAll : ByteArray := prog_8_method_4_code
def yX6_putsAll : MethodName := ⟨RX6, "putsAll", "([II)V"⟩
def RX7 : String := "FieldBases$State"
def TX7 : u_T := fun k => match k with
  | 0 => ("FieldBases$State", "modulus", "I", false)
  | _ => ("FieldBases$State", "slots", "[[I", true)
def tyX7 : Nat → FieldType := fun k => match k with
  | 0 => .int
  | _ => .array (.array .int)
abbrev wsX70 : List Cond := u_ws RX7 TX7 2
theorem nmX7 : ∀ a, a < 2 → ∀ b, b < 2 → a ≠ b → (TX7 a).2.1 ≠ (TX7 b).2.1 := by decide +kernel
theorem tyX7_ok : ∀ k, k < 2 → parseFieldDescriptor (TX7 k).2.2.1 = some (tyX7 k) := by decide +kernel
abbrev cX7_init : ByteArray := prog_9_method_1_code
def yX7_init : MethodName := ⟨RX7, "<init>", "()V"⟩
abbrev cX7_start : ByteArray := prog_9_method_2_code
def yX7_start : MethodName := ⟨RX7, "start", "(I)V"⟩
abbrev cX7_becomes : ByteArray := prog_9_method_3_code
def yX7_becomes : MethodName := ⟨RX7, "becomes", "(LFieldBases$State;)V"⟩
abbrev cX7_setsSlot : ByteArray := prog_9_method_4_code
def yX7_setsSlot : MethodName := ⟨RX7, "setsSlot", "(I[I)V"⟩
abbrev cX7_copiesSlot : ByteArray := prog_9_method_5_code
def yX7_copiesSlot : MethodName := ⟨RX7, "copiesSlot", "(I[I)V"⟩
abbrev cX7_isPlain : ByteArray := prog_9_method_6_code
def yX7_isPlain : MethodName := ⟨RX7, "isPlain", "(II)Z"⟩
def RX8 : String := "FieldBases$Text"
def TX8 : u_T := fun k => match k with
  | 0 => ("FieldBases$Text", "signs", "[I", true)
  | 1 => ("FieldBases$Text", "line", "[I", true)
  | 2 => ("FieldBases$Text", "length", "I", false)
  | _ => ("FieldBases$Text", "position", "I", false)
def tyX8 : Nat → FieldType := fun k => match k with
  | 0 => .array .int
  | 1 => .array .int
  | 2 => .int
  | _ => .int
abbrev wsX80 : List Cond := u_ws RX8 TX8 4
theorem nmX8 : ∀ a, a < 4 → ∀ b, b < 4 → a ≠ b → (TX8 a).2.1 ≠ (TX8 b).2.1 := by decide +kernel
theorem tyX8_ok : ∀ k, k < 4 → parseFieldDescriptor (TX8 k).2.2.1 = some (tyX8 k) := by decide +kernel
abbrev cX8_init : ByteArray := prog_10_method_1_code
def yX8_init : MethodName := ⟨RX8, "<init>", "()V"⟩
abbrev cX8_takes : ByteArray := prog_10_method_2_code
def yX8_takes : MethodName := ⟨RX8, "takes", "(I)Z"⟩
abbrev cX8_shortens : ByteArray := prog_10_method_3_code
def yX8_shortens : MethodName := ⟨RX8, "shortens", "(I)Z"⟩
abbrev cX8_empties : ByteArray := prog_10_method_4_code
def yX8_empties : MethodName := ⟨RX8, "empties", "()V"⟩
abbrev cX8_signAt : ByteArray := prog_10_method_5_code
def yX8_signAt : MethodName := ⟨RX8, "signAt", "(I)I"⟩
abbrev cX8_polynomialRead : ByteArray := prog_10_method_6_code
def yX8_polynomialRead : MethodName := ⟨RX8, "polynomialRead", "()I"⟩
abbrev cX8_powerRead : ByteArray := prog_10_method_7_code
def yX8_powerRead : MethodName := ⟨RX8, "powerRead", "(I)I"⟩
abbrev cX8_elementsRead : ByteArray := prog_10_method_8_code
def yX8_elementsRead : MethodName := ⟨RX8, "elementsRead", "([III)I"⟩
abbrev cX8_numberRead : ByteArray := prog_10_method_9_code
def yX8_numberRead : MethodName := ⟨RX8, "numberRead", "()I"⟩
abbrev cX8_isDigit : ByteArray := prog_10_method_10_code
def yX8_isDigit : MethodName := ⟨RX8, "isDigit", "(I)Z"⟩
abbrev cX8_signOf : ByteArray := prog_10_method_11_code
def yX8_signOf : MethodName := ⟨RX8, "signOf", "(II)I"⟩
abbrev cX8_puts : ByteArray := prog_10_method_12_code
def yX8_puts : MethodName := ⟨RX8, "puts", "(II)I"⟩
def RX9 : String := "FieldBases"
def TX9 : u_T := fun k => match k with
  | 0 => ("FieldBases", "measure", "LFieldBases$Measure;", true)
  | 1 => ("FieldBases", "numbers", "LFieldBases$Field;", true)
  | 2 => ("FieldBases", "frame", "LFieldBases$Frame;", true)
  | 3 => ("FieldBases", "now", "LFieldBases$State;", true)
  | 4 => ("FieldBases", "kept", "LFieldBases$State;", true)
  | 5 => ("FieldBases", "past", "LFieldBases$Past;", true)
  | 6 => ("FieldBases", "text", "LFieldBases$Text;", true)
  | 7 => ("FieldBases", "told", "LFieldBases$Row;", true)
  | 8 => ("FieldBases", "fresh", "[I", true)
  | 9 => ("FieldBases", "second", "[I", true)
  | _ => ("FieldBases", "keeping", "Z", false)
def tyX9 : Nat → FieldType := fun k => match k with
  | 0 => .object "FieldBases$Measure"
  | 1 => .object "FieldBases$Field"
  | 2 => .object "FieldBases$Frame"
  | 3 => .object "FieldBases$State"
  | 4 => .object "FieldBases$State"
  | 5 => .object "FieldBases$Past"
  | 6 => .object "FieldBases$Text"
  | 7 => .object "FieldBases$Row"
  | 8 => .array .int
  | 9 => .array .int
  | _ => .boolean
abbrev wsX90 : List Cond := u_ws RX9 TX9 11
theorem nmX9 : ∀ a, a < 11 → ∀ b, b < 11 → a ≠ b → (TX9 a).2.1 ≠ (TX9 b).2.1 := by decide +kernel
theorem tyX9_ok : ∀ k, k < 11 → parseFieldDescriptor (TX9 k).2.2.1 = some (tyX9 k) := by decide +kernel
abbrev cX9_init : ByteArray := prog_1_method_1_code
def yX9_init : MethodName := ⟨RX9, "<init>", "()V"⟩
abbrev cX9_sign : ByteArray := prog_1_method_2_code
def yX9_sign : MethodName := ⟨RX9, "sign", "(I)I"⟩
abbrev cX9_end : ByteArray := prog_1_method_3_code
def yX9_end : MethodName := ⟨RX9, "end", "(I)Z"⟩
abbrev cX9_field : ByteArray := prog_1_method_4_code
def yX9_field : MethodName := ⟨RX9, "field", "()I"⟩
abbrev cX9_poly : ByteArray := prog_1_method_5_code
def yX9_poly : MethodName := ⟨RX9, "poly", "(I)I"⟩
abbrev cX9_product : ByteArray := prog_1_method_6_code
def yX9_product : MethodName := ⟨RX9, "product", "(II)I"⟩
abbrev cX9_inverse : ByteArray := prog_1_method_7_code
def yX9_inverse : MethodName := ⟨RX9, "inverse", "(I)I"⟩
abbrev cX9_power : ByteArray := prog_1_method_8_code
def yX9_power : MethodName := ⟨RX9, "power", "(II)I"⟩
abbrev cX9_order : ByteArray := prog_1_method_9_code
def yX9_order : MethodName := ⟨RX9, "order", "(I)I"⟩
abbrev cX9_conjugate : ByteArray := prog_1_method_10_code
def yX9_conjugate : MethodName := ⟨RX9, "conjugate", "(II)I"⟩
abbrev cX9_conjugates : ByteArray := prog_1_method_11_code
def yX9_conjugates : MethodName := ⟨RX9, "conjugates", "(I)I"⟩
abbrev cX9_least : ByteArray := prog_1_method_12_code
def yX9_least : MethodName := ⟨RX9, "least", "(I)I"⟩
abbrev cX9_trace : ByteArray := prog_1_method_13_code
def yX9_trace : MethodName := ⟨RX9, "trace", "(II)I"⟩
abbrev cX9_norm : ByteArray := prog_1_method_14_code
def yX9_norm : MethodName := ⟨RX9, "norm", "(II)I"⟩
abbrev cX9_root : ByteArray := prog_1_method_15_code
def yX9_root : MethodName := ⟨RX9, "root", "(I)I"⟩
abbrev cX9_solves : ByteArray := prog_1_method_16_code
def yX9_solves : MethodName := ⟨RX9, "solves", "(I)I"⟩
abbrev cX9_log : ByteArray := prog_1_method_17_code
def yX9_log : MethodName := ⟨RX9, "log", "(II)I"⟩
abbrev cX9_traced : ByteArray := prog_1_method_18_code
def yX9_traced : MethodName := ⟨RX9, "traced", "(II)I"⟩
abbrev cX9_factors : ByteArray := prog_1_method_19_code
def yX9_factors : MethodName := ⟨RX9, "factors", "(I)I"⟩
abbrev cX9_orders : ByteArray := prog_1_method_20_code
def yX9_orders : MethodName := ⟨RX9, "orders", "()I"⟩
abbrev cX9_quadratic : ByteArray := prog_1_method_21_code
def yX9_quadratic : MethodName := ⟨RX9, "quadratic", "(III)I"⟩
abbrev cX9_classes : ByteArray := prog_1_method_22_code
def yX9_classes : MethodName := ⟨RX9, "classes", "()I"⟩
abbrev cX9_generators : ByteArray := prog_1_method_23_code
def yX9_generators : MethodName := ⟨RX9, "generators", "()I"⟩
abbrev cX9_subfield : ByteArray := prog_1_method_24_code
def yX9_subfield : MethodName := ⟨RX9, "subfield", "(I)I"⟩
abbrev cX9_normal : ByteArray := prog_1_method_25_code
def yX9_normal : MethodName := ⟨RX9, "normal", "(I)I"⟩
abbrev cX9_normals : ByteArray := prog_1_method_26_code
def yX9_normals : MethodName := ⟨RX9, "normals", "()I"⟩
abbrev cX9_complete : ByteArray := prog_1_method_27_code
def yX9_complete : MethodName := ⟨RX9, "complete", "(I)I"⟩
abbrev cX9_leastNormal : ByteArray := prog_1_method_28_code
def yX9_leastNormal : MethodName := ⟨RX9, "leastNormal", "()I"⟩
abbrev cX9_leastPowers : ByteArray := prog_1_method_29_code
def yX9_leastPowers : MethodName := ⟨RX9, "leastPowers", "()I"⟩
abbrev cX9_types : ByteArray := prog_1_method_30_code
def yX9_types : MethodName := ⟨RX9, "types", "(I)I"⟩
abbrev cX9_base : ByteArray := prog_1_method_31_code
def yX9_base : MethodName := ⟨RX9, "base", "(I)I"⟩
abbrev cX9_makes : ByteArray := prog_1_method_32_code
def yX9_makes : MethodName := ⟨RX9, "makes", "(III)I"⟩
abbrev cX9_copies : ByteArray := prog_1_method_33_code
def yX9_copies : MethodName := ⟨RX9, "copies", "(II)I"⟩
abbrev cX9_scales : ByteArray := prog_1_method_34_code
def yX9_scales : MethodName := ⟨RX9, "scales", "(II)I"⟩
abbrev cX9_moves : ByteArray := prog_1_method_35_code
def yX9_moves : MethodName := ⟨RX9, "moves", "(III)I"⟩
abbrev cX9_adds : ByteArray := prog_1_method_36_code
def yX9_adds : MethodName := ⟨RX9, "adds", "(III)I"⟩
abbrev cX9_at : ByteArray := prog_1_method_37_code
def yX9_at : MethodName := ⟨RX9, "at", "(II)I"⟩
abbrev cX9_coordinates : ByteArray := prog_1_method_38_code
def yX9_coordinates : MethodName := ⟨RX9, "coordinates", "(II)I"⟩
abbrev cX9_made : ByteArray := prog_1_method_39_code
def yX9_made : MethodName := ⟨RX9, "made", "(II)I"⟩
abbrev cX9_change : ByteArray := prog_1_method_40_code
def yX9_change : MethodName := ⟨RX9, "change", "(II)I"⟩
abbrev cX9_table : ByteArray := prog_1_method_41_code
def yX9_table : MethodName := ⟨RX9, "table", "(III)I"⟩
abbrev cX9_complexity : ByteArray := prog_1_method_42_code
def yX9_complexity : MethodName := ⟨RX9, "complexity", "(I)I"⟩
abbrev cX9_by : ByteArray := prog_1_method_43_code
def yX9_by : MethodName := ⟨RX9, "by", "(II)I"⟩
abbrev cX9_squares : ByteArray := prog_1_method_44_code
def yX9_squares : MethodName := ⟨RX9, "squares", "(I)I"⟩
abbrev cX9_productIn : ByteArray := prog_1_method_45_code
def yX9_productIn : MethodName := ⟨RX9, "productIn", "(III)I"⟩
abbrev cX9_far : ByteArray := prog_1_method_46_code
def yX9_far : MethodName := ⟨RX9, "far", "(III)I"⟩
abbrev cX9_steady : ByteArray := prog_1_method_47_code
def yX9_steady : MethodName := ⟨RX9, "steady", "(I)I"⟩
abbrev cX9_bestScale : ByteArray := prog_1_method_48_code
def yX9_bestScale : MethodName := ⟨RX9, "bestScale", "(I)I"⟩
abbrev cX9_same : ByteArray := prog_1_method_49_code
def yX9_same : MethodName := ⟨RX9, "same", "(II)I"⟩
abbrev cX9_dual : ByteArray := prog_1_method_50_code
def yX9_dual : MethodName := ⟨RX9, "dual", "(II)I"⟩
abbrev cX9_weakly : ByteArray := prog_1_method_51_code
def yX9_weakly : MethodName := ⟨RX9, "weakly", "(I)I"⟩
abbrev cX9_traces : ByteArray := prog_1_method_52_code
def yX9_traces : MethodName := ⟨RX9, "traces", "(I)I"⟩
abbrev cX9_tower : ByteArray := prog_1_method_53_code
def yX9_tower : MethodName := ⟨RX9, "tower", "(III)I"⟩
abbrev cX9_fits : ByteArray := prog_1_method_54_code
def yX9_fits : MethodName := ⟨RX9, "fits", "(I)I"⟩
abbrev cX9_maps : ByteArray := prog_1_method_55_code
def yX9_maps : MethodName := ⟨RX9, "maps", "(III)I"⟩
abbrev cX9_irreducibles : ByteArray := prog_1_method_56_code
def yX9_irreducibles : MethodName := ⟨RX9, "irreducibles", "(I)I"⟩
abbrev cX9_undo : ByteArray := prog_1_method_57_code
def yX9_undo : MethodName := ⟨RX9, "undo", "()I"⟩
abbrev cX9_keeps : ByteArray := prog_1_method_58_code
def yX9_keeps : MethodName := ⟨RX9, "keeps", "()I"⟩
abbrev cX9_back : ByteArray := prog_1_method_59_code
def yX9_back : MethodName := ⟨RX9, "back", "()I"⟩
abbrev cX9_written : ByteArray := prog_1_method_60_code
def yX9_written : MethodName := ⟨RX9, "written", "(I)I"⟩
abbrev cX9_count : ByteArray := prog_1_method_61_code
def yX9_count : MethodName := ⟨RX9, "count", "(I)I"⟩
abbrev cX9_row : ByteArray := prog_1_method_62_code
def yX9_row : MethodName := ⟨RX9, "row", "(I)J"⟩
abbrev cX9_isElement : ByteArray := prog_1_method_63_code
def yX9_isElement : MethodName := ⟨RX9, "isElement", "(I)Z"⟩
abbrev cX9_isSlot : ByteArray := prog_1_method_64_code
def yX9_isSlot : MethodName := ⟨RX9, "isSlot", "(I)Z"⟩
abbrev cX9_isPlace : ByteArray := prog_1_method_65_code
def yX9_isPlace : MethodName := ⟨RX9, "isPlace", "(I)Z"⟩
abbrev cX9_tellsField : ByteArray := prog_1_method_66_code
def yX9_tellsField : MethodName := ⟨RX9, "tellsField", "(I)I"⟩
abbrev cX9_setsSlot : ByteArray := prog_1_method_67_code
def yX9_setsSlot : MethodName := ⟨RX9, "setsSlot", "(I[I)I"⟩
abbrev cX9_followsState : ByteArray := prog_1_method_68_code
def yX9_followsState : MethodName := ⟨RX9, "followsState", "()V"⟩
abbrev cX9_tellsLocated : ByteArray := prog_1_method_69_code
def yX9_tellsLocated : MethodName := ⟨RX9, "tellsLocated", "([I)I"⟩
abbrev cX9_normalSlots : ByteArray := prog_1_method_70_code
def yX9_normalSlots : MethodName := ⟨RX9, "normalSlots", "()I"⟩
abbrev cX9_plainSlots : ByteArray := prog_1_method_71_code
def yX9_plainSlots : MethodName := ⟨RX9, "plainSlots", "()I"⟩
def RX10 : String := "FieldBasesModel"
def TX10 : u_T := fun k => match k with
  | 0 => ("FieldBasesModel", "w", "[I", true)
  | 1 => ("FieldBasesModel", "aside", "[I", true)
  | 2 => ("FieldBasesModel", "kept", "[I", true)
  | 3 => ("FieldBasesModel", "isKept", "Z", false)
  | 4 => ("FieldBasesModel", "past", "[I", true)
  | 5 => ("FieldBasesModel", "pastMany", "I", false)
  | 6 => ("FieldBasesModel", "text", "[B", true)
  | 7 => ("FieldBasesModel", "typed", "I", false)
  | 8 => ("FieldBasesModel", "row", "[J", true)
  | 9 => ("FieldBasesModel", "rowMany", "I", false)
  | 10 => ("FieldBasesModel", "thrown", "I", false)
  | 11 => ("FieldBasesModel", "m", "I", false)
  | 12 => ("FieldBasesModel", "q", "I", false)
  | 13 => ("FieldBasesModel", "some", "[I", true)
  | 14 => ("FieldBasesModel", "steps", "[I", true)
  | 15 => ("FieldBasesModel", "sub", "[I", true)
  | 16 => ("FieldBasesModel", "base", "[I", true)
  | 17 => ("FieldBasesModel", "coordOf", "[I", true)
  | 18 => ("FieldBasesModel", "size", "I", false)
  | 19 => ("FieldBasesModel", "here", "I", false)
  | 20 => ("FieldBasesModel", "wrong", "I", false)
  | 21 => ("FieldBasesModel", "dualOf", "[I", true)
  | 22 => ("FieldBasesModel", "page", "[B", true)
  | _ => ("FieldBasesModel", "pageMany", "I", false)
def tyX10 : Nat → FieldType := fun k => match k with
  | 0 => .array .int
  | 1 => .array .int
  | 2 => .array .int
  | 3 => .boolean
  | 4 => .array .int
  | 5 => .int
  | 6 => .array .byte
  | 7 => .int
  | 8 => .array .long
  | 9 => .int
  | 10 => .int
  | 11 => .int
  | 12 => .int
  | 13 => .array .int
  | 14 => .array .int
  | 15 => .array .int
  | 16 => .array .int
  | 17 => .array .int
  | 18 => .int
  | 19 => .int
  | 20 => .int
  | 21 => .array .int
  | 22 => .array .byte
  | _ => .int
abbrev wsX100 : List Cond := u_ws RX10 TX10 24
theorem nmX10 : ∀ a, a < 24 → ∀ b, b < 24 → a ≠ b → (TX10 a).2.1 ≠ (TX10 b).2.1 := by decide +kernel
theorem tyX10_ok : ∀ k, k < 24 → parseFieldDescriptor (TX10 k).2.2.1 = some (tyX10 k) := by decide +kernel
abbrev cX10_init : ByteArray := prog_12_method_1_code
def yX10_init : MethodName := ⟨RX10, "<init>", "()V"⟩
abbrev cX10_thrown : ByteArray := prog_12_method_2_code
def yX10_thrown : MethodName := ⟨RX10, "thrown", "()I"⟩
abbrev cX10_in : ByteArray := prog_12_method_3_code
def yX10_in : MethodName := ⟨RX10, "in", "(JJJ)Z"⟩
abbrev cX10_lost : ByteArray := prog_12_method_4_code
def yX10_lost : MethodName := ⟨RX10, "lost", "()I"⟩
abbrev cX10_tell : ByteArray := prog_12_method_5_code
def yX10_tell : MethodName := ⟨RX10, "tell", "(J)V"⟩
abbrev cX10_bits : ByteArray := prog_12_method_6_code
def yX10_bits : MethodName := ⟨RX10, "bits", "(I)I"⟩
abbrev cX10_sign : ByteArray := prog_12_method_7_code
def yX10_sign : MethodName := ⟨RX10, "sign", "(I)I"⟩
abbrev cX10_end : ByteArray := prog_12_method_8_code
def yX10_end : MethodName := ⟨RX10, "end", "(I)Z"⟩
abbrev cX10_degree : ByteArray := prog_12_method_9_code
def yX10_degree : MethodName := ⟨RX10, "degree", "(I)I"⟩
abbrev cX10_modulo : ByteArray := prog_12_method_10_code
def yX10_modulo : MethodName := ⟨RX10, "modulo", "(II)I"⟩
abbrev cX10_timesPoly : ByteArray := prog_12_method_11_code
def yX10_timesPoly : MethodName := ⟨RX10, "timesPoly", "(II)I"⟩
abbrev cX10_quotient : ByteArray := prog_12_method_12_code
def yX10_quotient : MethodName := ⟨RX10, "quotient", "(II)I"⟩
abbrev cX10_leastFactor : ByteArray := prog_12_method_13_code
def yX10_leastFactor : MethodName := ⟨RX10, "leastFactor", "(I)I"⟩
abbrev cX10_isIrreducible : ByteArray := prog_12_method_14_code
def yX10_isIrreducible : MethodName := ⟨RX10, "isIrreducible", "(I)Z"⟩
abbrev cX10_lays : ByteArray := prog_12_method_15_code
def yX10_lays : MethodName := ⟨RX10, "lays", "()V"⟩
abbrev cX10_fields : ByteArray := prog_12_method_16_code
def yX10_fields : MethodName := ⟨RX10, "fields", "(I)V"⟩
abbrev cX10_times : ByteArray := prog_12_method_17_code
def yX10_times : MethodName := ⟨RX10, "times", "(II)I"⟩
abbrev cX10_conj : ByteArray := prog_12_method_18_code
def yX10_conj : MethodName := ⟨RX10, "conj", "(II)I"⟩
abbrev cX10_powered : ByteArray := prog_12_method_19_code
def yX10_powered : MethodName := ⟨RX10, "powered", "(II)I"⟩
abbrev cX10_inverseOf : ByteArray := prog_12_method_20_code
def yX10_inverseOf : MethodName := ⟨RX10, "inverseOf", "(I)I"⟩
abbrev cX10_sizeOf : ByteArray := prog_12_method_21_code
def yX10_sizeOf : MethodName := ⟨RX10, "sizeOf", "(I)I"⟩
abbrev cX10_orderOf : ByteArray := prog_12_method_22_code
def yX10_orderOf : MethodName := ⟨RX10, "orderOf", "(I)I"⟩
abbrev cX10_isGenerator : ByteArray := prog_12_method_23_code
def yX10_isGenerator : MethodName := ⟨RX10, "isGenerator", "(I)Z"⟩
abbrev cX10_traceTo : ByteArray := prog_12_method_24_code
def yX10_traceTo : MethodName := ⟨RX10, "traceTo", "(II)I"⟩
abbrev cX10_normTo : ByteArray := prog_12_method_25_code
def yX10_normTo : MethodName := ⟨RX10, "normTo", "(II)I"⟩
abbrev cX10_isElement : ByteArray := prog_12_method_26_code
def yX10_isElement : MethodName := ⟨RX10, "isElement", "(I)Z"⟩
abbrev cX10_isPart : ByteArray := prog_12_method_27_code
def yX10_isPart : MethodName := ⟨RX10, "isPart", "(I)Z"⟩
abbrev cX10_isSlot : ByteArray := prog_12_method_28_code
def yX10_isSlot : MethodName := ⟨RX10, "isSlot", "(I)Z"⟩
abbrev cX10_isPlace : ByteArray := prog_12_method_29_code
def yX10_isPlace : MethodName := ⟨RX10, "isPlace", "(I)Z"⟩
abbrev cX10_rank : ByteArray := prog_12_method_30_code
def yX10_rank : MethodName := ⟨RX10, "rank", "(I)I"⟩
abbrev cX10_takesConjugates : ByteArray := prog_12_method_31_code
def yX10_takesConjugates : MethodName := ⟨RX10, "takesConjugates", "(I)V"⟩
abbrev cX10_isNormal : ByteArray := prog_12_method_32_code
def yX10_isNormal : MethodName := ⟨RX10, "isNormal", "(I)Z"⟩
abbrev cX10_takesSubbase : ByteArray := prog_12_method_33_code
def yX10_takesSubbase : MethodName := ⟨RX10, "takesSubbase", "(I)V"⟩
abbrev cX10_isNormalOver : ByteArray := prog_12_method_34_code
def yX10_isNormalOver : MethodName := ⟨RX10, "isNormalOver", "(II)Z"⟩
abbrev cX10_madeOf : ByteArray := prog_12_method_35_code
def yX10_madeOf : MethodName := ⟨RX10, "madeOf", "(I)I"⟩
abbrev cX10_laysCoordinates : ByteArray := prog_12_method_36_code
def yX10_laysCoordinates : MethodName := ⟨RX10, "laysCoordinates", "()V"⟩
abbrev cX10_baseAt : ByteArray := prog_12_method_37_code
def yX10_baseAt : MethodName := ⟨RX10, "baseAt", "(II)I"⟩
abbrev cX10_looksAt : ByteArray := prog_12_method_38_code
def yX10_looksAt : MethodName := ⟨RX10, "looksAt", "(I)V"⟩
abbrev cX10_complexityNow : ByteArray := prog_12_method_39_code
def yX10_complexityNow : MethodName := ⟨RX10, "complexityNow", "()I"⟩
abbrev cX10_weightNow : ByteArray := prog_12_method_40_code
def yX10_weightNow : MethodName := ⟨RX10, "weightNow", "()I"⟩
abbrev cX10_isNormalBase : ByteArray := prog_12_method_41_code
def yX10_isNormalBase : MethodName := ⟨RX10, "isNormalBase", "()Z"⟩
abbrev cX10_someIsBase : ByteArray := prog_12_method_42_code
def yX10_someIsBase : MethodName := ⟨RX10, "someIsBase", "()V"⟩
abbrev cX10_does : ByteArray := prog_12_method_43_code
def yX10_does : MethodName := ⟨RX10, "does", "()V"⟩
abbrev cX10_holds : ByteArray := prog_12_method_44_code
def yX10_holds : MethodName := ⟨RX10, "holds", "(I)I"⟩
abbrev cX10_begin : ByteArray := prog_12_method_45_code
def yX10_begin : MethodName := ⟨RX10, "begin", "()V"⟩
abbrev cX10_sees : ByteArray := prog_12_method_46_code
def yX10_sees : MethodName := ⟨RX10, "sees", "()I"⟩
abbrev cX10_fault : ByteArray := prog_12_method_47_code
def yX10_fault : MethodName := ⟨RX10, "fault", "(I)V"⟩
abbrev cX10_readsPower : ByteArray := prog_12_method_48_code
def yX10_readsPower : MethodName := ⟨RX10, "readsPower", "(I)I"⟩
abbrev cX10_readsPoly : ByteArray := prog_12_method_49_code
def yX10_readsPoly : MethodName := ⟨RX10, "readsPoly", "()I"⟩
abbrev cX10_field : ByteArray := prog_12_method_50_code
def yX10_field : MethodName := ⟨RX10, "field", "()I"⟩
abbrev cX10_poly : ByteArray := prog_12_method_51_code
def yX10_poly : MethodName := ⟨RX10, "poly", "(I)I"⟩
abbrev cX10_product : ByteArray := prog_12_method_52_code
def yX10_product : MethodName := ⟨RX10, "product", "(II)I"⟩
abbrev cX10_inverse : ByteArray := prog_12_method_53_code
def yX10_inverse : MethodName := ⟨RX10, "inverse", "(I)I"⟩
abbrev cX10_power : ByteArray := prog_12_method_54_code
def yX10_power : MethodName := ⟨RX10, "power", "(II)I"⟩
abbrev cX10_order : ByteArray := prog_12_method_55_code
def yX10_order : MethodName := ⟨RX10, "order", "(I)I"⟩
abbrev cX10_conjugate : ByteArray := prog_12_method_56_code
def yX10_conjugate : MethodName := ⟨RX10, "conjugate", "(II)I"⟩
abbrev cX10_conjugates : ByteArray := prog_12_method_57_code
def yX10_conjugates : MethodName := ⟨RX10, "conjugates", "(I)I"⟩
abbrev cX10_rooted : ByteArray := prog_12_method_58_code
def yX10_rooted : MethodName := ⟨RX10, "rooted", "(II)I"⟩
abbrev cX10_least : ByteArray := prog_12_method_59_code
def yX10_least : MethodName := ⟨RX10, "least", "(I)I"⟩
abbrev cX10_trace : ByteArray := prog_12_method_60_code
def yX10_trace : MethodName := ⟨RX10, "trace", "(II)I"⟩
abbrev cX10_norm : ByteArray := prog_12_method_61_code
def yX10_norm : MethodName := ⟨RX10, "norm", "(II)I"⟩
abbrev cX10_root : ByteArray := prog_12_method_62_code
def yX10_root : MethodName := ⟨RX10, "root", "(I)I"⟩
abbrev cX10_solves : ByteArray := prog_12_method_63_code
def yX10_solves : MethodName := ⟨RX10, "solves", "(I)I"⟩
abbrev cX10_log : ByteArray := prog_12_method_64_code
def yX10_log : MethodName := ⟨RX10, "log", "(II)I"⟩
abbrev cX10_traced : ByteArray := prog_12_method_65_code
def yX10_traced : MethodName := ⟨RX10, "traced", "(II)I"⟩
abbrev cX10_factors : ByteArray := prog_12_method_66_code
def yX10_factors : MethodName := ⟨RX10, "factors", "(I)I"⟩
abbrev cX10_classes : ByteArray := prog_12_method_67_code
def yX10_classes : MethodName := ⟨RX10, "classes", "()I"⟩
abbrev cX10_generators : ByteArray := prog_12_method_68_code
def yX10_generators : MethodName := ⟨RX10, "generators", "()I"⟩
abbrev cX10_orders : ByteArray := prog_12_method_69_code
def yX10_orders : MethodName := ⟨RX10, "orders", "()I"⟩
abbrev cX10_quadratic : ByteArray := prog_12_method_70_code
def yX10_quadratic : MethodName := ⟨RX10, "quadratic", "(III)I"⟩
abbrev cX10_subfield : ByteArray := prog_12_method_71_code
def yX10_subfield : MethodName := ⟨RX10, "subfield", "(I)I"⟩
abbrev cX10_normal : ByteArray := prog_12_method_72_code
def yX10_normal : MethodName := ⟨RX10, "normal", "(I)I"⟩
abbrev cX10_normals : ByteArray := prog_12_method_73_code
def yX10_normals : MethodName := ⟨RX10, "normals", "()I"⟩
abbrev cX10_complete : ByteArray := prog_12_method_74_code
def yX10_complete : MethodName := ⟨RX10, "complete", "(I)I"⟩
abbrev cX10_leastNormal : ByteArray := prog_12_method_75_code
def yX10_leastNormal : MethodName := ⟨RX10, "leastNormal", "()I"⟩
abbrev cX10_takesPowers : ByteArray := prog_12_method_76_code
def yX10_takesPowers : MethodName := ⟨RX10, "takesPowers", "(I)Z"⟩
abbrev cX10_leastPowers : ByteArray := prog_12_method_77_code
def yX10_leastPowers : MethodName := ⟨RX10, "leastPowers", "()I"⟩
abbrev cX10_isPrime : ByteArray := prog_12_method_78_code
def yX10_isPrime : MethodName := ⟨RX10, "isPrime", "(I)Z"⟩
abbrev cX10_powersOfTwo : ByteArray := prog_12_method_79_code
def yX10_powersOfTwo : MethodName := ⟨RX10, "powersOfTwo", "(I)I"⟩
abbrev cX10_types : ByteArray := prog_12_method_80_code
def yX10_types : MethodName := ⟨RX10, "types", "(I)I"⟩
abbrev cX10_readsElement : ByteArray := prog_12_method_81_code
def yX10_readsElement : MethodName := ⟨RX10, "readsElement", "()I"⟩
abbrev cX10_base : ByteArray := prog_12_method_82_code
def yX10_base : MethodName := ⟨RX10, "base", "(I)I"⟩
abbrev cX10_makes : ByteArray := prog_12_method_83_code
def yX10_makes : MethodName := ⟨RX10, "makes", "(III)I"⟩
abbrev cX10_copies : ByteArray := prog_12_method_84_code
def yX10_copies : MethodName := ⟨RX10, "copies", "(II)I"⟩
abbrev cX10_scales : ByteArray := prog_12_method_85_code
def yX10_scales : MethodName := ⟨RX10, "scales", "(II)I"⟩
abbrev cX10_takesBase : ByteArray := prog_12_method_86_code
def yX10_takesBase : MethodName := ⟨RX10, "takesBase", "(I)V"⟩
abbrev cX10_moves : ByteArray := prog_12_method_87_code
def yX10_moves : MethodName := ⟨RX10, "moves", "(III)I"⟩
abbrev cX10_adds : ByteArray := prog_12_method_88_code
def yX10_adds : MethodName := ⟨RX10, "adds", "(III)I"⟩
abbrev cX10_at : ByteArray := prog_12_method_89_code
def yX10_at : MethodName := ⟨RX10, "at", "(II)I"⟩
abbrev cX10_coordinates : ByteArray := prog_12_method_90_code
def yX10_coordinates : MethodName := ⟨RX10, "coordinates", "(II)I"⟩
abbrev cX10_made : ByteArray := prog_12_method_91_code
def yX10_made : MethodName := ⟨RX10, "made", "(II)I"⟩
abbrev cX10_tellsCoordinates : ByteArray := prog_12_method_92_code
def yX10_tellsCoordinates : MethodName := ⟨RX10, "tellsCoordinates", "(I)I"⟩
abbrev cX10_change : ByteArray := prog_12_method_93_code
def yX10_change : MethodName := ⟨RX10, "change", "(II)I"⟩
abbrev cX10_table : ByteArray := prog_12_method_94_code
def yX10_table : MethodName := ⟨RX10, "table", "(III)I"⟩
abbrev cX10_complexity : ByteArray := prog_12_method_95_code
def yX10_complexity : MethodName := ⟨RX10, "complexity", "(I)I"⟩
abbrev cX10_by : ByteArray := prog_12_method_96_code
def yX10_by : MethodName := ⟨RX10, "by", "(II)I"⟩
abbrev cX10_squares : ByteArray := prog_12_method_97_code
def yX10_squares : MethodName := ⟨RX10, "squares", "(I)I"⟩
abbrev cX10_productIn : ByteArray := prog_12_method_98_code
def yX10_productIn : MethodName := ⟨RX10, "productIn", "(III)I"⟩
abbrev cX10_far : ByteArray := prog_12_method_99_code
def yX10_far : MethodName := ⟨RX10, "far", "(III)I"⟩
abbrev cX10_steady : ByteArray := prog_12_method_100_code
def yX10_steady : MethodName := ⟨RX10, "steady", "(I)I"⟩
abbrev cX10_bestScale : ByteArray := prog_12_method_101_code
def yX10_bestScale : MethodName := ⟨RX10, "bestScale", "(I)I"⟩
abbrev cX10_same : ByteArray := prog_12_method_102_code
def yX10_same : MethodName := ⟨RX10, "same", "(II)I"⟩
abbrev cX10_dualAt : ByteArray := prog_12_method_103_code
def yX10_dualAt : MethodName := ⟨RX10, "dualAt", "(II)I"⟩
abbrev cX10_takesDual : ByteArray := prog_12_method_104_code
def yX10_takesDual : MethodName := ⟨RX10, "takesDual", "(I)V"⟩
abbrev cX10_dual : ByteArray := prog_12_method_105_code
def yX10_dual : MethodName := ⟨RX10, "dual", "(II)I"⟩
abbrev cX10_placeOf : ByteArray := prog_12_method_106_code
def yX10_placeOf : MethodName := ⟨RX10, "placeOf", "(II)I"⟩
abbrev cX10_weakly : ByteArray := prog_12_method_107_code
def yX10_weakly : MethodName := ⟨RX10, "weakly", "(I)I"⟩
abbrev cX10_traces : ByteArray := prog_12_method_108_code
def yX10_traces : MethodName := ⟨RX10, "traces", "(I)I"⟩
abbrev cX10_tower : ByteArray := prog_12_method_109_code
def yX10_tower : MethodName := ⟨RX10, "tower", "(III)I"⟩
abbrev cX10_isUnder : ByteArray := prog_12_method_110_code
def yX10_isUnder : MethodName := ⟨RX10, "isUnder", "(I)Z"⟩
abbrev cX10_fits : ByteArray := prog_12_method_111_code
def yX10_fits : MethodName := ⟨RX10, "fits", "(I)I"⟩
abbrev cX10_maps : ByteArray := prog_12_method_112_code
def yX10_maps : MethodName := ⟨RX10, "maps", "(III)I"⟩
abbrev cX10_isPrimitive : ByteArray := prog_12_method_113_code
def yX10_isPrimitive : MethodName := ⟨RX10, "isPrimitive", "(I)Z"⟩
abbrev cX10_irreducibles : ByteArray := prog_12_method_114_code
def yX10_irreducibles : MethodName := ⟨RX10, "irreducibles", "(I)I"⟩
abbrev cX10_undo : ByteArray := prog_12_method_115_code
def yX10_undo : MethodName := ⟨RX10, "undo", "()I"⟩
abbrev cX10_keeps : ByteArray := prog_12_method_116_code
def yX10_keeps : MethodName := ⟨RX10, "keeps", "()I"⟩
abbrev cX10_back : ByteArray := prog_12_method_117_code
def yX10_back : MethodName := ⟨RX10, "back", "()I"⟩
abbrev cX10_writes : ByteArray := prog_12_method_118_code
def yX10_writes : MethodName := ⟨RX10, "writes", "(I)V"⟩
abbrev cX10_written : ByteArray := prog_12_method_119_code
def yX10_written : MethodName := ⟨RX10, "written", "(I)I"⟩
abbrev cX10_count : ByteArray := prog_12_method_120_code
def yX10_count : MethodName := ⟨RX10, "count", "(I)I"⟩
abbrev cX10_row : ByteArray := prog_12_method_121_code
def yX10_row : MethodName := ⟨RX10, "row", "(I)J"⟩
def RJx145de : String := "java/io/Serializable"
def TJx145de : u_T := fun k => match k with
  | _ => ("", "", "", false)
def tyJx145de : Nat → FieldType := fun k => match k with
  | _ => .int
abbrev wsJx145de0 : List Cond := u_ws RJx145de TJx145de 0
theorem nmJx145de : ∀ a, a < 0 → ∀ b, b < 0 → a ≠ b → (TJx145de a).2.1 ≠ (TJx145de b).2.1 := by decide +kernel
theorem tyJx145de_ok : ∀ k, k < 0 → parseFieldDescriptor (TJx145de k).2.2.1 = some (tyJx145de k) := by decide +kernel
def RJ6 : String := "java/lang/Integer"
def TJ6 : u_T := fun k => match k with
  | _ => ("", "", "", false)
def tyJ6 : Nat → FieldType := fun k => match k with
  | _ => .int
abbrev wsJ60 : List Cond := u_ws RJ6 TJ6 0
theorem nmJ6 : ∀ a, a < 0 → ∀ b, b < 0 → a ≠ b → (TJ6 a).2.1 ≠ (TJ6 b).2.1 := by decide +kernel
theorem tyJ6_ok : ∀ k, k < 0 → parseFieldDescriptor (TJ6 k).2.2.1 = some (tyJ6 k) := by decide +kernel
abbrev cJ6_bitCount_0f7a4 : ByteArray := prog_15_method_49_code
def yJ6_bitCount_0f7a4 : MethodName := ⟨RJ6, "bitCount", "(I)I"⟩
def RJ9 : String := "java/lang/Math"
def TJ9 : u_T := fun k => match k with
  | _ => ("", "", "", false)
def tyJ9 : Nat → FieldType := fun k => match k with
  | _ => .int
abbrev wsJ90 : List Cond := u_ws RJ9 TJ9 0
theorem nmJ9 : ∀ a, a < 0 → ∀ b, b < 0 → a ≠ b → (TJ9 a).2.1 ≠ (TJ9 b).2.1 := by decide +kernel
theorem tyJ9_ok : ∀ k, k < 0 → parseFieldDescriptor (TJ9 k).2.2.1 = some (tyJ9 k) := by decide +kernel
abbrev cJ9_min_7cf53 : ByteArray := prog_16_method_69_code
def yJ9_min_7cf53 : MethodName := ⟨RJ9, "min", "(II)I"⟩
def RJ10 : String := "java/lang/System"
def TJ10 : u_T := fun k => match k with
  | _ => ("", "", "", false)
def tyJ10 : Nat → FieldType := fun k => match k with
  | _ => .int
abbrev wsJ100 : List Cond := u_ws RJ10 TJ10 0
theorem nmJ10 : ∀ a, a < 0 → ∀ b, b < 0 → a ≠ b → (TJ10 a).2.1 ≠ (TJ10 b).2.1 := by decide +kernel
theorem tyJ10_ok : ∀ k, k < 0 → parseFieldDescriptor (TJ10 k).2.2.1 = some (tyJ10 k) := by decide +kernel
def RL : String := "FieldBasesLaw"
abbrev cL_row : ByteArray := method_3_code
def yL_row : MethodName := ⟨RL, "row", "(LFieldBases;I[J)I"⟩
abbrev cL_law : ByteArray := code
def yL_law : MethodName := ⟨RL, "law", "([I)Z"⟩
abbrev vwCl : List vw_C := [(RX0, TX0, 6), (RX1, TX1, 3), (RX2, TX2, 2), (RX3, TX3, 3), (RX6, TX6, 2), (RX7, TX7, 2), (RX8, TX8, 4), (RX9, TX9, 11), (RX10, TX10, 24)]
end
section
/-! the links: words, each by its place in the tables -/
def mz_nth {α : Type} : List α → Nat → Option α
  | [], _ => none
  | a :: _, 0 => some a
  | _ :: l, n + 1 => mz_nth l n
def mq_lk0 : List Cond := [.fieldLink RX0 18 "FieldBases$Field" "modulus" "I", .methodLink RX0 22 yX4_degreeOf, .fieldLink RX0 28 "FieldBases$Field" "degree" "I", .fieldLink RX0 31 "FieldBases$Field" "size" "I", .methodLink RX0 34 yX0_fills, .fieldLink RX0 38 "FieldBases$Field" "tracedOnes" "I", .methodLink RX0 41 yX0_tracedTo, .fieldLink RX0 9 "FieldBases$Field" "powers" "[I", .fieldLink RX0 15 "FieldBases$Field" "logs" "[I", .methodLink RX0 45 yX0_multiplied, .methodLink RX0 48 yX4_remainder, .methodLink RX0 51 yX0_times, .methodLink RX0 54 yX0_orderOf, .methodLink RX0 57 yX0_squared, .methodLink RX0 60 yJ6_bitCount_0f7a4, .fieldLink RX1 9 "FieldBases$Frame" "leads" "[I", .fieldLink RX1 15 "FieldBases$Frame" "shares" "[I", .fieldLink RX1 18 "FieldBases$Frame" "rank" "I", .methodLink RX1 22 yX1_empties, .methodLink RX1 25 yX1_takes, .fieldLink RX2 21 "FieldBases$Measure" "frame" "LFieldBases$Frame;", .fieldLink RX2 12 "FieldBases$Measure" "numbers" "LFieldBases$Field;", .fieldLink RX2 25 "FieldBases$Field" "degree" "I", .methodLink RX2 29 yX1_holds, .methodLink RX2 33 yX2_bitsOfFirst, .methodLink RX2 37 yX0_times, .methodLink RX2 41 yX1_located, .methodLink RX2 45 yJ6_bitCount_0f7a4, .methodLink RX2 50 yX1_empties, .methodLink RX2 53 yX1_takes, .fieldLink RX2 57 "FieldBases$Field" "size" "I", .fieldLink RX2 60 "FieldBases$Frame" "rank" "I", .methodLink RX2 63 yX0_squared, .methodLink RX2 66 yX0_tracedToOne, .methodLink RX2 69 yX2_traceBits, .methodLink RX2 73 yX2_placeOf, .fieldLink RX3 11 "FieldBases$Past" "states" "[LFieldBases$State;", .fieldLink RX3 16 "FieldBases$Past" "next" "I", .methodLink RX3 20 yX7_becomes, .fieldLink RX3 24 "FieldBases$Past" "held" "I", .methodLink RX4 9 yX4_degreeOf, .methodLink RX4 15 yX4_remainder, .methodLink RX5 7 yX5_isPrime, .fieldLink RX6 13 "FieldBases$Row" "length" "I", .fieldLink RX6 7 "FieldBases$Row" "numbers" "[J", .methodLink RX6 17 yX6_puts, .fieldLink RX7 16 "FieldBases$State" "modulus" "I", .fieldLink RX7 13 "FieldBases$State" "slots" "[[I", .methodLink RX7 20 yX7_setsSlot, .methodLink RX7 24 arraycopyName]
def mq_ix0 : List (Nat × Nat) := [(1, 39), (1, 168), (1, 42), (1, 44), (1, 171), (1, 49), (1, 183), (1, 47), (1, 48), (1, 175), (1, 179), (1, 191), (2, 182), (1, 187), (3, 179), (1, 70), (1, 71), (1, 72), (2, 225), (2, 226), (1, 84), (1, 82), (1, 41), (3, 63), (3, 64), (2, 128), (2, 129), (3, 7), (2, 120), (2, 124), (1, 45), (1, 73), (2, 207), (3, 175), (3, 171), (3, 188), (1, 117), (1, 118), (2, 41), (1, 119), (1, 182), (2, 32), (3, 32), (1, 156), (1, 154), (2, 212), (1, 99), (1, 101), (2, 45), (2, 49)]
def mq_lk1 : List Cond := [.fieldLink RX8 18 "FieldBases$Text" "length" "I", .fieldLink RX8 11 "FieldBases$Text" "signs" "[I", .fieldLink RX8 22 "FieldBases$Text" "position" "I", .methodLink RX8 25 yX8_powerRead, .methodLink RX8 29 yX8_signAt, .methodLink RX8 32 yX8_numberRead, .methodLink RX8 36 yX8_isDigit, .methodLink RX8 40 yX8_puts, .fieldLink RX8 15 "FieldBases$Text" "line" "[I", .fieldLink RX9 46 "FieldBases" "text" "LFieldBases$Text;", .methodLink RX9 73 yX8_takes, .fieldLink RX9 77 "FieldBases$Text" "length" "I", .methodLink RX9 81 yX8_shortens, .methodLink RX9 84 yX8_polynomialRead, .methodLink RX9 88 yX8_empties, .methodLink RX9 91 yX4_isIrreducible, .methodLink RX9 96 yX9_tellsField, .methodLink RX9 100 yX4_degreeOf, .methodLink RX9 103 yX9_isElement, .fieldLink RX9 20 "FieldBases" "numbers" "LFieldBases$Field;", .methodLink RX9 106 yX0_times, .methodLink RX9 110 yX0_turned, .constant RX9 113 (1000000000), .methodLink RX9 114 yX0_raised, .methodLink RX9 117 yX0_orderOf, .fieldLink RX9 53 "FieldBases" "told" "LFieldBases$Row;", .methodLink RX9 120 yX6_empties, .fieldLink RX9 121 "FieldBases$Field" "size" "I", .methodLink RX9 124 yX6_puts, .methodLink RX9 128 yX0_squared, .methodLink RX9 131 yX0_sizeOf, .fieldLink RX9 10 "FieldBases" "measure" "LFieldBases$Measure;", .methodLink RX9 134 yX2_leastPolynomial, .methodLink RX9 137 yX0_hasSubfield, .methodLink RX9 140 yX0_tracedTo, .methodLink RX9 143 yX0_normedTo, .fieldLink RX9 146 "FieldBases$Field" "degree" "I", .methodLink RX9 149 yX4_remainder, .methodLink RX9 152 yX4_quotient, .methodLink RX9 155 yX0_howManyOfOrder, .methodLink RX9 158 yX0_generates, .fieldLink RX9 61 "FieldBases" "second" "[I", .methodLink RX9 161 yX2_fillsSubbase, .methodLink RX9 165 yX6_putsAll, .fieldLink RX9 57 "FieldBases" "fresh" "[I", .methodLink RX9 168 yX0_fillsConjugates, .fieldLink RX9 25 "FieldBases" "frame" "LFieldBases$Frame;", .methodLink RX9 171 yX1_holds, .fieldLink RX9 177 "FieldBases$Frame" "rank" "I", .methodLink RX9 180 yX2_fillsOverSubbase]
def mq_ix1 : List (Nat × Nat) := [(1, 136), (1, 134), (1, 138), (2, 17), (2, 21), (3, 43), (3, 47), (4, 10), (1, 135), (1, 205), (1, 237), (1, 137), (2, 5), (2, 13), (2, 25), (2, 29), (2, 33), (2, 56), (2, 61), (1, 200), (2, 65), (2, 70), (2, 78), (2, 79), (2, 87), (1, 206), (2, 91), (1, 46), (2, 95), (2, 103), (2, 108), (1, 199), (2, 116), (2, 137), (2, 141), (2, 146), (1, 43), (2, 170), (2, 171), (2, 178), (2, 195), (1, 208), (2, 203), (2, 208), (1, 207), (2, 217), (1, 201), (2, 221), (1, 74), (2, 235)]
def mq_lk2 : List Cond := [.methodLink RX9 184 yX2_bitsOfFirst, .methodLink RX9 188 yX0_fillsPowers, .methodLink RX9 191 yX2_bitsOfAll, .methodLink RX9 194 yX5_powersOfTwo, .methodLink RX9 199 yX8_elementsRead, .methodLink RX9 203 yX9_isSlot, .methodLink RX9 206 yX9_setsSlot, .methodLink RX9 210 yJ6_bitCount_0f7a4, .fieldLink RX9 29 "FieldBases" "now" "LFieldBases$State;", .fieldLink RX9 215 "FieldBases$State" "slots" "[[I", .methodLink RX9 219 yX9_isPlace, .methodLink RX9 222 yX7_copiesSlot, .methodLink RX9 226 yX1_located, .methodLink RX9 229 yX2_sumAt, .methodLink RX9 233 yX9_tellsLocated, .methodLink RX9 236 yX2_whoseNormal, .methodLink RX9 239 yX2_complexityOf, .methodLink RX9 242 yX2_placeOf, .methodLink RX9 245 yX2_fillsDual, .methodLink RX9 249 yX2_fillsPlaces, .methodLink RX9 253 yX2_traceBits, .methodLink RX9 256 yX2_fillsTower, .methodLink RX9 259 yX0_valueAt, .methodLink RX9 262 yX4_isGeneratedByX, .fieldLink RX9 39 "FieldBases" "past" "LFieldBases$Past;", .methodLink RX9 265 yX3_restores, .methodLink RX9 269 yX9_followsState, .fieldLink RX9 272 "FieldBases$Past" "held" "I", .fieldLink RX9 33 "FieldBases" "kept" "LFieldBases$State;", .methodLink RX9 275 yX7_becomes, .fieldLink RX9 279 "FieldBases" "keeping" "Z", .methodLink RX9 283 yX3_remembers, .fieldLink RX9 286 "FieldBases$State" "modulus" "I", .methodLink RX9 289 yX8_signOf, .fieldLink RX9 292 "FieldBases$Row" "length" "I", .methodLink RX9 293 yX9_normalSlots, .methodLink RX9 296 yX9_plainSlots, .methodLink RX9 70 yX7_start, .methodLink RX9 64 yX0_settle, .methodLink RX9 305 yX7_setsSlot, .fieldLink RX9 307 "FieldBases$Field" "modulus" "I", .methodLink RX9 308 yX7_isPlain, .fieldLink RX10 55 "FieldBasesModel" "thrown" "I", .fieldLink RX10 26 "FieldBasesModel" "row" "[J", .fieldLink RX10 59 "FieldBasesModel" "rowMany" "I", .fieldLink RX10 62 "FieldBasesModel" "typed" "I", .fieldLink RX10 22 "FieldBasesModel" "text" "[B", .methodLink RX10 65 yX10_in, .methodLink RX10 69 yX10_degree, .methodLink RX10 73 yX10_modulo]
def mq_ix2 : List (Nat × Nat) := [(3, 3), (3, 17), (3, 21), (3, 29), (3, 39), (3, 50), (3, 54), (3, 65), (1, 202), (1, 102), (3, 82), (3, 86), (3, 102), (3, 107), (3, 115), (3, 127), (3, 59), (3, 159), (3, 167), (3, 184), (3, 193), (3, 198), (3, 206), (3, 218), (1, 204), (3, 225), (3, 229), (1, 120), (1, 203), (3, 237), (1, 209), (2, 37), (1, 100), (4, 6), (1, 157), (4, 18), (4, 22), (1, 195), (1, 164), (3, 58), (1, 40), (4, 26), (4, 126), (4, 124), (4, 125), (4, 123), (4, 122), (4, 202), (4, 109), (4, 238)]
def mq_lk3 : List Cond := [.methodLink RX10 77 yX10_leastFactor, .fieldLink RX10 7 "FieldBasesModel" "w" "[I", .fieldLink RX10 80 "FieldBasesModel" "m" "I", .fieldLink RX10 83 "FieldBasesModel" "q" "I", .methodLink RX10 86 yX10_lays, .methodLink RX10 89 yX10_timesPoly, .methodLink RX10 92 yX10_times, .methodLink RX10 95 yX10_powered, .methodLink RX10 98 yX10_conj, .methodLink RX10 101 yX10_orderOf, .constantLong RX10 104 (3), .fieldLink RX10 30 "FieldBasesModel" "some" "[I", .fieldLink RX10 33 "FieldBasesModel" "steps" "[I", .methodLink RX10 106 yJ9_min_7cf53, .methodLink RX10 111 yX10_takesConjugates, .methodLink RX10 114 yX10_rank, .fieldLink RX10 36 "FieldBasesModel" "sub" "[I", .methodLink RX10 117 yX10_takesSubbase, .fieldLink RX10 39 "FieldBasesModel" "base" "[I", .fieldLink RX10 42 "FieldBasesModel" "coordOf" "[I", .methodLink RX10 120 yX10_madeOf, .methodLink RX10 123 yX10_baseAt, .methodLink RX10 126 yX10_laysCoordinates, .methodLink RX10 129 yX10_bits, .methodLink RX10 132 yX10_isNormal, .fieldLink RX10 136 "FieldBasesModel" "pastMany" "I", .fieldLink RX10 19 "FieldBasesModel" "past" "[I", .methodLink RX10 139 yX10_does, .methodLink RX10 142 yX10_complexityNow, .fieldLink RX10 146 "FieldBasesModel" "size" "I", .fieldLink RX10 149 "FieldBasesModel" "here" "I", .fieldLink RX10 152 "FieldBasesModel" "wrong" "I", .methodLink RX10 155 yX10_sees, .methodLink RX10 158 yX10_fault, .constantLong RX10 161 (48), .constantLong RX10 163 (57), .constantLong RX10 165 (50), .methodLink RX10 167 yX10_readsPower, .methodLink RX10 170 yX10_begin, .methodLink RX10 173 yX10_readsPoly, .methodLink RX10 176 yX10_isIrreducible, .methodLink RX10 51 yX10_fields, .constantLong RX10 179 (4), .constantLong RX10 181 (511), .methodLink RX10 183 yX10_isElement, .methodLink RX10 186 yX10_inverseOf, .constantLong RX10 189 (1000000000), .methodLink RX10 191 yX10_isGenerator, .methodLink RX10 194 yX10_tell, .constantLong RX10 198 (100)]
def mq_ix3 : List (Nat × Nat) := [(4, 235), (4, 116), (4, 127), (4, 128), (4, 112), (5, 23), (5, 19), (5, 34), (5, 64), (5, 51), (6, 0), (4, 129), (4, 130), (5, 157), (5, 164), (5, 153), (4, 131), (5, 149), (4, 132), (4, 133), (5, 196), (6, 13), (5, 192), (5, 204), (5, 172), (4, 121), (4, 120), (5, 1), (5, 200), (4, 134), (4, 135), (4, 136), (4, 221), (4, 225), (4, 229), (4, 230), (4, 231), (4, 217), (4, 209), (4, 213), (4, 232), (4, 105), (5, 9), (5, 10), (5, 15), (5, 30), (5, 42), (5, 47), (5, 55), (5, 63)]
def mq_lk4 : List Cond := [.methodLink RX10 200 yX10_sizeOf, .methodLink RX10 203 yX10_rooted, .methodLink RX10 206 yX10_isPart, .methodLink RX10 209 yX10_traceTo, .methodLink RX10 212 yX10_normTo, .constantLong RX10 215 (2), .constantLong RX10 217 (1023), .methodLink RX10 219 yX10_quotient, .methodLink RX10 222 yX10_isNormalOver, .methodLink RX10 226 yX10_someIsBase, .methodLink RX10 229 yX10_takesPowers, .methodLink RX10 232 yX10_weightNow, .methodLink RX10 235 yX10_isPrime, .methodLink RX10 238 yX10_powersOfTwo, .methodLink RX10 241 yX10_readsElement, .methodLink RX10 244 yX10_isSlot, .methodLink RX10 247 yX10_holds, .methodLink RX10 250 yX10_looksAt, .methodLink RX10 253 yX10_isPlace, .methodLink RX10 256 yX10_takesBase, .methodLink RX10 259 yX10_tellsCoordinates, .methodLink RX10 262 yX10_isNormalBase, .constantLong RX10 266 (-1), .fieldLink RX10 45 "FieldBasesModel" "dualOf" "[I", .methodLink RX10 268 yX10_dualAt, .methodLink RX10 271 yX10_takesDual, .methodLink RX10 274 yX10_placeOf, .methodLink RX10 277 yX10_isUnder, .constantLong RX10 280 (8), .methodLink RX10 282 yX10_isPrimitive, .fieldLink RX10 16 "FieldBasesModel" "kept" "[I", .fieldLink RX10 285 "FieldBasesModel" "isKept" "Z", .fieldLink RX10 48 "FieldBasesModel" "page" "[B", .fieldLink RX10 289 "FieldBasesModel" "pageMany" "I", .methodLink RX10 292 yX10_writes, .methodLink RX10 295 yX10_lost, .constant RJ6 265 (1431655765), .constant RJ6 266 (858993459), .constant RJ6 267 (252645135), .code yX0_settle cX0_settle 4 none, .initialized RX0, .instanceMethod yX0_settle, .selects RX0 yX0_settle yX0_settle, .code yX0_fills cX0_fills 4 (some .boolean), .instanceMethod yX0_fills, .selects RX0 yX0_fills yX0_fills, .code yX0_multiplied cX0_multiplied 5 (some .int), .instanceMethod yX0_multiplied, .selects RX0 yX0_multiplied yX0_multiplied, .code yX0_times cX0_times 4 (some .int)]
def mq_ix4 : List (Nat × Nat) := [(5, 72), (5, 80), (5, 88), (5, 92), (5, 100), (5, 124), (5, 125), (5, 126), (5, 180), (5, 188), (5, 211), (5, 215), (5, 226), (5, 223), (5, 233), (5, 237), (6, 1), (6, 17), (6, 29), (6, 33), (6, 57), (6, 69), (6, 73), (4, 137), (6, 110), (6, 106), (6, 118), (6, 134), (6, 146), (6, 147), (4, 118), (4, 119), (4, 138), (4, 139), (6, 166), (6, 178), (3, 10), (3, 11), (3, 12), (1, 167), (1, 3), (1, 165), (1, 166), (1, 174), (1, 173), (0, 0), (1, 178), (1, 177), (0, 1), (1, 194)]
def mq_lk5 : List Cond := [.instanceMethod yX0_times, .selects RX0 yX0_times yX0_times, .code yX0_turned cX0_turned 3 (some .int), .instanceMethod yX0_turned, .selects RX0 yX0_turned yX0_turned, .code yX0_raised cX0_raised 6 (some .int), .instanceMethod yX0_raised, .selects RX0 yX0_raised yX0_raised, .code yX0_squared cX0_squared 5 (some .int), .instanceMethod yX0_squared, .selects RX0 yX0_squared yX0_squared, .code yX0_orderOf cX0_orderOf 7 (some .int), .instanceMethod yX0_orderOf, .selects RX0 yX0_orderOf yX0_orderOf, .code yX0_generates cX0_generates 2 (some .boolean), .instanceMethod yX0_generates, .selects RX0 yX0_generates yX0_generates, .code yX0_howManyOfOrder cX0_howManyOfOrder 4 (some .int), .instanceMethod yX0_howManyOfOrder, .selects RX0 yX0_howManyOfOrder yX0_howManyOfOrder, .code yX0_sizeOf cX0_sizeOf 4 (some .int), .instanceMethod yX0_sizeOf, .selects RX0 yX0_sizeOf yX0_sizeOf, .code yX0_hasSubfield cX0_hasSubfield 2 (some .boolean), .instanceMethod yX0_hasSubfield, .selects RX0 yX0_hasSubfield yX0_hasSubfield, .code yX0_tracedTo cX0_tracedTo 7 (some .int), .instanceMethod yX0_tracedTo, .selects RX0 yX0_tracedTo yX0_tracedTo, .code yX0_tracedToOne cX0_tracedToOne 2 (some .int), .instanceMethod yX0_tracedToOne, .selects RX0 yX0_tracedToOne yX0_tracedToOne, .code yX0_normedTo cX0_normedTo 7 (some .int), .instanceMethod yX0_normedTo, .selects RX0 yX0_normedTo yX0_normedTo, .code yX0_valueAt cX0_valueAt 5 (some .int), .instanceMethod yX0_valueAt, .selects RX0 yX0_valueAt yX0_valueAt, .code yX0_fillsPowers cX0_fillsPowers 5 none, .instanceMethod yX0_fillsPowers, .selects RX0 yX0_fillsPowers yX0_fillsPowers, .code yX0_fillsConjugates cX0_fillsConjugates 5 none, .instanceMethod yX0_fillsConjugates, .selects RX0 yX0_fillsConjugates yX0_fillsConjugates, .code yX1_empties cX1_empties 2 none, .initialized RX1, .instanceMethod yX1_empties, .selects RX1 yX1_empties yX1_empties, .code yX1_takes cX1_takes 5 (some .boolean), .instanceMethod yX1_takes]
def mq_ix5 : List (Nat × Nat) := [(1, 192), (1, 193), (2, 73), (2, 71), (2, 72), (2, 82), (2, 80), (2, 81), (1, 190), (1, 188), (1, 189), (2, 90), (2, 88), (2, 89), (2, 198), (2, 196), (2, 197), (2, 181), (2, 179), (2, 180), (2, 111), (2, 109), (2, 110), (2, 140), (2, 138), (2, 139), (1, 186), (1, 184), (1, 185), (3, 178), (3, 176), (3, 177), (2, 149), (2, 147), (2, 148), (3, 209), (3, 207), (3, 208), (3, 20), (3, 18), (3, 19), (2, 220), (2, 218), (2, 219), (2, 123), (1, 4), (2, 121), (2, 122), (2, 127), (2, 125)]
def mq_lk6 : List Cond := [.selects RX1 yX1_takes yX1_takes, .code yX1_holds cX1_holds 4 (some .boolean), .instanceMethod yX1_holds, .selects RX1 yX1_holds yX1_holds, .code yX1_located cX1_located 5 (some .int), .instanceMethod yX1_located, .selects RX1 yX1_located yX1_located, .code yX2_complexityOf cX2_complexityOf 2 (some .int), .initialized RX2, .instanceMethod yX2_complexityOf, .selects RX2 yX2_complexityOf yX2_complexityOf, .code yX2_bitsOfFirst cX2_bitsOfFirst 4 (some .int), .instanceMethod yX2_bitsOfFirst, .selects RX2 yX2_bitsOfFirst yX2_bitsOfFirst, .code yX2_bitsOfAll cX2_bitsOfAll 5 (some .int), .instanceMethod yX2_bitsOfAll, .selects RX2 yX2_bitsOfAll yX2_bitsOfAll, .code yX2_whoseNormal cX2_whoseNormal 3 (some .int), .instanceMethod yX2_whoseNormal, .selects RX2 yX2_whoseNormal yX2_whoseNormal, .code yX2_sumAt cX2_sumAt 5 (some .int), .instanceMethod yX2_sumAt, .selects RX2 yX2_sumAt yX2_sumAt, .code yX2_placeOf cX2_placeOf 4 (some .int), .instanceMethod yX2_placeOf, .selects RX2 yX2_placeOf yX2_placeOf, .code yX2_leastPolynomial cX2_leastPolynomial 4 (some .int), .instanceMethod yX2_leastPolynomial, .selects RX2 yX2_leastPolynomial yX2_leastPolynomial, .code yX2_fillsSubbase cX2_fillsSubbase 5 none, .instanceMethod yX2_fillsSubbase, .selects RX2 yX2_fillsSubbase yX2_fillsSubbase, .code yX2_fillsOverSubbase cX2_fillsOverSubbase 8 none, .instanceMethod yX2_fillsOverSubbase, .selects RX2 yX2_fillsOverSubbase yX2_fillsOverSubbase, .code yX2_fillsTower cX2_fillsTower 8 none, .instanceMethod yX2_fillsTower, .selects RX2 yX2_fillsTower yX2_fillsTower, .code yX2_traceBits cX2_traceBits 5 (some .int), .instanceMethod yX2_traceBits, .selects RX2 yX2_traceBits yX2_traceBits, .code yX2_fillsDual cX2_fillsDual 6 none, .instanceMethod yX2_fillsDual, .selects RX2 yX2_fillsDual yX2_fillsDual, .code yX2_fillsPlaces cX2_fillsPlaces 6 (some .boolean), .instanceMethod yX2_fillsPlaces, .selects RX2 yX2_fillsPlaces yX2_fillsPlaces, .code yX3_remembers cX3_remembers 2 none, .initialized RX3, .instanceMethod yX3_remembers]
def mq_ix6 : List (Nat × Nat) := [(2, 126), (2, 224), (2, 222), (2, 223), (2, 132), (2, 130), (2, 131), (3, 62), (1, 2), (3, 60), (3, 61), (3, 6), (3, 4), (3, 5), (3, 24), (3, 22), (3, 23), (3, 130), (3, 128), (3, 129), (3, 110), (3, 108), (3, 109), (3, 162), (3, 160), (3, 161), (2, 119), (2, 117), (2, 118), (2, 206), (2, 204), (2, 205), (2, 238), (2, 236), (2, 237), (3, 201), (3, 199), (3, 200), (3, 174), (3, 172), (3, 173), (3, 170), (3, 168), (3, 169), (3, 187), (3, 185), (3, 186), (2, 40), (1, 6), (2, 38)]
def mq_lk7 : List Cond := [.selects RX3 yX3_remembers yX3_remembers, .code yX3_restores cX3_restores 2 (some .boolean), .instanceMethod yX3_restores, .selects RX3 yX3_restores yX3_restores, .code yX4_degreeOf cX4_degreeOf 3 (some .int), .initialized RX4, .static yX4_degreeOf, .code yX4_remainder cX4_remainder 5 (some .int), .static yX4_remainder, .code yX4_quotient cX4_quotient 6 (some .int), .static yX4_quotient, .code yX4_isIrreducible cX4_isIrreducible 3 (some .boolean), .static yX4_isIrreducible, .code yX4_isGeneratedByX cX4_isGeneratedByX 5 (some .boolean), .static yX4_isGeneratedByX, .code yX5_isPrime cX5_isPrime 2 (some .boolean), .initialized RX5, .static yX5_isPrime, .code yX5_powersOfTwo cX5_powersOfTwo 4 (some .int), .static yX5_powersOfTwo, .code yX6_empties cX6_empties 1 none, .initialized RX6, .instanceMethod yX6_empties, .selects RX6 yX6_empties yX6_empties, .code yX6_puts cX6_puts 3 none, .instanceMethod yX6_puts, .selects RX6 yX6_puts yX6_puts, .code yX6_putsAll cX6_putsAll 4 none, .instanceMethod yX6_putsAll, .selects RX6 yX6_putsAll yX6_putsAll, .code yX7_start cX7_start 4 none, .initialized RX7, .instanceMethod yX7_start, .selects RX7 yX7_start yX7_start, .code yX7_becomes cX7_becomes 3 none, .instanceMethod yX7_becomes, .selects RX7 yX7_becomes yX7_becomes, .code yX7_setsSlot cX7_setsSlot 3 none, .instanceMethod yX7_setsSlot, .selects RX7 yX7_setsSlot yX7_setsSlot, .code yX7_copiesSlot cX7_copiesSlot 3 none, .instanceMethod yX7_copiesSlot, .selects RX7 yX7_copiesSlot yX7_copiesSlot, .code yX7_isPlain cX7_isPlain 4 (some .boolean), .instanceMethod yX7_isPlain, .selects RX7 yX7_isPlain yX7_isPlain, .code yX8_takes cX8_takes 3 (some .boolean), .initialized RX8, .instanceMethod yX8_takes, .selects RX8 yX8_takes yX8_takes]
def mq_ix7 : List (Nat × Nat) := [(2, 39), (3, 228), (3, 226), (3, 227), (1, 170), (1, 9), (1, 169), (1, 181), (1, 180), (2, 173), (2, 172), (2, 31), (2, 30), (3, 220), (3, 219), (3, 34), (1, 14), (3, 33), (3, 31), (3, 30), (2, 94), (1, 8), (2, 92), (2, 93), (2, 98), (2, 96), (2, 97), (2, 211), (2, 209), (2, 210), (1, 198), (1, 5), (1, 196), (1, 197), (2, 44), (2, 42), (2, 43), (2, 48), (2, 46), (2, 47), (3, 89), (3, 87), (3, 88), (4, 29), (4, 27), (4, 28), (2, 0), (1, 7), (1, 238), (1, 239)]
def mq_lk8 : List Cond := [.code yX8_shortens cX8_shortens 2 (some .boolean), .instanceMethod yX8_shortens, .selects RX8 yX8_shortens yX8_shortens, .code yX8_empties cX8_empties 1 none, .instanceMethod yX8_empties, .selects RX8 yX8_empties yX8_empties, .code yX8_signAt cX8_signAt 2 (some .int), .instanceMethod yX8_signAt, .selects RX8 yX8_signAt yX8_signAt, .code yX8_polynomialRead cX8_polynomialRead 5 (some .int), .instanceMethod yX8_polynomialRead, .selects RX8 yX8_polynomialRead yX8_polynomialRead, .code yX8_powerRead cX8_powerRead 5 (some .int), .instanceMethod yX8_powerRead, .selects RX8 yX8_powerRead yX8_powerRead, .code yX8_elementsRead cX8_elementsRead 6 (some .int), .instanceMethod yX8_elementsRead, .selects RX8 yX8_elementsRead yX8_elementsRead, .code yX8_numberRead cX8_numberRead 3 (some .int), .instanceMethod yX8_numberRead, .selects RX8 yX8_numberRead yX8_numberRead, .code yX8_isDigit cX8_isDigit 1 (some .boolean), .static yX8_isDigit, .code yX8_signOf cX8_signOf 5 (some .int), .instanceMethod yX8_signOf, .selects RX8 yX8_signOf yX8_signOf, .code yX8_puts cX8_puts 3 (some .int), .instanceMethod yX8_puts, .selects RX8 yX8_puts yX8_puts, .code yX9_sign cX9_sign 2 (some .int), .initialized RX9, .instanceMethod yX9_sign, .selects RX9 yX9_sign yX9_sign, .code yX9_end cX9_end 2 (some .boolean), .instanceMethod yX9_end, .selects RX9 yX9_end yX9_end, .code yX9_field cX9_field 2 (some .int), .instanceMethod yX9_field, .selects RX9 yX9_field yX9_field, .code yX9_poly cX9_poly 3 (some .int), .instanceMethod yX9_poly, .selects RX9 yX9_poly yX9_poly, .code yX9_product cX9_product 3 (some .int), .instanceMethod yX9_product, .selects RX9 yX9_product yX9_product, .code yX9_inverse cX9_inverse 2 (some .int), .instanceMethod yX9_inverse, .selects RX9 yX9_inverse yX9_inverse, .code yX9_power cX9_power 3 (some .int), .instanceMethod yX9_power]
def mq_ix8 : List (Nat × Nat) := [(2, 8), (2, 6), (2, 7), (2, 28), (2, 26), (2, 27), (2, 24), (2, 23), (0, 3), (2, 16), (2, 14), (2, 15), (2, 20), (2, 19), (0, 2), (3, 42), (3, 40), (3, 41), (3, 46), (3, 45), (0, 6), (3, 49), (3, 48), (4, 9), (4, 7), (4, 8), (4, 13), (4, 12), (0, 12), (1, 236), (1, 1), (1, 234), (1, 235), (2, 4), (2, 2), (2, 3), (2, 12), (2, 10), (2, 11), (2, 55), (2, 53), (2, 54), (2, 60), (2, 58), (2, 59), (2, 69), (2, 67), (2, 68), (2, 77), (2, 75)]
def mq_lk9 : List Cond := [.selects RX9 yX9_power yX9_power, .code yX9_order cX9_order 3 (some .int), .instanceMethod yX9_order, .selects RX9 yX9_order yX9_order, .code yX9_conjugate cX9_conjugate 3 (some .int), .instanceMethod yX9_conjugate, .selects RX9 yX9_conjugate yX9_conjugate, .code yX9_conjugates cX9_conjugates 5 (some .int), .instanceMethod yX9_conjugates, .selects RX9 yX9_conjugates yX9_conjugates, .code yX9_least cX9_least 4 (some .int), .instanceMethod yX9_least, .selects RX9 yX9_least yX9_least, .code yX9_trace cX9_trace 3 (some .int), .instanceMethod yX9_trace, .selects RX9 yX9_trace yX9_trace, .code yX9_norm cX9_norm 3 (some .int), .instanceMethod yX9_norm, .selects RX9 yX9_norm yX9_norm, .code yX9_root cX9_root 2 (some .int), .instanceMethod yX9_root, .selects RX9 yX9_root yX9_root, .code yX9_solves cX9_solves 3 (some .int), .instanceMethod yX9_solves, .selects RX9 yX9_solves yX9_solves, .code yX9_log cX9_log 5 (some .int), .instanceMethod yX9_log, .selects RX9 yX9_log yX9_log, .code yX9_traced cX9_traced 6 (some .int), .instanceMethod yX9_traced, .selects RX9 yX9_traced yX9_traced, .code yX9_factors cX9_factors 7 (some .int), .instanceMethod yX9_factors, .selects RX9 yX9_factors yX9_factors, .code yX9_orders cX9_orders 4 (some .int), .instanceMethod yX9_orders, .selects RX9 yX9_orders yX9_orders, .code yX9_quadratic cX9_quadratic 7 (some .int), .instanceMethod yX9_quadratic, .selects RX9 yX9_quadratic yX9_quadratic, .code yX9_classes cX9_classes 5 (some .int), .instanceMethod yX9_classes, .selects RX9 yX9_classes yX9_classes, .code yX9_generators cX9_generators 4 (some .int), .instanceMethod yX9_generators, .selects RX9 yX9_generators yX9_generators, .code yX9_subfield cX9_subfield 2 (some .int), .instanceMethod yX9_subfield, .selects RX9 yX9_subfield yX9_subfield, .code yX9_normal cX9_normal 3 (some .int)]
def mq_ix9 : List (Nat × Nat) := [(2, 76), (2, 86), (2, 84), (2, 85), (2, 102), (2, 100), (2, 101), (2, 107), (2, 105), (2, 106), (2, 115), (2, 113), (2, 114), (2, 136), (2, 134), (2, 135), (2, 145), (2, 143), (2, 144), (2, 153), (2, 151), (2, 152), (2, 157), (2, 155), (2, 156), (2, 161), (2, 159), (2, 160), (2, 165), (2, 163), (2, 164), (2, 169), (2, 167), (2, 168), (2, 177), (2, 175), (2, 176), (2, 186), (2, 184), (2, 185), (2, 190), (2, 188), (2, 189), (2, 194), (2, 192), (2, 193), (2, 202), (2, 200), (2, 201), (2, 216)]
def mq_lk10 : List Cond := [.instanceMethod yX9_normal, .selects RX9 yX9_normal yX9_normal, .code yX9_normals cX9_normals 5 (some .int), .instanceMethod yX9_normals, .selects RX9 yX9_normals yX9_normals, .code yX9_complete cX9_complete 4 (some .int), .instanceMethod yX9_complete, .selects RX9 yX9_complete yX9_complete, .code yX9_leastNormal cX9_leastNormal 6 (some .int), .instanceMethod yX9_leastNormal, .selects RX9 yX9_leastNormal yX9_leastNormal, .code yX9_leastPowers cX9_leastPowers 6 (some .int), .instanceMethod yX9_leastPowers, .selects RX9 yX9_leastPowers yX9_leastPowers, .code yX9_types cX9_types 7 (some .int), .instanceMethod yX9_types, .selects RX9 yX9_types yX9_types, .code yX9_base cX9_base 5 (some .int), .instanceMethod yX9_base, .selects RX9 yX9_base yX9_base, .code yX9_makes cX9_makes 4 (some .int), .instanceMethod yX9_makes, .selects RX9 yX9_makes yX9_makes, .code yX9_copies cX9_copies 5 (some .int), .instanceMethod yX9_copies, .selects RX9 yX9_copies yX9_copies, .code yX9_scales cX9_scales 4 (some .int), .instanceMethod yX9_scales, .selects RX9 yX9_scales yX9_scales, .code yX9_moves cX9_moves 4 (some .int), .instanceMethod yX9_moves, .selects RX9 yX9_moves yX9_moves, .code yX9_adds cX9_adds 4 (some .int), .instanceMethod yX9_adds, .selects RX9 yX9_adds yX9_adds, .code yX9_at cX9_at 3 (some .int), .instanceMethod yX9_at, .selects RX9 yX9_at yX9_at, .code yX9_coordinates cX9_coordinates 4 (some .int), .instanceMethod yX9_coordinates, .selects RX9 yX9_coordinates yX9_coordinates, .code yX9_made cX9_made 3 (some .int), .instanceMethod yX9_made, .selects RX9 yX9_made yX9_made, .code yX9_change cX9_change 3 (some .int), .instanceMethod yX9_change, .selects RX9 yX9_change yX9_change, .code yX9_table cX9_table 4 (some .int), .instanceMethod yX9_table, .selects RX9 yX9_table yX9_table]
def mq_ix10 : List (Nat × Nat) := [(2, 214), (2, 215), (2, 230), (2, 228), (2, 229), (2, 234), (2, 232), (2, 233), (3, 2), (3, 0), (3, 1), (3, 16), (3, 14), (3, 15), (3, 28), (3, 26), (3, 27), (3, 38), (3, 36), (3, 37), (3, 69), (3, 67), (3, 68), (3, 73), (3, 71), (3, 72), (3, 77), (3, 75), (3, 76), (3, 81), (3, 79), (3, 80), (3, 93), (3, 91), (3, 92), (3, 97), (3, 95), (3, 96), (3, 101), (3, 99), (3, 100), (3, 106), (3, 104), (3, 105), (3, 114), (3, 112), (3, 113), (3, 122), (3, 120), (3, 121)]
def mq_lk11 : List Cond := [.code yX9_complexity cX9_complexity 5 (some .int), .instanceMethod yX9_complexity, .selects RX9 yX9_complexity yX9_complexity, .code yX9_by cX9_by 5 (some .int), .instanceMethod yX9_by, .selects RX9 yX9_by yX9_by, .code yX9_squares cX9_squares 3 (some .int), .instanceMethod yX9_squares, .selects RX9 yX9_squares yX9_squares, .code yX9_productIn cX9_productIn 5 (some .int), .instanceMethod yX9_productIn, .selects RX9 yX9_productIn yX9_productIn, .code yX9_far cX9_far 6 (some .int), .instanceMethod yX9_far, .selects RX9 yX9_far yX9_far, .code yX9_steady cX9_steady 6 (some .int), .instanceMethod yX9_steady, .selects RX9 yX9_steady yX9_steady, .code yX9_bestScale cX9_bestScale 6 (some .int), .instanceMethod yX9_bestScale, .selects RX9 yX9_bestScale yX9_bestScale, .code yX9_same cX9_same 7 (some .int), .instanceMethod yX9_same, .selects RX9 yX9_same yX9_same, .code yX9_dual cX9_dual 4 (some .int), .instanceMethod yX9_dual, .selects RX9 yX9_dual yX9_dual, .code yX9_weakly cX9_weakly 3 (some .int), .instanceMethod yX9_weakly, .selects RX9 yX9_weakly yX9_weakly, .code yX9_traces cX9_traces 5 (some .int), .instanceMethod yX9_traces, .selects RX9 yX9_traces yX9_traces, .code yX9_tower cX9_tower 4 (some .int), .instanceMethod yX9_tower, .selects RX9 yX9_tower yX9_tower, .code yX9_fits cX9_fits 4 (some .int), .instanceMethod yX9_fits, .selects RX9 yX9_fits yX9_fits, .code yX9_maps cX9_maps 5 (some .int), .instanceMethod yX9_maps, .selects RX9 yX9_maps yX9_maps, .code yX9_irreducibles cX9_irreducibles 6 (some .int), .instanceMethod yX9_irreducibles, .selects RX9 yX9_irreducibles yX9_irreducibles, .code yX9_undo cX9_undo 1 (some .int), .instanceMethod yX9_undo, .selects RX9 yX9_undo yX9_undo, .code yX9_keeps cX9_keeps 1 (some .int), .instanceMethod yX9_keeps]
def mq_ix11 : List (Nat × Nat) := [(3, 126), (3, 124), (3, 125), (3, 134), (3, 132), (3, 133), (3, 138), (3, 136), (3, 137), (3, 142), (3, 140), (3, 141), (3, 146), (3, 144), (3, 145), (3, 150), (3, 148), (3, 149), (3, 154), (3, 152), (3, 153), (3, 158), (3, 156), (3, 157), (3, 166), (3, 164), (3, 165), (3, 183), (3, 181), (3, 182), (3, 192), (3, 190), (3, 191), (3, 197), (3, 195), (3, 196), (3, 205), (3, 203), (3, 204), (3, 213), (3, 211), (3, 212), (3, 217), (3, 215), (3, 216), (3, 224), (3, 222), (3, 223), (3, 236), (3, 234)]
def mq_lk12 : List Cond := [.selects RX9 yX9_keeps yX9_keeps, .code yX9_back cX9_back 1 (some .int), .instanceMethod yX9_back, .selects RX9 yX9_back yX9_back, .code yX9_written cX9_written 2 (some .int), .instanceMethod yX9_written, .selects RX9 yX9_written yX9_written, .code yX9_count cX9_count 2 (some .int), .instanceMethod yX9_count, .selects RX9 yX9_count yX9_count, .code yX9_isElement cX9_isElement 2 (some .boolean), .instanceMethod yX9_isElement, .selects RX9 yX9_isElement yX9_isElement, .code yX9_isSlot cX9_isSlot 2 (some .boolean), .instanceMethod yX9_isSlot, .selects RX9 yX9_isSlot yX9_isSlot, .code yX9_isPlace cX9_isPlace 2 (some .boolean), .instanceMethod yX9_isPlace, .selects RX9 yX9_isPlace yX9_isPlace, .code yX9_tellsField cX9_tellsField 2 (some .int), .instanceMethod yX9_tellsField, .selects RX9 yX9_tellsField yX9_tellsField, .code yX9_setsSlot cX9_setsSlot 3 (some .int), .instanceMethod yX9_setsSlot, .selects RX9 yX9_setsSlot yX9_setsSlot, .code yX9_followsState cX9_followsState 1 none, .instanceMethod yX9_followsState, .selects RX9 yX9_followsState yX9_followsState, .code yX9_tellsLocated cX9_tellsLocated 5 (some .int), .instanceMethod yX9_tellsLocated, .selects RX9 yX9_tellsLocated yX9_tellsLocated, .code yX9_normalSlots cX9_normalSlots 3 (some .int), .instanceMethod yX9_normalSlots, .selects RX9 yX9_normalSlots yX9_normalSlots, .code yX9_plainSlots cX9_plainSlots 3 (some .int), .instanceMethod yX9_plainSlots, .selects RX9 yX9_plainSlots yX9_plainSlots, .code yX10_thrown cX10_thrown 1 (some .int), .initialized RX10, .instanceMethod yX10_thrown, .selects RX10 yX10_thrown yX10_thrown, .code yX10_in cX10_in 6 (some .boolean), .static yX10_in, .code yX10_lost cX10_lost 1 (some .int), .instanceMethod yX10_lost, .selects RX10 yX10_lost yX10_lost, .code yX10_tell cX10_tell 3 none, .instanceMethod yX10_tell, .selects RX10 yX10_tell yX10_tell, .code yX10_bits cX10_bits 3 (some .int)]
def mq_ix12 : List (Nat × Nat) := [(3, 235), (4, 1), (3, 239), (4, 0), (4, 5), (4, 3), (4, 4), (4, 17), (4, 15), (4, 16), (2, 64), (2, 63), (0, 5), (3, 53), (3, 52), (0, 7), (3, 85), (3, 84), (0, 9), (2, 36), (2, 35), (0, 4), (3, 57), (3, 56), (0, 8), (3, 232), (3, 231), (0, 11), (3, 118), (3, 117), (0, 10), (4, 21), (4, 20), (0, 13), (4, 25), (4, 24), (0, 14), (4, 193), (1, 10), (4, 191), (4, 192), (4, 204), (4, 203), (6, 181), (6, 180), (0, 61), (5, 58), (5, 57), (0, 30), (5, 206)]
def mq_lk13 : List Cond := [.static yX10_bits, .code yX10_sign cX10_sign 3 (some .int), .instanceMethod yX10_sign, .selects RX10 yX10_sign yX10_sign, .code yX10_end cX10_end 2 (some .boolean), .instanceMethod yX10_end, .selects RX10 yX10_end yX10_end, .code yX10_degree cX10_degree 3 (some .int), .static yX10_degree, .code yX10_modulo cX10_modulo 5 (some .int), .static yX10_modulo, .code yX10_timesPoly cX10_timesPoly 4 (some .int), .static yX10_timesPoly, .code yX10_quotient cX10_quotient 6 (some .int), .static yX10_quotient, .code yX10_leastFactor cX10_leastFactor 2 (some .int), .static yX10_leastFactor, .code yX10_isIrreducible cX10_isIrreducible 1 (some .boolean), .static yX10_isIrreducible, .code yX10_lays cX10_lays 1 none, .instanceMethod yX10_lays, .selects RX10 yX10_lays yX10_lays, .code yX10_fields cX10_fields 4 none, .instanceMethod yX10_fields, .selects RX10 yX10_fields yX10_fields, .code yX10_times cX10_times 3 (some .int), .instanceMethod yX10_times, .selects RX10 yX10_times yX10_times, .code yX10_conj cX10_conj 5 (some .int), .instanceMethod yX10_conj, .selects RX10 yX10_conj yX10_conj, .code yX10_powered cX10_powered 6 (some .int), .instanceMethod yX10_powered, .selects RX10 yX10_powered yX10_powered, .code yX10_inverseOf cX10_inverseOf 2 (some .int), .instanceMethod yX10_inverseOf, .selects RX10 yX10_inverseOf yX10_inverseOf, .code yX10_sizeOf cX10_sizeOf 3 (some .int), .instanceMethod yX10_sizeOf, .selects RX10 yX10_sizeOf yX10_sizeOf, .code yX10_orderOf cX10_orderOf 4 (some .int), .instanceMethod yX10_orderOf, .selects RX10 yX10_orderOf yX10_orderOf, .code yX10_isGenerator cX10_isGenerator 2 (some .boolean), .instanceMethod yX10_isGenerator, .selects RX10 yX10_isGenerator yX10_isGenerator, .code yX10_traceTo cX10_traceTo 5 (some .int), .instanceMethod yX10_traceTo, .selects RX10 yX10_traceTo yX10_traceTo, .code yX10_normTo cX10_normTo 5 (some .int)]
def mq_ix13 : List (Nat × Nat) := [(5, 205), (4, 197), (4, 195), (4, 196), (4, 201), (4, 199), (4, 200), (4, 111), (4, 110), (5, 0), (4, 239), (5, 25), (5, 24), (5, 128), (5, 127), (4, 237), (4, 236), (4, 234), (4, 233), (4, 115), (4, 114), (0, 17), (4, 108), (4, 107), (0, 16), (5, 22), (5, 21), (0, 25), (5, 67), (5, 66), (0, 31), (5, 37), (5, 36), (0, 27), (5, 33), (5, 32), (0, 26), (5, 75), (5, 74), (0, 32), (5, 54), (5, 53), (0, 29), (5, 50), (5, 49), (0, 28), (5, 95), (5, 94), (0, 35), (5, 103)]
def mq_lk14 : List Cond := [.instanceMethod yX10_normTo, .selects RX10 yX10_normTo yX10_normTo, .code yX10_isElement cX10_isElement 2 (some .boolean), .instanceMethod yX10_isElement, .selects RX10 yX10_isElement yX10_isElement, .code yX10_isPart cX10_isPart 2 (some .boolean), .instanceMethod yX10_isPart, .selects RX10 yX10_isPart yX10_isPart, .code yX10_isSlot cX10_isSlot 1 (some .boolean), .static yX10_isSlot, .code yX10_isPlace cX10_isPlace 2 (some .boolean), .instanceMethod yX10_isPlace, .selects RX10 yX10_isPlace yX10_isPlace, .code yX10_rank cX10_rank 6 (some .int), .instanceMethod yX10_rank, .selects RX10 yX10_rank yX10_rank, .code yX10_takesConjugates cX10_takesConjugates 3 none, .instanceMethod yX10_takesConjugates, .selects RX10 yX10_takesConjugates yX10_takesConjugates, .code yX10_isNormal cX10_isNormal 2 (some .boolean), .instanceMethod yX10_isNormal, .selects RX10 yX10_isNormal yX10_isNormal, .code yX10_takesSubbase cX10_takesSubbase 5 none, .instanceMethod yX10_takesSubbase, .selects RX10 yX10_takesSubbase yX10_takesSubbase, .code yX10_isNormalOver cX10_isNormalOver 6 (some .boolean), .instanceMethod yX10_isNormalOver, .selects RX10 yX10_isNormalOver yX10_isNormalOver, .code yX10_madeOf cX10_madeOf 4 (some .int), .instanceMethod yX10_madeOf, .selects RX10 yX10_madeOf yX10_madeOf, .code yX10_laysCoordinates cX10_laysCoordinates 2 none, .instanceMethod yX10_laysCoordinates, .selects RX10 yX10_laysCoordinates yX10_laysCoordinates, .code yX10_baseAt cX10_baseAt 3 (some .int), .instanceMethod yX10_baseAt, .selects RX10 yX10_baseAt yX10_baseAt, .code yX10_looksAt cX10_looksAt 3 none, .instanceMethod yX10_looksAt, .selects RX10 yX10_looksAt yX10_looksAt, .code yX10_complexityNow cX10_complexityNow 3 (some .int), .instanceMethod yX10_complexityNow, .selects RX10 yX10_complexityNow yX10_complexityNow, .code yX10_weightNow cX10_weightNow 4 (some .int), .instanceMethod yX10_weightNow, .selects RX10 yX10_weightNow yX10_weightNow, .code yX10_isNormalBase cX10_isNormalBase 2 (some .boolean), .instanceMethod yX10_isNormalBase, .selects RX10 yX10_isNormalBase yX10_isNormalBase, .code yX10_someIsBase cX10_someIsBase 2 none]
def mq_ix14 : List (Nat × Nat) := [(5, 102), (0, 36), (5, 18), (5, 17), (0, 24), (5, 91), (5, 90), (0, 34), (5, 239), (5, 238), (6, 32), (6, 31), (0, 52), (5, 156), (5, 155), (0, 38), (5, 167), (5, 166), (0, 39), (5, 175), (5, 174), (0, 40), (5, 152), (5, 151), (0, 37), (5, 183), (5, 182), (0, 41), (5, 199), (5, 198), (0, 44), (5, 195), (5, 194), (0, 43), (6, 16), (6, 15), (0, 50), (6, 20), (6, 19), (0, 51), (5, 203), (5, 202), (0, 45), (5, 218), (5, 217), (0, 47), (6, 72), (6, 71), (0, 55), (5, 191)]
def mq_lk15 : List Cond := [.instanceMethod yX10_someIsBase, .selects RX10 yX10_someIsBase yX10_someIsBase, .code yX10_does cX10_does 2 none, .instanceMethod yX10_does, .selects RX10 yX10_does yX10_does, .code yX10_holds cX10_holds 3 (some .int), .instanceMethod yX10_holds, .selects RX10 yX10_holds yX10_holds, .code yX10_begin cX10_begin 1 none, .instanceMethod yX10_begin, .selects RX10 yX10_begin yX10_begin, .code yX10_sees cX10_sees 1 (some .int), .instanceMethod yX10_sees, .selects RX10 yX10_sees yX10_sees, .code yX10_fault cX10_fault 2 none, .instanceMethod yX10_fault, .selects RX10 yX10_fault yX10_fault, .code yX10_readsPower cX10_readsPower 2 (some .int), .instanceMethod yX10_readsPower, .selects RX10 yX10_readsPower yX10_readsPower, .code yX10_readsPoly cX10_readsPoly 4 (some .int), .instanceMethod yX10_readsPoly, .selects RX10 yX10_readsPoly yX10_readsPoly, .code yX10_field cX10_field 2 (some .int), .instanceMethod yX10_field, .selects RX10 yX10_field yX10_field, .code yX10_poly cX10_poly 2 (some .int), .instanceMethod yX10_poly, .selects RX10 yX10_poly yX10_poly, .code yX10_product cX10_product 3 (some .int), .instanceMethod yX10_product, .selects RX10 yX10_product yX10_product, .code yX10_inverse cX10_inverse 2 (some .int), .instanceMethod yX10_inverse, .selects RX10 yX10_inverse yX10_inverse, .code yX10_power cX10_power 3 (some .int), .instanceMethod yX10_power, .selects RX10 yX10_power yX10_power, .code yX10_order cX10_order 2 (some .int), .instanceMethod yX10_order, .selects RX10 yX10_order yX10_order, .code yX10_conjugate cX10_conjugate 3 (some .int), .instanceMethod yX10_conjugate, .selects RX10 yX10_conjugate yX10_conjugate, .code yX10_conjugates cX10_conjugates 4 (some .int), .instanceMethod yX10_conjugates, .selects RX10 yX10_conjugates yX10_conjugates, .code yX10_rooted cX10_rooted 5 (some .int), .instanceMethod yX10_rooted, .selects RX10 yX10_rooted yX10_rooted]
def mq_ix15 : List (Nat × Nat) := [(5, 190), (0, 42), (5, 4), (5, 3), (0, 23), (6, 4), (6, 3), (0, 49), (4, 212), (4, 211), (0, 18), (4, 224), (4, 223), (0, 21), (4, 228), (4, 227), (0, 22), (4, 220), (4, 219), (0, 20), (4, 216), (4, 215), (0, 19), (4, 208), (4, 206), (4, 207), (5, 8), (5, 6), (5, 7), (5, 14), (5, 12), (5, 13), (5, 29), (5, 27), (5, 28), (5, 41), (5, 39), (5, 40), (5, 46), (5, 44), (5, 45), (5, 62), (5, 60), (5, 61), (5, 71), (5, 69), (5, 70), (5, 83), (5, 82), (0, 33)]
def mq_lk16 : List Cond := [.code yX10_least cX10_least 4 (some .int), .instanceMethod yX10_least, .selects RX10 yX10_least yX10_least, .code yX10_trace cX10_trace 3 (some .int), .instanceMethod yX10_trace, .selects RX10 yX10_trace yX10_trace, .code yX10_norm cX10_norm 3 (some .int), .instanceMethod yX10_norm, .selects RX10 yX10_norm yX10_norm, .code yX10_root cX10_root 2 (some .int), .instanceMethod yX10_root, .selects RX10 yX10_root yX10_root, .code yX10_solves cX10_solves 3 (some .int), .instanceMethod yX10_solves, .selects RX10 yX10_solves yX10_solves, .code yX10_log cX10_log 5 (some .int), .instanceMethod yX10_log, .selects RX10 yX10_log yX10_log, .code yX10_traced cX10_traced 6 (some .int), .instanceMethod yX10_traced, .selects RX10 yX10_traced yX10_traced, .code yX10_factors cX10_factors 3 (some .int), .instanceMethod yX10_factors, .selects RX10 yX10_factors yX10_factors, .code yX10_classes cX10_classes 6 (some .int), .instanceMethod yX10_classes, .selects RX10 yX10_classes yX10_classes, .code yX10_generators cX10_generators 4 (some .int), .instanceMethod yX10_generators, .selects RX10 yX10_generators yX10_generators, .code yX10_orders cX10_orders 5 (some .int), .instanceMethod yX10_orders, .selects RX10 yX10_orders yX10_orders, .code yX10_quadratic cX10_quadratic 6 (some .int), .instanceMethod yX10_quadratic, .selects RX10 yX10_quadratic yX10_quadratic, .code yX10_subfield cX10_subfield 3 (some .int), .instanceMethod yX10_subfield, .selects RX10 yX10_subfield yX10_subfield, .code yX10_normal cX10_normal 3 (some .int), .instanceMethod yX10_normal, .selects RX10 yX10_normal yX10_normal, .code yX10_normals cX10_normals 5 (some .int), .instanceMethod yX10_normals, .selects RX10 yX10_normals yX10_normals, .code yX10_complete cX10_complete 4 (some .int), .instanceMethod yX10_complete, .selects RX10 yX10_complete yX10_complete, .code yX10_leastNormal cX10_leastNormal 6 (some .int), .instanceMethod yX10_leastNormal]
def mq_ix16 : List (Nat × Nat) := [(5, 79), (5, 77), (5, 78), (5, 87), (5, 85), (5, 86), (5, 99), (5, 97), (5, 98), (5, 107), (5, 105), (5, 106), (5, 111), (5, 109), (5, 110), (5, 115), (5, 113), (5, 114), (5, 119), (5, 117), (5, 118), (5, 123), (5, 121), (5, 122), (5, 132), (5, 130), (5, 131), (5, 136), (5, 134), (5, 135), (5, 140), (5, 138), (5, 139), (5, 144), (5, 142), (5, 143), (5, 148), (5, 146), (5, 147), (5, 163), (5, 161), (5, 162), (5, 171), (5, 169), (5, 170), (5, 179), (5, 177), (5, 178), (5, 187), (5, 185)]
def mq_lk17 : List Cond := [.selects RX10 yX10_leastNormal yX10_leastNormal, .code yX10_takesPowers cX10_takesPowers 3 (some .boolean), .instanceMethod yX10_takesPowers, .selects RX10 yX10_takesPowers yX10_takesPowers, .code yX10_leastPowers cX10_leastPowers 6 (some .int), .instanceMethod yX10_leastPowers, .selects RX10 yX10_leastPowers yX10_leastPowers, .code yX10_isPrime cX10_isPrime 2 (some .boolean), .static yX10_isPrime, .code yX10_powersOfTwo cX10_powersOfTwo 3 (some .int), .static yX10_powersOfTwo, .code yX10_types cX10_types 4 (some .int), .instanceMethod yX10_types, .selects RX10 yX10_types yX10_types, .code yX10_readsElement cX10_readsElement 3 (some .int), .instanceMethod yX10_readsElement, .selects RX10 yX10_readsElement yX10_readsElement, .code yX10_base cX10_base 4 (some .int), .instanceMethod yX10_base, .selects RX10 yX10_base yX10_base, .code yX10_makes cX10_makes 4 (some .int), .instanceMethod yX10_makes, .selects RX10 yX10_makes yX10_makes, .code yX10_copies cX10_copies 5 (some .int), .instanceMethod yX10_copies, .selects RX10 yX10_copies yX10_copies, .code yX10_scales cX10_scales 4 (some .int), .instanceMethod yX10_scales, .selects RX10 yX10_scales yX10_scales, .code yX10_takesBase cX10_takesBase 3 none, .instanceMethod yX10_takesBase, .selects RX10 yX10_takesBase yX10_takesBase, .code yX10_moves cX10_moves 4 (some .int), .instanceMethod yX10_moves, .selects RX10 yX10_moves yX10_moves, .code yX10_adds cX10_adds 4 (some .int), .instanceMethod yX10_adds, .selects RX10 yX10_adds yX10_adds, .code yX10_at cX10_at 3 (some .int), .instanceMethod yX10_at, .selects RX10 yX10_at yX10_at, .code yX10_coordinates cX10_coordinates 3 (some .int), .instanceMethod yX10_coordinates, .selects RX10 yX10_coordinates yX10_coordinates, .code yX10_made cX10_made 3 (some .int), .instanceMethod yX10_made, .selects RX10 yX10_made yX10_made, .code yX10_tellsCoordinates cX10_tellsCoordinates 2 (some .int), .instanceMethod yX10_tellsCoordinates, .selects RX10 yX10_tellsCoordinates yX10_tellsCoordinates]
def mq_ix17 : List (Nat × Nat) := [(5, 186), (5, 214), (5, 213), (0, 46), (5, 210), (5, 208), (5, 209), (5, 228), (5, 227), (5, 225), (5, 224), (5, 222), (5, 220), (5, 221), (5, 236), (5, 235), (0, 48), (5, 232), (5, 230), (5, 231), (6, 8), (6, 6), (6, 7), (6, 12), (6, 10), (6, 11), (6, 24), (6, 22), (6, 23), (6, 36), (6, 35), (0, 53), (6, 28), (6, 26), (6, 27), (6, 40), (6, 38), (6, 39), (6, 44), (6, 42), (6, 43), (6, 48), (6, 46), (6, 47), (6, 52), (6, 50), (6, 51), (6, 60), (6, 59), (0, 54)]
def mq_lk18 : List Cond := [.code yX10_change cX10_change 5 (some .int), .instanceMethod yX10_change, .selects RX10 yX10_change yX10_change, .code yX10_table cX10_table 4 (some .int), .instanceMethod yX10_table, .selects RX10 yX10_table yX10_table, .code yX10_complexity cX10_complexity 4 (some .int), .instanceMethod yX10_complexity, .selects RX10 yX10_complexity yX10_complexity, .code yX10_by cX10_by 7 (some .int), .instanceMethod yX10_by, .selects RX10 yX10_by yX10_by, .code yX10_squares cX10_squares 4 (some .int), .instanceMethod yX10_squares, .selects RX10 yX10_squares yX10_squares, .code yX10_productIn cX10_productIn 4 (some .int), .instanceMethod yX10_productIn, .selects RX10 yX10_productIn yX10_productIn, .code yX10_far cX10_far 4 (some .int), .instanceMethod yX10_far, .selects RX10 yX10_far yX10_far, .code yX10_steady cX10_steady 5 (some .int), .instanceMethod yX10_steady, .selects RX10 yX10_steady yX10_steady, .code yX10_bestScale cX10_bestScale 6 (some .int), .instanceMethod yX10_bestScale, .selects RX10 yX10_bestScale yX10_bestScale, .code yX10_same cX10_same 7 (some .int), .instanceMethod yX10_same, .selects RX10 yX10_same yX10_same, .code yX10_dualAt cX10_dualAt 6 (some .int), .instanceMethod yX10_dualAt, .selects RX10 yX10_dualAt yX10_dualAt, .code yX10_takesDual cX10_takesDual 3 none, .instanceMethod yX10_takesDual, .selects RX10 yX10_takesDual yX10_takesDual, .code yX10_dual cX10_dual 4 (some .int), .instanceMethod yX10_dual, .selects RX10 yX10_dual yX10_dual, .code yX10_placeOf cX10_placeOf 4 (some .int), .instanceMethod yX10_placeOf, .selects RX10 yX10_placeOf yX10_placeOf, .code yX10_weakly cX10_weakly 5 (some .int), .instanceMethod yX10_weakly, .selects RX10 yX10_weakly yX10_weakly, .code yX10_traces cX10_traces 6 (some .int), .instanceMethod yX10_traces, .selects RX10 yX10_traces yX10_traces, .code yX10_tower cX10_tower 7 (some .int), .instanceMethod yX10_tower]
def mq_ix18 : List (Nat × Nat) := [(6, 56), (6, 54), (6, 55), (6, 64), (6, 62), (6, 63), (6, 68), (6, 66), (6, 67), (6, 77), (6, 75), (6, 76), (6, 81), (6, 79), (6, 80), (6, 85), (6, 83), (6, 84), (6, 89), (6, 87), (6, 88), (6, 93), (6, 91), (6, 92), (6, 97), (6, 95), (6, 96), (6, 101), (6, 99), (6, 100), (6, 113), (6, 112), (0, 57), (6, 109), (6, 108), (0, 56), (6, 105), (6, 103), (6, 104), (6, 121), (6, 120), (0, 58), (6, 117), (6, 115), (6, 116), (6, 125), (6, 123), (6, 124), (6, 129), (6, 127)]
def mq_lk19 : List Cond := [.selects RX10 yX10_tower yX10_tower, .code yX10_isUnder cX10_isUnder 2 (some .boolean), .instanceMethod yX10_isUnder, .selects RX10 yX10_isUnder yX10_isUnder, .code yX10_fits cX10_fits 3 (some .int), .instanceMethod yX10_fits, .selects RX10 yX10_fits yX10_fits, .code yX10_maps cX10_maps 4 (some .int), .instanceMethod yX10_maps, .selects RX10 yX10_maps yX10_maps, .code yX10_isPrimitive cX10_isPrimitive 3 (some .boolean), .static yX10_isPrimitive, .code yX10_irreducibles cX10_irreducibles 6 (some .int), .instanceMethod yX10_irreducibles, .selects RX10 yX10_irreducibles yX10_irreducibles, .code yX10_undo cX10_undo 2 (some .int), .instanceMethod yX10_undo, .selects RX10 yX10_undo yX10_undo, .code yX10_keeps cX10_keeps 2 (some .int), .instanceMethod yX10_keeps, .selects RX10 yX10_keeps yX10_keeps, .code yX10_back cX10_back 2 (some .int), .instanceMethod yX10_back, .selects RX10 yX10_back yX10_back, .code yX10_writes cX10_writes 2 none, .instanceMethod yX10_writes, .selects RX10 yX10_writes yX10_writes, .code yX10_written cX10_written 3 (some .int), .instanceMethod yX10_written, .selects RX10 yX10_written yX10_written, .code yX10_count cX10_count 7 (some .int), .instanceMethod yX10_count, .selects RX10 yX10_count yX10_count, .code yX10_row cX10_row 2 (some .long), .instanceMethod yX10_row, .selects RX10 yX10_row yX10_row, .code yJ6_bitCount_0f7a4 cJ6_bitCount_0f7a4 1 (some .int), .initialized RJ6, .static yJ6_bitCount_0f7a4, .lays RX0 "FieldBases$Field" "modulus" "I", .lays RX0 "FieldBases$Field" "degree" "I", .lays RX0 "FieldBases$Field" "size" "I", .laysFinal RX0 "FieldBases$Field" "powers" "[I", .laysFinal RX0 "FieldBases$Field" "logs" "[I", .lays RX0 "FieldBases$Field" "tracedOnes" "I", .laysFinal RX1 "FieldBases$Frame" "leads" "[I", .laysFinal RX1 "FieldBases$Frame" "shares" "[I", .lays RX1 "FieldBases$Frame" "rank" "I", .laysFinal RX2 "FieldBases$Measure" "numbers" "LFieldBases$Field;", .laysFinal RX2 "FieldBases$Measure" "frame" "LFieldBases$Frame;"]
def mq_ix19 : List (Nat × Nat) := [(6, 128), (6, 137), (6, 136), (0, 59), (6, 133), (6, 131), (6, 132), (6, 141), (6, 139), (6, 140), (6, 149), (6, 148), (6, 145), (6, 143), (6, 144), (6, 153), (6, 151), (6, 152), (6, 157), (6, 155), (6, 156), (6, 161), (6, 159), (6, 160), (6, 169), (6, 168), (0, 60), (6, 165), (6, 163), (6, 164), (6, 173), (6, 171), (6, 172), (6, 177), (6, 175), (6, 176), (3, 9), (1, 13), (3, 8), (1, 50), (1, 52), (1, 54), (1, 56), (1, 58), (1, 60), (1, 75), (1, 77), (1, 79), (1, 86), (1, 88)]
def mq_lk20 : List Cond := [.laysFinal RX3 "FieldBases$Past" "states" "[LFieldBases$State;", .lays RX3 "FieldBases$Past" "next" "I", .lays RX3 "FieldBases$Past" "held" "I", .laysFinal RX6 "FieldBases$Row" "numbers" "[J", .lays RX6 "FieldBases$Row" "length" "I", .lays RX7 "FieldBases$State" "modulus" "I", .laysFinal RX7 "FieldBases$State" "slots" "[[I", .laysFinal RX8 "FieldBases$Text" "signs" "[I", .laysFinal RX8 "FieldBases$Text" "line" "[I", .lays RX8 "FieldBases$Text" "length" "I", .lays RX8 "FieldBases$Text" "position" "I", .laysFinal RX9 "FieldBases" "measure" "LFieldBases$Measure;", .laysFinal RX9 "FieldBases" "numbers" "LFieldBases$Field;", .laysFinal RX9 "FieldBases" "frame" "LFieldBases$Frame;", .laysFinal RX9 "FieldBases" "now" "LFieldBases$State;", .laysFinal RX9 "FieldBases" "kept" "LFieldBases$State;", .laysFinal RX9 "FieldBases" "past" "LFieldBases$Past;", .laysFinal RX9 "FieldBases" "text" "LFieldBases$Text;", .laysFinal RX9 "FieldBases" "told" "LFieldBases$Row;", .laysFinal RX9 "FieldBases" "fresh" "[I", .laysFinal RX9 "FieldBases" "second" "[I", .lays RX9 "FieldBases" "keeping" "Z", .laysFinal RX10 "FieldBasesModel" "w" "[I", .laysFinal RX10 "FieldBasesModel" "aside" "[I", .laysFinal RX10 "FieldBasesModel" "kept" "[I", .lays RX10 "FieldBasesModel" "isKept" "Z", .laysFinal RX10 "FieldBasesModel" "past" "[I", .lays RX10 "FieldBasesModel" "pastMany" "I", .laysFinal RX10 "FieldBasesModel" "text" "[B", .lays RX10 "FieldBasesModel" "typed" "I", .laysFinal RX10 "FieldBasesModel" "row" "[J", .lays RX10 "FieldBasesModel" "rowMany" "I", .lays RX10 "FieldBasesModel" "thrown" "I", .lays RX10 "FieldBasesModel" "m" "I", .lays RX10 "FieldBasesModel" "q" "I", .laysFinal RX10 "FieldBasesModel" "some" "[I", .laysFinal RX10 "FieldBasesModel" "steps" "[I", .laysFinal RX10 "FieldBasesModel" "sub" "[I", .laysFinal RX10 "FieldBasesModel" "base" "[I", .laysFinal RX10 "FieldBasesModel" "coordOf" "[I", .lays RX10 "FieldBasesModel" "size" "I", .lays RX10 "FieldBasesModel" "here" "I", .lays RX10 "FieldBasesModel" "wrong" "I", .laysFinal RX10 "FieldBasesModel" "dualOf" "[I", .laysFinal RX10 "FieldBasesModel" "page" "[B", .lays RX10 "FieldBasesModel" "pageMany" "I", .native arraycopyName, .static arraycopyName, .static yJ9_min_7cf53, .code yJ9_min_7cf53 cJ9_min_7cf53 2 (some .int)]
def mq_ix20 : List (Nat × Nat) := [(1, 121), (1, 123), (1, 125), (1, 158), (1, 160), (1, 103), (1, 105), (1, 139), (1, 141), (1, 143), (1, 145), (1, 210), (1, 212), (1, 214), (1, 216), (1, 218), (1, 220), (1, 222), (1, 224), (1, 226), (1, 228), (1, 230), (4, 140), (4, 142), (4, 144), (4, 146), (4, 148), (4, 150), (4, 152), (4, 154), (4, 156), (4, 158), (4, 160), (4, 162), (4, 164), (4, 166), (4, 168), (4, 170), (4, 172), (4, 174), (4, 176), (4, 178), (4, 180), (4, 182), (4, 184), (4, 186), (2, 51), (2, 50), (5, 158), (5, 159)]
def mq_lk21 : List Cond := [.initialized RJ9, .initialized RJ10]
def mq_ix21 : List (Nat × Nat) := [(1, 12), (1, 11)]
def mq_LK : List Cond := mq_lk0 ++ (mq_lk1 ++ (mq_lk2 ++ (mq_lk3 ++ (mq_lk4 ++ (mq_lk5 ++ (mq_lk6 ++ (mq_lk7 ++ (mq_lk8 ++ (mq_lk9 ++ (mq_lk10 ++ (mq_lk11 ++ (mq_lk12 ++ (mq_lk13 ++ (mq_lk14 ++ (mq_lk15 ++ (mq_lk16 ++ (mq_lk17 ++ (mq_lk18 ++ (mq_lk19 ++ (mq_lk20 ++ (mq_lk21)))))))))))))))))))))
def mq_ch : List (List Cond) := [k2_sels lw_privs, tables_1_1, tables_1_2, tables_1_3, tables_1_4, tables_1_5, tables_1_6]
def mq_at (w : Cond) (q : Nat × Nat) : Bool := (match mz_nth mq_ch q.1 with
  | some l => decide (mz_nth l q.2 = some w)
  | none => false) && goodWord w
theorem mq_lo0 : (List.zipWith mq_at mq_lk0 mq_ix0).all id = true := by decide +kernel
theorem mq_lo1 : (List.zipWith mq_at mq_lk1 mq_ix1).all id = true := by decide +kernel
theorem mq_lo2 : (List.zipWith mq_at mq_lk2 mq_ix2).all id = true := by decide +kernel
theorem mq_lo3 : (List.zipWith mq_at mq_lk3 mq_ix3).all id = true := by decide +kernel
theorem mq_lo4 : (List.zipWith mq_at mq_lk4 mq_ix4).all id = true := by decide +kernel
theorem mq_lo5 : (List.zipWith mq_at mq_lk5 mq_ix5).all id = true := by decide +kernel
theorem mq_lo6 : (List.zipWith mq_at mq_lk6 mq_ix6).all id = true := by decide +kernel
theorem mq_lo7 : (List.zipWith mq_at mq_lk7 mq_ix7).all id = true := by decide +kernel
theorem mq_lo8 : (List.zipWith mq_at mq_lk8 mq_ix8).all id = true := by decide +kernel
theorem mq_lo9 : (List.zipWith mq_at mq_lk9 mq_ix9).all id = true := by decide +kernel
theorem mq_lo10 : (List.zipWith mq_at mq_lk10 mq_ix10).all id = true := by decide +kernel
theorem mq_lo11 : (List.zipWith mq_at mq_lk11 mq_ix11).all id = true := by decide +kernel
theorem mq_lo12 : (List.zipWith mq_at mq_lk12 mq_ix12).all id = true := by decide +kernel
theorem mq_lo13 : (List.zipWith mq_at mq_lk13 mq_ix13).all id = true := by decide +kernel
theorem mq_lo14 : (List.zipWith mq_at mq_lk14 mq_ix14).all id = true := by decide +kernel
theorem mq_lo15 : (List.zipWith mq_at mq_lk15 mq_ix15).all id = true := by decide +kernel
theorem mq_lo16 : (List.zipWith mq_at mq_lk16 mq_ix16).all id = true := by decide +kernel
theorem mq_lo17 : (List.zipWith mq_at mq_lk17 mq_ix17).all id = true := by decide +kernel
theorem mq_lo18 : (List.zipWith mq_at mq_lk18 mq_ix18).all id = true := by decide +kernel
theorem mq_lo19 : (List.zipWith mq_at mq_lk19 mq_ix19).all id = true := by decide +kernel
theorem mq_lo20 : (List.zipWith mq_at mq_lk20 mq_ix20).all id = true := by decide +kernel
theorem mq_lo21 : (List.zipWith mq_at mq_lk21 mq_ix21).all id = true := by decide +kernel
end
section
/-! THE SMALL MACHINE: bytecode over cells that are numbered, whose references never change, whose ints and longs are read off a store; one theorem (below) takes its runs to the machine's own. A row of a method: pc, instruction, length, a (a local's place, a branch's target, a callee, a field), v (a constant), j (its link's place). -/
abbrev mz_M : Type := (Nat → Nat → Int32) × (Nat → Nat → Int64)
/-- a cell's shape: an array (kind 0 int, 1 byte, 2 long, from 3 on references; length; whom the places name), or an object (class, fields: none a number, some a reference) -/
abbrev mz_E : Type := (Nat × Nat × List Nat) ⊕ (Nat × List (Option Nat))
abbrev mz_L : Type := List (Option Value)
abbrev mz_C : Type := Nat × mz_L × List Value × mz_M
abbrev mz_R : Type := Nat × Instr × Nat × Nat × Int32 × Nat
/-- a method: name, code, locals, type, static, class, parameters, frames and locals below it, rows -/
abbrev mz_I : Type := MethodName × ByteArray × Nat × Option FieldType × Bool × Nat × Nat × Nat × Nat × List mz_R
def mz_get : mz_L → Nat → Option Value
  | [], _ => none
  | a :: _, 0 => a
  | _ :: l, n + 1 => mz_get l n
/-- is it a long one -/
def mz_wide (o : Option Value) : Bool := match o with
  | some (.long _) => true
  | some (.double _) => true
  | _ => false
/-- what stays of a place when the one behind it is stored -/
def mz_nw (o : Option Value) : Option Value := match o with
  | some (.long _) => none
  | some (.double _) => none
  | w => w
def mz_put : mz_L → Nat → Option Value → mz_L
  | [], _, _ => []
  | _ :: l, 0, v => v :: l
  | a :: l, n + 1, v => (match n with
    | 0 => mz_nw a
    | _ + 1 => a) :: mz_put l n v
def mz_fit (ls : mz_L) (i : Nat) : Bool := Nat.blt i ls.length
def mz_wr (M : mz_M) (a : Nat) (f : Nat → Int32) : mz_M := (fun b => if b = a then f else M.1 b, M.2)
def mz_wrl (M : mz_M) (a : Nat) (f : Nat → Int64) : mz_M := (M.1, fun b => if b = a then f else M.2 b)
def mz_find (pc : Nat) : List mz_R → Option mz_R
  | [] => none
  | r :: l => match Nat.beq r.1 pc with
    | true => some r
    | false => mz_find pc l
def mz_int (o : Option Value) : Option Int32 := match o with
  | some (.int x) => some x
  | _ => none
def mz_ref (o : Option Value) : Option Nat := match o with
  | some (.ref x) => some x
  | _ => none
def mz_long (o : Option Value) : Option Int64 := match o with
  | some (.long x) => some x
  | _ => none
def mz_bin (f : Int32 → Int32 → Int32) (P : Int32 → Int32 → List Prop) (pc : Nat) (ls : mz_L) (st : List Value) (M : mz_M) : Option (mz_C × List Prop) := match st with
  | .int y :: .int x :: r => some ((pc + 1, ls, .int (f x y) :: r, M), P x y)
  | _ => none
def mz_if (f : Int32 → Prop) (d : ∀ x, Decidable (f x)) (a pc : Nat) (ls : mz_L) (st : List Value) (M : mz_M) : Option (mz_C × List Prop) := match st with
  | .int x :: r => some ((@ite Nat (f x) (d x) a (pc + 3), ls, r, M), [])
  | _ => none
def mz_ic (f : Int32 → Int32 → Prop) (d : ∀ x y, Decidable (f x y)) (a pc : Nat) (ls : mz_L) (st : List Value) (M : mz_M) : Option (mz_C × List Prop) := match st with
  | .int y :: .int x :: r => some ((@ite Nat (f x y) (d x y) a (pc + 3), ls, r, M), [])
  | _ => none
def mz_T (o : Option mz_C) : Option (mz_C × List Prop) := match o with
  | some c => some (c, [])
  | none => none
/-- one instruction that neither calls nor returns: the next place, and what must hold for it -/
def mz_step (SK : List mz_E) (ins : Instr) (len a : Nat) (v : Int32) (pc : Nat) (ls : mz_L) (st : List Value) (M : mz_M) : Option (mz_C × List Prop) := match ins with
  | .iconst _ => some ((pc + 1, ls, .int v :: st, M), [])
  | .bipush _ => some ((pc + 2, ls, .int v :: st, M), [])
  | .sipush _ => some ((pc + 3, ls, .int v :: st, M), [])
  | .ldc _ => some ((pc + 2, ls, .int v :: st, M), [])
  | .ldc_w _ => some ((pc + 3, ls, .int v :: st, M), [])
  | .lconst _ => some ((pc + 1, ls, .long v.toInt64 :: st, M), [])
  | .ldc2_w _ => some ((pc + 3, ls, .long v.toInt64 :: st, M), [])
  | .iload _ => (match mz_int (mz_get ls a) with
    | some x => some ((pc + 2, ls, .int x :: st, M), [])
    | none => none)
  | .iload_n _ => (match mz_int (mz_get ls a) with
    | some x => some ((pc + 1, ls, .int x :: st, M), [])
    | none => none)
  | .aload _ => (match mz_ref (mz_get ls a) with
    | some x => some ((pc + 2, ls, .ref x :: st, M), [])
    | none => none)
  | .aload_n _ => (match mz_ref (mz_get ls a) with
    | some x => some ((pc + 1, ls, .ref x :: st, M), [])
    | none => none)
  | .lload _ => (match mz_long (mz_get ls a) with
    | some x => some ((pc + 2, ls, .long x :: st, M), [])
    | none => none)
  | .lload_n _ => (match mz_long (mz_get ls a) with
    | some x => some ((pc + 1, ls, .long x :: st, M), [])
    | none => none)
  | .istore _ => (match st with
    | .int x :: r => (match mz_fit ls a with
      | true => some ((pc + 2, mz_put ls a (some (.int x)), r, M), [])
      | false => none)
    | _ => none)
  | .istore_n _ => (match st with
    | .int x :: r => (match mz_fit ls a with
      | true => some ((pc + 1, mz_put ls a (some (.int x)), r, M), [])
      | false => none)
    | _ => none)
  | .astore _ => (match st with
    | .ref x :: r => (match mz_fit ls a with
      | true => some ((pc + 2, mz_put ls a (some (.ref x)), r, M), [])
      | false => none)
    | _ => none)
  | .astore_n _ => (match st with
    | .ref x :: r => (match mz_fit ls a with
      | true => some ((pc + 1, mz_put ls a (some (.ref x)), r, M), [])
      | false => none)
    | _ => none)
  | .iinc _ _ => (match mz_int (mz_get ls a) with
    | some x => (match mz_fit ls a with
      | true => some ((pc + 3, mz_put ls a (some (.int (x + v))), st, M), [])
      | false => none)
    | none => none)
  | .iadd => mz_bin (fun x y => x + y) (fun _ _ => []) pc ls st M
  | .isub => mz_bin (fun x y => x - y) (fun _ _ => []) pc ls st M
  | .imul => mz_bin (fun x y => x * y) (fun _ _ => []) pc ls st M
  | .iand => mz_bin (fun x y => x &&& y) (fun _ _ => []) pc ls st M
  | .ior => mz_bin (fun x y => x ||| y) (fun _ _ => []) pc ls st M
  | .ixor => mz_bin (fun x y => x ^^^ y) (fun _ _ => []) pc ls st M
  | .ishl => mz_bin (fun x y => x <<< (y &&& 31)) (fun _ _ => []) pc ls st M
  | .ishr => mz_bin (fun x y => x >>> (y &&& 31)) (fun _ _ => []) pc ls st M
  | .iushr => mz_bin (fun x y => (x.toUInt32 >>> (y.toUInt32 &&& Int32.toUInt32 31)).toInt32) (fun _ _ => []) pc ls st M
  | .idiv => mz_bin (fun x y => x / y) (fun _ y => [¬ y = 0]) pc ls st M
  | .irem => mz_bin (fun x y => x - x / y * y) (fun _ y => [¬ y = 0]) pc ls st M
  | .ladd => (match st with
    | .long y :: .long x :: r => some ((pc + 1, ls, .long (x + y) :: r, M), [])
    | _ => none)
  | .lcmp => (match st with
    | .long y :: .long x :: r => some ((pc + 1, ls, .int (lg_cmp x y) :: r, M), [])
    | _ => none)
  | .i2l => (match st with
    | .int x :: r => some ((pc + 1, ls, .long x.toInt64 :: r, M), [])
    | _ => none)
  | .l2i => (match st with
    | .long x :: r => some ((pc + 1, ls, .int x.toInt32 :: r, M), [])
    | _ => none)
  | .i2b => (match st with
    | .int x :: r => some ((pc + 1, ls, .int x.toInt8.toInt32 :: r, M), [])
    | _ => none)
  | .pop => (match st with
    | .int _ :: r => some ((pc + 1, ls, r, M), [])
    | _ => none)
  | .dup => (match st with
    | .int x :: r => some ((pc + 1, ls, .int x :: .int x :: r, M), [])
    | .ref x :: r => some ((pc + 1, ls, .ref x :: .ref x :: r, M), [])
    | _ => none)
  | .dup_x1 => (match st with
    | .int x :: .ref y :: r => some ((pc + 1, ls, .int x :: .ref y :: .int x :: r, M), [])
    | _ => none)
  | .dup2 => (match st with
    | .int x :: .ref y :: r => some ((pc + 1, ls, .int x :: .ref y :: .int x :: .ref y :: r, M), [])
    | _ => none)
  | .goto _ => some ((a, ls, st, M), [])
  | .ifCond .eq _ => mz_if (fun x => x = 0) (fun _ => inferInstance) a pc ls st M
  | .ifCond .ne _ => mz_if (fun x => ¬ x = 0) (fun _ => inferInstance) a pc ls st M
  | .ifCond .lt _ => mz_if (fun x => x < 0) (fun _ => inferInstance) a pc ls st M
  | .ifCond .ge _ => mz_if (fun x => 0 ≤ x) (fun _ => inferInstance) a pc ls st M
  | .ifCond .gt _ => mz_if (fun x => 0 < x) (fun _ => inferInstance) a pc ls st M
  | .ifCond .le _ => mz_if (fun x => x ≤ 0) (fun _ => inferInstance) a pc ls st M
  | .if_icmp .eq _ => mz_ic (fun x y => x = y) (fun _ _ => inferInstance) a pc ls st M
  | .if_icmp .ne _ => mz_ic (fun x y => ¬ x = y) (fun _ _ => inferInstance) a pc ls st M
  | .if_icmp .lt _ => mz_ic (fun x y => x < y) (fun _ _ => inferInstance) a pc ls st M
  | .if_icmp .ge _ => mz_ic (fun x y => y ≤ x) (fun _ _ => inferInstance) a pc ls st M
  | .if_icmp .gt _ => mz_ic (fun x y => y < x) (fun _ _ => inferInstance) a pc ls st M
  | .if_icmp .le _ => mz_ic (fun x y => x ≤ y) (fun _ _ => inferInstance) a pc ls st M
  | .iaload => (match st with
    | .int i :: .ref r :: q => (match mz_nth SK r with
      | some (.inl (0, n, _)) => some ((pc + 1, ls, .int (M.1 r i.toNatClampNeg) :: q, M), [vp_in i n])
      | _ => none)
    | _ => none)
  | .baload => (match st with
    | .int i :: .ref r :: q => (match mz_nth SK r with
      | some (.inl (1, n, _)) => some ((pc + 1, ls, .int (M.1 r i.toNatClampNeg) :: q, M), [vp_in i n])
      | _ => none)
    | _ => none)
  | .laload => (match st with
    | .int i :: .ref r :: q => (match mz_nth SK r with
      | some (.inl (2, n, _)) => some ((pc + 1, ls, .long (M.2 r i.toNatClampNeg) :: q, M), [vp_in i n])
      | _ => none)
    | _ => none)
  | .aaload => (match st with
    | .int i :: .ref r :: q => (match mz_nth SK r with
      | some (.inl (k + 3, n, rs)) => some ((pc + 1, ls, .ref (rs.getD i.toNatClampNeg 0) :: q, M), [vp_in i n, rs.length = n])
      | _ => none)
    | _ => none)
  | .iastore => (match st with
    | .int x :: .int i :: .ref r :: q => (match mz_nth SK r with
      | some (.inl (0, n, _)) => some ((pc + 1, ls, q, mz_wr M r (upd (M.1 r) i.toNatClampNeg x)), [vp_in i n])
      | _ => none)
    | _ => none)
  | .bastore => (match st with
    | .int x :: .int i :: .ref r :: q => (match mz_nth SK r with
      | some (.inl (1, n, _)) => some ((pc + 1, ls, q, mz_wr M r (upd (M.1 r) i.toNatClampNeg (vp_nar .byte x))), [vp_in i n])
      | _ => none)
    | _ => none)
  | .lastore => (match st with
    | .long x :: .int i :: .ref r :: q => (match mz_nth SK r with
      | some (.inl (2, n, _)) => some ((pc + 1, ls, q, mz_wrl M r (vp_updL (M.2 r) i.toNatClampNeg x)), [vp_in i n])
      | _ => none)
    | _ => none)
  | .arraylength => (match st with
    | .ref r :: q => (match mz_nth SK r with
      | some (.inl (_, n, _)) => some ((pc + 1, ls, .int (Int32.ofNat n) :: q, M), [])
      | _ => none)
    | _ => none)
  | .getfield _ => (match st with
    | .ref r :: q => (match mz_nth SK r with
      | some (.inr (ci, fs)) => (match mz_nth fs (a % 64) with
        | some none => (match Nat.beq ci (a / 64) with
          | true => some ((pc + 3, ls, .int (M.1 r (a % 64)) :: q, M), [])
          | false => none)
        | some (some z) => (match Nat.beq ci (a / 64) with
          | true => some ((pc + 3, ls, .ref z :: q, M), [])
          | false => none)
        | none => none)
      | _ => none)
    | _ => none)
  | .putfield _ => (match st with
    | .int x :: .ref r :: q => (match mz_nth SK r with
      | some (.inr (ci, fs)) => (match mz_nth fs (a % 64) with
        | some none => (match Nat.beq ci (a / 64) with
          | true => some ((pc + 3, ls, q, mz_wr M r (upd (M.1 r) (a % 64) x)), match v.toBitVec.toNat with
            | 0 => []
            | _ => [x = 0 ∨ x = 1])
          | false => none)
        | _ => none)
      | _ => none)
    | _ => none)
  | .tableswitch d lo hi offs => (match st with
    | .int x :: r => some ((if x.toInt < lo ∨ hi < x.toInt then a else ((pc : Int) + offs.getD (x.toInt - lo).toNat 0).toNat, ls, r, M), [])
    | _ => none)
  | _ => none
end
section
/-! from the small machine to the machine: cells, locals -/
def mz_cv (ad : Nat → Nat) (v : Value) : Value := match v with
  | .ref k => .ref (ad k)
  | w => w
theorem mz_cv_cat (ad : Nat → Nat) (v : Value) : (mz_cv ad v).category = v.category := by cases v <;> rfl
theorem mz_sum (ad : Nat → Nat) (l : List Value) : ((l.map (mz_cv ad)).map fun v => v.category).sum = (l.map fun v => v.category).sum := by
  induction l with
  | nil => rfl
  | cons a l ih => simp only [List.map_cons, List.sum_cons, mz_cv_cat, ih]
def mz_con (ad : Nat → Nat) (M : mz_M) (k t : Nat) (rs : List Nat) : (Nat → Int32) ⊕ (Nat → Int64) ⊕ (Nat → UInt32) ⊕ (Nat → UInt64) ⊕ (Nat → Option Nat) := match t with
  | 0 => .inl (M.1 k)
  | 1 => .inl (M.1 k)
  | 2 => .inr (.inl (M.2 k))
  | _ + 3 => .inr (.inr (.inr (.inr (fun j => if j < rs.length then some (ad (rs.getD j 0)) else none))))
def mz_fs (ad : Nat → Nat) (M : mz_M) (k : Nat) : Nat → List (Option Nat) → List Value
  | _, [] => []
  | i, none :: r => .int (M.1 k i) :: mz_fs ad M k (i + 1) r
  | i, some q :: r => .ref (ad q) :: mz_fs ad M k (i + 1) r
def mz_ent (cA ad : Nat → Nat) (M : mz_M) (k : Nat) (e : mz_E) : va_E := match e with
  | .inl (t, n, rs) => .inl (cA t, n, mz_con ad M k t rs)
  | .inr (ci, fs) => .inr (ci, mz_fs ad M k 0 fs)
def mz_wl (cA ad : Nat → Nat) (M : mz_M) : Nat → List mz_E → va_W
  | _, [] => []
  | k, e :: r => (ad k, mz_ent cA ad M k e) :: mz_wl cA ad M (k + 1) r
theorem mz_wl_get (cA ad : Nat → Nat) (M : mz_M) : ∀ (l : List mz_E) (k i : Nat), (mz_wl cA ad M k l)[i]? = (mz_nth l i).map (fun e => (ad (k + i), mz_ent cA ad M (k + i) e))
  | [], k, i => by simp [mz_wl, mz_nth]
  | e :: r, k, 0 => by simp [mz_wl, mz_nth]
  | e :: r, k, i + 1 => by
    have h := mz_wl_get cA ad M r (k + 1) i
    simp only [mz_wl, mz_nth, List.getElem?_cons_succ]
    rw [h, show k + 1 + i = k + (i + 1) by omega]
theorem mz_fs_get (ad : Nat → Nat) (M : mz_M) (k : Nat) : ∀ (l : List (Option Nat)) (b i : Nat), (mz_fs ad M k b l)[i]? = (mz_nth l i).map (fun o => match o with
    | none => Value.int (M.1 k (b + i))
    | some q => Value.ref (ad q))
  | [], b, i => by simp [mz_fs, mz_nth]
  | none :: r, b, 0 => by simp [mz_fs, mz_nth]
  | some q :: r, b, 0 => by simp [mz_fs, mz_nth]
  | none :: r, b, i + 1 => by
    have h := mz_fs_get ad M k r (b + 1) i
    simp only [mz_fs, mz_nth, List.getElem?_cons_succ]
    rw [h, show b + 1 + i = b + (i + 1) by omega]
  | some q :: r, b, i + 1 => by
    have h := mz_fs_get ad M k r (b + 1) i
    simp only [mz_fs, mz_nth, List.getElem?_cons_succ]
    rw [h, show b + 1 + i = b + (i + 1) by omega]
theorem mz_fs_len (ad : Nat → Nat) (M : mz_M) (k : Nat) : ∀ (l : List (Option Nat)) (b : Nat), (mz_fs ad M k b l).length = l.length
  | [], b => rfl
  | none :: r, b => by simp only [mz_fs, List.length_cons, mz_fs_len ad M k r (b + 1)]
  | some q :: r, b => by simp only [mz_fs, List.length_cons, mz_fs_len ad M k r (b + 1)]
theorem mz_nth_lt {α : Type} : ∀ {l : List α} {i : Nat} {a : α}, mz_nth l i = some a → i < l.length
  | [], i, a, h => by simp [mz_nth] at h
  | b :: r, 0, a, h => by simp
  | b :: r, i + 1, a, h => by
    have := mz_nth_lt (l := r) (i := i) (a := a) h
    simp only [List.length_cons]
    omega
theorem mz_fs_set (ad : Nat → Nat) (M : mz_M) (k : Nat) (x : Int32) : ∀ (l : List (Option Nat)) (b i : Nat), mz_nth l i = some none → (mz_fs ad M k b l).set i (.int x) = mz_fs ad (mz_wr M k (upd (M.1 k) (b + i) x)) k b l := by
  intro l b i hi
  apply List.ext_getElem?
  intro j
  rw [List.getElem?_set, mz_fs_len, mz_fs_get, mz_fs_get]
  by_cases h : i = j
  · subst h
    rw [if_pos rfl, if_pos (mz_nth_lt hi), hi]
    simp [mz_wr, upd]
  · rw [if_neg h]
    cases mz_nth l j with
    | none => rfl
    | some o => cases o with
      | none => simp [mz_wr, upd, show ¬ j = i from fun q => h q.symm]
      | some q => rfl
/-- what a cell holds hangs on its own part of the store alone -/
theorem mz_ent_same {cA ad : Nat → Nat} {M M' : mz_M} {k : Nat} (h1 : M'.1 k = M.1 k) (h2 : M'.2 k = M.2 k) (e : mz_E) : mz_ent cA ad M' k e = mz_ent cA ad M k e := by
  have hf : ∀ (l : List (Option Nat)) (b : Nat), mz_fs ad M' k b l = mz_fs ad M k b l := by
    intro l
    induction l with
    | nil => intro b; rfl
    | cons o r ih => intro b; cases o <;> simp only [mz_fs, ih, h1]
  obtain ⟨t, n, rs⟩ | ⟨ci, fs⟩ := e
  · match t with
    | 0 => simp only [mz_ent, mz_con, h1]
    | 1 => simp only [mz_ent, mz_con, h1]
    | 2 => simp only [mz_ent, mz_con, h2]
    | t + 3 => simp only [mz_ent, mz_con]
  · simp only [mz_ent, hf]
theorem mz_wl_set {cA ad : Nat → Nat} {M M' : mz_M} {l : List mz_E} {i : Nat} {e : mz_E} (hi : mz_nth l i = some e) (hM : ∀ b, b ≠ i → M'.1 b = M.1 b ∧ M'.2 b = M.2 b) : (mz_wl cA ad M 0 l).set i (ad i, mz_ent cA ad M' i e) = mz_wl cA ad M' 0 l := by
  apply List.ext_getElem?
  intro j
  rw [List.getElem?_set, mz_wl_get, mz_wl_get]
  by_cases h : i = j
  · subst h
    have hlen : i < (mz_wl cA ad M 0 l).length := by
      have h9 : (mz_wl cA ad M 0 l)[i]? = some (ad (0 + i), mz_ent cA ad M (0 + i) e) := by rw [mz_wl_get, hi]; rfl
      exact (List.getElem?_eq_some_iff.mp h9).1
    rw [if_pos rfl, if_pos hlen, hi]
    simp
  · rw [if_neg h]
    cases mz_nth l j with
    | none => rfl
    | some e2 =>
      obtain ⟨a1, a2⟩ := hM j (fun q => h q.symm)
      simp only [Option.map_some, Nat.zero_add, mz_ent_same a1 a2]
theorem mz_w_at {cA ad : Nat → Nat} {M : mz_M} {l : List mz_E} {i : Nat} {e : mz_E} (hi : mz_nth l i = some e) : (mz_wl cA ad M 0 l)[i]? = some (ad i, mz_ent cA ad M i e) := by
  rw [mz_wl_get, hi]
  simp
/-! locals -/
theorem mz_put_len (v : Option Value) : ∀ (ls : mz_L) (i : Nat), (mz_put ls i v).length = ls.length
  | [], i => rfl
  | a :: l, 0 => rfl
  | a :: l, i + 1 => by simp only [mz_put, List.length_cons, mz_put_len v l i]
theorem mz_put_get (v : Option Value) : ∀ (ls : mz_L) (i j : Nat) (w : Value), mz_get (mz_put ls i v) j = some w → (j = i ∧ v = some w) ∨ (¬ j = i ∧ mz_get ls j = some w ∧ (j + 1 = i → mz_wide (some w) = false))
  | [], i, j, w, h => by simp [mz_put, mz_get] at h
  | a :: l, 0, 0, w, h => Or.inl ⟨rfl, h⟩
  | a :: l, 0, j + 1, w, h => Or.inr ⟨by omega, h, fun q => by omega⟩
  | a :: l, 1, 0, w, h => by
    refine Or.inr ⟨by omega, ?_, fun _ => ?_⟩ <;> (simp only [mz_put, mz_get] at h ⊢; unfold mz_nw at h; split at h)
    · cases h
    · cases h
    · exact h
    · cases h
    · cases h
    · next h1 h2 =>
      subst h
      cases w <;> simp_all [mz_wide]
  | a :: l, i + 2, 0, w, h => Or.inr ⟨by omega, h, fun q => by omega⟩
  | a :: l, i + 1, j + 1, w, h => by
    have h2 := mz_put_get v l i j w (by cases i <;> exact h)
    rcases h2 with ⟨h3, h4⟩ | ⟨h3, h4, h5⟩
    · exact Or.inl ⟨by omega, h4⟩
    · exact Or.inr ⟨by omega, h4, fun q => h5 (by omega)⟩
theorem mz_get_lt : ∀ {ls : mz_L} {i : Nat} {v : Value}, mz_get ls i = some v → i < ls.length
  | [], i, v, h => by simp [mz_get] at h
  | a :: l, 0, v, h => by simp
  | a :: l, i + 1, v, h => by
    have := mz_get_lt (ls := l) (i := i) (v := v) h
    simp only [List.length_cons]
    omega
def mz_has (ad : Nat → Nat) (lsR : Array Slot) (nL : Nat) (ls : mz_L) : Prop := lsR.size = nL ∧ lv_wf lsR ∧ ls.length = nL ∧ ∀ (i : Nat) (v : Value), mz_get ls i = some v → lsR[i]? = some (.val (mz_cv ad v))
def mz_as (ad : Nat → Nat) (ls : mz_L) : List (Nat × Value) := (List.range ls.length).filterMap (fun i => (mz_get ls i).map (fun v => (i, mz_cv ad v)))
theorem mz_as_mem {ad : Nat → Nat} {ls : mz_L} {q : Nat × Value} : q ∈ mz_as ad ls ↔ ∃ v, mz_get ls q.1 = some v ∧ q.2 = mz_cv ad v := by
  unfold mz_as
  rw [List.mem_filterMap]
  constructor
  · rintro ⟨i, -, h⟩
    cases hg : mz_get ls i with
    | none => rw [hg] at h; cases h
    | some v =>
      rw [hg] at h
      cases h
      exact ⟨v, hg, rfl⟩
  · rintro ⟨v, h, e⟩
    refine ⟨q.1, List.mem_range.mpr (mz_get_lt h), ?_⟩
    rw [h, Option.map_some, ← e]
theorem mz_has.lv {ad : Nat → Nat} {lsR : Array Slot} {nL : Nat} {ls : mz_L} (h : mz_has ad lsR nL ls) : lv_has lsR nL (mz_as ad ls) := by
  refine ⟨h.1, h.2.1, fun q hq => ?_⟩
  obtain ⟨v, h1, h2⟩ := mz_as_mem.mp hq
  rw [h2]
  exact h.2.2.2 _ _ h1
theorem mz_has.st {ad : Nat → Nat} {lsR ls' : Array Slot} {nL i : Nat} {ls : mz_L} {v : Value} (h : mz_has ad lsR nL ls) (hL : lv_has ls' nL ((i, mz_cv ad v) :: (mz_as ad ls).filter (fun q => !(q.1 == i) && !(q.1 + 1 == i && q.2.category == 2)))) : mz_has ad ls' nL (mz_put ls i (some v)) := by
  refine ⟨hL.1, hL.2.1, (mz_put_len _ _ _).trans h.2.2.1, fun j w hj => ?_⟩
  rcases mz_put_get _ _ _ _ _ hj with ⟨h1, h2⟩ | ⟨hne, hj, h5⟩
  · cases h2
    rw [h1]
    exact hL.2.2 (i, mz_cv ad v) List.mem_cons_self
  · refine hL.2.2 (j, mz_cv ad w) (List.mem_cons_of_mem _ (List.mem_filter.mpr ⟨mz_as_mem.mpr ⟨w, hj, rfl⟩, ?_⟩))
    have h2 : ¬ (j + 1 = i ∧ (mz_cv ad w).category = 2) := by
      rintro ⟨e1, e2⟩
      rw [mz_cv_cat] at e2
      have h6 := h5 e1
      cases w <;> simp [mz_wide, Value.category] at h6 e2
    simp only [Bool.and_eq_true, Bool.not_eq_true', beq_eq_false_iff_ne, ne_eq, Bool.and_eq_false_iff]
    refine ⟨hne, ?_⟩
    by_cases e1 : j + 1 = i
    · exact Or.inr (fun e2 => h2 ⟨e1, e2⟩)
    · exact Or.inl e1
theorem mz_int_some {o : Option Value} {x : Int32} (h : mz_int o = some x) : o = some (.int x) := by
  unfold mz_int at h
  split at h
  · cases h; rfl
  · cases h
theorem mz_ref_some {o : Option Value} {x : Nat} (h : mz_ref o = some x) : o = some (.ref x) := by
  unfold mz_ref at h
  split at h
  · cases h; rfl
  · cases h
theorem mz_long_some {o : Option Value} {x : Int64} (h : mz_long o = some x) : o = some (.long x) := by
  unfold mz_long at h
  split at h
  · cases h; rfl
  · cases h
/-! the locals with which a method begins -/
def mz_args : List Value → mz_L
  | [] => []
  | v :: vs => match mz_wide (some v) with
    | true => some v :: none :: mz_args vs
    | false => some v :: mz_args vs
def mz_pad : Nat → mz_L → mz_L
  | 0, _ => []
  | n + 1, [] => none :: mz_pad n []
  | n + 1, a :: l => a :: mz_pad n l
theorem mz_pad_len : ∀ (n : Nat) (l : mz_L), (mz_pad n l).length = n
  | 0, l => rfl
  | n + 1, [] => by simp only [mz_pad, List.length_cons, mz_pad_len n []]
  | n + 1, a :: l => by simp only [mz_pad, List.length_cons, mz_pad_len n l]
theorem mz_pad_get : ∀ (n : Nat) (l : mz_L) (i : Nat) (v : Value), mz_get (mz_pad n l) i = some v → mz_get l i = some v
  | 0, l, i, v, h => by simp [mz_pad, mz_get] at h
  | n + 1, [], 0, v, h => by simp [mz_pad, mz_get] at h
  | n + 1, [], i + 1, v, h => by
    have := mz_pad_get n [] i v h
    simp [mz_get] at this
  | n + 1, a :: l, 0, v, h => h
  | n + 1, a :: l, i + 1, v, h => mz_pad_get n l i v h
theorem mz_wide_cat (v : Value) : mz_wide (some v) = true ↔ v.category = 2 := by cases v <;> simp [mz_wide, Value.category]
theorem mz_args_get (ad : Nat → Nat) : ∀ (vs : List Value) (b i : Nat) (v : Value), mz_get (mz_args vs) i = some v → (b + i, mz_cv ad v) ∈ lv_args b (vs.map (mz_cv ad))
  | [], b, i, v, h => by simp [mz_args, mz_get] at h
  | w :: vs, b, i, v, h => by
    unfold mz_args at h
    split at h
    · next hw =>
      have hc : (mz_cv ad w).category = 2 := by rw [mz_cv_cat]; exact (mz_wide_cat w).mp hw
      simp only [List.map_cons, lv_args, hc, if_true]
      match i, h with
      | 0, h => simp only [mz_get, Option.some.injEq] at h; rw [h]; exact List.mem_cons_self
      | 1, h => simp [mz_get] at h
      | i + 2, h =>
        have h2 := mz_args_get ad vs (b + 2) i v h
        rw [show b + 2 + i = b + (i + 2) by omega] at h2
        exact List.mem_cons_of_mem _ h2
    · next hw =>
      have hc : ¬ (mz_cv ad w).category = 2 := by rw [mz_cv_cat]; intro q; rw [(mz_wide_cat w).mpr q] at hw; cases hw
      simp only [List.map_cons, lv_args, hc, if_false]
      match i, h with
      | 0, h => simp only [mz_get, Option.some.injEq] at h; rw [h]; exact List.mem_cons_self
      | i + 1, h =>
        have h2 := mz_args_get ad vs (b + 1) i v h
        rw [show b + 1 + i = b + (i + 1) by omega] at h2
        exact List.mem_cons_of_mem _ h2
theorem mz_entry (ad : Nat → Nat) (As : List Value) {n : Nat} (h : (lg_sl (As.map (mz_cv ad))).length ≤ n) : mz_has ad ((lg_sl (As.map (mz_cv ad)) ++ List.replicate (n - (lg_sl (As.map (mz_cv ad))).length) Slot.unset).toArray) n (mz_pad n (mz_args As)) := by
  obtain ⟨h1, h2, h3⟩ := lv_entry (As.map (mz_cv ad)) h
  refine ⟨h1, h2, mz_pad_len _ _, fun i v hi => ?_⟩
  have h4 := mz_args_get ad As 0 i v (mz_pad_get _ _ _ _ hi)
  rw [Nat.zero_add] at h4
  exact h3 _ h4
end
section
/-! a row is what the code has there, and its link is among the words -/
def mz_okj (LK : List Cond) (j : Nat) (w : Cond) : Bool := decide (mz_nth LK j = some w)
def mz_okb (LK : List Cond) (cl : List vw_C) (tyf : Nat → Nat → FieldType) (own : String) (cc : ByteArray) (r : mz_R) : Bool := match r with
  | (pc, ins, len, a, v, j) => (match decode cc pc with
    | .ok q => decide (q = (ins, len))
    | .error _ => false) && (match ins with
    | .iconst n => decide (len = 1) && decide (Int32.ofInt n = v)
    | .bipush n => decide (len = 2) && decide ((Int8.ofInt n).toInt32 = v)
    | .sipush n => decide (len = 3) && decide ((Int16.ofInt n).toInt32 = v)
    | .ldc i => decide (len = 2) && mz_okj LK j (.constant own i v)
    | .ldc_w i => decide (len = 3) && mz_okj LK j (.constant own i v)
    | .lconst n => decide (len = 1) && decide (Int64.ofNat (n : Nat) = v.toInt64)
    | .ldc2_w i => decide (len = 3) && mz_okj LK j (.constantLong own i v.toInt64)
    | .iload i => decide (len = 2) && decide (i = a)
    | .aload i => decide (len = 2) && decide (i = a)
    | .lload i => decide (len = 2) && decide (i = a)
    | .istore i => decide (len = 2) && decide (i = a)
    | .astore i => decide (len = 2) && decide (i = a)
    | .iload_n i => decide (len = 1) && decide ((i : Nat) = a)
    | .aload_n i => decide (len = 1) && decide ((i : Nat) = a)
    | .lload_n i => decide (len = 1) && decide ((i : Nat) = a)
    | .istore_n i => decide (len = 1) && decide ((i : Nat) = a)
    | .astore_n i => decide (len = 1) && decide ((i : Nat) = a)
    | .iinc i n => decide (len = 3) && decide (i = a) && decide (Int32.ofInt n = v)
    | .goto o => decide (len = 3) && decide ((pc : Int) + o = (a : Int))
    | .ifCond _ o => decide (len = 3) && decide ((pc : Int) + o = (a : Int))
    | .if_icmp _ o => decide (len = 3) && decide ((pc : Int) + o = (a : Int))
    | .tableswitch d lo hi offs => decide ((pc : Int) + d = (a : Int)) && decide ((offs.size : Int) = hi - lo + 1) && offs.all (fun o => decide (0 ≤ (pc : Int) + o))
    | .getfield i => decide (len = 3) && (match cl[a / 64]? with
      | some q => decide (a % 64 < q.2.2) && mz_okj LK j (.fieldLink own i (q.2.1 (a % 64)).1 (q.2.1 (a % 64)).2.1 (q.2.1 (a % 64)).2.2.1)
      | none => false)
    | .putfield i => decide (len = 3) && (match cl[a / 64]? with
      | some q => decide (a % 64 < q.2.2) && mz_okj LK j (.fieldLink own i (q.2.1 (a % 64)).1 (q.2.1 (a % 64)).2.1 (q.2.1 (a % 64)).2.2.1) && decide ((q.2.1 (a % 64)).2.2.2 = false) && decide (tyf (a / 64) (a % 64) = if v = 0 then .int else .boolean)
      | none => false)
    | _ => decide (len = (match ins with
      | .invokevirtual _ => 3
      | .invokestatic _ => 3
      | _ => 1)))
/-! one instruction -/
section MZ
variable {p : Program} {l : Launch} {e : Env} {R : Room} {s : State} {m : MethodId} {args : Array Value} {below : List Frame} {meth : Method} {c : Code} {Q : State → Prop}
variable {cc : ByteArray} {nL : Nat} {D : va_G} {cl : List vw_C} {tys : List (ClassId × FieldType)} {A : Nat → Prop} {Ts LK : List Cond} {own : String} {cA ad : Nat → Nat} {SK : List mz_E} {tyf : Nat → Nat → FieldType}
def mz_W (p : Program) (l : Launch) (e : Env) (R : Room) (s : State) (m : MethodId) (args : Array Value) (below : List Frame) (meth : Method) (c : Code) (Q : State → Prop) (nL : Nat) (D : va_G) (cl : List vw_C) (A : Nat → Prop) (cA ad : Nat → Nat) (SK : List mz_E) (k : mz_C) : Prop :=
  ∀ (H : Heap) (locs : List Loc) (lsR : Array Slot), va_P D cl (mz_wl cA ad k.2.2.2 0 SK) H → va_D A (mz_wl cA ad k.2.2.2 0 SK) → va_S A s.heap H locs → mz_has ad lsR nL k.2.1 → W p l e R s m args below meth c H locs 0 0 Q (F0 m k.1 lsR (k.2.2.1.map (mz_cv ad)))
/-- the arrays' kinds, as the tables have them -/
def mz_tys (cA : Nat → Nat) (tys : List (ClassId × FieldType)) (SK : List mz_E) : Prop := tys[0]? = some (cA 0, .int) ∧ tys[1]? = some (cA 1, .byte) ∧ tys[2]? = some (cA 2, .long) ∧ ∀ (r t n : Nat) (rs : List Nat), mz_nth SK r = some (.inl (t + 3, n, rs)) → ∃ ty : FieldType, ty.isReference = true ∧ tys[t + 3]? = some (cA (t + 3), ty)
/-- the classes' fields: their words, types and names -/
def mz_cls (cl : List vw_C) (tyf : Nat → Nat → FieldType) (Ts : List Cond) : Prop := ∀ (ci : Nat) (q : vw_C), cl[ci]? = some q → (∀ w ∈ u_ws q.1 q.2.1 q.2.2, w ∈ Ts) ∧ (∀ k, k < q.2.2 → parseFieldDescriptor (q.2.1 k).2.2.1 = some (tyf ci k)) ∧ ∀ a, a < q.2.2 → ∀ b, b < q.2.2 → a ≠ b → (q.2.1 a).2.1 ≠ (q.2.1 b).2.1
theorem mz_fit_iff {ls : mz_L} {i : Nat} : mz_fit ls i = true ↔ i < ls.length := by simp [mz_fit, Nat.blt_eq]
theorem mz_nth_mem {α : Type} : ∀ {l : List α} {i : Nat} {a : α}, mz_nth l i = some a → a ∈ l
  | [], i, a, h => by simp [mz_nth] at h
  | b :: r, 0, a, h => by simp only [mz_nth, Option.some.injEq] at h; rw [h]; exact List.mem_cons_self
  | b :: r, i + 1, a, h => List.mem_cons_of_mem _ (mz_nth_mem (l := r) h)
theorem mz_okj_in {j : Nat} {w : Cond} (hLK : ∀ w ∈ LK, w ∈ Ts) (h : mz_okj LK j w = true) : w ∈ Ts := hLK w (mz_nth_mem (of_decide_eq_true h))
theorem mz_decode {cc : ByteArray} {pc : Nat} {q : Instr × Nat} (h : (match decode cc pc with
    | .ok q2 => decide (q2 = q)
    | .error _ => false) = true) : decode cc pc = .ok q := by
  split at h
  · next q2 e => rw [e, of_decide_eq_true h]
  · cases h
theorem mz_bin_some {f : Int32 → Int32 → Int32} {P : Int32 → Int32 → List Prop} {pc : Nat} {ls : mz_L} {st : List Value} {M : mz_M} {k : mz_C} {P' : List Prop} (h : mz_bin f P pc ls st M = some (k, P')) : ∃ x y r, st = .int y :: .int x :: r ∧ k = (pc + 1, ls, .int (f x y) :: r, M) ∧ P' = P x y := by
  unfold mz_bin at h
  split at h
  · cases h; exact ⟨_, _, _, rfl, rfl, rfl⟩
  · cases h
theorem mz_if_some {f : Int32 → Prop} {d : ∀ x, Decidable (f x)} {a pc : Nat} {ls : mz_L} {st : List Value} {M : mz_M} {k : mz_C} {P' : List Prop} (h : mz_if f d a pc ls st M = some (k, P')) : ∃ x r, st = .int x :: r ∧ k = (@ite Nat (f x) (d x) a (pc + 3), ls, r, M) := by
  unfold mz_if at h
  split at h
  · cases h; exact ⟨_, _, rfl, rfl⟩
  · cases h
theorem mz_ic_some {f : Int32 → Int32 → Prop} {d : ∀ x y, Decidable (f x y)} {a pc : Nat} {ls : mz_L} {st : List Value} {M : mz_M} {k : mz_C} {P' : List Prop} (h : mz_ic f d a pc ls st M = some (k, P')) : ∃ x y r, st = .int y :: .int x :: r ∧ k = (@ite Nat (f x y) (d x y) a (pc + 3), ls, r, M) := by
  unfold mz_ic at h
  split at h
  · cases h; exact ⟨_, _, _, rfl, rfl⟩
  · cases h
theorem mz_rowI {M : mz_M} {r t n : Nat} {rs : List Nat} {f : Nat → Int32} (ht : t = 0 ∨ t = 1) (e0 : mz_nth SK r = some (.inl (t, n, rs))) : (mz_wl cA ad M 0 SK).set r (ad r, .inl (cA t, n, .inl f)) = mz_wl cA ad (mz_wr M r f) 0 SK := by
  rw [← mz_wl_set (M := M) (M' := mz_wr M r f) e0 (fun b hb => by simp [mz_wr, hb])]
  rcases ht with rfl | rfl <;> simp [mz_ent, mz_con, mz_wr]
theorem mz_rowL {M : mz_M} {r n : Nat} {rs : List Nat} {f : Nat → Int64} (e0 : mz_nth SK r = some (.inl (2, n, rs))) : (mz_wl cA ad M 0 SK).set r (ad r, .inl (cA 2, n, .inr (.inl f))) = mz_wl cA ad (mz_wrl M r f) 0 SK := by
  rw [← mz_wl_set (M := M) (M' := mz_wrl M r f) e0 (fun b hb => by simp [mz_wrl, hb])]
  simp [mz_ent, mz_con, mz_wrl]
theorem mz_rowF {M : mz_M} {r ci k : Nat} {fs : List (Option Nat)} {x : Int32} (e0 : mz_nth SK r = some (.inr (ci, fs))) (hk : mz_nth fs k = some none) : (mz_wl cA ad M 0 SK).set r (ad r, .inr (ci, (mz_fs ad M r 0 fs).set k (.int x))) = mz_wl cA ad (mz_wr M r (upd (M.1 r) k x)) 0 SK := by
  rw [mz_fs_set ad M r x fs 0 k hk, Nat.zero_add, ← mz_wl_set (M := M) (M' := mz_wr M r (upd (M.1 r) k x)) e0 (fun b hb => by simp [mz_wr, hb])]
  simp [mz_ent]
theorem mz_aald {ws : va_W} {H : Heap} {locs : List Loc} {a q0 t0 n pc : Nat} {cB : ClassId} {ty : FieldType} {f : Nat → Option Nat} {i : Int32} {rest : List Value} {ls : Array Slot} (hx : p.tables.exec = Jvm.exec) (hb : c.code = cc) (hK : va_K D cl tys s) (hP : va_P D cl ws H) (hr : ty.isReference = true) (ha : ws[q0]? = some (a, .inl (cB, n, .inr (.inr (.inr (.inr f)))))) (ht : tys[t0]? = some (cB, ty)) (hin : vp_in i n) (hdg : decode cc pc = .ok (.aaload, 1))
    (kk : W p l e R s m args below meth c H locs 0 0 Q (F0 m (pc + 1) ls (va_rf (f i.toNatClampNeg) :: rest))) : W p l e R s m args below meth c H locs 0 0 Q (F0 m pc ls (.int i :: .ref a :: rest)) := by
  have hlt : i.toNatClampNeg < n := Nat.not_le.mp fun q => hin (Or.inr q)
  exact W.aald (v := va_rf (f i.toNatClampNeg)) (ty := ty) hx hb (hP q0 _ ha) ((hK.2 t0 _ ht).1 n (fun j => va_rf (f j))) hr (fun q => by cases q) (by show ¬ (i < 0 ∨ (arrV _ _ _).slots.size ≤ _); rw [arrV_size]; exact hin) (by show (arrV _ _ _).slots[_]? = _; rw [arrV_read _ _ hlt]) rfl rfl hdg kk
set_option maxHeartbeats 4000000 in
/-- a row of the small machine is an instruction's -/
theorem mz_one (hx : p.tables.exec = Jvm.exec) (hb : c.code = cc) (hml : c.maxLocals = nL) (hown : s.vm.findClass own = some m.cls) (hts : ∀ w ∈ Ts, w.before args s = true) (hLK : ∀ w ∈ LK, w ∈ Ts) (hK : va_K D cl tys s) (hty : mz_tys cA tys SK) (hcl : mz_cls cl tyf Ts)
    {pc len a j : Nat} {ins : Instr} {v : Int32} (hok : mz_okb LK cl tyf own cc (pc, ins, len, a, v, j) = true) {ls : mz_L} {st : List Value} {M : mz_M} {k : mz_C} {P : List Prop} (h : mz_step SK ins len a v pc ls st M = some (k, P)) (hP : ∀ x ∈ P, x)
    (kk : mz_W p l e R s m args below meth c Q nL D cl A cA ad SK k) : mz_W p l e R s m args below meth c Q nL D cl A cA ad SK (pc, ls, st, M) := by
  intro H locs lsR h1 h2 h3 h4
  dsimp only at h1 h2 h3 h4
  unfold mz_okb at hok
  dsimp only at hok
  rw [Bool.and_eq_true] at hok
  obtain ⟨hd, hok⟩ := hok
  replace hd := mz_decode hd
  have go : ∀ {k2 : mz_C}, k2 = k → k2.2.2.2 = M → k2.2.1 = ls → W p l e R s m args below meth c H locs 0 0 Q (F0 m k.1 lsR (k.2.2.1.map (mz_cv ad))) := by
    intro k2 e1 e2 e3
    subst e1
    exact kk H locs lsR (by rw [e2]; exact h1) (by rw [e2]; exact h2) h3 (by rw [e3]; exact h4)
  cases ins
  case iconst n =>
    dsimp only [mz_step] at h
    simp only [Bool.and_eq_true, decide_eq_true_eq] at hok
    cases h
    obtain ⟨rfl, hv⟩ := hok
    exact lv_iconst hx hb hd hv (go rfl rfl rfl)
  case bipush n =>
    dsimp only [mz_step] at h
    simp only [Bool.and_eq_true, decide_eq_true_eq] at hok
    cases h
    obtain ⟨rfl, hv⟩ := hok
    exact lv_bipush hx hb hd hv (go rfl rfl rfl)
  case sipush n =>
    dsimp only [mz_step] at h
    simp only [Bool.and_eq_true, decide_eq_true_eq] at hok
    cases h
    obtain ⟨rfl, hv⟩ := hok
    exact lv_sipush hx hb hd hv (go rfl rfl rfl)
  case lconst n =>
    dsimp only [mz_step] at h
    simp only [Bool.and_eq_true, decide_eq_true_eq] at hok
    cases h
    obtain ⟨rfl, hv⟩ := hok
    exact lv_lconst hx hb hd hv (go rfl rfl rfl)
  case ldc i =>
    dsimp only [mz_step] at h
    simp only [Bool.and_eq_true, decide_eq_true_eq] at hok
    cases h
    obtain ⟨rfl, hv⟩ := hok
    exact lv_ldc hx hb hown (hts _ (mz_okj_in hLK hv)) hd (go rfl rfl rfl)
  case ldc_w i =>
    dsimp only [mz_step] at h
    simp only [Bool.and_eq_true, decide_eq_true_eq] at hok
    cases h
    obtain ⟨rfl, hv⟩ := hok
    exact lv_ldcw hx hb hown (hts _ (mz_okj_in hLK hv)) hd (go rfl rfl rfl)
  case ldc2_w i =>
    dsimp only [mz_step] at h
    simp only [Bool.and_eq_true, decide_eq_true_eq] at hok
    cases h
    obtain ⟨rfl, hv⟩ := hok
    exact lv_ldc2 hx hb hown (hts _ (mz_okj_in hLK hv)) hd (go rfl rfl rfl)
  case iload i =>
    dsimp only [mz_step] at h
    simp only [Bool.and_eq_true, decide_eq_true_eq] at hok
    obtain ⟨rfl, hi⟩ := hok
    split at h
    · next x e0 =>
      cases h
      have hg := h4.2.2.2 _ _ (mz_int_some e0)
      subst hi
      exact lv_iload hx hb hd hg (go rfl rfl rfl)
    · cases h
  case aload i =>
    dsimp only [mz_step] at h
    simp only [Bool.and_eq_true, decide_eq_true_eq] at hok
    obtain ⟨rfl, hi⟩ := hok
    split at h
    · next x e0 =>
      cases h
      have hg := h4.2.2.2 _ _ (mz_ref_some e0)
      subst hi
      exact lv_aload hx hb hd hg (go rfl rfl rfl)
    · cases h
  case lload i =>
    dsimp only [mz_step] at h
    simp only [Bool.and_eq_true, decide_eq_true_eq] at hok
    obtain ⟨rfl, hi⟩ := hok
    split at h
    · next x e0 =>
      cases h
      have hg := h4.2.2.2 _ _ (mz_long_some e0)
      subst hi
      exact lv_lload hx hb hd hg (go rfl rfl rfl)
    · cases h
  case iload_n i =>
    dsimp only [mz_step] at h
    simp only [Bool.and_eq_true, decide_eq_true_eq] at hok
    obtain ⟨rfl, hi⟩ := hok
    split at h
    · next x e0 =>
      cases h
      have hg := h4.2.2.2 _ _ (mz_int_some e0)
      skip
      exact lv_iload_n hx hb hd hi hg (go rfl rfl rfl)
    · cases h
  case aload_n i =>
    dsimp only [mz_step] at h
    simp only [Bool.and_eq_true, decide_eq_true_eq] at hok
    obtain ⟨rfl, hi⟩ := hok
    split at h
    · next x e0 =>
      cases h
      have hg := h4.2.2.2 _ _ (mz_ref_some e0)
      skip
      exact lv_aload_n hx hb hd hi hg (go rfl rfl rfl)
    · cases h
  case lload_n i =>
    dsimp only [mz_step] at h
    simp only [Bool.and_eq_true, decide_eq_true_eq] at hok
    obtain ⟨rfl, hi⟩ := hok
    split at h
    · next x e0 =>
      cases h
      have hg := h4.2.2.2 _ _ (mz_long_some e0)
      skip
      exact lv_lload_n hx hb hd hi hg (go rfl rfl rfl)
    · cases h
  case istore i =>
    dsimp only [mz_step] at h
    simp only [Bool.and_eq_true, decide_eq_true_eq] at hok
    obtain ⟨rfl, hi⟩ := hok
    split at h
    · next x r =>
      split at h
      · next hfit =>
        cases h
        have hfl := mz_fit_iff.mp hfit
        subst hi
        exact lv_istore hx hb hd h4.lv (by have := h4.2.2.1; omega) rfl (fun ls' hl' => kk H locs ls' h1 h2 h3 (h4.st hl'))
      · cases h
    · cases h
  case astore i =>
    dsimp only [mz_step] at h
    simp only [Bool.and_eq_true, decide_eq_true_eq] at hok
    obtain ⟨rfl, hi⟩ := hok
    split at h
    · next x r =>
      split at h
      · next hfit =>
        cases h
        have hfl := mz_fit_iff.mp hfit
        subst hi
        exact lv_astore hx hb hd h4.lv (by have := h4.2.2.1; omega) rfl (fun ls' hl' => kk H locs ls' h1 h2 h3 (h4.st hl'))
      · cases h
    · cases h
  case istore_n i =>
    dsimp only [mz_step] at h
    simp only [Bool.and_eq_true, decide_eq_true_eq] at hok
    obtain ⟨rfl, hi⟩ := hok
    split at h
    · next x r =>
      split at h
      · next hfit =>
        cases h
        have hfl := mz_fit_iff.mp hfit
        skip
        exact lv_istore_n hx hb hd hi h4.lv (by have := h4.2.2.1; omega) rfl (fun ls' hl' => kk H locs ls' h1 h2 h3 (h4.st hl'))
      · cases h
    · cases h
  case astore_n i =>
    dsimp only [mz_step] at h
    simp only [Bool.and_eq_true, decide_eq_true_eq] at hok
    obtain ⟨rfl, hi⟩ := hok
    split at h
    · next x r =>
      split at h
      · next hfit =>
        cases h
        have hfl := mz_fit_iff.mp hfit
        skip
        exact lv_astore_n hx hb hd hi h4.lv (by have := h4.2.2.1; omega) rfl (fun ls' hl' => kk H locs ls' h1 h2 h3 (h4.st hl'))
      · cases h
    · cases h
  case iinc i n =>
    dsimp only [mz_step] at h
    simp only [Bool.and_eq_true, decide_eq_true_eq] at hok
    obtain ⟨⟨rfl, hi⟩, hv⟩ := hok
    split at h
    · next x e0 =>
      split at h
      · next hfit =>
        cases h
        have hfl := mz_fit_iff.mp hfit
        subst hi
        obtain ⟨k0, hk0⟩ := List.getElem?_of_mem (mz_as_mem (ad := ad) (q := (i, .int x)) |>.mpr ⟨.int x, mz_int_some e0, rfl⟩)
        exact lv_iinc hx hb hd h4.lv hk0 (by rw [hv]) (by have := h4.2.2.1; omega) rfl (fun ls' hl' => kk H locs ls' h1 h2 h3 (h4.st hl'))
      · cases h
    · cases h
  case iadd =>
    simp only [decide_eq_true_eq] at hok
    subst hok
    obtain ⟨x, y, r, rfl, rfl, -⟩ := mz_bin_some h
    exact lv_iadd hx hb hd (go rfl rfl rfl)
  case isub =>
    simp only [decide_eq_true_eq] at hok
    subst hok
    obtain ⟨x, y, r, rfl, rfl, -⟩ := mz_bin_some h
    exact lv_isub hx hb hd (go rfl rfl rfl)
  case imul =>
    simp only [decide_eq_true_eq] at hok
    subst hok
    obtain ⟨x, y, r, rfl, rfl, -⟩ := mz_bin_some h
    exact lv_imul hx hb hd (go rfl rfl rfl)
  case iand =>
    simp only [decide_eq_true_eq] at hok
    subst hok
    obtain ⟨x, y, r, rfl, rfl, -⟩ := mz_bin_some h
    exact lv_iand hx hb hd (go rfl rfl rfl)
  case ior =>
    simp only [decide_eq_true_eq] at hok
    subst hok
    obtain ⟨x, y, r, rfl, rfl, -⟩ := mz_bin_some h
    exact lv_ior hx hb hd (go rfl rfl rfl)
  case ixor =>
    simp only [decide_eq_true_eq] at hok
    subst hok
    obtain ⟨x, y, r, rfl, rfl, -⟩ := mz_bin_some h
    exact lv_ixor hx hb hd (go rfl rfl rfl)
  case ishl =>
    simp only [decide_eq_true_eq] at hok
    subst hok
    obtain ⟨x, y, r, rfl, rfl, -⟩ := mz_bin_some h
    exact lv_ishl hx hb hd (go rfl rfl rfl)
  case ishr =>
    simp only [decide_eq_true_eq] at hok
    subst hok
    obtain ⟨x, y, r, rfl, rfl, -⟩ := mz_bin_some h
    exact lv_ishr hx hb hd (go rfl rfl rfl)
  case iushr =>
    simp only [decide_eq_true_eq] at hok
    subst hok
    obtain ⟨x, y, r, rfl, rfl, -⟩ := mz_bin_some h
    exact lv_iushr hx hb hd rfl (go rfl rfl rfl)
  case idiv =>
    simp only [decide_eq_true_eq] at hok
    subst hok
    obtain ⟨x, y, r, rfl, rfl, rfl⟩ := mz_bin_some h
    exact lv_idiv hx hb hd (hP _ List.mem_cons_self) (go rfl rfl rfl)
  case irem =>
    simp only [decide_eq_true_eq] at hok
    subst hok
    obtain ⟨x, y, r, rfl, rfl, rfl⟩ := mz_bin_some h
    exact lv_irem hx hb hd (hP _ List.mem_cons_self) (go rfl rfl rfl)
  case ladd =>
    simp only [decide_eq_true_eq] at hok
    subst hok
    dsimp only [mz_step] at h
    split at h
    · cases h
      exact lv_ladd hx hb hd (go rfl rfl rfl)
    · cases h
  case lcmp =>
    simp only [decide_eq_true_eq] at hok
    subst hok
    dsimp only [mz_step] at h
    split at h
    · cases h
      exact W.lcmp hx hb hd (go rfl rfl rfl)
    · cases h
  case i2l =>
    simp only [decide_eq_true_eq] at hok
    subst hok
    dsimp only [mz_step] at h
    split at h
    · cases h
      exact lv_i2l hx hb hd rfl (go rfl rfl rfl)
    · cases h
  case l2i =>
    simp only [decide_eq_true_eq] at hok
    subst hok
    dsimp only [mz_step] at h
    split at h
    · cases h
      exact lv_l2i hx hb hd rfl (go rfl rfl rfl)
    · cases h
  case i2b =>
    simp only [decide_eq_true_eq] at hok
    subst hok
    dsimp only [mz_step] at h
    split at h
    · cases h
      exact lv_i2b hx hb hd rfl (go rfl rfl rfl)
    · cases h
  case pop =>
    simp only [decide_eq_true_eq] at hok
    subst hok
    dsimp only [mz_step] at h
    split at h
    · cases h
      exact lv_pop hx hb hd rfl (go rfl rfl rfl)
    · cases h
  case dup =>
    simp only [decide_eq_true_eq] at hok
    subst hok
    dsimp only [mz_step] at h
    split at h
    · cases h
      exact lv_dup hx hb hd rfl (go rfl rfl rfl)
    · cases h
      exact lv_dup hx hb hd rfl (go rfl rfl rfl)
    · cases h
  case dup_x1 =>
    simp only [decide_eq_true_eq] at hok
    subst hok
    dsimp only [mz_step] at h
    split at h
    · cases h
      exact lv_dup_x1 hx hb hd rfl rfl (go rfl rfl rfl)
    · cases h
  case dup2 =>
    simp only [decide_eq_true_eq] at hok
    subst hok
    dsimp only [mz_step] at h
    split at h
    · cases h
      exact lv_dup2_11 hx hb hd rfl rfl (go rfl rfl rfl)
    · cases h
  case goto o =>
    dsimp only [mz_step] at h
    simp only [Bool.and_eq_true, decide_eq_true_eq] at hok
    obtain ⟨rfl, ht⟩ := hok
    cases h
    exact lv_goto hx hb hd ht (go rfl rfl rfl)
  case ifCond cn o =>
    simp only [Bool.and_eq_true, decide_eq_true_eq] at hok
    obtain ⟨rfl, ht⟩ := hok
    cases cn
    case eq =>
      obtain ⟨x, r, rfl, rfl⟩ := mz_if_some h
      have g := kk H locs lsR h1 h2 h3 h4
      dsimp only at g
      exact lv_if_eq hx hb hd ht (fun hc => by rw [if_pos hc] at g; exact g) (fun hc => by rw [if_neg hc] at g; exact g)
    case ne =>
      obtain ⟨x, r, rfl, rfl⟩ := mz_if_some h
      have g := kk H locs lsR h1 h2 h3 h4
      dsimp only at g
      exact lv_if_ne hx hb hd ht (fun hc => by rw [if_pos hc] at g; exact g) (fun hc => by rw [if_neg (fun q => q hc)] at g; exact g)
    case lt =>
      obtain ⟨x, r, rfl, rfl⟩ := mz_if_some h
      have g := kk H locs lsR h1 h2 h3 h4
      dsimp only at g
      exact lv_if_lt hx hb hd ht (fun hc => by rw [if_pos hc] at g; exact g) (fun hc => by rw [if_neg hc] at g; exact g)
    case ge =>
      obtain ⟨x, r, rfl, rfl⟩ := mz_if_some h
      have g := kk H locs lsR h1 h2 h3 h4
      dsimp only at g
      exact lv_if_ge hx hb hd ht (fun hc => by rw [if_pos hc] at g; exact g) (fun hc => by rw [if_neg hc] at g; exact g)
    case gt =>
      obtain ⟨x, r, rfl, rfl⟩ := mz_if_some h
      have g := kk H locs lsR h1 h2 h3 h4
      dsimp only at g
      exact lv_if_gt hx hb hd ht (fun hc => by rw [if_pos hc] at g; exact g) (fun hc => by rw [if_neg hc] at g; exact g)
    case le =>
      obtain ⟨x, r, rfl, rfl⟩ := mz_if_some h
      have g := kk H locs lsR h1 h2 h3 h4
      dsimp only at g
      exact lv_if_le hx hb hd ht (fun hc => by rw [if_pos hc] at g; exact g) (fun hc => by rw [if_neg hc] at g; exact g)
  case if_icmp cn o =>
    simp only [Bool.and_eq_true, decide_eq_true_eq] at hok
    obtain ⟨rfl, ht⟩ := hok
    cases cn
    case eq =>
      obtain ⟨x, y, r, rfl, rfl⟩ := mz_ic_some h
      have g := kk H locs lsR h1 h2 h3 h4
      dsimp only at g
      exact lv_icmp_eq hx hb hd ht (fun hc => by rw [if_pos hc] at g; exact g) (fun hc => by rw [if_neg hc] at g; exact g)
    case ne =>
      obtain ⟨x, y, r, rfl, rfl⟩ := mz_ic_some h
      have g := kk H locs lsR h1 h2 h3 h4
      dsimp only at g
      exact lv_icmp_ne hx hb hd ht (fun hc => by rw [if_pos hc] at g; exact g) (fun hc => by rw [if_neg (fun q => q hc)] at g; exact g)
    case lt =>
      obtain ⟨x, y, r, rfl, rfl⟩ := mz_ic_some h
      have g := kk H locs lsR h1 h2 h3 h4
      dsimp only at g
      exact lv_icmp_lt hx hb hd ht (fun hc => by rw [if_pos hc] at g; exact g) (fun hc => by rw [if_neg hc] at g; exact g)
    case ge =>
      obtain ⟨x, y, r, rfl, rfl⟩ := mz_ic_some h
      have g := kk H locs lsR h1 h2 h3 h4
      dsimp only at g
      exact lv_icmp_ge hx hb hd ht (fun hc => by rw [if_pos hc] at g; exact g) (fun hc => by rw [if_neg hc] at g; exact g)
    case gt =>
      obtain ⟨x, y, r, rfl, rfl⟩ := mz_ic_some h
      have g := kk H locs lsR h1 h2 h3 h4
      dsimp only at g
      exact lv_icmp_gt hx hb hd ht (fun hc => by rw [if_pos hc] at g; exact g) (fun hc => by rw [if_neg hc] at g; exact g)
    case le =>
      obtain ⟨x, y, r, rfl, rfl⟩ := mz_ic_some h
      have g := kk H locs lsR h1 h2 h3 h4
      dsimp only at g
      exact lv_icmp_le hx hb hd ht (fun hc => by rw [if_pos hc] at g; exact g) (fun hc => by rw [if_neg hc] at g; exact g)
  case tableswitch d lo hi offs =>
    dsimp only [mz_step] at h
    simp only [Bool.and_eq_true, decide_eq_true_eq] at hok
    obtain ⟨⟨ht, hsz⟩, hall⟩ := hok
    split at h
    · next x r =>
      cases h
      have g := kk H locs lsR h1 h2 h3 h4
      dsimp only at g
      by_cases hc : x.toInt < lo ∨ hi < x.toInt
      · rw [if_pos hc] at g
        exact lv_tableOut hx hb hd hc ht g
      · rw [if_neg hc] at g
        have hlt : (x.toInt - lo).toNat < offs.size := by omega
        have hg : offs[(x.toInt - lo).toNat]? = some (offs.getD (x.toInt - lo).toNat 0) := by
          simp [Array.getD, hlt]
        have h0 : (0 : Int) ≤ (pc : Int) + offs.getD (x.toInt - lo).toNat 0 := by
          have h9 := Array.all_eq_true.mp hall (x.toInt - lo).toNat hlt
          simpa [Array.getD, hlt] using h9
        exact lv_tableIn hx hb hd (fun q => hc (Or.inl q)) (fun q => hc (Or.inr q)) hg (by omega) g
    · cases h
  case iaload =>
    simp only [decide_eq_true_eq] at hok
    subst hok
    dsimp only [mz_step] at h
    split at h
    · next i r q =>
      split at h
      · next n rs e0 =>
        cases h
        have hw : (mz_wl cA ad M 0 SK)[r]? = some (ad r, .inl (cA 0, n, .inl (M.1 r))) := mz_w_at e0
        exact va_iald hx hb hK h1 r 0 hw hty.1 (hP _ List.mem_cons_self) hd (go rfl rfl rfl)
      · cases h
    · cases h
  case baload =>
    simp only [decide_eq_true_eq] at hok
    subst hok
    dsimp only [mz_step] at h
    split at h
    · next i r q =>
      split at h
      · next n rs e0 =>
        cases h
        have hw : (mz_wl cA ad M 0 SK)[r]? = some (ad r, .inl (cA 1, n, .inl (M.1 r))) := mz_w_at e0
        exact va_bald hx hb hK h1 r 1 hw hty.2.1 (hP _ List.mem_cons_self) hd (go rfl rfl rfl)
      · cases h
    · cases h
  case laload =>
    simp only [decide_eq_true_eq] at hok
    subst hok
    dsimp only [mz_step] at h
    split at h
    · next i r q =>
      split at h
      · next n rs e0 =>
        cases h
        have hw : (mz_wl cA ad M 0 SK)[r]? = some (ad r, .inl (cA 2, n, .inr (.inl (M.2 r)))) := mz_w_at e0
        exact va_lald hx hb hK h1 r 2 hw hty.2.2.1 (hP _ List.mem_cons_self) hd (go rfl rfl rfl)
      · cases h
    · cases h
  case aaload =>
    simp only [decide_eq_true_eq] at hok
    subst hok
    dsimp only [mz_step] at h
    split at h
    · next i r q =>
      split at h
      · next t n rs e0 =>
        cases h
        have hin : vp_in i n := hP _ List.mem_cons_self
        have hlen : rs.length = n := hP _ (List.mem_cons_of_mem _ List.mem_cons_self)
        have hw : (mz_wl cA ad M 0 SK)[r]? = some (ad r, .inl (cA (t + 3), n, .inr (.inr (.inr (.inr (fun j => if j < rs.length then some (ad (rs.getD j 0)) else none)))))) := mz_w_at e0
        obtain ⟨ty, hr, ht⟩ := hty.2.2.2 r t n rs e0
        refine mz_aald hx hb hK h1 hr hw ht hin hd ?_
        have hlt : i.toNatClampNeg < rs.length := by rw [hlen]; exact Nat.not_le.mp fun q => hin (Or.inr q)
        rw [if_pos hlt]
        exact go rfl rfl rfl
      · cases h
    · cases h
  case iastore =>
    simp only [decide_eq_true_eq] at hok
    subst hok
    dsimp only [mz_step] at h
    split at h
    · next x i r q =>
      split at h
      · next n rs e0 =>
        cases h
        have hw : (mz_wl cA ad M 0 SK)[r]? = some (ad r, .inl (cA 0, n, .inl (M.1 r))) := mz_w_at e0
        refine va_iast hx hb hK h1 h2 h3 r 0 hw hty.1 (hP _ List.mem_cons_self) hd (fun H1 locs1 g1 g2 g3 => ?_)
        rw [mz_rowI (Or.inl rfl) e0] at g1 g2
        exact kk H1 locs1 lsR g1 g2 g3 h4
      · cases h
    · cases h
  case bastore =>
    simp only [decide_eq_true_eq] at hok
    subst hok
    dsimp only [mz_step] at h
    split at h
    · next x i r q =>
      split at h
      · next n rs e0 =>
        cases h
        have hw : (mz_wl cA ad M 0 SK)[r]? = some (ad r, .inl (cA 1, n, .inl (M.1 r))) := mz_w_at e0
        refine va_bast hx hb hK h1 h2 h3 r 1 hw hty.2.1 (hP _ List.mem_cons_self) hd (fun H1 locs1 g1 g2 g3 => ?_)
        rw [mz_rowI (Or.inr rfl) e0] at g1 g2
        exact kk H1 locs1 lsR g1 g2 g3 h4
      · cases h
    · cases h
  case lastore =>
    simp only [decide_eq_true_eq] at hok
    subst hok
    dsimp only [mz_step] at h
    split at h
    · next x i r q =>
      split at h
      · next n rs e0 =>
        cases h
        have hw : (mz_wl cA ad M 0 SK)[r]? = some (ad r, .inl (cA 2, n, .inr (.inl (M.2 r)))) := mz_w_at e0
        refine va_last hx hb hK h1 h2 h3 r 2 hw hty.2.2.1 (hP _ List.mem_cons_self) hd (fun H1 locs1 g1 g2 g3 => ?_)
        rw [mz_rowL e0] at g1 g2
        exact kk H1 locs1 lsR g1 g2 g3 h4
      · cases h
    · cases h
  case arraylength =>
    simp only [decide_eq_true_eq] at hok
    subst hok
    dsimp only [mz_step] at h
    split at h
    · next r q =>
      split at h
      · next t n rs e0 =>
        cases h
        have hw : (mz_wl cA ad M 0 SK)[r]? = some (ad r, .inl (cA t, n, mz_con ad M r t rs)) := mz_w_at e0
        match t, hw, e0 with
        | 0, hw, _ => exact va_alen hx hb hK h1 r 0 hw hty.1 rfl hd (go rfl rfl rfl)
        | 1, hw, _ => exact va_alen hx hb hK h1 r 1 hw hty.2.1 rfl hd (go rfl rfl rfl)
        | 2, hw, _ => exact va_alen hx hb hK h1 r 2 hw hty.2.2.1 rfl hd (go rfl rfl rfl)
        | t + 3, hw, e0 =>
          obtain ⟨ty, -, ht⟩ := hty.2.2.2 r t n rs e0
          exact va_alen hx hb hK h1 r (t + 3) hw ht rfl hd (go rfl rfl rfl)
      · cases h
    · cases h
  case getfield i =>
    dsimp only [mz_step] at h
    rw [Bool.and_eq_true] at hok
    obtain ⟨hlen, hok⟩ := hok
    simp only [decide_eq_true_eq] at hlen
    subst hlen
    split at h
    · next r q =>
      split at h
      · next ci fs e0 =>
        split at hok
        · next q9 e9 =>
          simp only [Bool.and_eq_true, decide_eq_true_eq] at hok
          obtain ⟨hlt, hj⟩ := hok
          have hw : (mz_wl cA ad M 0 SK)[r]? = some (ad r, .inr (ci, mz_fs ad M r 0 fs)) := mz_w_at e0
          split at h
          · next ek =>
            split at h
            · next hbe =>
              cases h
              have hv : (mz_fs ad M r 0 fs)[a % 64]? = some (.int (M.1 r (a % 64))) := by rw [mz_fs_get, ek]; simp
              have hci := Nat.eq_of_beq_eq_true hbe
              subst hci
              exact va_get (C := q9.1) (T := q9.2.1) (N := q9.2.2) hx hb hts (hcl _ _ e9).1 hown hK h1 r hw e9 (a % 64) hlt (hts _ (mz_okj_in hLK hj)) (fun _ h9 => h9) hv hd (go rfl rfl rfl)
            · cases h
          · next z ek =>
            split at h
            · next hbe =>
              cases h
              have hv : (mz_fs ad M r 0 fs)[a % 64]? = some (.ref (ad z)) := by rw [mz_fs_get, ek]; simp
              have hci := Nat.eq_of_beq_eq_true hbe
              subst hci
              exact va_get (C := q9.1) (T := q9.2.1) (N := q9.2.2) hx hb hts (hcl _ _ e9).1 hown hK h1 r hw e9 (a % 64) hlt (hts _ (mz_okj_in hLK hj)) (fun _ h9 => h9) hv hd (go rfl rfl rfl)
            · cases h
          · cases h
        · cases hok
      · cases h
    · cases h
  case putfield i =>
    dsimp only [mz_step] at h
    rw [Bool.and_eq_true] at hok
    obtain ⟨hlen, hok⟩ := hok
    simp only [decide_eq_true_eq] at hlen
    subst hlen
    split at h
    · next x r q =>
      split at h
      · next ci fs e0 =>
        split at hok
        · next q9 e9 =>
          simp only [Bool.and_eq_true, decide_eq_true_eq] at hok
          obtain ⟨⟨⟨hlt, hj⟩, hfin⟩, htf⟩ := hok
          have hw : (mz_wl cA ad M 0 SK)[r]? = some (ad r, .inr (ci, mz_fs ad M r 0 fs)) := mz_w_at e0
          split at h
          · next ek =>
            split at h
            · next hbe =>
              cases h
              have hci := Nat.eq_of_beq_eq_true hbe
              subst hci
              obtain ⟨c1, c2, c3⟩ := hcl _ _ e9
              have hnf : narrow (tyf (a / 64) (a % 64)) (.int x) = .int x ∧ fits (tyf (a / 64) (a % 64)) (.int x) = true := by
                rw [htf]
                by_cases hv0 : v = 0
                · rw [if_pos hv0]; exact ⟨rfl, rfl⟩
                · rw [if_neg hv0]
                  have hbo : x = 0 ∨ x = 1 := by
                    split at hP
                    · next hz =>
                      exact absurd (Int32.toBitVec_inj.mp (BitVec.eq_of_toNat_eq hz)) hv0
                    · exact hP _ List.mem_cons_self
                  rcases hbo with q | q
                  · subst q; exact ⟨by decide +kernel, by decide +kernel⟩
                  · subst q; exact ⟨by decide +kernel, by decide +kernel⟩
              refine va_put (C := q9.1) (T := q9.2.1) (N := q9.2.2) hx hb hts c1 (tyf (a / 64)) c2 c3 hown hK h1 h2 h3 r hw e9 (a % 64) hlt (hts _ (mz_okj_in hLK hj)) (fun _ h9 => h9) hfin (c2 _ hlt) hnf.1 hnf.2 (by rw [mz_fs_len]; exact mz_nth_lt ek) hd (fun H1 locs1 g1 g2 g3 => ?_)
              rw [show mz_cv ad (Value.int x) = .int x from rfl, mz_rowF e0 ek] at g1 g2
              exact kk H1 locs1 lsR g1 g2 g3 h4
            · cases h
          · cases h
        · cases hok
      · cases h
    · cases h
  all_goals (dsimp only [mz_step] at h; cases h)
end MZ
end
section
/-! runs of the small machine -/
def mz_y (I : mz_I) : MethodName := I.1
def mz_cc (I : mz_I) : ByteArray := I.2.1
def mz_nL (I : mz_I) : Nat := I.2.2.1
def mz_rt (I : mz_I) : Option FieldType := I.2.2.2.1
def mz_sta (I : mz_I) : Bool := I.2.2.2.2.1
def mz_ci (I : mz_I) : Nat := I.2.2.2.2.2.1
def mz_np (I : mz_I) : Nat := I.2.2.2.2.2.2.1
def mz_fr (I : mz_I) : Nat := I.2.2.2.2.2.2.2.1
def mz_lo (I : mz_I) : Nat := I.2.2.2.2.2.2.2.2.1
def mz_rows (I : mz_I) : List mz_R := I.2.2.2.2.2.2.2.2.2
abbrev mz_O : Type := Option Value × mz_M
/-- what a row that calls or returns does; otherwise a step -/
def mz_do (SK : List mz_E) (tab : List mz_I) (run : mz_I → mz_C → mz_O → Prop) (I : mz_I) (r : mz_R) (k : mz_C) (res : mz_O) : Prop := match r.2.1 with
  | .ireturn => ∃ x : Int32, k.2.2.1 = [.int x] ∧ res = (some (.int x), k.2.2.2) ∧ (mz_rt I = some .int ∨ (mz_rt I = some .boolean ∧ (x = 0 ∨ x = 1)))
  | .lreturn => ∃ x : Int64, k.2.2.1 = [.long x] ∧ res = (some (.long x), k.2.2.2) ∧ mz_rt I = some .long
  | .return_ => k.2.2.1 = [] ∧ res = (none, k.2.2.2) ∧ mz_rt I = none
  | .invokevirtual _ => ∃ (J : mz_I) (As : List Value) (b : Nat) (rest : List Value) (fs : List (Option Nat)) (r1 : mz_O), mz_nth tab r.2.2.2.1 = some J ∧ k.2.2.1 = As.reverse ++ .ref b :: rest ∧ As.length = mz_np J ∧ mz_sta J = false ∧ mz_nth SK b = some (.inr (mz_ci J, fs)) ∧ (rest.map fun v => v.category).sum ≤ 8 ∧ (lg_sl (Value.ref b :: As)).length ≤ mz_nL J ∧ run J (0, mz_pad (mz_nL J) (mz_args (.ref b :: As)), [], k.2.2.2) r1 ∧ run I (k.1 + 3, k.2.1, r1.1.toList ++ rest, r1.2) res
  | .invokestatic _ => (∃ (J : mz_I) (As : List Value) (rest : List Value) (r1 : mz_O), mz_nth tab r.2.2.2.1 = some J ∧ ¬ r.2.2.2.1 = 1000 ∧ ¬ r.2.2.2.1 = 1001 ∧ k.2.2.1 = As.reverse ++ rest ∧ As.length = mz_np J ∧ mz_sta J = true ∧ (rest.map fun v => v.category).sum ≤ 8 ∧ (lg_sl As).length ≤ mz_nL J ∧ run J (0, mz_pad (mz_nL J) (mz_args As), [], k.2.2.2) r1 ∧ run I (k.1 + 3, k.2.1, r1.1.toList ++ rest, r1.2) res) ∨
      (∃ (sp dp n : Int32) (b0 b n0 n1 : Nat) (rs0 rs1 : List Nat) (rest : List Value), r.2.2.2.1 = 1000 ∧ k.2.2.1 = .int n :: .int dp :: .ref b :: .int sp :: .ref b0 :: rest ∧ mz_nth SK b0 = some (.inl (0, n0, rs0)) ∧ mz_nth SK b = some (.inl (0, n1, rs1)) ∧ ¬ sp < 0 ∧ ¬ dp < 0 ∧ ¬ n < 0 ∧ sp.toNatClampNeg + n.toNatClampNeg ≤ n0 ∧ dp.toNatClampNeg + n.toNatClampNeg ≤ n1 ∧ (rest.map fun v => v.category).sum ≤ 8 ∧ run I (k.1 + 3, k.2.1, rest, mz_wr k.2.2.2 b (va_cpy (k.2.2.2.1 b0) (k.2.2.2.1 b) sp.toNatClampNeg dp.toNatClampNeg n.toNatClampNeg)) res) ∨
      ∃ (x y : Int32) (rest : List Value), r.2.2.2.1 = 1001 ∧ k.2.2.1 = .int y :: .int x :: rest ∧ (rest.map fun v => v.category).sum ≤ 8 ∧ run I (k.1 + 3, k.2.1, .int (if y < x then y else x) :: rest, k.2.2.2) res
  | ins => ∃ (k2 : mz_C) (P : List Prop), mz_step SK ins r.2.2.1 r.2.2.2.1 r.2.2.2.2.1 k.1 k.2.1 k.2.2.1 k.2.2.2 = some (k2, P) ∧ (∀ x ∈ P, x) ∧ run I k2 res
def mz_run (SK : List mz_E) (tab : List mz_I) : Nat → mz_I → mz_C → mz_O → Prop
  | 0, _, _, _ => False
  | n + 1, I, k, res => ∃ r : mz_R, mz_find k.1 (mz_rows I) = some r ∧ mz_do SK tab (mz_run SK tab n) I r k res
theorem mz_do_mono {SK : List mz_E} {tab : List mz_I} {run run' : mz_I → mz_C → mz_O → Prop} (h : ∀ I k res, run I k res → run' I k res) {I : mz_I} {r : mz_R} {k : mz_C} {res : mz_O} (hd : mz_do SK tab run I r k res) : mz_do SK tab run' I r k res := by
  unfold mz_do at hd ⊢
  split at hd
  · exact hd
  · exact hd
  · exact hd
  · obtain ⟨J, As, b, rest, fs, r1, a1, a2, a3, a4, a5, a6, a7, a8, a9⟩ := hd
    exact ⟨J, As, b, rest, fs, r1, a1, a2, a3, a4, a5, a6, a7, h _ _ _ a8, h _ _ _ a9⟩
  · rcases hd with ⟨J, As, rest, r1, a1, a0, a0', a2, a3, a4, a6, a7, a8, a9⟩ | ⟨sp, dp, n, b0, b, n0, n1, rs0, rs1, rest, a1, a2, a3, a4, a5, a6, a7, a8, a9, b1, b2⟩ | ⟨x, y, rest, a1, a2, a3, a4⟩
    · exact Or.inl ⟨J, As, rest, r1, a1, a0, a0', a2, a3, a4, a6, a7, h _ _ _ a8, h _ _ _ a9⟩
    · exact Or.inr (Or.inl ⟨sp, dp, n, b0, b, n0, n1, rs0, rs1, rest, a1, a2, a3, a4, a5, a6, a7, a8, a9, b1, h _ _ _ b2⟩)
    · exact Or.inr (Or.inr ⟨x, y, rest, a1, a2, a3, h _ _ _ a4⟩)
  · obtain ⟨k2, P, a1, a2, a3⟩ := hd
    exact ⟨k2, P, a1, a2, h _ _ _ a3⟩
theorem mz_run_succ {SK : List mz_E} {tab : List mz_I} : ∀ {n : Nat} {I : mz_I} {k : mz_C} {res : mz_O}, mz_run SK tab n I k res → mz_run SK tab (n + 1) I k res
  | 0, I, k, res, h => h.elim
  | n + 1, I, k, res, h => by
    obtain ⟨r, h1, h2⟩ := h
    exact ⟨r, h1, mz_do_mono (fun I k res h => mz_run_succ h) h2⟩
theorem mz_run_le {SK : List mz_E} {tab : List mz_I} {n n' : Nat} (hn : n ≤ n') {I : mz_I} {k : mz_C} {res : mz_O} (h : mz_run SK tab n I k res) : mz_run SK tab n' I k res := by
  induction hn with
  | refl => exact h
  | step _ ih => exact mz_run_succ ih
/-! a table's methods: what is checked of each, once, by program -/
def mz_okc (LK : List Cond) (tab : List mz_I) (I : mz_I) (r : mz_R) : Bool := match r with
  | (_, ins, _, a, _, j) => match ins with
    | .invokevirtual i => (match mz_nth tab a with
      | some J => mz_okj LK j (.methodLink (mz_y I).cls i (mz_y J)) && decide (mz_fr J + 1 ≤ mz_fr I) && decide (8 + (mz_nL J + 11) + mz_lo J ≤ mz_lo I)
      | none => false)
    | .invokestatic i => if a = 1000 then mz_okj LK j (.methodLink (mz_y I).cls i arraycopyName) && decide (1 ≤ mz_fr I) && decide (8 + (nativeFrameWords "java/lang/System" "arraycopy" 5 + 11) ≤ mz_lo I) else if a = 1001 then mz_okj LK j (.methodLink (mz_y I).cls i Lib.Math.min.name) && decide (1 ≤ mz_fr I) && decide (21 ≤ mz_lo I) else (match mz_nth tab a with
      | some J => mz_okj LK j (.methodLink (mz_y I).cls i (mz_y J)) && decide (mz_fr J + 1 ≤ mz_fr I) && decide (8 + (mz_nL J + 11) + mz_lo J ≤ mz_lo I)
      | none => false)
    | _ => true
/-- a method's own words: its code, its class, how it is chosen -/
def mz_okm (Ts : List Cond) (cl : List vw_C) (I : mz_I) : Prop := plainName (mz_y I).cls = true ∧ Cond.code (mz_y I) (mz_cc I) (mz_nL I) (mz_rt I) ∈ Ts ∧ Cond.initialized (mz_y I).cls ∈ Ts ∧ ((mz_y I).cls ≠ "java/lang/invoke/MethodHandle" ∧ (mz_y I).cls ≠ "java/lang/invoke/VarHandle" ∧ (parseMethodDescriptor (mz_y I).desc).map (fun d => d.parameters.length) = some (mz_np I)) ∧ (mz_sta I = true → Cond.static (mz_y I) ∈ Ts) ∧ (mz_sta I = false → Cond.instanceMethod (mz_y I) ∈ Ts ∧ Cond.selects (mz_y I).cls (mz_y I) (mz_y I) ∈ Ts ∧ ∃ q : vw_C, cl[mz_ci I]? = some q ∧ q.1 = (mz_y I).cls)
def mz_ok (LK Ts : List Cond) (cl : List vw_C) (tyf : Nat → Nat → FieldType) (tab : List mz_I) : Prop := ∀ (a : Nat) (I : mz_I), mz_nth tab a = some I → mz_okm Ts cl I ∧ ∀ r ∈ mz_rows I, mz_okb LK cl tyf (mz_y I).cls (mz_cc I) r = true ∧ mz_okc LK tab I r = true
theorem mz_find_mem {pc : Nat} : ∀ {l : List mz_R} {r : mz_R}, mz_find pc l = some r → r ∈ l ∧ r.1 = pc
  | [], r, h => by simp [mz_find] at h
  | a :: l, r, h => by
    unfold mz_find at h
    split at h
    · next e => cases h; exact ⟨List.mem_cons_self, Nat.eq_of_beq_eq_true e⟩
    · obtain ⟨h1, h2⟩ := mz_find_mem (l := l) h
      exact ⟨List.mem_cons_of_mem _ h1, h2⟩
/-! a method's contract -/
def mz_ws (Ts : List Cond) (I : mz_I) : List Cond := Cond.code (mz_y I) (mz_cc I) (mz_nL I) (mz_rt I) :: Ts
def mz_rm (I : mz_I) : Room := { frames := mz_fr I, cells := 0, slots := 0, locals := mz_lo I }
def mz_Pc (SK : List mz_E) (cA ad : Nat → Nat) (D : va_G) (cl : List vw_C) (tys : List (ClassId × FieldType)) (As : List Value) (M : mz_M) (sz : Nat) : Array Value → State → Prop :=
  va_Pc (As.map (mz_cv ad)) (fun U => U.heap.size = sz ∧ va_P D cl (mz_wl cA ad M 0 SK) U.heap ∧ va_K D cl tys U ∧ va_D (fun _ => True) (mz_wl cA ad M 0 SK))
def mz_Q (SK : List mz_E) (cA ad : Nat → Nat) (D : va_G) (cl : List vw_C) (tys : List (ClassId × FieldType)) (res : mz_O) (A : Nat → Prop) : Array Value → State → Outcome → State → Prop :=
  fun _ st oc t => (oc = .returned (res.1.map (mz_cv ad)) ∧ va_P D cl (mz_wl cA ad res.2 0 SK) t.heap ∧ va_K D cl tys t ∧ va_D A (mz_wl cA ad res.2 0 SK)) ∧ va_F A st t
theorem mz_blind {SK : List mz_E} {cA ad : Nat → Nat} {D : va_G} {cl : List vw_C} {tys : List (ClassId × FieldType)} {As : List Value} {M : mz_M} {sz : Nat} : FrameBlind (mz_Pc SK cA ad D cl tys As M sz) :=
  fun a U g mk q => by
    obtain ⟨q0, q1, qP, qK, qD⟩ := q
    exact ⟨q0, q1, qP, va_K.moved (u := U) (U := U.calling g mk a) (Vm.Alike.refl U.vm) qK, qD⟩
section MZC
variable {p : Program} {l : Launch} {e : Env} {R : Room} {s : State} {m : MethodId} {args : Array Value} {below : List Frame} {meth : Method} {c : Code} {Q : State → Prop}
variable {cc : ByteArray} {nL : Nat} {D : va_G} {cl : List vw_C} {tys : List (ClassId × FieldType)} {A0 A1 : Nat → Prop} {Ts LK : List Cond} {own : String} {cA ad : Nat → Nat} {SK : List mz_E} {tyf : Nat → Nat → FieldType} {tab : List mz_I}
/-- behind a call -/
theorem mz_back {H H0 : Heap} {locs : List Loc} {pc : Nat} {ls : Array Slot} {st0 rest : List Value} {res : mz_O} {a : Array Value} {free : Nat → Prop} (hr : va_Run p l e R s m args below meth c H locs 0 0 0 0 (F0 m pc ls st0) rest (mz_Q SK cA ad D cl tys res A1 a) free) (hS : va_S A0 H0 H locs) (hA : ∀ q, q < H.size → A1 q → A0 q) (hA2 : ∀ q, A1 q → A0 q) (hf : ∀ q, free q → A0 q)
    (kk : ∀ (H1 : Heap) (locs1 : List Loc), va_P D cl (mz_wl cA ad res.2 0 SK) H1 → va_D A0 (mz_wl cA ad res.2 0 SK) → va_S A0 H0 H1 locs1 → W p l e R s m args below meth c H1 locs1 0 0 Q (F0 m (pc + 3) ls ((res.1.map (mz_cv ad)).toList ++ rest))) : W p l e R s m args below meth c H locs 0 0 Q (F0 m pc ls st0) := by
  intro T hT X
  obtain ⟨v, st₀, t, T', L, h0, X', hL, e1, e2, ⟨⟨hv, qP, qK, qD⟩, hz, hk⟩, st⟩ := hr T hT X
  cases hv
  rw [h0] at hz hk
  obtain ⟨t2, a1, b1⟩ := kk T'.heap (locs ++ L) (by rw [e1]; exact qP) (qD.weaken (fun _ _ _ h => hA2 _ h))
    ⟨Nat.le_trans hS.1 (by rw [e1]; exact hz), fun q h1 h2 => by rw [e1, hk q (Nat.lt_of_lt_of_le h1 hS.1) (fun z => h2 (hA q (Nat.lt_of_lt_of_le h1 hS.1) z))]; exact hS.2.1 q h1 h2, fun q hq => by
      rcases List.mem_append.mp hq with h | h
      · exact hS.2.2 q h
      · exact hf _ (hL q h)⟩ T' rfl X'
  exact ⟨t2, st t2 a1, b1⟩
/-- what a method's runs say of the machine -/
def mz_Sim (l : Launch) (D : va_G) (cl : List vw_C) (tys : List (ClassId × FieldType)) (Ts : List Cond) (cA ad : Nat → Nat) (SK : List mz_E) (n : Nat) (tab : List mz_I) : Prop :=
  ∀ (a : Nat) (I : mz_I) (As : List Value) (M : mz_M) (res : mz_O) (sz : Nat), mz_nth tab a = some I → mz_run SK tab n I (0, mz_pad (mz_nL I) (mz_args As), [], M) res → (lg_sl As).length ≤ mz_nL I →
    Met l (mz_y I) (mz_ws Ts I) (mz_rm I) (mz_Pc SK cA ad D cl tys As M sz) (mz_Q SK cA ad D cl tys res (va_A (mz_wl cA ad M 0 SK) sz)) 0 0 (va_A (mz_wl cA ad M 0 SK) sz)
theorem mz_lgsl (ad : Nat → Nat) : ∀ (As : List Value), (lg_sl (As.map (mz_cv ad))).length = (lg_sl As).length
  | [] => rfl
  | v :: vs => by
    have h := mz_lgsl ad vs
    simp only [lg_sl, List.map_cons, List.flatMap_cons, List.length_append, mz_cv_cat] at h ⊢
    rw [h]
    split <;> rfl
theorem mz_goodIn {Ts : List Cond} (hg : ∀ w ∈ Ts, goodWord w = true) {I J : mz_I} {ws : List Cond} (hJ : Cond.code (mz_y J) (mz_cc J) (mz_nL J) (mz_rt J) ∈ Ts) : GoodIn (mz_ws Ts I) (mz_ws Ts J) := by
  intro w hw
  rcases List.mem_cons.mp hw with rfl | hw
  · exact ⟨List.mem_cons_of_mem _ hJ, good_of_word (hg _ hJ)⟩
  · exact ⟨List.mem_cons_of_mem _ hw, good_of_word (hg _ hw)⟩
set_option maxHeartbeats 4000000 in
theorem mz_sim (hok : mz_ok LK Ts cl tyf tab) (hg : ∀ w ∈ Ts, goodWord w = true) (hLK : ∀ w ∈ LK, w ∈ Ts) (hty : mz_tys cA tys SK) (hcl : mz_cls cl tyf Ts) (hcpy : Cond.native arraycopyName ∈ Ts ∧ Cond.static arraycopyName ∈ Ts ∧ Cond.initialized "java/lang/System" ∈ Ts) (hmin : Cond.static Lib.Math.min.name ∈ Ts ∧ Cond.initialized "java/lang/Math" ∈ Ts ∧ Cond.code Lib.Math.min.name Lib.Math.min.code 2 (some .int) ∈ Ts) : ∀ n, mz_Sim l D cl tys Ts cA ad SK n tab := by
  have body : ∀ (n : Nat), (∀ k, k < n → mz_Sim l D cl tys Ts cA ad SK k tab) → ∀ (j : Nat), j ≤ n → ∀ (p : Program) (e : Env) (s : State) (m : MethodId) (args : Array Value) (below : List Frame) (meth : Method) (c : Code) (a : Nat) (I : mz_I) (k : mz_C) (res : mz_O) (A : Nat → Prop), mz_nth tab a = some I → p.tables.exec = Jvm.exec → c.code = mz_cc I → c.maxLocals = mz_nL I → meth.sig.returnType = mz_rt I → meth.locks = false → s.vm.findClass (mz_y I).cls = some m.cls → (∀ w ∈ mz_ws Ts I, w.before args s = true) → va_K D cl tys s → (∀ q, s.heap.size ≤ q → A q) → mz_run SK tab j I k res →
      mz_W p l e (mz_rm I) s m args below meth c (MQ below (mz_Q SK cA ad D cl tys res A) args s 0 0 A) (mz_nL I) D cl A cA ad SK k := by
    intro n ihn j
    induction j with
    | zero => intro _ p e s m args below meth c a I k res A _ _ _ _ _ _ _ _ _ _ h; exact h.elim
    | succ j ihj =>
      intro hj p e s m args below meth c a I k res A hI hx hb hml hr hlocks hown hts hK hA hrun
      have ih := fun k2 res2 h => ihj (by omega) p e s m args below meth c a I k2 res2 A hI hx hb hml hr hlocks hown hts hK hA h
      obtain ⟨⟨pc', ins, len, a9, v9, j9⟩, hf, hdo⟩ := hrun
      obtain ⟨hmem, hpc⟩ := mz_find_mem hf
      obtain ⟨hokm, hokr⟩ := hok a I hI
      obtain ⟨hob, hoc⟩ := hokr _ hmem
      dsimp only at hpc
      obtain ⟨pc, ls, st, M⟩ := k
      dsimp only at hpc
      subst hpc
      have hts2 : ∀ w ∈ Ts, w.before args s = true := fun w hw => hts w (List.mem_cons_of_mem _ hw)
      have hdc : decode (mz_cc I) pc' = .ok (ins, len) := by
        have h9 := hob
        unfold mz_okb at h9
        dsimp only at h9
        rw [Bool.and_eq_true] at h9
        exact mz_decode h9.1
      unfold mz_do at hdo
      dsimp only at hdo
      have hlen1 : ∀ x : Nat, mz_okb LK cl tyf (mz_y I).cls (mz_cc I) (pc', ins, len, a9, v9, j9) = true → (len = (match ins with
        | .invokevirtual _ => 3
        | .invokestatic _ => 3
        | .ireturn => 1
        | .lreturn => 1
        | .return_ => 1
        | _ => len)) := by
        intro _ h9
        unfold mz_okb at h9
        dsimp only at h9
        rw [Bool.and_eq_true] at h9
        cases ins <;> first | rfl | exact of_decide_eq_true h9.2
      have hln := hlen1 0 hob
      split at hdo
      · -- ireturn
        obtain ⟨x, e1, e2, e3⟩ := hdo
        dsimp only at hln
        subst hln
        subst e1
        subst e2
        intro H locs lsR h1 h2 h3 h4
        dsimp only at h1 h2 h3 h4
        rcases e3 with e3 | ⟨e3, e4⟩
        · exact W.iret (v := x) hx hb (hr.trans e3) (fun t ht hW => ⟨⟨rfl, by rw [ht]; exact h1, va_K.moved hW.alike hK, h2⟩, h3.F ht⟩) h3.2.2 hdc hlocks
        · have hn : narrow .boolean (.int x) = .int x := by rcases e4 with rfl | rfl <;> decide +kernel
          exact W.zret (v := x) (ty := .boolean) hx hb (hr.trans e3) hn (fun t ht hW => ⟨⟨rfl, by rw [ht]; exact h1, va_K.moved hW.alike hK, h2⟩, h3.F ht⟩) h3.2.2 hdc hlocks
      · -- lreturn
        obtain ⟨x, e1, e2, e3⟩ := hdo
        dsimp only at hln
        subst hln
        subst e1
        subst e2
        intro H locs lsR h1 h2 h3 h4
        dsimp only at h1 h2 h3 h4
        exact W.lret (v := x) hx hb (hr.trans e3) (fun t ht hW => ⟨⟨rfl, by rw [ht]; exact h1, va_K.moved hW.alike hK, h2⟩, h3.F ht⟩) h3.2.2 hdc hlocks
      · -- return
        obtain ⟨e1, e2, e3⟩ := hdo
        dsimp only at hln
        subst hln
        subst e1
        subst e2
        intro H locs lsR h1 h2 h3 h4
        dsimp only at h1 h2 h3 h4
        exact W.vret hx hb (hr.trans e3) (fun t ht hW => ⟨⟨rfl, by rw [ht]; exact h1, va_K.moved hW.alike hK, h2⟩, h3.F ht⟩) h3.2.2 hdc hlocks
      · -- invokevirtual
        next i9 =>
        obtain ⟨J, As, b, rest, fs, r1, a1, a2, a3, a4, a5, a6, a7, a8, b9⟩ := hdo
        dsimp only at hln
        subst hln
        subst a2
        intro H locs lsR h1 h2 h3 h4
        dsimp only at h1 h2 h3 h4
        unfold mz_okc at hoc
        dsimp only at hoc a1
        rw [a1] at hoc
        simp only [Bool.and_eq_true, decide_eq_true_eq] at hoc
        obtain ⟨⟨c1, c2⟩, c3⟩ := hoc
        obtain ⟨⟨m1, m2, m3, m4, -, m5⟩, -⟩ := hok _ J a1
        obtain ⟨m6, m7, q9, m8, m9⟩ := m5 a4
        have hM := ihn j (by omega) _ J (.ref b :: As) M r1 H.size a1 a8 a7
        have hw : (mz_wl cA ad M 0 SK)[b]? = some (ad b, .inr (mz_ci J, mz_fs ad M b 0 fs)) := mz_w_at a5
        have hCB := callB_of (R := mz_rm I) (rm := mz_rm J) (ws := mz_ws Ts J) (ws' := Ts) (mc := 0) (ms := 0) (own := (mz_y I).cls) (index := i9) (mz_np J) hts (mz_goodIn (ws := Ts) hg m2) rfl rfl rfl (hts2 _ m3) (hts2 _ (mz_okj_in hLK c1)) m4 ⟨c2, c3⟩
        have hrcv := va_recv hK h1 m8 hw
        rw [m9] at hrcv
        have hrn := va_runV (e := e) (below := below) (meth := meth) (C := (mz_y J).cls) (b := ad b) (As := As.map (mz_cv ad)) (rest := rest.map (mz_cv ad)) (g := F0 m pc' lsR ((As.reverse ++ .ref b :: rest).map (mz_cv ad))) (locs := locs) (cells := 0) (slots := 0) ⟨hx, hb, hml, hown, hts⟩ hM ⟨hCB, hts2 _ m6, hts2 _ m7⟩ ⟨mz_blind, hrcv, fun U hU hW => ⟨rfl, by rw [hU], by rw [hU]; exact h1, va_K.moved hW.alike hK, h2.weaken (fun _ _ _ _ => trivial)⟩⟩ rfl (by rw [List.length_map]; exact a3) h4.1 (by rw [List.map_append, List.map_reverse]; rfl) (lv_room (by rw [mz_sum]; exact a6)) hdc ⟨Nat.le_refl _, Nat.le_refl _⟩
        have hsub : ∀ q, va_A (mz_wl cA ad M 0 SK) H.size q → A q := by
          rintro q (⟨k0, e0, h⟩ | h)
          · exact h2.2 k0 _ h
          · exact hA q (Nat.le_trans h3.1 h)
        refine mz_back hrn h3 (fun q _ h => hsub q h) hsub hsub (fun H1 locs1 g1 g2 g3 => ?_)
        have := ih _ res b9 H1 locs1 lsR g1 g2 g3 h4
        dsimp only at this
        obtain ⟨_ | v1, M1⟩ := r1
        · exact this
        · exact this
      · -- invokestatic
        next i9 =>
        rcases hdo with ⟨J, As, rest, r1, a1, a0, a0', a2, a3, a4, a6, a7, a8, b9⟩ | ⟨sp, dp, n9, b0, b, n0, n1, rs0, rs1, rest, a1, a2, a3, a4, a5, a6, a7, a8, a9', b1, b2⟩ | ⟨x9, y9, rest, a1, a2, a3, a4⟩
        · dsimp only at hln
          subst hln
          subst a2
          intro H locs lsR h1 h2 h3 h4
          dsimp only at h1 h2 h3 h4
          unfold mz_okc at hoc
          dsimp only at hoc a1
          rw [if_neg a0, if_neg a0', a1] at hoc
          simp only [Bool.and_eq_true, decide_eq_true_eq] at hoc
          obtain ⟨⟨c1, c2⟩, c3⟩ := hoc
          obtain ⟨⟨m1, m2, m3, m4, m5, -⟩, -⟩ := hok _ J a1
          have hM := ihn j (by omega) _ J As M r1 H.size a1 a8 a7
          have hCB := callB_of (R := mz_rm I) (rm := mz_rm J) (ws := mz_ws Ts J) (ws' := Ts) (mc := 0) (ms := 0) (own := (mz_y I).cls) (index := i9) (mz_np J) hts (mz_goodIn (ws := Ts) hg m2) rfl rfl rfl (hts2 _ m3) (hts2 _ (mz_okj_in hLK c1)) m4 ⟨c2, c3⟩
          have hrn := va_runS (e := e) (below := below) (meth := meth) (As := As.map (mz_cv ad)) (rest := rest.map (mz_cv ad)) (g := F0 m pc' lsR ((As.reverse ++ rest).map (mz_cv ad))) (locs := locs) (cells := 0) (slots := 0) ⟨hx, hb, hml, hown, hts⟩ hM ⟨hCB, hts2 _ (m5 a4)⟩ ⟨mz_blind, fun U hU hW => ⟨rfl, by rw [hU], by rw [hU]; exact h1, va_K.moved hW.alike hK, h2.weaken (fun _ _ _ _ => trivial)⟩⟩ rfl (by rw [List.length_map]; exact a3) h4.1 (by rw [List.map_append, List.map_reverse]) (lv_room (by rw [mz_sum]; exact a6)) hdc ⟨Nat.le_refl _, Nat.le_refl _⟩
          have hsub : ∀ q, va_A (mz_wl cA ad M 0 SK) H.size q → A q := by
            rintro q (⟨k0, e0, h⟩ | h)
            · exact h2.2 k0 _ h
            · exact hA q (Nat.le_trans h3.1 h)
          refine mz_back hrn h3 (fun q _ h => hsub q h) hsub hsub (fun H1 locs1 g1 g2 g3 => ?_)
          have := ih _ res b9 H1 locs1 lsR g1 g2 g3 h4
          dsimp only at this
          obtain ⟨_ | v1, M1⟩ := r1
          · exact this
          · exact this
        · dsimp only at hln a1
          subst hln
          subst a2
          subst a1
          intro H locs lsR h1 h2 h3 h4
          dsimp only at h1 h2 h3 h4
          unfold mz_okc at hoc
          dsimp only at hoc
          rw [if_pos rfl] at hoc
          simp only [Bool.and_eq_true, decide_eq_true_eq] at hoc
          obtain ⟨⟨c1, c2⟩, c3⟩ := hoc
          have hw0 : (mz_wl cA ad M 0 SK)[b0]? = some (ad b0, .inl (cA 0, n0, .inl (M.1 b0))) := mz_w_at a3
          have hw1 : (mz_wl cA ad M 0 SK)[b]? = some (ad b, .inl (cA 0, n1, .inl (M.1 b))) := mz_w_at a4
          refine va_copyi hx hb (hml.trans h4.1.symm) hown (hts2 _ (mz_okj_in hLK c1)) (hts2 _ hcpy.1) (hts2 _ hcpy.2.1) (hts2 _ hcpy.2.2) hK h1 h2 h3 b0 b 0 0 hw0 hw1 hty.1 hty.1 rfl a5 a6 a7 a8 a9' (fun _ _ => rfl) c2 (by rw [mz_sum]; show _ ≤ mz_lo I; omega) hdc (fun H1 locs1 g1 g2 g3 => ?_)
          rw [mz_rowI (Or.inl rfl) a4] at g1 g2
          exact ih _ res b2 H1 locs1 lsR g1 g2 g3 h4
        · dsimp only at hln a1
          subst hln
          subst a2
          subst a1
          intro H locs lsR h1 h2 h3 h4
          dsimp only at h1 h2 h3 h4
          unfold mz_okc at hoc
          dsimp only at hoc
          rw [if_neg (by decide), if_pos rfl] at hoc
          simp only [Bool.and_eq_true, decide_eq_true_eq] at hoc
          obtain ⟨⟨c1, c2⟩, c3⟩ := hoc
          exact va_mmin hx hb (hml.trans h4.1.symm) hown (hts2 _ (mz_okj_in hLK c1)) (hts2 _ hmin.1) (hts2 _ hmin.2.1) (hts2 _ hmin.2.2) c2 (by rw [mz_sum]; show _ ≤ mz_lo I; omega) (Nat.zero_le _) (Nat.zero_le _) hdc (ih _ res a4 H locs lsR h1 h2 h3 h4)
      · -- a step
        obtain ⟨k2, P, a1, a2, a3⟩ := hdo
        exact mz_one hx hb hml hown hts2 hLK hK hty hcl hob a1 a2 (ih k2 res a3)
  intro n
  induction n using Nat.strongRecOn with
  | _ n ihn =>
    intro a I As M res sz hI hrun hlen
    obtain ⟨⟨m1, m2, m3, m4, -, -⟩, -⟩ := hok a I hI
    refine Met.ofW (cc := mz_cc I) (maxL := mz_nL I) (ret := mz_rt I) m1 rfl ?_
    intro p e s m args below meth c s₁ B hml hv
    obtain ⟨rfl, hsz, h1, hK, hD0⟩ := hv
    subst hsz
    have hts := atoms_spec (ws := mz_ws Ts I) B.pre
    have hown : s.vm.findClass (mz_y I).cls = some m.cls := findClass_of_methodNamed B.named
    have hlocks := B.notSynchronized
    rw [lg_entry_eq]
    refine body n ihn n (Nat.le_refl _) p e s m _ below meth c a I _ res _ hI B.exec B.bytes hml B.returns hlocks hown hts hK (fun q h => Or.inr h) hrun s.heap [] _ h1 hD0.self va_S.rf (mz_entry ad As (by rw [mz_lgsl]; exact hlen))
end MZC
end
section
/-! a table's checks, by program -/
def mz_okmb (LK : List Cond) (cl : List vw_C) (I : mz_I) (jc ji jm jx : Nat) : Bool := plainName (mz_y I).cls && mz_okj LK jc (.code (mz_y I) (mz_cc I) (mz_nL I) (mz_rt I)) && mz_okj LK ji (.initialized (mz_y I).cls) && decide ((mz_y I).cls ≠ "java/lang/invoke/MethodHandle") && decide ((mz_y I).cls ≠ "java/lang/invoke/VarHandle") && decide ((parseMethodDescriptor (mz_y I).desc).map (fun d => d.parameters.length) = some (mz_np I)) && (match mz_sta I with
  | true => mz_okj LK jm (.static (mz_y I))
  | false => mz_okj LK jm (.instanceMethod (mz_y I)) && mz_okj LK jx (.selects (mz_y I).cls (mz_y I) (mz_y I)) && (match cl[mz_ci I]? with
    | some q => decide (q.1 = (mz_y I).cls)
    | none => false))
theorem mz_okm_of {LK Ts : List Cond} {cl : List vw_C} {I : mz_I} (hLK : ∀ w ∈ LK, w ∈ Ts) (jc ji jm jx : Nat) (h : mz_okmb LK cl I jc ji jm jx = true) : mz_okm Ts cl I := by
  unfold mz_okmb at h
  simp only [Bool.and_eq_true, decide_eq_true_eq] at h
  obtain ⟨⟨⟨⟨⟨⟨h1, h2⟩, h3⟩, h4⟩, h5⟩, h6⟩, h7⟩ := h
  refine ⟨h1, mz_okj_in hLK h2, mz_okj_in hLK h3, ⟨h4, h5, h6⟩, fun e => ?_, fun e => ?_⟩
  · rw [e] at h7
    exact mz_okj_in hLK h7
  · rw [e] at h7
    simp only [Bool.and_eq_true] at h7
    obtain ⟨⟨h8, h9⟩, h10⟩ := h7
    refine ⟨mz_okj_in hLK h8, mz_okj_in hLK h9, ?_⟩
    split at h10
    · next q hq => exact ⟨q, hq, of_decide_eq_true h10⟩
    · cases h10
/-- all of a method's checks -/
def mz_okI (LK : List Cond) (cl : List vw_C) (tyf : Nat → Nat → FieldType) (tab : List mz_I) (I : mz_I) (j : Nat × Nat × Nat × Nat) : Bool := mz_okmb LK cl I j.1 j.2.1 j.2.2.1 j.2.2.2 && (mz_rows I).all (fun r => mz_okb LK cl tyf (mz_y I).cls (mz_cc I) r && mz_okc LK tab I r)
def mz_okP (LK Ts : List Cond) (cl : List vw_C) (tyf : Nat → Nat → FieldType) (tab : List mz_I) (I : mz_I) : Prop := mz_okm Ts cl I ∧ ∀ r ∈ mz_rows I, mz_okb LK cl tyf (mz_y I).cls (mz_cc I) r = true ∧ mz_okc LK tab I r = true
theorem mz_okP_of {LK Ts : List Cond} {cl : List vw_C} {tyf : Nat → Nat → FieldType} {tab : List mz_I} {I : mz_I} (hLK : ∀ w ∈ LK, w ∈ Ts) (j : Nat × Nat × Nat × Nat) (h : mz_okI LK cl tyf tab I j = true) : mz_okP LK Ts cl tyf tab I := by
  unfold mz_okI at h
  rw [Bool.and_eq_true] at h
  refine ⟨mz_okm_of hLK _ _ _ _ h.1, fun r hr => ?_⟩
  have h2 := List.all_eq_true.mp h.2 r hr
  rw [Bool.and_eq_true] at h2
  exact h2
theorem mz_ok_of {LK Ts : List Cond} {cl : List vw_C} {tyf : Nat → Nat → FieldType} {tab : List mz_I} (h : ∀ I ∈ tab, mz_okP LK Ts cl tyf tab I) : mz_ok LK Ts cl tyf tab := fun _ I hI => h I (mz_nth_mem hI)
end
section
/-! runs, whatever their length -/
def mz_Go (SK : List mz_E) (tab : List mz_I) (I : mz_I) (k : mz_C) (res : mz_O) : Prop := ∃ n, mz_run SK tab n I k res
def mz_stp (SK : List mz_E) (I : mz_I) (k : mz_C) : Option (mz_C × List Prop) := match mz_find k.1 (mz_rows I) with
  | some r => mz_step SK r.2.1 r.2.2.1 r.2.2.2.1 r.2.2.2.2.1 k.1 k.2.1 k.2.2.1 k.2.2.2
  | none => none
def mz_stps (SK : List mz_E) (I : mz_I) : Nat → mz_C → Option (mz_C × List Prop)
  | 0, k => some (k, [])
  | n + 1, k => match mz_stp SK I k with
    | some (k2, P) => (match mz_stps SK I n k2 with
      | some (k3, P3) => some (k3, P ++ P3)
      | none => none)
    | none => none
section MZG
variable {SK : List mz_E} {tab : List mz_I} {I J : mz_I} {res : mz_O}
theorem mz_Go.step {k k2 : mz_C} {P : List Prop} (h : mz_stp SK I k = some (k2, P)) (hP : ∀ x ∈ P, x) (g : mz_Go SK tab I k2 res) : mz_Go SK tab I k res := by
  obtain ⟨n, g⟩ := g
  unfold mz_stp at h
  split at h
  · next r hr =>
    refine ⟨n + 1, r, hr, ?_⟩
    obtain ⟨pc, ins, len, a, v, j⟩ := r
    cases ins <;> first | exact ⟨k2, P, h, hP, g⟩ | (exfalso; dsimp only [mz_step] at h; cases h; done)
  · cases h
theorem mz_Go.steps : ∀ {n : Nat} {k k2 : mz_C} {P : List Prop}, mz_stps SK I n k = some (k2, P) → (∀ x ∈ P, x) → mz_Go SK tab I k2 res → mz_Go SK tab I k res
  | 0, k, k2, P, h, hP, g => by
    simp only [mz_stps, Option.some.injEq, Prod.mk.injEq] at h
    rw [h.1]
    exact g
  | n + 1, k, k2, P, h, hP, g => by
    unfold mz_stps at h
    split at h
    · next k1 P1 h1 =>
      split at h
      · next k3 P3 h3 =>
        simp only [Option.some.injEq, Prod.mk.injEq] at h
        obtain ⟨rfl, rfl⟩ := h
        exact mz_Go.step h1 (fun x hx => hP x (List.mem_append_left _ hx)) (mz_Go.steps h3 (fun x hx => hP x (List.mem_append_right _ hx)) g)
      · cases h
    · cases h
theorem mz_Go.ite {c : Prop} {a b : Nat} {r : mz_L × List Value × mz_M} {hd : Decidable c} (h1 : c → mz_Go SK tab I (a, r) res) (h2 : ¬ c → mz_Go SK tab I (b, r) res) : mz_Go SK tab I (@ite Nat c hd a b, r) res := by
  by_cases h : c
  · rw [if_pos h]; exact h1 h
  · rw [if_neg h]; exact h2 h
theorem mz_Go.iret {pc len a j : Nat} {v x : Int32} {ls : mz_L} {M : mz_M} (hf : mz_find pc (mz_rows I) = some (pc, .ireturn, len, a, v, j)) (hr : mz_rt I = some .int) : mz_Go SK tab I (pc, ls, [.int x], M) (some (.int x), M) :=
  ⟨1, _, hf, x, rfl, rfl, Or.inl hr⟩
theorem mz_Go.zret {pc len a j : Nat} {v x : Int32} {ls : mz_L} {M : mz_M} (hf : mz_find pc (mz_rows I) = some (pc, .ireturn, len, a, v, j)) (hr : mz_rt I = some .boolean) (hx : x = 0 ∨ x = 1) : mz_Go SK tab I (pc, ls, [.int x], M) (some (.int x), M) :=
  ⟨1, _, hf, x, rfl, rfl, Or.inr ⟨hr, hx⟩⟩
theorem mz_Go.lret {pc len a j : Nat} {v : Int32} {x : Int64} {ls : mz_L} {M : mz_M} (hf : mz_find pc (mz_rows I) = some (pc, .lreturn, len, a, v, j)) (hr : mz_rt I = some .long) : mz_Go SK tab I (pc, ls, [.long x], M) (some (.long x), M) :=
  ⟨1, _, hf, x, rfl, rfl, hr⟩
theorem mz_Go.vret {pc len a j : Nat} {v : Int32} {ls : mz_L} {M : mz_M} (hf : mz_find pc (mz_rows I) = some (pc, .return_, len, a, v, j)) (hr : mz_rt I = none) : mz_Go SK tab I (pc, ls, [], M) (none, M) :=
  ⟨1, _, hf, rfl, rfl, hr⟩
/-- a method's answer and what it leaves -/
def mz_Call (SK : List mz_E) (tab : List mz_I) (J : mz_I) (As : List Value) (M : mz_M) (r : mz_O) : Prop := mz_Go SK tab J (0, mz_pad (mz_nL J) (mz_args As), [], M) r
theorem mz_Go.callV {pc len a j i b : Nat} {v : Int32} {ls : mz_L} {st rest As : List Value} {M : mz_M} {fs : List (Option Nat)} {r1 : mz_O} (hf : mz_find pc (mz_rows I) = some (pc, .invokevirtual i, len, a, v, j)) (hJ : mz_nth tab a = some J) (hb : mz_nth SK b = some (.inr (mz_ci J, fs))) (hst : st = As.reverse ++ .ref b :: rest) (h3 : As.length = mz_np J) (h4 : mz_sta J = false) (h5 : (rest.map fun v => v.category).sum ≤ 8) (h6 : (lg_sl (Value.ref b :: As)).length ≤ mz_nL J)
    (hc : mz_Call SK tab J (.ref b :: As) M r1) (g : mz_Go SK tab I (pc + 3, ls, r1.1.toList ++ rest, r1.2) res) : mz_Go SK tab I (pc, ls, st, M) res := by
  obtain ⟨n1, hc⟩ := hc
  obtain ⟨n2, g⟩ := g
  exact ⟨max n1 n2 + 1, _, hf, J, As, b, rest, fs, r1, hJ, hst, h3, h4, hb, h5, h6, mz_run_le (Nat.le_max_left _ _) hc, mz_run_le (Nat.le_max_right _ _) g⟩
theorem mz_Go.callS {pc len a j i : Nat} {v : Int32} {ls : mz_L} {st rest As : List Value} {M : mz_M} {r1 : mz_O} (hf : mz_find pc (mz_rows I) = some (pc, .invokestatic i, len, a, v, j)) (hJ : mz_nth tab a = some J) (h0 : ¬ a = 1000 ∧ ¬ a = 1001) (hst : st = As.reverse ++ rest) (h3 : As.length = mz_np J) (h4 : mz_sta J = true) (h5 : (rest.map fun v => v.category).sum ≤ 8) (h6 : (lg_sl As).length ≤ mz_nL J)
    (hc : mz_Call SK tab J As M r1) (g : mz_Go SK tab I (pc + 3, ls, r1.1.toList ++ rest, r1.2) res) : mz_Go SK tab I (pc, ls, st, M) res := by
  obtain ⟨n1, hc⟩ := hc
  obtain ⟨n2, g⟩ := g
  exact ⟨max n1 n2 + 1, _, hf, Or.inl ⟨J, As, rest, r1, hJ, h0.1, h0.2, hst, h3, h4, h5, h6, mz_run_le (Nat.le_max_left _ _) hc, mz_run_le (Nat.le_max_right _ _) g⟩⟩
theorem mz_Go.copy {pc len j i b0 b n0 n1 : Nat} {v sp dp n : Int32} {ls : mz_L} {rest : List Value} {M : mz_M} {rs0 rs1 : List Nat} (hf : mz_find pc (mz_rows I) = some (pc, .invokestatic i, len, 1000, v, j)) (h0 : mz_nth SK b0 = some (.inl (0, n0, rs0))) (h1 : mz_nth SK b = some (.inl (0, n1, rs1))) (h2 : ¬ sp < 0) (h3 : ¬ dp < 0) (h4 : ¬ n < 0) (h5 : sp.toNatClampNeg + n.toNatClampNeg ≤ n0) (h6 : dp.toNatClampNeg + n.toNatClampNeg ≤ n1) (h7 : (rest.map fun v => v.category).sum ≤ 8)
    (g : mz_Go SK tab I (pc + 3, ls, rest, mz_wr M b (va_cpy (M.1 b0) (M.1 b) sp.toNatClampNeg dp.toNatClampNeg n.toNatClampNeg)) res) : mz_Go SK tab I (pc, ls, .int n :: .int dp :: .ref b :: .int sp :: .ref b0 :: rest, M) res := by
  obtain ⟨n2, g⟩ := g
  exact ⟨n2 + 1, _, hf, Or.inr (Or.inl ⟨sp, dp, n, b0, b, n0, n1, rs0, rs1, rest, rfl, rfl, h0, h1, h2, h3, h4, h5, h6, h7, g⟩)⟩
theorem mz_Go.mmin {pc len j i : Nat} {v x y : Int32} {ls : mz_L} {rest : List Value} {M : mz_M} (hf : mz_find pc (mz_rows I) = some (pc, .invokestatic i, len, 1001, v, j)) (h7 : (rest.map fun v => v.category).sum ≤ 8) (g : mz_Go SK tab I (pc + 3, ls, .int (if y < x then y else x) :: rest, M) res) : mz_Go SK tab I (pc, ls, .int y :: .int x :: rest, M) res := by
  obtain ⟨n2, g⟩ := g
  exact ⟨n2 + 1, _, hf, Or.inr (Or.inr ⟨x, y, rest, rfl, rfl, h7, g⟩)⟩
/-! single rows, where the cell is told by a hypothesis -/
theorem mz_Go.iald {pc len a j r n : Nat} {v i : Int32} {ls : mz_L} {q : List Value} {M : mz_M} {rs : List Nat} (hf : mz_find pc (mz_rows I) = some (pc, .iaload, len, a, v, j)) (hr : mz_nth SK r = some (.inl (0, n, rs))) (hi : vp_in i n) (g : mz_Go SK tab I (pc + 1, ls, .int (M.1 r i.toNatClampNeg) :: q, M) res) : mz_Go SK tab I (pc, ls, .int i :: .ref r :: q, M) res := by
  refine mz_Go.step (k2 := (pc + 1, ls, .int (M.1 r i.toNatClampNeg) :: q, M)) (P := [vp_in i n]) ?_ (fun x hx => by rw [List.mem_singleton.mp hx]; exact hi) g
  simp only [mz_stp, hf, mz_step, hr]
theorem mz_Go.iast {pc len a j r n : Nat} {v i x : Int32} {ls : mz_L} {q : List Value} {M : mz_M} {rs : List Nat} (hf : mz_find pc (mz_rows I) = some (pc, .iastore, len, a, v, j)) (hr : mz_nth SK r = some (.inl (0, n, rs))) (hi : vp_in i n) (g : mz_Go SK tab I (pc + 1, ls, q, mz_wr M r (upd (M.1 r) i.toNatClampNeg x)) res) : mz_Go SK tab I (pc, ls, .int x :: .int i :: .ref r :: q, M) res := by
  refine mz_Go.step (k2 := (pc + 1, ls, q, mz_wr M r (upd (M.1 r) i.toNatClampNeg x))) (P := [vp_in i n]) ?_ (fun x hx => by rw [List.mem_singleton.mp hx]; exact hi) g
  simp only [mz_stp, hf, mz_step, hr]
theorem mz_Go.alen {pc len a j r t n : Nat} {v : Int32} {ls : mz_L} {q : List Value} {M : mz_M} {rs : List Nat} (hf : mz_find pc (mz_rows I) = some (pc, .arraylength, len, a, v, j)) (hr : mz_nth SK r = some (.inl (t, n, rs))) (g : mz_Go SK tab I (pc + 1, ls, .int (Int32.ofNat n) :: q, M) res) : mz_Go SK tab I (pc, ls, .ref r :: q, M) res := by
  refine mz_Go.step (k2 := (pc + 1, ls, .int (Int32.ofNat n) :: q, M)) (P := []) ?_ (fun x hx => nomatch hx) g
  simp only [mz_stp, hf, mz_step, hr]
theorem mz_Go.aald {pc len a j r n t : Nat} {v i : Int32} {ls : mz_L} {q : List Value} {M : mz_M} {rs : List Nat} (hf : mz_find pc (mz_rows I) = some (pc, .aaload, len, a, v, j)) (hr : mz_nth SK r = some (.inl (t + 3, n, rs))) (hi : vp_in i n) (hn : rs.length = n) (g : mz_Go SK tab I (pc + 1, ls, .ref (rs.getD i.toNatClampNeg 0) :: q, M) res) : mz_Go SK tab I (pc, ls, .int i :: .ref r :: q, M) res := by
  refine mz_Go.step (k2 := (pc + 1, ls, .ref (rs.getD i.toNatClampNeg 0) :: q, M)) (P := [vp_in i n, rs.length = n]) ?_ (fun x hx => by
    rcases List.mem_cons.mp hx with h | h
    · rw [h]; exact hi
    · rw [List.mem_singleton.mp h]; exact hn) g
  simp only [mz_stp, hf, mz_step, hr]
theorem mz_Go.getI {pc len a j r ci i : Nat} {v : Int32} {ls : mz_L} {q : List Value} {M : mz_M} {fs : List (Option Nat)} (hf : mz_find pc (mz_rows I) = some (pc, .getfield i, len, a, v, j)) (hr : mz_nth SK r = some (.inr (ci, fs))) (hk : mz_nth fs (a % 64) = some none) (hc : Nat.beq ci (a / 64) = true) (g : mz_Go SK tab I (pc + 3, ls, .int (M.1 r (a % 64)) :: q, M) res) : mz_Go SK tab I (pc, ls, .ref r :: q, M) res := by
  refine mz_Go.step (k2 := (pc + 3, ls, .int (M.1 r (a % 64)) :: q, M)) (P := []) ?_ (fun x hx => nomatch hx) g
  simp only [mz_stp, hf, mz_step, hr, hk, hc]
theorem mz_Go.getR {pc len a j r ci i z : Nat} {v : Int32} {ls : mz_L} {q : List Value} {M : mz_M} {fs : List (Option Nat)} (hf : mz_find pc (mz_rows I) = some (pc, .getfield i, len, a, v, j)) (hr : mz_nth SK r = some (.inr (ci, fs))) (hk : mz_nth fs (a % 64) = some (some z)) (hc : Nat.beq ci (a / 64) = true) (g : mz_Go SK tab I (pc + 3, ls, .ref z :: q, M) res) : mz_Go SK tab I (pc, ls, .ref r :: q, M) res := by
  refine mz_Go.step (k2 := (pc + 3, ls, .ref z :: q, M)) (P := []) ?_ (fun x hx => nomatch hx) g
  simp only [mz_stp, hf, mz_step, hr, hk, hc]
theorem mz_Go.putI {pc len a j r ci i : Nat} {x : Int32} {ls : mz_L} {q : List Value} {M : mz_M} {fs : List (Option Nat)} (hf : mz_find pc (mz_rows I) = some (pc, .putfield i, len, a, 0, j)) (hr : mz_nth SK r = some (.inr (ci, fs))) (hk : mz_nth fs (a % 64) = some none) (hc : Nat.beq ci (a / 64) = true) (g : mz_Go SK tab I (pc + 3, ls, q, mz_wr M r (upd (M.1 r) (a % 64) x)) res) : mz_Go SK tab I (pc, ls, .int x :: .ref r :: q, M) res := by
  refine mz_Go.step (k2 := (pc + 3, ls, q, mz_wr M r (upd (M.1 r) (a % 64) x))) (P := []) ?_ (fun x hx => nomatch hx) g
  simp only [mz_stp, hf, mz_step, hr, hk, hc]
  rfl
end MZG
theorem mz_o0 : ∀ x ∈ ([] : List Prop), x := fun _ h => nomatch h
theorem mz_o1 {a : Prop} (h : a) : ∀ x ∈ [a], x := fun x hx => by rw [List.mem_singleton.mp hx]; exact h
theorem mz_oc {a : Prop} {l : List Prop} (h : a) (hl : ∀ x ∈ l, x) : ∀ x ∈ a :: l, x := fun x hx => by
  rcases List.mem_cons.mp hx with q | q
  · rw [q]; exact h
  · exact hl x q
theorem mz_o2 {a b : Prop} (h : a) (h2 : b) : ∀ x ∈ [a, b], x := mz_oc h (mz_o1 h2)
theorem mz_o3 {a b c : Prop} (h : a) (h2 : b) (h3 : c) : ∀ x ∈ [a, b, c], x := mz_oc h (mz_o2 h2 h3)
theorem mz_o4 {a b c d : Prop} (h : a) (h2 : b) (h3 : c) (h4 : d) : ∀ x ∈ [a, b, c, d], x := mz_oc h (mz_o3 h2 h3 h4)
theorem mz_o5 {a b c d e : Prop} (h : a) (h2 : b) (h3 : c) (h4 : d) (h5 : e) : ∀ x ∈ [a, b, c, d, e], x := mz_oc h (mz_o4 h2 h3 h4 h5)
theorem mz_o6 {a b c d e f : Prop} (h : a) (h2 : b) (h3 : c) (h4 : d) (h5 : e) (h6 : f) : ∀ x ∈ [a, b, c, d, e, f], x := mz_oc h (mz_o5 h2 h3 h4 h5 h6)
end
