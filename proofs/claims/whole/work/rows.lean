section
-- ===== PART A: goes FIRST, ahead of the names: the tables' words, and 'selects' of the private methods out of them =====
/-- a private method of a class that the tables say can be made, by its rows of tables_1 -/
def lw_okq (q : MethodName × Nat) : Prop := (q.1.cls ≠ "java/lang/invoke/MethodHandle" ∧ q.1.cls ≠ "java/lang/invoke/VarHandle") ∧ Cond.instantiable q.1.cls q.2 ∈ tables_1 ∧ Cond.privateMethod q.1 ∈ tables_1 ∧ Cond.instanceMethod q.1 ∈ tables_1
theorem lw_p0 : lw_okq (⟨"FieldBases$Field", "fills", "(I)Z"⟩, 6) := ⟨⟨by decide +kernel, by decide +kernel⟩, List.mem_of_getElem? (i := 34) (by decide +kernel), List.mem_of_getElem? (i := 172) (by decide +kernel), List.mem_of_getElem? (i := 173) (by decide +kernel)⟩
theorem lw_p1 : lw_okq (⟨"FieldBases$Field", "multiplied", "(II)I"⟩, 6) := ⟨⟨by decide +kernel, by decide +kernel⟩, List.mem_of_getElem? (i := 34) (by decide +kernel), List.mem_of_getElem? (i := 176) (by decide +kernel), List.mem_of_getElem? (i := 177) (by decide +kernel)⟩
theorem lw_p2 : lw_okq (⟨"FieldBases$Text", "powerRead", "(I)I"⟩, 4) := ⟨⟨by decide +kernel, by decide +kernel⟩, List.mem_of_getElem? (i := 129) (by decide +kernel), List.mem_of_getElem? (i := 258) (by decide +kernel), List.mem_of_getElem? (i := 259) (by decide +kernel)⟩
theorem lw_p3 : lw_okq (⟨"FieldBases$Text", "signAt", "(I)I"⟩, 4) := ⟨⟨by decide +kernel, by decide +kernel⟩, List.mem_of_getElem? (i := 129) (by decide +kernel), List.mem_of_getElem? (i := 262) (by decide +kernel), List.mem_of_getElem? (i := 263) (by decide +kernel)⟩
theorem lw_p4 : lw_okq (⟨"FieldBases", "tellsField", "(I)I"⟩, 11) := ⟨⟨by decide +kernel, by decide +kernel⟩, List.mem_of_getElem? (i := 20) (by decide +kernel), List.mem_of_getElem? (i := 274) (by decide +kernel), List.mem_of_getElem? (i := 275) (by decide +kernel)⟩
theorem lw_p5 : lw_okq (⟨"FieldBases", "isElement", "(I)Z"⟩, 11) := ⟨⟨by decide +kernel, by decide +kernel⟩, List.mem_of_getElem? (i := 20) (by decide +kernel), List.mem_of_getElem? (i := 302) (by decide +kernel), List.mem_of_getElem? (i := 303) (by decide +kernel)⟩
theorem lw_p6 : lw_okq (⟨"FieldBases$Text", "numberRead", "()I"⟩, 4) := ⟨⟨by decide +kernel, by decide +kernel⟩, List.mem_of_getElem? (i := 129) (by decide +kernel), List.mem_of_getElem? (i := 524) (by decide +kernel), List.mem_of_getElem? (i := 525) (by decide +kernel)⟩
theorem lw_p7 : lw_okq (⟨"FieldBases", "isSlot", "(I)Z"⟩, 11) := ⟨⟨by decide +kernel, by decide +kernel⟩, List.mem_of_getElem? (i := 20) (by decide +kernel), List.mem_of_getElem? (i := 531) (by decide +kernel), List.mem_of_getElem? (i := 532) (by decide +kernel)⟩
theorem lw_p8 : lw_okq (⟨"FieldBases", "setsSlot", "(I[I)I"⟩, 11) := ⟨⟨by decide +kernel, by decide +kernel⟩, List.mem_of_getElem? (i := 20) (by decide +kernel), List.mem_of_getElem? (i := 535) (by decide +kernel), List.mem_of_getElem? (i := 536) (by decide +kernel)⟩
theorem lw_p9 : lw_okq (⟨"FieldBases", "isPlace", "(I)Z"⟩, 11) := ⟨⟨by decide +kernel, by decide +kernel⟩, List.mem_of_getElem? (i := 20) (by decide +kernel), List.mem_of_getElem? (i := 563) (by decide +kernel), List.mem_of_getElem? (i := 564) (by decide +kernel)⟩
theorem lw_p10 : lw_okq (⟨"FieldBases", "tellsLocated", "([I)I"⟩, 11) := ⟨⟨by decide +kernel, by decide +kernel⟩, List.mem_of_getElem? (i := 20) (by decide +kernel), List.mem_of_getElem? (i := 596) (by decide +kernel), List.mem_of_getElem? (i := 597) (by decide +kernel)⟩
theorem lw_p11 : lw_okq (⟨"FieldBases", "followsState", "()V"⟩, 11) := ⟨⟨by decide +kernel, by decide +kernel⟩, List.mem_of_getElem? (i := 20) (by decide +kernel), List.mem_of_getElem? (i := 710) (by decide +kernel), List.mem_of_getElem? (i := 711) (by decide +kernel)⟩
theorem lw_p12 : lw_okq (⟨"FieldBases$Text", "puts", "(II)I"⟩, 4) := ⟨⟨by decide +kernel, by decide +kernel⟩, List.mem_of_getElem? (i := 129) (by decide +kernel), List.mem_of_getElem? (i := 731) (by decide +kernel), List.mem_of_getElem? (i := 732) (by decide +kernel)⟩
theorem lw_p13 : lw_okq (⟨"FieldBases", "normalSlots", "()I"⟩, 11) := ⟨⟨by decide +kernel, by decide +kernel⟩, List.mem_of_getElem? (i := 20) (by decide +kernel), List.mem_of_getElem? (i := 739) (by decide +kernel), List.mem_of_getElem? (i := 740) (by decide +kernel)⟩
theorem lw_p14 : lw_okq (⟨"FieldBases", "plainSlots", "()I"⟩, 11) := ⟨⟨by decide +kernel, by decide +kernel⟩, List.mem_of_getElem? (i := 20) (by decide +kernel), List.mem_of_getElem? (i := 743) (by decide +kernel), List.mem_of_getElem? (i := 744) (by decide +kernel)⟩
theorem lw_p15 : lw_okq (⟨"java/lang/Throwable", "fillInStackTrace", "(I)Ljava/lang/Throwable;"⟩, 6) := ⟨⟨by decide +kernel, by decide +kernel⟩, List.mem_of_getElem? (i := 795) (by decide +kernel), List.mem_of_getElem? (i := 793) (by decide +kernel), List.mem_of_getElem? (i := 794) (by decide +kernel)⟩
def lw_privs_1 : List (MethodName × Nat) := [(⟨"FieldBases$Field", "fills", "(I)Z"⟩, 6), (⟨"FieldBases$Field", "multiplied", "(II)I"⟩, 6), (⟨"FieldBases$Text", "powerRead", "(I)I"⟩, 4), (⟨"FieldBases$Text", "signAt", "(I)I"⟩, 4), (⟨"FieldBases", "tellsField", "(I)I"⟩, 11), (⟨"FieldBases", "isElement", "(I)Z"⟩, 11), (⟨"FieldBases$Text", "numberRead", "()I"⟩, 4), (⟨"FieldBases", "isSlot", "(I)Z"⟩, 11), (⟨"FieldBases", "setsSlot", "(I[I)I"⟩, 11), (⟨"FieldBases", "isPlace", "(I)Z"⟩, 11), (⟨"FieldBases", "tellsLocated", "([I)I"⟩, 11), (⟨"FieldBases", "followsState", "()V"⟩, 11), (⟨"FieldBases$Text", "puts", "(II)I"⟩, 4), (⟨"FieldBases", "normalSlots", "()I"⟩, 11), (⟨"FieldBases", "plainSlots", "()I"⟩, 11), (⟨"java/lang/Throwable", "fillInStackTrace", "(I)Ljava/lang/Throwable;"⟩, 6)]
theorem lw_r1 : ∀ q ∈ lw_privs_1, lw_okq q := List.forall_mem_cons.mpr ⟨lw_p0, List.forall_mem_cons.mpr ⟨lw_p1, List.forall_mem_cons.mpr ⟨lw_p2, List.forall_mem_cons.mpr ⟨lw_p3, List.forall_mem_cons.mpr ⟨lw_p4, List.forall_mem_cons.mpr ⟨lw_p5, List.forall_mem_cons.mpr ⟨lw_p6, List.forall_mem_cons.mpr ⟨lw_p7, List.forall_mem_cons.mpr ⟨lw_p8, List.forall_mem_cons.mpr ⟨lw_p9, List.forall_mem_cons.mpr ⟨lw_p10, List.forall_mem_cons.mpr ⟨lw_p11, List.forall_mem_cons.mpr ⟨lw_p12, List.forall_mem_cons.mpr ⟨lw_p13, List.forall_mem_cons.mpr ⟨lw_p14, List.forall_mem_cons.mpr ⟨lw_p15, fun _ h => absurd h List.not_mem_nil⟩⟩⟩⟩⟩⟩⟩⟩⟩⟩⟩⟩⟩⟩⟩⟩
theorem lw_p16 : lw_okq (⟨"FieldBasesModel", "fields", "(I)V"⟩, 24) := ⟨⟨by decide +kernel, by decide +kernel⟩, List.mem_of_getElem? (i := 820) (by decide +kernel), List.mem_of_getElem? (i := 826) (by decide +kernel), List.mem_of_getElem? (i := 827) (by decide +kernel)⟩
theorem lw_p17 : lw_okq (⟨"FieldBasesModel", "lays", "()V"⟩, 24) := ⟨⟨by decide +kernel, by decide +kernel⟩, List.mem_of_getElem? (i := 820) (by decide +kernel), List.mem_of_getElem? (i := 833) (by decide +kernel), List.mem_of_getElem? (i := 834) (by decide +kernel)⟩
theorem lw_p18 : lw_okq (⟨"FieldBasesModel", "begin", "()V"⟩, 24) := ⟨⟨by decide +kernel, by decide +kernel⟩, List.mem_of_getElem? (i := 820) (by decide +kernel), List.mem_of_getElem? (i := 930) (by decide +kernel), List.mem_of_getElem? (i := 931) (by decide +kernel)⟩
theorem lw_p19 : lw_okq (⟨"FieldBasesModel", "readsPoly", "()I"⟩, 24) := ⟨⟨by decide +kernel, by decide +kernel⟩, List.mem_of_getElem? (i := 820) (by decide +kernel), List.mem_of_getElem? (i := 934) (by decide +kernel), List.mem_of_getElem? (i := 935) (by decide +kernel)⟩
theorem lw_p20 : lw_okq (⟨"FieldBasesModel", "readsPower", "(I)I"⟩, 24) := ⟨⟨by decide +kernel, by decide +kernel⟩, List.mem_of_getElem? (i := 820) (by decide +kernel), List.mem_of_getElem? (i := 938) (by decide +kernel), List.mem_of_getElem? (i := 939) (by decide +kernel)⟩
theorem lw_p21 : lw_okq (⟨"FieldBasesModel", "sees", "()I"⟩, 24) := ⟨⟨by decide +kernel, by decide +kernel⟩, List.mem_of_getElem? (i := 820) (by decide +kernel), List.mem_of_getElem? (i := 942) (by decide +kernel), List.mem_of_getElem? (i := 943) (by decide +kernel)⟩
theorem lw_p22 : lw_okq (⟨"FieldBasesModel", "fault", "(I)V"⟩, 24) := ⟨⟨by decide +kernel, by decide +kernel⟩, List.mem_of_getElem? (i := 820) (by decide +kernel), List.mem_of_getElem? (i := 946) (by decide +kernel), List.mem_of_getElem? (i := 947) (by decide +kernel)⟩
theorem lw_p23 : lw_okq (⟨"FieldBasesModel", "does", "()V"⟩, 24) := ⟨⟨by decide +kernel, by decide +kernel⟩, List.mem_of_getElem? (i := 820) (by decide +kernel), List.mem_of_getElem? (i := 962) (by decide +kernel), List.mem_of_getElem? (i := 963) (by decide +kernel)⟩
theorem lw_p24 : lw_okq (⟨"FieldBasesModel", "isElement", "(I)Z"⟩, 24) := ⟨⟨by decide +kernel, by decide +kernel⟩, List.mem_of_getElem? (i := 820) (by decide +kernel), List.mem_of_getElem? (i := 976) (by decide +kernel), List.mem_of_getElem? (i := 977) (by decide +kernel)⟩
theorem lw_p25 : lw_okq (⟨"FieldBasesModel", "times", "(II)I"⟩, 24) := ⟨⟨by decide +kernel, by decide +kernel⟩, List.mem_of_getElem? (i := 820) (by decide +kernel), List.mem_of_getElem? (i := 980) (by decide +kernel), List.mem_of_getElem? (i := 981) (by decide +kernel)⟩
theorem lw_p26 : lw_okq (⟨"FieldBasesModel", "inverseOf", "(I)I"⟩, 24) := ⟨⟨by decide +kernel, by decide +kernel⟩, List.mem_of_getElem? (i := 820) (by decide +kernel), List.mem_of_getElem? (i := 991) (by decide +kernel), List.mem_of_getElem? (i := 992) (by decide +kernel)⟩
theorem lw_p27 : lw_okq (⟨"FieldBasesModel", "powered", "(II)I"⟩, 24) := ⟨⟨by decide +kernel, by decide +kernel⟩, List.mem_of_getElem? (i := 820) (by decide +kernel), List.mem_of_getElem? (i := 995) (by decide +kernel), List.mem_of_getElem? (i := 996) (by decide +kernel)⟩
theorem lw_p28 : lw_okq (⟨"FieldBasesModel", "isGenerator", "(I)Z"⟩, 24) := ⟨⟨by decide +kernel, by decide +kernel⟩, List.mem_of_getElem? (i := 820) (by decide +kernel), List.mem_of_getElem? (i := 1008) (by decide +kernel), List.mem_of_getElem? (i := 1009) (by decide +kernel)⟩
theorem lw_p29 : lw_okq (⟨"FieldBasesModel", "orderOf", "(I)I"⟩, 24) := ⟨⟨by decide +kernel, by decide +kernel⟩, List.mem_of_getElem? (i := 820) (by decide +kernel), List.mem_of_getElem? (i := 1012) (by decide +kernel), List.mem_of_getElem? (i := 1013) (by decide +kernel)⟩
theorem lw_p30 : lw_okq (⟨"FieldBasesModel", "tell", "(J)V"⟩, 24) := ⟨⟨by decide +kernel, by decide +kernel⟩, List.mem_of_getElem? (i := 820) (by decide +kernel), List.mem_of_getElem? (i := 1016) (by decide +kernel), List.mem_of_getElem? (i := 1017) (by decide +kernel)⟩
theorem lw_p31 : lw_okq (⟨"FieldBasesModel", "conj", "(II)I"⟩, 24) := ⟨⟨by decide +kernel, by decide +kernel⟩, List.mem_of_getElem? (i := 820) (by decide +kernel), List.mem_of_getElem? (i := 1025) (by decide +kernel), List.mem_of_getElem? (i := 1026) (by decide +kernel)⟩
def lw_privs_2 : List (MethodName × Nat) := [(⟨"FieldBasesModel", "fields", "(I)V"⟩, 24), (⟨"FieldBasesModel", "lays", "()V"⟩, 24), (⟨"FieldBasesModel", "begin", "()V"⟩, 24), (⟨"FieldBasesModel", "readsPoly", "()I"⟩, 24), (⟨"FieldBasesModel", "readsPower", "(I)I"⟩, 24), (⟨"FieldBasesModel", "sees", "()I"⟩, 24), (⟨"FieldBasesModel", "fault", "(I)V"⟩, 24), (⟨"FieldBasesModel", "does", "()V"⟩, 24), (⟨"FieldBasesModel", "isElement", "(I)Z"⟩, 24), (⟨"FieldBasesModel", "times", "(II)I"⟩, 24), (⟨"FieldBasesModel", "inverseOf", "(I)I"⟩, 24), (⟨"FieldBasesModel", "powered", "(II)I"⟩, 24), (⟨"FieldBasesModel", "isGenerator", "(I)Z"⟩, 24), (⟨"FieldBasesModel", "orderOf", "(I)I"⟩, 24), (⟨"FieldBasesModel", "tell", "(J)V"⟩, 24), (⟨"FieldBasesModel", "conj", "(II)I"⟩, 24)]
theorem lw_r2 : ∀ q ∈ lw_privs_2, lw_okq q := List.forall_mem_cons.mpr ⟨lw_p16, List.forall_mem_cons.mpr ⟨lw_p17, List.forall_mem_cons.mpr ⟨lw_p18, List.forall_mem_cons.mpr ⟨lw_p19, List.forall_mem_cons.mpr ⟨lw_p20, List.forall_mem_cons.mpr ⟨lw_p21, List.forall_mem_cons.mpr ⟨lw_p22, List.forall_mem_cons.mpr ⟨lw_p23, List.forall_mem_cons.mpr ⟨lw_p24, List.forall_mem_cons.mpr ⟨lw_p25, List.forall_mem_cons.mpr ⟨lw_p26, List.forall_mem_cons.mpr ⟨lw_p27, List.forall_mem_cons.mpr ⟨lw_p28, List.forall_mem_cons.mpr ⟨lw_p29, List.forall_mem_cons.mpr ⟨lw_p30, List.forall_mem_cons.mpr ⟨lw_p31, fun _ h => absurd h List.not_mem_nil⟩⟩⟩⟩⟩⟩⟩⟩⟩⟩⟩⟩⟩⟩⟩⟩
theorem lw_p32 : lw_okq (⟨"FieldBasesModel", "sizeOf", "(I)I"⟩, 24) := ⟨⟨by decide +kernel, by decide +kernel⟩, List.mem_of_getElem? (i := 820) (by decide +kernel), List.mem_of_getElem? (i := 1033) (by decide +kernel), List.mem_of_getElem? (i := 1034) (by decide +kernel)⟩
theorem lw_p33 : lw_okq (⟨"FieldBasesModel", "rooted", "(II)I"⟩, 24) := ⟨⟨by decide +kernel, by decide +kernel⟩, List.mem_of_getElem? (i := 820) (by decide +kernel), List.mem_of_getElem? (i := 1041) (by decide +kernel), List.mem_of_getElem? (i := 1042) (by decide +kernel)⟩
theorem lw_p34 : lw_okq (⟨"FieldBasesModel", "isPart", "(I)Z"⟩, 24) := ⟨⟨by decide +kernel, by decide +kernel⟩, List.mem_of_getElem? (i := 820) (by decide +kernel), List.mem_of_getElem? (i := 1049) (by decide +kernel), List.mem_of_getElem? (i := 1050) (by decide +kernel)⟩
theorem lw_p35 : lw_okq (⟨"FieldBasesModel", "traceTo", "(II)I"⟩, 24) := ⟨⟨by decide +kernel, by decide +kernel⟩, List.mem_of_getElem? (i := 820) (by decide +kernel), List.mem_of_getElem? (i := 1053) (by decide +kernel), List.mem_of_getElem? (i := 1054) (by decide +kernel)⟩
theorem lw_p36 : lw_okq (⟨"FieldBasesModel", "normTo", "(II)I"⟩, 24) := ⟨⟨by decide +kernel, by decide +kernel⟩, List.mem_of_getElem? (i := 820) (by decide +kernel), List.mem_of_getElem? (i := 1061) (by decide +kernel), List.mem_of_getElem? (i := 1062) (by decide +kernel)⟩
theorem lw_p37 : lw_okq (⟨"FieldBasesModel", "takesSubbase", "(I)V"⟩, 24) := ⟨⟨by decide +kernel, by decide +kernel⟩, List.mem_of_getElem? (i := 820) (by decide +kernel), List.mem_of_getElem? (i := 1110) (by decide +kernel), List.mem_of_getElem? (i := 1111) (by decide +kernel)⟩
theorem lw_p38 : lw_okq (⟨"FieldBasesModel", "rank", "(I)I"⟩, 24) := ⟨⟨by decide +kernel, by decide +kernel⟩, List.mem_of_getElem? (i := 820) (by decide +kernel), List.mem_of_getElem? (i := 1114) (by decide +kernel), List.mem_of_getElem? (i := 1115) (by decide +kernel)⟩
theorem lw_p39 : lw_okq (⟨"FieldBasesModel", "takesConjugates", "(I)V"⟩, 24) := ⟨⟨by decide +kernel, by decide +kernel⟩, List.mem_of_getElem? (i := 820) (by decide +kernel), List.mem_of_getElem? (i := 1125) (by decide +kernel), List.mem_of_getElem? (i := 1126) (by decide +kernel)⟩
theorem lw_p40 : lw_okq (⟨"FieldBasesModel", "isNormal", "(I)Z"⟩, 24) := ⟨⟨by decide +kernel, by decide +kernel⟩, List.mem_of_getElem? (i := 820) (by decide +kernel), List.mem_of_getElem? (i := 1133) (by decide +kernel), List.mem_of_getElem? (i := 1134) (by decide +kernel)⟩
theorem lw_p41 : lw_okq (⟨"FieldBasesModel", "isNormalOver", "(II)Z"⟩, 24) := ⟨⟨by decide +kernel, by decide +kernel⟩, List.mem_of_getElem? (i := 820) (by decide +kernel), List.mem_of_getElem? (i := 1141) (by decide +kernel), List.mem_of_getElem? (i := 1142) (by decide +kernel)⟩
theorem lw_p42 : lw_okq (⟨"FieldBasesModel", "someIsBase", "()V"⟩, 24) := ⟨⟨by decide +kernel, by decide +kernel⟩, List.mem_of_getElem? (i := 820) (by decide +kernel), List.mem_of_getElem? (i := 1149) (by decide +kernel), List.mem_of_getElem? (i := 1150) (by decide +kernel)⟩
theorem lw_p43 : lw_okq (⟨"FieldBasesModel", "laysCoordinates", "()V"⟩, 24) := ⟨⟨by decide +kernel, by decide +kernel⟩, List.mem_of_getElem? (i := 820) (by decide +kernel), List.mem_of_getElem? (i := 1153) (by decide +kernel), List.mem_of_getElem? (i := 1154) (by decide +kernel)⟩
theorem lw_p44 : lw_okq (⟨"FieldBasesModel", "madeOf", "(I)I"⟩, 24) := ⟨⟨by decide +kernel, by decide +kernel⟩, List.mem_of_getElem? (i := 820) (by decide +kernel), List.mem_of_getElem? (i := 1157) (by decide +kernel), List.mem_of_getElem? (i := 1158) (by decide +kernel)⟩
theorem lw_p45 : lw_okq (⟨"FieldBasesModel", "complexityNow", "()I"⟩, 24) := ⟨⟨by decide +kernel, by decide +kernel⟩, List.mem_of_getElem? (i := 820) (by decide +kernel), List.mem_of_getElem? (i := 1161) (by decide +kernel), List.mem_of_getElem? (i := 1162) (by decide +kernel)⟩
theorem lw_p46 : lw_okq (⟨"FieldBasesModel", "takesPowers", "(I)Z"⟩, 24) := ⟨⟨by decide +kernel, by decide +kernel⟩, List.mem_of_getElem? (i := 820) (by decide +kernel), List.mem_of_getElem? (i := 1172) (by decide +kernel), List.mem_of_getElem? (i := 1173) (by decide +kernel)⟩
theorem lw_p47 : lw_okq (⟨"FieldBasesModel", "weightNow", "()I"⟩, 24) := ⟨⟨by decide +kernel, by decide +kernel⟩, List.mem_of_getElem? (i := 820) (by decide +kernel), List.mem_of_getElem? (i := 1176) (by decide +kernel), List.mem_of_getElem? (i := 1177) (by decide +kernel)⟩
def lw_privs_3 : List (MethodName × Nat) := [(⟨"FieldBasesModel", "sizeOf", "(I)I"⟩, 24), (⟨"FieldBasesModel", "rooted", "(II)I"⟩, 24), (⟨"FieldBasesModel", "isPart", "(I)Z"⟩, 24), (⟨"FieldBasesModel", "traceTo", "(II)I"⟩, 24), (⟨"FieldBasesModel", "normTo", "(II)I"⟩, 24), (⟨"FieldBasesModel", "takesSubbase", "(I)V"⟩, 24), (⟨"FieldBasesModel", "rank", "(I)I"⟩, 24), (⟨"FieldBasesModel", "takesConjugates", "(I)V"⟩, 24), (⟨"FieldBasesModel", "isNormal", "(I)Z"⟩, 24), (⟨"FieldBasesModel", "isNormalOver", "(II)Z"⟩, 24), (⟨"FieldBasesModel", "someIsBase", "()V"⟩, 24), (⟨"FieldBasesModel", "laysCoordinates", "()V"⟩, 24), (⟨"FieldBasesModel", "madeOf", "(I)I"⟩, 24), (⟨"FieldBasesModel", "complexityNow", "()I"⟩, 24), (⟨"FieldBasesModel", "takesPowers", "(I)Z"⟩, 24), (⟨"FieldBasesModel", "weightNow", "()I"⟩, 24)]
theorem lw_r3 : ∀ q ∈ lw_privs_3, lw_okq q := List.forall_mem_cons.mpr ⟨lw_p32, List.forall_mem_cons.mpr ⟨lw_p33, List.forall_mem_cons.mpr ⟨lw_p34, List.forall_mem_cons.mpr ⟨lw_p35, List.forall_mem_cons.mpr ⟨lw_p36, List.forall_mem_cons.mpr ⟨lw_p37, List.forall_mem_cons.mpr ⟨lw_p38, List.forall_mem_cons.mpr ⟨lw_p39, List.forall_mem_cons.mpr ⟨lw_p40, List.forall_mem_cons.mpr ⟨lw_p41, List.forall_mem_cons.mpr ⟨lw_p42, List.forall_mem_cons.mpr ⟨lw_p43, List.forall_mem_cons.mpr ⟨lw_p44, List.forall_mem_cons.mpr ⟨lw_p45, List.forall_mem_cons.mpr ⟨lw_p46, List.forall_mem_cons.mpr ⟨lw_p47, fun _ h => absurd h List.not_mem_nil⟩⟩⟩⟩⟩⟩⟩⟩⟩⟩⟩⟩⟩⟩⟩⟩
theorem lw_p48 : lw_okq (⟨"FieldBasesModel", "readsElement", "()I"⟩, 24) := ⟨⟨by decide +kernel, by decide +kernel⟩, List.mem_of_getElem? (i := 820) (by decide +kernel), List.mem_of_getElem? (i := 1194) (by decide +kernel), List.mem_of_getElem? (i := 1195) (by decide +kernel)⟩
theorem lw_p49 : lw_okq (⟨"FieldBasesModel", "holds", "(I)I"⟩, 24) := ⟨⟨by decide +kernel, by decide +kernel⟩, List.mem_of_getElem? (i := 820) (by decide +kernel), List.mem_of_getElem? (i := 1202) (by decide +kernel), List.mem_of_getElem? (i := 1203) (by decide +kernel)⟩
theorem lw_p50 : lw_okq (⟨"FieldBasesModel", "baseAt", "(II)I"⟩, 24) := ⟨⟨by decide +kernel, by decide +kernel⟩, List.mem_of_getElem? (i := 820) (by decide +kernel), List.mem_of_getElem? (i := 1214) (by decide +kernel), List.mem_of_getElem? (i := 1215) (by decide +kernel)⟩
theorem lw_p51 : lw_okq (⟨"FieldBasesModel", "looksAt", "(I)V"⟩, 24) := ⟨⟨by decide +kernel, by decide +kernel⟩, List.mem_of_getElem? (i := 820) (by decide +kernel), List.mem_of_getElem? (i := 1218) (by decide +kernel), List.mem_of_getElem? (i := 1219) (by decide +kernel)⟩
theorem lw_p52 : lw_okq (⟨"FieldBasesModel", "isPlace", "(I)Z"⟩, 24) := ⟨⟨by decide +kernel, by decide +kernel⟩, List.mem_of_getElem? (i := 820) (by decide +kernel), List.mem_of_getElem? (i := 1230) (by decide +kernel), List.mem_of_getElem? (i := 1231) (by decide +kernel)⟩
theorem lw_p53 : lw_okq (⟨"FieldBasesModel", "takesBase", "(I)V"⟩, 24) := ⟨⟨by decide +kernel, by decide +kernel⟩, List.mem_of_getElem? (i := 820) (by decide +kernel), List.mem_of_getElem? (i := 1234) (by decide +kernel), List.mem_of_getElem? (i := 1235) (by decide +kernel)⟩
theorem lw_p54 : lw_okq (⟨"FieldBasesModel", "tellsCoordinates", "(I)I"⟩, 24) := ⟨⟨by decide +kernel, by decide +kernel⟩, List.mem_of_getElem? (i := 820) (by decide +kernel), List.mem_of_getElem? (i := 1258) (by decide +kernel), List.mem_of_getElem? (i := 1259) (by decide +kernel)⟩
theorem lw_p55 : lw_okq (⟨"FieldBasesModel", "isNormalBase", "()Z"⟩, 24) := ⟨⟨by decide +kernel, by decide +kernel⟩, List.mem_of_getElem? (i := 820) (by decide +kernel), List.mem_of_getElem? (i := 1270) (by decide +kernel), List.mem_of_getElem? (i := 1271) (by decide +kernel)⟩
theorem lw_p56 : lw_okq (⟨"FieldBasesModel", "takesDual", "(I)V"⟩, 24) := ⟨⟨by decide +kernel, by decide +kernel⟩, List.mem_of_getElem? (i := 820) (by decide +kernel), List.mem_of_getElem? (i := 1307) (by decide +kernel), List.mem_of_getElem? (i := 1308) (by decide +kernel)⟩
theorem lw_p57 : lw_okq (⟨"FieldBasesModel", "dualAt", "(II)I"⟩, 24) := ⟨⟨by decide +kernel, by decide +kernel⟩, List.mem_of_getElem? (i := 820) (by decide +kernel), List.mem_of_getElem? (i := 1311) (by decide +kernel), List.mem_of_getElem? (i := 1312) (by decide +kernel)⟩
theorem lw_p58 : lw_okq (⟨"FieldBasesModel", "placeOf", "(II)I"⟩, 24) := ⟨⟨by decide +kernel, by decide +kernel⟩, List.mem_of_getElem? (i := 820) (by decide +kernel), List.mem_of_getElem? (i := 1319) (by decide +kernel), List.mem_of_getElem? (i := 1320) (by decide +kernel)⟩
theorem lw_p59 : lw_okq (⟨"FieldBasesModel", "isUnder", "(I)Z"⟩, 24) := ⟨⟨by decide +kernel, by decide +kernel⟩, List.mem_of_getElem? (i := 820) (by decide +kernel), List.mem_of_getElem? (i := 1335) (by decide +kernel), List.mem_of_getElem? (i := 1336) (by decide +kernel)⟩
theorem lw_p60 : lw_okq (⟨"FieldBasesModel", "writes", "(I)V"⟩, 24) := ⟨⟨by decide +kernel, by decide +kernel⟩, List.mem_of_getElem? (i := 820) (by decide +kernel), List.mem_of_getElem? (i := 1367) (by decide +kernel), List.mem_of_getElem? (i := 1368) (by decide +kernel)⟩
theorem lw_p61 : lw_okq (⟨"FieldBasesModel", "lost", "()I"⟩, 24) := ⟨⟨by decide +kernel, by decide +kernel⟩, List.mem_of_getElem? (i := 820) (by decide +kernel), List.mem_of_getElem? (i := 1379) (by decide +kernel), List.mem_of_getElem? (i := 1380) (by decide +kernel)⟩
def lw_privs_4 : List (MethodName × Nat) := [(⟨"FieldBasesModel", "readsElement", "()I"⟩, 24), (⟨"FieldBasesModel", "holds", "(I)I"⟩, 24), (⟨"FieldBasesModel", "baseAt", "(II)I"⟩, 24), (⟨"FieldBasesModel", "looksAt", "(I)V"⟩, 24), (⟨"FieldBasesModel", "isPlace", "(I)Z"⟩, 24), (⟨"FieldBasesModel", "takesBase", "(I)V"⟩, 24), (⟨"FieldBasesModel", "tellsCoordinates", "(I)I"⟩, 24), (⟨"FieldBasesModel", "isNormalBase", "()Z"⟩, 24), (⟨"FieldBasesModel", "takesDual", "(I)V"⟩, 24), (⟨"FieldBasesModel", "dualAt", "(II)I"⟩, 24), (⟨"FieldBasesModel", "placeOf", "(II)I"⟩, 24), (⟨"FieldBasesModel", "isUnder", "(I)Z"⟩, 24), (⟨"FieldBasesModel", "writes", "(I)V"⟩, 24), (⟨"FieldBasesModel", "lost", "()I"⟩, 24)]
theorem lw_r4 : ∀ q ∈ lw_privs_4, lw_okq q := List.forall_mem_cons.mpr ⟨lw_p48, List.forall_mem_cons.mpr ⟨lw_p49, List.forall_mem_cons.mpr ⟨lw_p50, List.forall_mem_cons.mpr ⟨lw_p51, List.forall_mem_cons.mpr ⟨lw_p52, List.forall_mem_cons.mpr ⟨lw_p53, List.forall_mem_cons.mpr ⟨lw_p54, List.forall_mem_cons.mpr ⟨lw_p55, List.forall_mem_cons.mpr ⟨lw_p56, List.forall_mem_cons.mpr ⟨lw_p57, List.forall_mem_cons.mpr ⟨lw_p58, List.forall_mem_cons.mpr ⟨lw_p59, List.forall_mem_cons.mpr ⟨lw_p60, List.forall_mem_cons.mpr ⟨lw_p61, fun _ h => absurd h List.not_mem_nil⟩⟩⟩⟩⟩⟩⟩⟩⟩⟩⟩⟩⟩⟩
def lw_privs : List (MethodName × Nat) := lw_privs_1 ++ (lw_privs_2 ++ (lw_privs_3 ++ (lw_privs_4)))
def lw_tbl : List Cond := k2_sels lw_privs ++ tables_1
theorem lw_privs_ok : ∀ q ∈ lw_privs, lw_okq q := by
  show ∀ q ∈ lw_privs_1 ++ (lw_privs_2 ++ (lw_privs_3 ++ (lw_privs_4))), lw_okq q
  exact List.forall_mem_append.mpr ⟨lw_r1, List.forall_mem_append.mpr ⟨lw_r2, List.forall_mem_append.mpr ⟨lw_r3, lw_r4⟩⟩⟩
-- ===== end of PART A; then your names; then what follows =====
end
section
/-! THE SMALL MACHINE: bytecode over cells that are numbered, whose references never change, whose ints and longs are read off a store; one theorem (below) takes its runs to the machine's own. A row of a method: pc, instruction, length, a (a local's place, a branch's target, a callee, a field), v (a constant), j (its link's place). -/
abbrev mz_M : Type := (Nat → Nat → Int32) × (Nat → Nat → Int64)
/-- a cell's shape: an array (kind 0 int, 1 byte, 2 long, from 3 on references; length; whom the places name), or an object (class, fields: none a number, some a reference) -/
abbrev mz_E : Type := (Nat × Nat × List Nat) ⊕ (Nat × List (Option Nat))
abbrev mz_L : Type := List (Option Value)
abbrev mz_C : Type := Nat × mz_L × List Value × mz_M
abbrev mz_R : Type := Nat × Instr × Nat × Nat × Int32 × Nat
/-- a method: name, code, locals, type, static, parameters, frames and locals below it, rows -/
abbrev mz_I : Type := MethodName × ByteArray × Nat × Option FieldType × Bool × Nat × Nat × Nat × List mz_R
def mz_nth {α : Type} : List α → Nat → Option α
  | [], _ => none
  | a :: _, 0 => some a
  | _ :: l, n + 1 => mz_nth l n
def mz_get : mz_L → Nat → Option Value
  | [], _ => none
  | a :: _, 0 => a
  | _ :: l, n + 1 => mz_get l n
def mz_put : mz_L → Nat → Option Value → mz_L
  | [], _, _ => []
  | _ :: l, 0, v => v :: l
  | a :: l, n + 1, v => a :: mz_put l n v
/-- is the place ahead a long one -/
def mz_wide (o : Option Value) : Bool := match o with
  | some (.long _) => true
  | some (.double _) => true
  | _ => false
def mz_ahead (ls : mz_L) (i : Nat) : Bool := match i with
  | 0 => false
  | j + 1 => mz_wide (mz_get ls j)
def mz_fit (ls : mz_L) (i : Nat) : Bool := match mz_ahead ls i with
  | true => false
  | false => Nat.blt i ls.length
def mz_wr (M : mz_M) (a : Nat) (f : Nat → Int32) : mz_M := (fun b => if b = a then f else M.1 b, M.2)
def mz_wrl (M : mz_M) (a : Nat) (f : Nat → Int64) : mz_M := (M.1, fun b => if b = a then f else M.2 b)
def mz_find (pc : Nat) : List mz_R → Option mz_R
  | [] => none
  | r :: l => match Nat.beq r.1 pc with
    | true => some r
    | false => mz_find pc l
def mz_int (o : Option Value) : Option Int32 := match o with
  | some (.int x) => some x
  | _ => none
def mz_ref (o : Option Value) : Option Nat := match o with
  | some (.ref x) => some x
  | _ => none
def mz_long (o : Option Value) : Option Int64 := match o with
  | some (.long x) => some x
  | _ => none
def mz_bin (f : Int32 → Int32 → Int32) (P : Int32 → Int32 → List Prop) (pc : Nat) (ls : mz_L) (st : List Value) (M : mz_M) : Option (mz_C × List Prop) := match st with
  | .int y :: .int x :: r => some ((pc + 1, ls, .int (f x y) :: r, M), P x y)
  | _ => none
def mz_if (f : Int32 → Prop) (d : ∀ x, Decidable (f x)) (a pc : Nat) (ls : mz_L) (st : List Value) (M : mz_M) : Option (mz_C × List Prop) := match st with
  | .int x :: r => some ((@ite Nat (f x) (d x) a (pc + 3), ls, r, M), [])
  | _ => none
def mz_ic (f : Int32 → Int32 → Prop) (d : ∀ x y, Decidable (f x y)) (a pc : Nat) (ls : mz_L) (st : List Value) (M : mz_M) : Option (mz_C × List Prop) := match st with
  | .int y :: .int x :: r => some ((@ite Nat (f x y) (d x y) a (pc + 3), ls, r, M), [])
  | _ => none
def mz_T (o : Option mz_C) : Option (mz_C × List Prop) := match o with
  | some c => some (c, [])
  | none => none
/-- one instruction that neither calls nor returns: the next place, and what must hold for it -/
def mz_step (SK : List mz_E) (ins : Instr) (len a : Nat) (v : Int32) (pc : Nat) (ls : mz_L) (st : List Value) (M : mz_M) : Option (mz_C × List Prop) := match ins with
  | .iconst _ => some ((pc + 1, ls, .int v :: st, M), [])
  | .bipush _ => some ((pc + 2, ls, .int v :: st, M), [])
  | .sipush _ => some ((pc + 3, ls, .int v :: st, M), [])
  | .ldc _ => some ((pc + 2, ls, .int v :: st, M), [])
  | .ldc_w _ => some ((pc + 3, ls, .int v :: st, M), [])
  | .lconst _ => some ((pc + 1, ls, .long v.toInt64 :: st, M), [])
  | .ldc2_w _ => some ((pc + 3, ls, .long v.toInt64 :: st, M), [])
  | .iload _ => (match mz_int (mz_get ls a) with
    | some x => some ((pc + 2, ls, .int x :: st, M), [])
    | none => none)
  | .iload_n _ => (match mz_int (mz_get ls a) with
    | some x => some ((pc + 1, ls, .int x :: st, M), [])
    | none => none)
  | .aload _ => (match mz_ref (mz_get ls a) with
    | some x => some ((pc + 2, ls, .ref x :: st, M), [])
    | none => none)
  | .aload_n _ => (match mz_ref (mz_get ls a) with
    | some x => some ((pc + 1, ls, .ref x :: st, M), [])
    | none => none)
  | .lload _ => (match mz_long (mz_get ls a) with
    | some x => some ((pc + 2, ls, .long x :: st, M), [])
    | none => none)
  | .lload_n _ => (match mz_long (mz_get ls a) with
    | some x => some ((pc + 1, ls, .long x :: st, M), [])
    | none => none)
  | .istore _ => (match st with
    | .int x :: r => (match mz_fit ls a with
      | true => some ((pc + 2, mz_put ls a (some (.int x)), r, M), [])
      | false => none)
    | _ => none)
  | .istore_n _ => (match st with
    | .int x :: r => (match mz_fit ls a with
      | true => some ((pc + 1, mz_put ls a (some (.int x)), r, M), [])
      | false => none)
    | _ => none)
  | .astore _ => (match st with
    | .ref x :: r => (match mz_fit ls a with
      | true => some ((pc + 2, mz_put ls a (some (.ref x)), r, M), [])
      | false => none)
    | _ => none)
  | .astore_n _ => (match st with
    | .ref x :: r => (match mz_fit ls a with
      | true => some ((pc + 1, mz_put ls a (some (.ref x)), r, M), [])
      | false => none)
    | _ => none)
  | .iinc _ _ => (match mz_int (mz_get ls a) with
    | some x => (match mz_fit ls a with
      | true => some ((pc + 3, mz_put ls a (some (.int (x + v))), st, M), [])
      | false => none)
    | none => none)
  | .iadd => mz_bin (fun x y => x + y) (fun _ _ => []) pc ls st M
  | .isub => mz_bin (fun x y => x - y) (fun _ _ => []) pc ls st M
  | .imul => mz_bin (fun x y => x * y) (fun _ _ => []) pc ls st M
  | .iand => mz_bin (fun x y => x &&& y) (fun _ _ => []) pc ls st M
  | .ior => mz_bin (fun x y => x ||| y) (fun _ _ => []) pc ls st M
  | .ixor => mz_bin (fun x y => x ^^^ y) (fun _ _ => []) pc ls st M
  | .ishl => mz_bin (fun x y => x <<< (y &&& 31)) (fun _ _ => []) pc ls st M
  | .ishr => mz_bin (fun x y => x >>> (y &&& 31)) (fun _ _ => []) pc ls st M
  | .iushr => mz_bin (fun x y => (x.toUInt32 >>> (y.toUInt32 &&& Int32.toUInt32 31)).toInt32) (fun _ _ => []) pc ls st M
  | .idiv => mz_bin (fun x y => x / y) (fun _ y => [¬ y = 0]) pc ls st M
  | .irem => mz_bin (fun x y => x - x / y * y) (fun _ y => [¬ y = 0]) pc ls st M
  | .ladd => (match st with
    | .long y :: .long x :: r => some ((pc + 1, ls, .long (x + y) :: r, M), [])
    | _ => none)
  | .lcmp => (match st with
    | .long y :: .long x :: r => some ((pc + 1, ls, .int (lg_cmp x y) :: r, M), [])
    | _ => none)
  | .i2l => (match st with
    | .int x :: r => some ((pc + 1, ls, .long x.toInt64 :: r, M), [])
    | _ => none)
  | .l2i => (match st with
    | .long x :: r => some ((pc + 1, ls, .int x.toInt32 :: r, M), [])
    | _ => none)
  | .i2b => (match st with
    | .int x :: r => some ((pc + 1, ls, .int x.toInt8.toInt32 :: r, M), [])
    | _ => none)
  | .pop => (match st with
    | .int _ :: r => some ((pc + 1, ls, r, M), [])
    | _ => none)
  | .dup => (match st with
    | .int x :: r => some ((pc + 1, ls, .int x :: .int x :: r, M), [])
    | .ref x :: r => some ((pc + 1, ls, .ref x :: .ref x :: r, M), [])
    | _ => none)
  | .dup_x1 => (match st with
    | .int x :: .ref y :: r => some ((pc + 1, ls, .int x :: .ref y :: .int x :: r, M), [])
    | _ => none)
  | .dup2 => (match st with
    | .int x :: .ref y :: r => some ((pc + 1, ls, .int x :: .ref y :: .int x :: .ref y :: r, M), [])
    | _ => none)
  | .goto _ => some ((a, ls, st, M), [])
  | .ifCond .eq _ => mz_if (fun x => x = 0) (fun _ => inferInstance) a pc ls st M
  | .ifCond .ne _ => mz_if (fun x => ¬ x = 0) (fun _ => inferInstance) a pc ls st M
  | .ifCond .lt _ => mz_if (fun x => x < 0) (fun _ => inferInstance) a pc ls st M
  | .ifCond .ge _ => mz_if (fun x => 0 ≤ x) (fun _ => inferInstance) a pc ls st M
  | .ifCond .gt _ => mz_if (fun x => 0 < x) (fun _ => inferInstance) a pc ls st M
  | .ifCond .le _ => mz_if (fun x => x ≤ 0) (fun _ => inferInstance) a pc ls st M
  | .if_icmp .eq _ => mz_ic (fun x y => x = y) (fun _ _ => inferInstance) a pc ls st M
  | .if_icmp .ne _ => mz_ic (fun x y => ¬ x = y) (fun _ _ => inferInstance) a pc ls st M
  | .if_icmp .lt _ => mz_ic (fun x y => x < y) (fun _ _ => inferInstance) a pc ls st M
  | .if_icmp .ge _ => mz_ic (fun x y => y ≤ x) (fun _ _ => inferInstance) a pc ls st M
  | .if_icmp .gt _ => mz_ic (fun x y => y < x) (fun _ _ => inferInstance) a pc ls st M
  | .if_icmp .le _ => mz_ic (fun x y => x ≤ y) (fun _ _ => inferInstance) a pc ls st M
  | .iaload => (match st with
    | .int i :: .ref r :: q => (match mz_nth SK r with
      | some (.inl (0, n, _)) => some ((pc + 1, ls, .int (M.1 r i.toNatClampNeg) :: q, M), [vp_in i n])
      | _ => none)
    | _ => none)
  | .baload => (match st with
    | .int i :: .ref r :: q => (match mz_nth SK r with
      | some (.inl (1, n, _)) => some ((pc + 1, ls, .int (M.1 r i.toNatClampNeg) :: q, M), [vp_in i n])
      | _ => none)
    | _ => none)
  | .laload => (match st with
    | .int i :: .ref r :: q => (match mz_nth SK r with
      | some (.inl (2, n, _)) => some ((pc + 1, ls, .long (M.2 r i.toNatClampNeg) :: q, M), [vp_in i n])
      | _ => none)
    | _ => none)
  | .aaload => (match st with
    | .int i :: .ref r :: q => (match mz_nth SK r with
      | some (.inl (k + 3, n, rs)) => some ((pc + 1, ls, .ref (rs.getD i.toNatClampNeg 0) :: q, M), [vp_in i n, rs.length = n])
      | _ => none)
    | _ => none)
  | .iastore => (match st with
    | .int x :: .int i :: .ref r :: q => (match mz_nth SK r with
      | some (.inl (0, n, _)) => some ((pc + 1, ls, q, mz_wr M r (upd (M.1 r) i.toNatClampNeg x)), [vp_in i n])
      | _ => none)
    | _ => none)
  | .bastore => (match st with
    | .int x :: .int i :: .ref r :: q => (match mz_nth SK r with
      | some (.inl (1, n, _)) => some ((pc + 1, ls, q, mz_wr M r (upd (M.1 r) i.toNatClampNeg (vp_nar .byte x))), [vp_in i n])
      | _ => none)
    | _ => none)
  | .lastore => (match st with
    | .long x :: .int i :: .ref r :: q => (match mz_nth SK r with
      | some (.inl (2, n, _)) => some ((pc + 1, ls, q, mz_wrl M r (vp_updL (M.2 r) i.toNatClampNeg x)), [vp_in i n])
      | _ => none)
    | _ => none)
  | .arraylength => (match st with
    | .ref r :: q => (match mz_nth SK r with
      | some (.inl (_, n, _)) => some ((pc + 1, ls, .int (Int32.ofNat n) :: q, M), [])
      | _ => none)
    | _ => none)
  | .getfield _ => (match st with
    | .ref r :: q => (match mz_nth SK r with
      | some (.inr (ci, fs)) => (match mz_nth fs (a % 64) with
        | some none => (match Nat.beq ci (a / 64) with
          | true => some ((pc + 3, ls, .int (M.1 r (a % 64)) :: q, M), [])
          | false => none)
        | some (some z) => (match Nat.beq ci (a / 64) with
          | true => some ((pc + 3, ls, .ref z :: q, M), [])
          | false => none)
        | none => none)
      | _ => none)
    | _ => none)
  | .putfield _ => (match st with
    | .int x :: .ref r :: q => (match mz_nth SK r with
      | some (.inr (ci, fs)) => (match mz_nth fs (a % 64) with
        | some none => (match Nat.beq ci (a / 64) with
          | true => some ((pc + 3, ls, q, mz_wr M r (upd (M.1 r) (a % 64) x)), match v.toBitVec.toNat with
            | 0 => []
            | _ => [x = 0 ∨ x = 1])
          | false => none)
        | _ => none)
      | _ => none)
    | _ => none)
  | .tableswitch d lo hi offs => (match st with
    | .int x :: r => some ((if x.toInt < lo ∨ hi < x.toInt then a else ((pc : Int) + offs.getD (x.toInt - lo).toNat 0).toNat, ls, r, M), [])
    | _ => none)
  | _ => none
end
section
/-! from the small machine to the machine: cells, locals -/
def mz_cv (ad : Nat → Nat) (v : Value) : Value := match v with
  | .ref k => .ref (ad k)
  | w => w
theorem mz_cv_cat (ad : Nat → Nat) (v : Value) : (mz_cv ad v).category = v.category := by cases v <;> rfl
theorem mz_sum (ad : Nat → Nat) (l : List Value) : ((l.map (mz_cv ad)).map fun v => v.category).sum = (l.map fun v => v.category).sum := by
  induction l with
  | nil => rfl
  | cons a l ih => simp only [List.map_cons, List.sum_cons, mz_cv_cat, ih]
def mz_con (ad : Nat → Nat) (M : mz_M) (k t : Nat) (rs : List Nat) : (Nat → Int32) ⊕ (Nat → Int64) ⊕ (Nat → UInt32) ⊕ (Nat → UInt64) ⊕ (Nat → Option Nat) := match t with
  | 0 => .inl (M.1 k)
  | 1 => .inl (M.1 k)
  | 2 => .inr (.inl (M.2 k))
  | _ + 3 => .inr (.inr (.inr (.inr (fun j => if j < rs.length then some (ad (rs.getD j 0)) else none))))
def mz_fs (ad : Nat → Nat) (M : mz_M) (k : Nat) : Nat → List (Option Nat) → List Value
  | _, [] => []
  | i, none :: r => .int (M.1 k i) :: mz_fs ad M k (i + 1) r
  | i, some q :: r => .ref (ad q) :: mz_fs ad M k (i + 1) r
def mz_ent (cA ad : Nat → Nat) (M : mz_M) (k : Nat) (e : mz_E) : va_E := match e with
  | .inl (t, n, rs) => .inl (cA t, n, mz_con ad M k t rs)
  | .inr (ci, fs) => .inr (ci, mz_fs ad M k 0 fs)
def mz_wl (cA ad : Nat → Nat) (M : mz_M) : Nat → List mz_E → va_W
  | _, [] => []
  | k, e :: r => (ad k, mz_ent cA ad M k e) :: mz_wl cA ad M (k + 1) r
theorem mz_wl_get (cA ad : Nat → Nat) (M : mz_M) : ∀ (l : List mz_E) (k i : Nat), (mz_wl cA ad M k l)[i]? = (mz_nth l i).map (fun e => (ad (k + i), mz_ent cA ad M (k + i) e))
  | [], k, i => by simp [mz_wl, mz_nth]
  | e :: r, k, 0 => by simp [mz_wl, mz_nth]
  | e :: r, k, i + 1 => by
    have h := mz_wl_get cA ad M r (k + 1) i
    simp only [mz_wl, mz_nth, List.getElem?_cons_succ]
    rw [h, show k + 1 + i = k + (i + 1) by omega]
theorem mz_fs_get (ad : Nat → Nat) (M : mz_M) (k : Nat) : ∀ (l : List (Option Nat)) (b i : Nat), (mz_fs ad M k b l)[i]? = (mz_nth l i).map (fun o => match o with
    | none => Value.int (M.1 k (b + i))
    | some q => Value.ref (ad q))
  | [], b, i => by simp [mz_fs, mz_nth]
  | none :: r, b, 0 => by simp [mz_fs, mz_nth]
  | some q :: r, b, 0 => by simp [mz_fs, mz_nth]
  | none :: r, b, i + 1 => by
    have h := mz_fs_get ad M k r (b + 1) i
    simp only [mz_fs, mz_nth, List.getElem?_cons_succ]
    rw [h, show b + 1 + i = b + (i + 1) by omega]
  | some q :: r, b, i + 1 => by
    have h := mz_fs_get ad M k r (b + 1) i
    simp only [mz_fs, mz_nth, List.getElem?_cons_succ]
    rw [h, show b + 1 + i = b + (i + 1) by omega]
theorem mz_fs_len (ad : Nat → Nat) (M : mz_M) (k : Nat) : ∀ (l : List (Option Nat)) (b : Nat), (mz_fs ad M k b l).length = l.length
  | [], b => rfl
  | none :: r, b => by simp only [mz_fs, List.length_cons, mz_fs_len ad M k r (b + 1)]
  | some q :: r, b => by simp only [mz_fs, List.length_cons, mz_fs_len ad M k r (b + 1)]
theorem mz_nth_lt {α : Type} : ∀ {l : List α} {i : Nat} {a : α}, mz_nth l i = some a → i < l.length
  | [], i, a, h => by simp [mz_nth] at h
  | b :: r, 0, a, h => by simp
  | b :: r, i + 1, a, h => by
    have := mz_nth_lt (l := r) (i := i) (a := a) h
    simp only [List.length_cons]
    omega
theorem mz_fs_set (ad : Nat → Nat) (M : mz_M) (k : Nat) (x : Int32) : ∀ (l : List (Option Nat)) (b i : Nat), mz_nth l i = some none → (mz_fs ad M k b l).set i (.int x) = mz_fs ad (mz_wr M k (upd (M.1 k) (b + i) x)) k b l := by
  intro l b i hi
  apply List.ext_getElem?
  intro j
  rw [List.getElem?_set, mz_fs_len, mz_fs_get, mz_fs_get]
  by_cases h : i = j
  · subst h
    rw [if_pos rfl, if_pos (mz_nth_lt hi), hi]
    simp [mz_wr, upd]
  · rw [if_neg h]
    cases mz_nth l j with
    | none => rfl
    | some o => cases o with
      | none => simp [mz_wr, upd, show ¬ j = i from fun q => h q.symm]
      | some q => rfl
/-- what a cell holds hangs on its own part of the store alone -/
theorem mz_ent_same {cA ad : Nat → Nat} {M M' : mz_M} {k : Nat} (h1 : M'.1 k = M.1 k) (h2 : M'.2 k = M.2 k) (e : mz_E) : mz_ent cA ad M' k e = mz_ent cA ad M k e := by
  have hf : ∀ (l : List (Option Nat)) (b : Nat), mz_fs ad M' k b l = mz_fs ad M k b l := by
    intro l
    induction l with
    | nil => intro b; rfl
    | cons o r ih => intro b; cases o <;> simp only [mz_fs, ih, h1]
  obtain ⟨t, n, rs⟩ | ⟨ci, fs⟩ := e
  · match t with
    | 0 => simp only [mz_ent, mz_con, h1]
    | 1 => simp only [mz_ent, mz_con, h1]
    | 2 => simp only [mz_ent, mz_con, h2]
    | t + 3 => simp only [mz_ent, mz_con]
  · simp only [mz_ent, hf]
theorem mz_wl_set {cA ad : Nat → Nat} {M M' : mz_M} {l : List mz_E} {i : Nat} {e : mz_E} (hi : mz_nth l i = some e) (hM : ∀ b, b ≠ i → M'.1 b = M.1 b ∧ M'.2 b = M.2 b) : (mz_wl cA ad M 0 l).set i (ad i, mz_ent cA ad M' i e) = mz_wl cA ad M' 0 l := by
  apply List.ext_getElem?
  intro j
  rw [List.getElem?_set, mz_wl_get, mz_wl_get]
  by_cases h : i = j
  · subst h
    have hlen : i < (mz_wl cA ad M 0 l).length := by
      have h9 : (mz_wl cA ad M 0 l)[i]? = some (ad (0 + i), mz_ent cA ad M (0 + i) e) := by rw [mz_wl_get, hi]; rfl
      exact (List.getElem?_eq_some_iff.mp h9).1
    rw [if_pos rfl, if_pos hlen, hi]
    simp
  · rw [if_neg h]
    cases mz_nth l j with
    | none => rfl
    | some e2 =>
      obtain ⟨a1, a2⟩ := hM j (fun q => h q.symm)
      simp only [Option.map_some, Nat.zero_add, mz_ent_same a1 a2]
theorem mz_w_at {cA ad : Nat → Nat} {M : mz_M} {l : List mz_E} {i : Nat} {e : mz_E} (hi : mz_nth l i = some e) : (mz_wl cA ad M 0 l)[i]? = some (ad i, mz_ent cA ad M i e) := by
  rw [mz_wl_get, hi]
  simp
/-! locals -/
theorem mz_put_len (v : Option Value) : ∀ (ls : mz_L) (i : Nat), (mz_put ls i v).length = ls.length
  | [], i => rfl
  | a :: l, 0 => rfl
  | a :: l, i + 1 => by simp only [mz_put, List.length_cons, mz_put_len v l i]
theorem mz_put_get (v : Option Value) : ∀ (ls : mz_L) (i j : Nat), mz_get (mz_put ls i v) j = if j = i ∧ i < ls.length then v else mz_get ls j
  | [], i, j => by simp [mz_put, mz_get]
  | a :: l, 0, 0 => by simp [mz_put, mz_get]
  | a :: l, 0, j + 1 => by simp [mz_put, mz_get]
  | a :: l, i + 1, 0 => by simp [mz_put, mz_get]
  | a :: l, i + 1, j + 1 => by simp [mz_put, mz_get, mz_put_get v l i j]
theorem mz_get_lt : ∀ {ls : mz_L} {i : Nat} {v : Value}, mz_get ls i = some v → i < ls.length
  | [], i, v, h => by simp [mz_get] at h
  | a :: l, 0, v, h => by simp
  | a :: l, i + 1, v, h => by
    have := mz_get_lt (ls := l) (i := i) (v := v) h
    simp only [List.length_cons]
    omega
def mz_has (ad : Nat → Nat) (lsR : Array Slot) (nL : Nat) (ls : mz_L) : Prop := lsR.size = nL ∧ lv_wf lsR ∧ ls.length = nL ∧ ∀ (i : Nat) (v : Value), mz_get ls i = some v → lsR[i]? = some (.val (mz_cv ad v))
def mz_as (ad : Nat → Nat) (ls : mz_L) : List (Nat × Value) := (List.range ls.length).filterMap (fun i => (mz_get ls i).map (fun v => (i, mz_cv ad v)))
theorem mz_as_mem {ad : Nat → Nat} {ls : mz_L} {q : Nat × Value} : q ∈ mz_as ad ls ↔ ∃ v, mz_get ls q.1 = some v ∧ q.2 = mz_cv ad v := by
  unfold mz_as
  rw [List.mem_filterMap]
  constructor
  · rintro ⟨i, -, h⟩
    cases hg : mz_get ls i with
    | none => rw [hg] at h; cases h
    | some v =>
      rw [hg] at h
      cases h
      exact ⟨v, hg, rfl⟩
  · rintro ⟨v, h, e⟩
    refine ⟨q.1, List.mem_range.mpr (mz_get_lt h), ?_⟩
    rw [h, Option.map_some, ← e]
theorem mz_has.lv {ad : Nat → Nat} {lsR : Array Slot} {nL : Nat} {ls : mz_L} (h : mz_has ad lsR nL ls) : lv_has lsR nL (mz_as ad ls) := by
  refine ⟨h.1, h.2.1, fun q hq => ?_⟩
  obtain ⟨v, h1, h2⟩ := mz_as_mem.mp hq
  rw [h2]
  exact h.2.2.2 _ _ h1
theorem mz_has.st {ad : Nat → Nat} {lsR ls' : Array Slot} {nL i : Nat} {ls : mz_L} {v : Value} (h : mz_has ad lsR nL ls) (ha : mz_ahead ls i = false) (hL : lv_has ls' nL ((i, mz_cv ad v) :: (mz_as ad ls).filter (fun q => !(q.1 == i) && !(q.1 + 1 == i && q.2.category == 2)))) : mz_has ad ls' nL (mz_put ls i (some v)) := by
  refine ⟨hL.1, hL.2.1, (mz_put_len _ _ _).trans h.2.2.1, fun j w hj => ?_⟩
  rw [mz_put_get] at hj
  by_cases hji : j = i ∧ i < ls.length
  · rw [if_pos hji] at hj
    cases hj
    rw [hji.1]
    exact hL.2.2 (i, mz_cv ad v) List.mem_cons_self
  · rw [if_neg hji] at hj
    have hne : ¬ j = i := fun q => hji ⟨q, q ▸ mz_get_lt hj⟩
    refine hL.2.2 (j, mz_cv ad w) (List.mem_cons_of_mem _ (List.mem_filter.mpr ⟨mz_as_mem.mpr ⟨w, hj, rfl⟩, ?_⟩))
    have h2 : ¬ (j + 1 = i ∧ (mz_cv ad w).category = 2) := by
      rintro ⟨e1, e2⟩
      subst e1
      rw [mz_cv_cat] at e2
      simp only [mz_ahead, hj] at ha
      cases w <;> simp [mz_wide, Value.category] at ha e2
    simp only [Bool.and_eq_true, Bool.not_eq_true', beq_eq_false_iff_ne, ne_eq, Bool.and_eq_false_iff]
    refine ⟨hne, ?_⟩
    by_cases e1 : j + 1 = i
    · exact Or.inr (fun e2 => h2 ⟨e1, e2⟩)
    · exact Or.inl e1
theorem mz_int_some {o : Option Value} {x : Int32} (h : mz_int o = some x) : o = some (.int x) := by
  unfold mz_int at h
  split at h
  · cases h; rfl
  · cases h
theorem mz_ref_some {o : Option Value} {x : Nat} (h : mz_ref o = some x) : o = some (.ref x) := by
  unfold mz_ref at h
  split at h
  · cases h; rfl
  · cases h
theorem mz_long_some {o : Option Value} {x : Int64} (h : mz_long o = some x) : o = some (.long x) := by
  unfold mz_long at h
  split at h
  · cases h; rfl
  · cases h
/-! the locals with which a method begins -/
def mz_args : List Value → mz_L
  | [] => []
  | v :: vs => match mz_wide (some v) with
    | true => some v :: none :: mz_args vs
    | false => some v :: mz_args vs
def mz_pad : Nat → mz_L → mz_L
  | 0, _ => []
  | n + 1, [] => none :: mz_pad n []
  | n + 1, a :: l => a :: mz_pad n l
theorem mz_pad_len : ∀ (n : Nat) (l : mz_L), (mz_pad n l).length = n
  | 0, l => rfl
  | n + 1, [] => by simp only [mz_pad, List.length_cons, mz_pad_len n []]
  | n + 1, a :: l => by simp only [mz_pad, List.length_cons, mz_pad_len n l]
theorem mz_pad_get : ∀ (n : Nat) (l : mz_L) (i : Nat) (v : Value), mz_get (mz_pad n l) i = some v → mz_get l i = some v
  | 0, l, i, v, h => by simp [mz_pad, mz_get] at h
  | n + 1, [], 0, v, h => by simp [mz_pad, mz_get] at h
  | n + 1, [], i + 1, v, h => by
    have := mz_pad_get n [] i v h
    simp [mz_get] at this
  | n + 1, a :: l, 0, v, h => h
  | n + 1, a :: l, i + 1, v, h => mz_pad_get n l i v h
theorem mz_wide_cat (v : Value) : mz_wide (some v) = true ↔ v.category = 2 := by cases v <;> simp [mz_wide, Value.category]
theorem mz_args_get (ad : Nat → Nat) : ∀ (vs : List Value) (b i : Nat) (v : Value), mz_get (mz_args vs) i = some v → (b + i, mz_cv ad v) ∈ lv_args b (vs.map (mz_cv ad))
  | [], b, i, v, h => by simp [mz_args, mz_get] at h
  | w :: vs, b, i, v, h => by
    unfold mz_args at h
    split at h
    · next hw =>
      have hc : (mz_cv ad w).category = 2 := by rw [mz_cv_cat]; exact (mz_wide_cat w).mp hw
      simp only [List.map_cons, lv_args, hc, if_true]
      match i, h with
      | 0, h => simp only [mz_get, Option.some.injEq] at h; rw [h]; exact List.mem_cons_self
      | 1, h => simp [mz_get] at h
      | i + 2, h =>
        have h2 := mz_args_get ad vs (b + 2) i v h
        rw [show b + 2 + i = b + (i + 2) by omega] at h2
        exact List.mem_cons_of_mem _ h2
    · next hw =>
      have hc : ¬ (mz_cv ad w).category = 2 := by rw [mz_cv_cat]; intro q; rw [(mz_wide_cat w).mpr q] at hw; cases hw
      simp only [List.map_cons, lv_args, hc, if_false]
      match i, h with
      | 0, h => simp only [mz_get, Option.some.injEq] at h; rw [h]; exact List.mem_cons_self
      | i + 1, h =>
        have h2 := mz_args_get ad vs (b + 1) i v h
        rw [show b + 1 + i = b + (i + 1) by omega] at h2
        exact List.mem_cons_of_mem _ h2
theorem mz_entry (ad : Nat → Nat) (As : List Value) {n : Nat} (h : (lg_sl (As.map (mz_cv ad))).length ≤ n) : mz_has ad ((lg_sl (As.map (mz_cv ad)) ++ List.replicate (n - (lg_sl (As.map (mz_cv ad))).length) Slot.unset).toArray) n (mz_pad n (mz_args As)) := by
  obtain ⟨h1, h2, h3⟩ := lv_entry (As.map (mz_cv ad)) h
  refine ⟨h1, h2, mz_pad_len _ _, fun i v hi => ?_⟩
  have h4 := mz_args_get ad As 0 i v (mz_pad_get _ _ _ _ hi)
  rw [Nat.zero_add] at h4
  exact h3 _ h4
end
