section
-- ===== PART A: goes FIRST, ahead of the names: the tables' words, and 'selects' of the private methods out of them =====
/-- a private method of a class that the tables say can be made, by its rows of tables_1 -/
def lw_okq (q : MethodName × Nat) : Prop := (q.1.cls ≠ "java/lang/invoke/MethodHandle" ∧ q.1.cls ≠ "java/lang/invoke/VarHandle") ∧ Cond.instantiable q.1.cls q.2 ∈ tables_1 ∧ Cond.privateMethod q.1 ∈ tables_1 ∧ Cond.instanceMethod q.1 ∈ tables_1
theorem lw_p0 : lw_okq (⟨"FieldBases$Field", "fills", "(I)Z"⟩, 6) := ⟨⟨by decide +kernel, by decide +kernel⟩, List.mem_of_getElem? (i := 34) (by decide +kernel), List.mem_of_getElem? (i := 172) (by decide +kernel), List.mem_of_getElem? (i := 173) (by decide +kernel)⟩
theorem lw_p1 : lw_okq (⟨"FieldBases$Field", "multiplied", "(II)I"⟩, 6) := ⟨⟨by decide +kernel, by decide +kernel⟩, List.mem_of_getElem? (i := 34) (by decide +kernel), List.mem_of_getElem? (i := 176) (by decide +kernel), List.mem_of_getElem? (i := 177) (by decide +kernel)⟩
theorem lw_p2 : lw_okq (⟨"FieldBases$Text", "powerRead", "(I)I"⟩, 4) := ⟨⟨by decide +kernel, by decide +kernel⟩, List.mem_of_getElem? (i := 129) (by decide +kernel), List.mem_of_getElem? (i := 258) (by decide +kernel), List.mem_of_getElem? (i := 259) (by decide +kernel)⟩
theorem lw_p3 : lw_okq (⟨"FieldBases$Text", "signAt", "(I)I"⟩, 4) := ⟨⟨by decide +kernel, by decide +kernel⟩, List.mem_of_getElem? (i := 129) (by decide +kernel), List.mem_of_getElem? (i := 262) (by decide +kernel), List.mem_of_getElem? (i := 263) (by decide +kernel)⟩
theorem lw_p4 : lw_okq (⟨"FieldBases", "tellsField", "(I)I"⟩, 11) := ⟨⟨by decide +kernel, by decide +kernel⟩, List.mem_of_getElem? (i := 20) (by decide +kernel), List.mem_of_getElem? (i := 274) (by decide +kernel), List.mem_of_getElem? (i := 275) (by decide +kernel)⟩
theorem lw_p5 : lw_okq (⟨"FieldBases", "isElement", "(I)Z"⟩, 11) := ⟨⟨by decide +kernel, by decide +kernel⟩, List.mem_of_getElem? (i := 20) (by decide +kernel), List.mem_of_getElem? (i := 302) (by decide +kernel), List.mem_of_getElem? (i := 303) (by decide +kernel)⟩
theorem lw_p6 : lw_okq (⟨"FieldBases$Text", "numberRead", "()I"⟩, 4) := ⟨⟨by decide +kernel, by decide +kernel⟩, List.mem_of_getElem? (i := 129) (by decide +kernel), List.mem_of_getElem? (i := 524) (by decide +kernel), List.mem_of_getElem? (i := 525) (by decide +kernel)⟩
theorem lw_p7 : lw_okq (⟨"FieldBases", "isSlot", "(I)Z"⟩, 11) := ⟨⟨by decide +kernel, by decide +kernel⟩, List.mem_of_getElem? (i := 20) (by decide +kernel), List.mem_of_getElem? (i := 531) (by decide +kernel), List.mem_of_getElem? (i := 532) (by decide +kernel)⟩
theorem lw_p8 : lw_okq (⟨"FieldBases", "setsSlot", "(I[I)I"⟩, 11) := ⟨⟨by decide +kernel, by decide +kernel⟩, List.mem_of_getElem? (i := 20) (by decide +kernel), List.mem_of_getElem? (i := 535) (by decide +kernel), List.mem_of_getElem? (i := 536) (by decide +kernel)⟩
theorem lw_p9 : lw_okq (⟨"FieldBases", "isPlace", "(I)Z"⟩, 11) := ⟨⟨by decide +kernel, by decide +kernel⟩, List.mem_of_getElem? (i := 20) (by decide +kernel), List.mem_of_getElem? (i := 563) (by decide +kernel), List.mem_of_getElem? (i := 564) (by decide +kernel)⟩
theorem lw_p10 : lw_okq (⟨"FieldBases", "tellsLocated", "([I)I"⟩, 11) := ⟨⟨by decide +kernel, by decide +kernel⟩, List.mem_of_getElem? (i := 20) (by decide +kernel), List.mem_of_getElem? (i := 596) (by decide +kernel), List.mem_of_getElem? (i := 597) (by decide +kernel)⟩
theorem lw_p11 : lw_okq (⟨"FieldBases", "followsState", "()V"⟩, 11) := ⟨⟨by decide +kernel, by decide +kernel⟩, List.mem_of_getElem? (i := 20) (by decide +kernel), List.mem_of_getElem? (i := 710) (by decide +kernel), List.mem_of_getElem? (i := 711) (by decide +kernel)⟩
theorem lw_p12 : lw_okq (⟨"FieldBases$Text", "puts", "(II)I"⟩, 4) := ⟨⟨by decide +kernel, by decide +kernel⟩, List.mem_of_getElem? (i := 129) (by decide +kernel), List.mem_of_getElem? (i := 731) (by decide +kernel), List.mem_of_getElem? (i := 732) (by decide +kernel)⟩
theorem lw_p13 : lw_okq (⟨"FieldBases", "normalSlots", "()I"⟩, 11) := ⟨⟨by decide +kernel, by decide +kernel⟩, List.mem_of_getElem? (i := 20) (by decide +kernel), List.mem_of_getElem? (i := 739) (by decide +kernel), List.mem_of_getElem? (i := 740) (by decide +kernel)⟩
theorem lw_p14 : lw_okq (⟨"FieldBases", "plainSlots", "()I"⟩, 11) := ⟨⟨by decide +kernel, by decide +kernel⟩, List.mem_of_getElem? (i := 20) (by decide +kernel), List.mem_of_getElem? (i := 743) (by decide +kernel), List.mem_of_getElem? (i := 744) (by decide +kernel)⟩
theorem lw_p15 : lw_okq (⟨"java/lang/Throwable", "fillInStackTrace", "(I)Ljava/lang/Throwable;"⟩, 6) := ⟨⟨by decide +kernel, by decide +kernel⟩, List.mem_of_getElem? (i := 795) (by decide +kernel), List.mem_of_getElem? (i := 793) (by decide +kernel), List.mem_of_getElem? (i := 794) (by decide +kernel)⟩
def lw_privs_1 : List (MethodName × Nat) := [(⟨"FieldBases$Field", "fills", "(I)Z"⟩, 6), (⟨"FieldBases$Field", "multiplied", "(II)I"⟩, 6), (⟨"FieldBases$Text", "powerRead", "(I)I"⟩, 4), (⟨"FieldBases$Text", "signAt", "(I)I"⟩, 4), (⟨"FieldBases", "tellsField", "(I)I"⟩, 11), (⟨"FieldBases", "isElement", "(I)Z"⟩, 11), (⟨"FieldBases$Text", "numberRead", "()I"⟩, 4), (⟨"FieldBases", "isSlot", "(I)Z"⟩, 11), (⟨"FieldBases", "setsSlot", "(I[I)I"⟩, 11), (⟨"FieldBases", "isPlace", "(I)Z"⟩, 11), (⟨"FieldBases", "tellsLocated", "([I)I"⟩, 11), (⟨"FieldBases", "followsState", "()V"⟩, 11), (⟨"FieldBases$Text", "puts", "(II)I"⟩, 4), (⟨"FieldBases", "normalSlots", "()I"⟩, 11), (⟨"FieldBases", "plainSlots", "()I"⟩, 11), (⟨"java/lang/Throwable", "fillInStackTrace", "(I)Ljava/lang/Throwable;"⟩, 6)]
theorem lw_r1 : ∀ q ∈ lw_privs_1, lw_okq q := List.forall_mem_cons.mpr ⟨lw_p0, List.forall_mem_cons.mpr ⟨lw_p1, List.forall_mem_cons.mpr ⟨lw_p2, List.forall_mem_cons.mpr ⟨lw_p3, List.forall_mem_cons.mpr ⟨lw_p4, List.forall_mem_cons.mpr ⟨lw_p5, List.forall_mem_cons.mpr ⟨lw_p6, List.forall_mem_cons.mpr ⟨lw_p7, List.forall_mem_cons.mpr ⟨lw_p8, List.forall_mem_cons.mpr ⟨lw_p9, List.forall_mem_cons.mpr ⟨lw_p10, List.forall_mem_cons.mpr ⟨lw_p11, List.forall_mem_cons.mpr ⟨lw_p12, List.forall_mem_cons.mpr ⟨lw_p13, List.forall_mem_cons.mpr ⟨lw_p14, List.forall_mem_cons.mpr ⟨lw_p15, fun _ h => absurd h List.not_mem_nil⟩⟩⟩⟩⟩⟩⟩⟩⟩⟩⟩⟩⟩⟩⟩⟩
theorem lw_p16 : lw_okq (⟨"FieldBasesModel", "fields", "(I)V"⟩, 24) := ⟨⟨by decide +kernel, by decide +kernel⟩, List.mem_of_getElem? (i := 820) (by decide +kernel), List.mem_of_getElem? (i := 826) (by decide +kernel), List.mem_of_getElem? (i := 827) (by decide +kernel)⟩
theorem lw_p17 : lw_okq (⟨"FieldBasesModel", "lays", "()V"⟩, 24) := ⟨⟨by decide +kernel, by decide +kernel⟩, List.mem_of_getElem? (i := 820) (by decide +kernel), List.mem_of_getElem? (i := 833) (by decide +kernel), List.mem_of_getElem? (i := 834) (by decide +kernel)⟩
theorem lw_p18 : lw_okq (⟨"FieldBasesModel", "begin", "()V"⟩, 24) := ⟨⟨by decide +kernel, by decide +kernel⟩, List.mem_of_getElem? (i := 820) (by decide +kernel), List.mem_of_getElem? (i := 930) (by decide +kernel), List.mem_of_getElem? (i := 931) (by decide +kernel)⟩
theorem lw_p19 : lw_okq (⟨"FieldBasesModel", "readsPoly", "()I"⟩, 24) := ⟨⟨by decide +kernel, by decide +kernel⟩, List.mem_of_getElem? (i := 820) (by decide +kernel), List.mem_of_getElem? (i := 934) (by decide +kernel), List.mem_of_getElem? (i := 935) (by decide +kernel)⟩
theorem lw_p20 : lw_okq (⟨"FieldBasesModel", "readsPower", "(I)I"⟩, 24) := ⟨⟨by decide +kernel, by decide +kernel⟩, List.mem_of_getElem? (i := 820) (by decide +kernel), List.mem_of_getElem? (i := 938) (by decide +kernel), List.mem_of_getElem? (i := 939) (by decide +kernel)⟩
theorem lw_p21 : lw_okq (⟨"FieldBasesModel", "sees", "()I"⟩, 24) := ⟨⟨by decide +kernel, by decide +kernel⟩, List.mem_of_getElem? (i := 820) (by decide +kernel), List.mem_of_getElem? (i := 942) (by decide +kernel), List.mem_of_getElem? (i := 943) (by decide +kernel)⟩
theorem lw_p22 : lw_okq (⟨"FieldBasesModel", "fault", "(I)V"⟩, 24) := ⟨⟨by decide +kernel, by decide +kernel⟩, List.mem_of_getElem? (i := 820) (by decide +kernel), List.mem_of_getElem? (i := 946) (by decide +kernel), List.mem_of_getElem? (i := 947) (by decide +kernel)⟩
theorem lw_p23 : lw_okq (⟨"FieldBasesModel", "does", "()V"⟩, 24) := ⟨⟨by decide +kernel, by decide +kernel⟩, List.mem_of_getElem? (i := 820) (by decide +kernel), List.mem_of_getElem? (i := 962) (by decide +kernel), List.mem_of_getElem? (i := 963) (by decide +kernel)⟩
theorem lw_p24 : lw_okq (⟨"FieldBasesModel", "isElement", "(I)Z"⟩, 24) := ⟨⟨by decide +kernel, by decide +kernel⟩, List.mem_of_getElem? (i := 820) (by decide +kernel), List.mem_of_getElem? (i := 976) (by decide +kernel), List.mem_of_getElem? (i := 977) (by decide +kernel)⟩
theorem lw_p25 : lw_okq (⟨"FieldBasesModel", "times", "(II)I"⟩, 24) := ⟨⟨by decide +kernel, by decide +kernel⟩, List.mem_of_getElem? (i := 820) (by decide +kernel), List.mem_of_getElem? (i := 980) (by decide +kernel), List.mem_of_getElem? (i := 981) (by decide +kernel)⟩
theorem lw_p26 : lw_okq (⟨"FieldBasesModel", "inverseOf", "(I)I"⟩, 24) := ⟨⟨by decide +kernel, by decide +kernel⟩, List.mem_of_getElem? (i := 820) (by decide +kernel), List.mem_of_getElem? (i := 991) (by decide +kernel), List.mem_of_getElem? (i := 992) (by decide +kernel)⟩
theorem lw_p27 : lw_okq (⟨"FieldBasesModel", "powered", "(II)I"⟩, 24) := ⟨⟨by decide +kernel, by decide +kernel⟩, List.mem_of_getElem? (i := 820) (by decide +kernel), List.mem_of_getElem? (i := 995) (by decide +kernel), List.mem_of_getElem? (i := 996) (by decide +kernel)⟩
theorem lw_p28 : lw_okq (⟨"FieldBasesModel", "isGenerator", "(I)Z"⟩, 24) := ⟨⟨by decide +kernel, by decide +kernel⟩, List.mem_of_getElem? (i := 820) (by decide +kernel), List.mem_of_getElem? (i := 1008) (by decide +kernel), List.mem_of_getElem? (i := 1009) (by decide +kernel)⟩
theorem lw_p29 : lw_okq (⟨"FieldBasesModel", "orderOf", "(I)I"⟩, 24) := ⟨⟨by decide +kernel, by decide +kernel⟩, List.mem_of_getElem? (i := 820) (by decide +kernel), List.mem_of_getElem? (i := 1012) (by decide +kernel), List.mem_of_getElem? (i := 1013) (by decide +kernel)⟩
theorem lw_p30 : lw_okq (⟨"FieldBasesModel", "tell", "(J)V"⟩, 24) := ⟨⟨by decide +kernel, by decide +kernel⟩, List.mem_of_getElem? (i := 820) (by decide +kernel), List.mem_of_getElem? (i := 1016) (by decide +kernel), List.mem_of_getElem? (i := 1017) (by decide +kernel)⟩
theorem lw_p31 : lw_okq (⟨"FieldBasesModel", "conj", "(II)I"⟩, 24) := ⟨⟨by decide +kernel, by decide +kernel⟩, List.mem_of_getElem? (i := 820) (by decide +kernel), List.mem_of_getElem? (i := 1025) (by decide +kernel), List.mem_of_getElem? (i := 1026) (by decide +kernel)⟩
def lw_privs_2 : List (MethodName × Nat) := [(⟨"FieldBasesModel", "fields", "(I)V"⟩, 24), (⟨"FieldBasesModel", "lays", "()V"⟩, 24), (⟨"FieldBasesModel", "begin", "()V"⟩, 24), (⟨"FieldBasesModel", "readsPoly", "()I"⟩, 24), (⟨"FieldBasesModel", "readsPower", "(I)I"⟩, 24), (⟨"FieldBasesModel", "sees", "()I"⟩, 24), (⟨"FieldBasesModel", "fault", "(I)V"⟩, 24), (⟨"FieldBasesModel", "does", "()V"⟩, 24), (⟨"FieldBasesModel", "isElement", "(I)Z"⟩, 24), (⟨"FieldBasesModel", "times", "(II)I"⟩, 24), (⟨"FieldBasesModel", "inverseOf", "(I)I"⟩, 24), (⟨"FieldBasesModel", "powered", "(II)I"⟩, 24), (⟨"FieldBasesModel", "isGenerator", "(I)Z"⟩, 24), (⟨"FieldBasesModel", "orderOf", "(I)I"⟩, 24), (⟨"FieldBasesModel", "tell", "(J)V"⟩, 24), (⟨"FieldBasesModel", "conj", "(II)I"⟩, 24)]
theorem lw_r2 : ∀ q ∈ lw_privs_2, lw_okq q := List.forall_mem_cons.mpr ⟨lw_p16, List.forall_mem_cons.mpr ⟨lw_p17, List.forall_mem_cons.mpr ⟨lw_p18, List.forall_mem_cons.mpr ⟨lw_p19, List.forall_mem_cons.mpr ⟨lw_p20, List.forall_mem_cons.mpr ⟨lw_p21, List.forall_mem_cons.mpr ⟨lw_p22, List.forall_mem_cons.mpr ⟨lw_p23, List.forall_mem_cons.mpr ⟨lw_p24, List.forall_mem_cons.mpr ⟨lw_p25, List.forall_mem_cons.mpr ⟨lw_p26, List.forall_mem_cons.mpr ⟨lw_p27, List.forall_mem_cons.mpr ⟨lw_p28, List.forall_mem_cons.mpr ⟨lw_p29, List.forall_mem_cons.mpr ⟨lw_p30, List.forall_mem_cons.mpr ⟨lw_p31, fun _ h => absurd h List.not_mem_nil⟩⟩⟩⟩⟩⟩⟩⟩⟩⟩⟩⟩⟩⟩⟩⟩
theorem lw_p32 : lw_okq (⟨"FieldBasesModel", "sizeOf", "(I)I"⟩, 24) := ⟨⟨by decide +kernel, by decide +kernel⟩, List.mem_of_getElem? (i := 820) (by decide +kernel), List.mem_of_getElem? (i := 1033) (by decide +kernel), List.mem_of_getElem? (i := 1034) (by decide +kernel)⟩
theorem lw_p33 : lw_okq (⟨"FieldBasesModel", "rooted", "(II)I"⟩, 24) := ⟨⟨by decide +kernel, by decide +kernel⟩, List.mem_of_getElem? (i := 820) (by decide +kernel), List.mem_of_getElem? (i := 1041) (by decide +kernel), List.mem_of_getElem? (i := 1042) (by decide +kernel)⟩
theorem lw_p34 : lw_okq (⟨"FieldBasesModel", "isPart", "(I)Z"⟩, 24) := ⟨⟨by decide +kernel, by decide +kernel⟩, List.mem_of_getElem? (i := 820) (by decide +kernel), List.mem_of_getElem? (i := 1049) (by decide +kernel), List.mem_of_getElem? (i := 1050) (by decide +kernel)⟩
theorem lw_p35 : lw_okq (⟨"FieldBasesModel", "traceTo", "(II)I"⟩, 24) := ⟨⟨by decide +kernel, by decide +kernel⟩, List.mem_of_getElem? (i := 820) (by decide +kernel), List.mem_of_getElem? (i := 1053) (by decide +kernel), List.mem_of_getElem? (i := 1054) (by decide +kernel)⟩
theorem lw_p36 : lw_okq (⟨"FieldBasesModel", "normTo", "(II)I"⟩, 24) := ⟨⟨by decide +kernel, by decide +kernel⟩, List.mem_of_getElem? (i := 820) (by decide +kernel), List.mem_of_getElem? (i := 1061) (by decide +kernel), List.mem_of_getElem? (i := 1062) (by decide +kernel)⟩
theorem lw_p37 : lw_okq (⟨"FieldBasesModel", "takesSubbase", "(I)V"⟩, 24) := ⟨⟨by decide +kernel, by decide +kernel⟩, List.mem_of_getElem? (i := 820) (by decide +kernel), List.mem_of_getElem? (i := 1110) (by decide +kernel), List.mem_of_getElem? (i := 1111) (by decide +kernel)⟩
theorem lw_p38 : lw_okq (⟨"FieldBasesModel", "rank", "(I)I"⟩, 24) := ⟨⟨by decide +kernel, by decide +kernel⟩, List.mem_of_getElem? (i := 820) (by decide +kernel), List.mem_of_getElem? (i := 1114) (by decide +kernel), List.mem_of_getElem? (i := 1115) (by decide +kernel)⟩
theorem lw_p39 : lw_okq (⟨"FieldBasesModel", "takesConjugates", "(I)V"⟩, 24) := ⟨⟨by decide +kernel, by decide +kernel⟩, List.mem_of_getElem? (i := 820) (by decide +kernel), List.mem_of_getElem? (i := 1125) (by decide +kernel), List.mem_of_getElem? (i := 1126) (by decide +kernel)⟩
theorem lw_p40 : lw_okq (⟨"FieldBasesModel", "isNormal", "(I)Z"⟩, 24) := ⟨⟨by decide +kernel, by decide +kernel⟩, List.mem_of_getElem? (i := 820) (by decide +kernel), List.mem_of_getElem? (i := 1133) (by decide +kernel), List.mem_of_getElem? (i := 1134) (by decide +kernel)⟩
theorem lw_p41 : lw_okq (⟨"FieldBasesModel", "isNormalOver", "(II)Z"⟩, 24) := ⟨⟨by decide +kernel, by decide +kernel⟩, List.mem_of_getElem? (i := 820) (by decide +kernel), List.mem_of_getElem? (i := 1141) (by decide +kernel), List.mem_of_getElem? (i := 1142) (by decide +kernel)⟩
theorem lw_p42 : lw_okq (⟨"FieldBasesModel", "someIsBase", "()V"⟩, 24) := ⟨⟨by decide +kernel, by decide +kernel⟩, List.mem_of_getElem? (i := 820) (by decide +kernel), List.mem_of_getElem? (i := 1149) (by decide +kernel), List.mem_of_getElem? (i := 1150) (by decide +kernel)⟩
theorem lw_p43 : lw_okq (⟨"FieldBasesModel", "laysCoordinates", "()V"⟩, 24) := ⟨⟨by decide +kernel, by decide +kernel⟩, List.mem_of_getElem? (i := 820) (by decide +kernel), List.mem_of_getElem? (i := 1153) (by decide +kernel), List.mem_of_getElem? (i := 1154) (by decide +kernel)⟩
theorem lw_p44 : lw_okq (⟨"FieldBasesModel", "madeOf", "(I)I"⟩, 24) := ⟨⟨by decide +kernel, by decide +kernel⟩, List.mem_of_getElem? (i := 820) (by decide +kernel), List.mem_of_getElem? (i := 1157) (by decide +kernel), List.mem_of_getElem? (i := 1158) (by decide +kernel)⟩
theorem lw_p45 : lw_okq (⟨"FieldBasesModel", "complexityNow", "()I"⟩, 24) := ⟨⟨by decide +kernel, by decide +kernel⟩, List.mem_of_getElem? (i := 820) (by decide +kernel), List.mem_of_getElem? (i := 1161) (by decide +kernel), List.mem_of_getElem? (i := 1162) (by decide +kernel)⟩
theorem lw_p46 : lw_okq (⟨"FieldBasesModel", "takesPowers", "(I)Z"⟩, 24) := ⟨⟨by decide +kernel, by decide +kernel⟩, List.mem_of_getElem? (i := 820) (by decide +kernel), List.mem_of_getElem? (i := 1172) (by decide +kernel), List.mem_of_getElem? (i := 1173) (by decide +kernel)⟩
theorem lw_p47 : lw_okq (⟨"FieldBasesModel", "weightNow", "()I"⟩, 24) := ⟨⟨by decide +kernel, by decide +kernel⟩, List.mem_of_getElem? (i := 820) (by decide +kernel), List.mem_of_getElem? (i := 1176) (by decide +kernel), List.mem_of_getElem? (i := 1177) (by decide +kernel)⟩
def lw_privs_3 : List (MethodName × Nat) := [(⟨"FieldBasesModel", "sizeOf", "(I)I"⟩, 24), (⟨"FieldBasesModel", "rooted", "(II)I"⟩, 24), (⟨"FieldBasesModel", "isPart", "(I)Z"⟩, 24), (⟨"FieldBasesModel", "traceTo", "(II)I"⟩, 24), (⟨"FieldBasesModel", "normTo", "(II)I"⟩, 24), (⟨"FieldBasesModel", "takesSubbase", "(I)V"⟩, 24), (⟨"FieldBasesModel", "rank", "(I)I"⟩, 24), (⟨"FieldBasesModel", "takesConjugates", "(I)V"⟩, 24), (⟨"FieldBasesModel", "isNormal", "(I)Z"⟩, 24), (⟨"FieldBasesModel", "isNormalOver", "(II)Z"⟩, 24), (⟨"FieldBasesModel", "someIsBase", "()V"⟩, 24), (⟨"FieldBasesModel", "laysCoordinates", "()V"⟩, 24), (⟨"FieldBasesModel", "madeOf", "(I)I"⟩, 24), (⟨"FieldBasesModel", "complexityNow", "()I"⟩, 24), (⟨"FieldBasesModel", "takesPowers", "(I)Z"⟩, 24), (⟨"FieldBasesModel", "weightNow", "()I"⟩, 24)]
theorem lw_r3 : ∀ q ∈ lw_privs_3, lw_okq q := List.forall_mem_cons.mpr ⟨lw_p32, List.forall_mem_cons.mpr ⟨lw_p33, List.forall_mem_cons.mpr ⟨lw_p34, List.forall_mem_cons.mpr ⟨lw_p35, List.forall_mem_cons.mpr ⟨lw_p36, List.forall_mem_cons.mpr ⟨lw_p37, List.forall_mem_cons.mpr ⟨lw_p38, List.forall_mem_cons.mpr ⟨lw_p39, List.forall_mem_cons.mpr ⟨lw_p40, List.forall_mem_cons.mpr ⟨lw_p41, List.forall_mem_cons.mpr ⟨lw_p42, List.forall_mem_cons.mpr ⟨lw_p43, List.forall_mem_cons.mpr ⟨lw_p44, List.forall_mem_cons.mpr ⟨lw_p45, List.forall_mem_cons.mpr ⟨lw_p46, List.forall_mem_cons.mpr ⟨lw_p47, fun _ h => absurd h List.not_mem_nil⟩⟩⟩⟩⟩⟩⟩⟩⟩⟩⟩⟩⟩⟩⟩⟩
theorem lw_p48 : lw_okq (⟨"FieldBasesModel", "readsElement", "()I"⟩, 24) := ⟨⟨by decide +kernel, by decide +kernel⟩, List.mem_of_getElem? (i := 820) (by decide +kernel), List.mem_of_getElem? (i := 1194) (by decide +kernel), List.mem_of_getElem? (i := 1195) (by decide +kernel)⟩
theorem lw_p49 : lw_okq (⟨"FieldBasesModel", "holds", "(I)I"⟩, 24) := ⟨⟨by decide +kernel, by decide +kernel⟩, List.mem_of_getElem? (i := 820) (by decide +kernel), List.mem_of_getElem? (i := 1202) (by decide +kernel), List.mem_of_getElem? (i := 1203) (by decide +kernel)⟩
theorem lw_p50 : lw_okq (⟨"FieldBasesModel", "baseAt", "(II)I"⟩, 24) := ⟨⟨by decide +kernel, by decide +kernel⟩, List.mem_of_getElem? (i := 820) (by decide +kernel), List.mem_of_getElem? (i := 1214) (by decide +kernel), List.mem_of_getElem? (i := 1215) (by decide +kernel)⟩
theorem lw_p51 : lw_okq (⟨"FieldBasesModel", "looksAt", "(I)V"⟩, 24) := ⟨⟨by decide +kernel, by decide +kernel⟩, List.mem_of_getElem? (i := 820) (by decide +kernel), List.mem_of_getElem? (i := 1218) (by decide +kernel), List.mem_of_getElem? (i := 1219) (by decide +kernel)⟩
theorem lw_p52 : lw_okq (⟨"FieldBasesModel", "isPlace", "(I)Z"⟩, 24) := ⟨⟨by decide +kernel, by decide +kernel⟩, List.mem_of_getElem? (i := 820) (by decide +kernel), List.mem_of_getElem? (i := 1230) (by decide +kernel), List.mem_of_getElem? (i := 1231) (by decide +kernel)⟩
theorem lw_p53 : lw_okq (⟨"FieldBasesModel", "takesBase", "(I)V"⟩, 24) := ⟨⟨by decide +kernel, by decide +kernel⟩, List.mem_of_getElem? (i := 820) (by decide +kernel), List.mem_of_getElem? (i := 1234) (by decide +kernel), List.mem_of_getElem? (i := 1235) (by decide +kernel)⟩
theorem lw_p54 : lw_okq (⟨"FieldBasesModel", "tellsCoordinates", "(I)I"⟩, 24) := ⟨⟨by decide +kernel, by decide +kernel⟩, List.mem_of_getElem? (i := 820) (by decide +kernel), List.mem_of_getElem? (i := 1258) (by decide +kernel), List.mem_of_getElem? (i := 1259) (by decide +kernel)⟩
theorem lw_p55 : lw_okq (⟨"FieldBasesModel", "isNormalBase", "()Z"⟩, 24) := ⟨⟨by decide +kernel, by decide +kernel⟩, List.mem_of_getElem? (i := 820) (by decide +kernel), List.mem_of_getElem? (i := 1270) (by decide +kernel), List.mem_of_getElem? (i := 1271) (by decide +kernel)⟩
theorem lw_p56 : lw_okq (⟨"FieldBasesModel", "takesDual", "(I)V"⟩, 24) := ⟨⟨by decide +kernel, by decide +kernel⟩, List.mem_of_getElem? (i := 820) (by decide +kernel), List.mem_of_getElem? (i := 1307) (by decide +kernel), List.mem_of_getElem? (i := 1308) (by decide +kernel)⟩
theorem lw_p57 : lw_okq (⟨"FieldBasesModel", "dualAt", "(II)I"⟩, 24) := ⟨⟨by decide +kernel, by decide +kernel⟩, List.mem_of_getElem? (i := 820) (by decide +kernel), List.mem_of_getElem? (i := 1311) (by decide +kernel), List.mem_of_getElem? (i := 1312) (by decide +kernel)⟩
theorem lw_p58 : lw_okq (⟨"FieldBasesModel", "placeOf", "(II)I"⟩, 24) := ⟨⟨by decide +kernel, by decide +kernel⟩, List.mem_of_getElem? (i := 820) (by decide +kernel), List.mem_of_getElem? (i := 1319) (by decide +kernel), List.mem_of_getElem? (i := 1320) (by decide +kernel)⟩
theorem lw_p59 : lw_okq (⟨"FieldBasesModel", "isUnder", "(I)Z"⟩, 24) := ⟨⟨by decide +kernel, by decide +kernel⟩, List.mem_of_getElem? (i := 820) (by decide +kernel), List.mem_of_getElem? (i := 1335) (by decide +kernel), List.mem_of_getElem? (i := 1336) (by decide +kernel)⟩
theorem lw_p60 : lw_okq (⟨"FieldBasesModel", "writes", "(I)V"⟩, 24) := ⟨⟨by decide +kernel, by decide +kernel⟩, List.mem_of_getElem? (i := 820) (by decide +kernel), List.mem_of_getElem? (i := 1367) (by decide +kernel), List.mem_of_getElem? (i := 1368) (by decide +kernel)⟩
theorem lw_p61 : lw_okq (⟨"FieldBasesModel", "lost", "()I"⟩, 24) := ⟨⟨by decide +kernel, by decide +kernel⟩, List.mem_of_getElem? (i := 820) (by decide +kernel), List.mem_of_getElem? (i := 1379) (by decide +kernel), List.mem_of_getElem? (i := 1380) (by decide +kernel)⟩
def lw_privs_4 : List (MethodName × Nat) := [(⟨"FieldBasesModel", "readsElement", "()I"⟩, 24), (⟨"FieldBasesModel", "holds", "(I)I"⟩, 24), (⟨"FieldBasesModel", "baseAt", "(II)I"⟩, 24), (⟨"FieldBasesModel", "looksAt", "(I)V"⟩, 24), (⟨"FieldBasesModel", "isPlace", "(I)Z"⟩, 24), (⟨"FieldBasesModel", "takesBase", "(I)V"⟩, 24), (⟨"FieldBasesModel", "tellsCoordinates", "(I)I"⟩, 24), (⟨"FieldBasesModel", "isNormalBase", "()Z"⟩, 24), (⟨"FieldBasesModel", "takesDual", "(I)V"⟩, 24), (⟨"FieldBasesModel", "dualAt", "(II)I"⟩, 24), (⟨"FieldBasesModel", "placeOf", "(II)I"⟩, 24), (⟨"FieldBasesModel", "isUnder", "(I)Z"⟩, 24), (⟨"FieldBasesModel", "writes", "(I)V"⟩, 24), (⟨"FieldBasesModel", "lost", "()I"⟩, 24)]
theorem lw_r4 : ∀ q ∈ lw_privs_4, lw_okq q := List.forall_mem_cons.mpr ⟨lw_p48, List.forall_mem_cons.mpr ⟨lw_p49, List.forall_mem_cons.mpr ⟨lw_p50, List.forall_mem_cons.mpr ⟨lw_p51, List.forall_mem_cons.mpr ⟨lw_p52, List.forall_mem_cons.mpr ⟨lw_p53, List.forall_mem_cons.mpr ⟨lw_p54, List.forall_mem_cons.mpr ⟨lw_p55, List.forall_mem_cons.mpr ⟨lw_p56, List.forall_mem_cons.mpr ⟨lw_p57, List.forall_mem_cons.mpr ⟨lw_p58, List.forall_mem_cons.mpr ⟨lw_p59, List.forall_mem_cons.mpr ⟨lw_p60, List.forall_mem_cons.mpr ⟨lw_p61, fun _ h => absurd h List.not_mem_nil⟩⟩⟩⟩⟩⟩⟩⟩⟩⟩⟩⟩⟩⟩
def lw_privs : List (MethodName × Nat) := lw_privs_1 ++ (lw_privs_2 ++ (lw_privs_3 ++ (lw_privs_4)))
def lw_tbl : List Cond := k2_sels lw_privs ++ tables_1
theorem lw_privs_ok : ∀ q ∈ lw_privs, lw_okq q := by
  show ∀ q ∈ lw_privs_1 ++ (lw_privs_2 ++ (lw_privs_3 ++ (lw_privs_4))), lw_okq q
  exact List.forall_mem_append.mpr ⟨lw_r1, List.forall_mem_append.mpr ⟨lw_r2, List.forall_mem_append.mpr ⟨lw_r3, lw_r4⟩⟩⟩
-- ===== end of PART A; then your names; then what follows =====
end
section
/-! THE SMALL MACHINE: bytecode over cells that are numbered, whose references never change, whose ints and longs are read off a store; one theorem (below) takes its runs to the machine's own. A row of a method: pc, instruction, length, a (a local's place, a branch's target, a callee, a field), v (a constant), j (its link's place). -/
abbrev mz_M : Type := (Nat → Nat → Int32) × (Nat → Nat → Int64)
/-- a cell's shape: an array (kind 0 int, 1 byte, 2 long, from 3 on references; length; whom the places name), or an object (class, fields: none a number, some a reference) -/
abbrev mz_E : Type := (Nat × Nat × List Nat) ⊕ (Nat × List (Option Nat))
abbrev mz_L : Type := List (Option Value)
abbrev mz_C : Type := Nat × mz_L × List Value × mz_M
abbrev mz_R : Type := Nat × Instr × Nat × Nat × Int32 × Nat
/-- a method: name, code, locals, type, static, class, parameters, frames and locals below it, rows -/
abbrev mz_I : Type := MethodName × ByteArray × Nat × Option FieldType × Bool × Nat × Nat × Nat × Nat × List mz_R
def mz_nth {α : Type} : List α → Nat → Option α
  | [], _ => none
  | a :: _, 0 => some a
  | _ :: l, n + 1 => mz_nth l n
def mz_get : mz_L → Nat → Option Value
  | [], _ => none
  | a :: _, 0 => a
  | _ :: l, n + 1 => mz_get l n
def mz_put : mz_L → Nat → Option Value → mz_L
  | [], _, _ => []
  | _ :: l, 0, v => v :: l
  | a :: l, n + 1, v => a :: mz_put l n v
/-- is the place ahead a long one -/
def mz_wide (o : Option Value) : Bool := match o with
  | some (.long _) => true
  | some (.double _) => true
  | _ => false
def mz_ahead (ls : mz_L) (i : Nat) : Bool := match i with
  | 0 => false
  | j + 1 => mz_wide (mz_get ls j)
def mz_fit (ls : mz_L) (i : Nat) : Bool := match mz_ahead ls i with
  | true => false
  | false => Nat.blt i ls.length
def mz_wr (M : mz_M) (a : Nat) (f : Nat → Int32) : mz_M := (fun b => if b = a then f else M.1 b, M.2)
def mz_wrl (M : mz_M) (a : Nat) (f : Nat → Int64) : mz_M := (M.1, fun b => if b = a then f else M.2 b)
def mz_find (pc : Nat) : List mz_R → Option mz_R
  | [] => none
  | r :: l => match Nat.beq r.1 pc with
    | true => some r
    | false => mz_find pc l
def mz_int (o : Option Value) : Option Int32 := match o with
  | some (.int x) => some x
  | _ => none
def mz_ref (o : Option Value) : Option Nat := match o with
  | some (.ref x) => some x
  | _ => none
def mz_long (o : Option Value) : Option Int64 := match o with
  | some (.long x) => some x
  | _ => none
def mz_bin (f : Int32 → Int32 → Int32) (P : Int32 → Int32 → List Prop) (pc : Nat) (ls : mz_L) (st : List Value) (M : mz_M) : Option (mz_C × List Prop) := match st with
  | .int y :: .int x :: r => some ((pc + 1, ls, .int (f x y) :: r, M), P x y)
  | _ => none
def mz_if (f : Int32 → Prop) (d : ∀ x, Decidable (f x)) (a pc : Nat) (ls : mz_L) (st : List Value) (M : mz_M) : Option (mz_C × List Prop) := match st with
  | .int x :: r => some ((@ite Nat (f x) (d x) a (pc + 3), ls, r, M), [])
  | _ => none
def mz_ic (f : Int32 → Int32 → Prop) (d : ∀ x y, Decidable (f x y)) (a pc : Nat) (ls : mz_L) (st : List Value) (M : mz_M) : Option (mz_C × List Prop) := match st with
  | .int y :: .int x :: r => some ((@ite Nat (f x y) (d x y) a (pc + 3), ls, r, M), [])
  | _ => none
def mz_T (o : Option mz_C) : Option (mz_C × List Prop) := match o with
  | some c => some (c, [])
  | none => none
/-- one instruction that neither calls nor returns: the next place, and what must hold for it -/
def mz_step (SK : List mz_E) (ins : Instr) (len a : Nat) (v : Int32) (pc : Nat) (ls : mz_L) (st : List Value) (M : mz_M) : Option (mz_C × List Prop) := match ins with
  | .iconst _ => some ((pc + 1, ls, .int v :: st, M), [])
  | .bipush _ => some ((pc + 2, ls, .int v :: st, M), [])
  | .sipush _ => some ((pc + 3, ls, .int v :: st, M), [])
  | .ldc _ => some ((pc + 2, ls, .int v :: st, M), [])
  | .ldc_w _ => some ((pc + 3, ls, .int v :: st, M), [])
  | .lconst _ => some ((pc + 1, ls, .long v.toInt64 :: st, M), [])
  | .ldc2_w _ => some ((pc + 3, ls, .long v.toInt64 :: st, M), [])
  | .iload _ => (match mz_int (mz_get ls a) with
    | some x => some ((pc + 2, ls, .int x :: st, M), [])
    | none => none)
  | .iload_n _ => (match mz_int (mz_get ls a) with
    | some x => some ((pc + 1, ls, .int x :: st, M), [])
    | none => none)
  | .aload _ => (match mz_ref (mz_get ls a) with
    | some x => some ((pc + 2, ls, .ref x :: st, M), [])
    | none => none)
  | .aload_n _ => (match mz_ref (mz_get ls a) with
    | some x => some ((pc + 1, ls, .ref x :: st, M), [])
    | none => none)
  | .lload _ => (match mz_long (mz_get ls a) with
    | some x => some ((pc + 2, ls, .long x :: st, M), [])
    | none => none)
  | .lload_n _ => (match mz_long (mz_get ls a) with
    | some x => some ((pc + 1, ls, .long x :: st, M), [])
    | none => none)
  | .istore _ => (match st with
    | .int x :: r => (match mz_fit ls a with
      | true => some ((pc + 2, mz_put ls a (some (.int x)), r, M), [])
      | false => none)
    | _ => none)
  | .istore_n _ => (match st with
    | .int x :: r => (match mz_fit ls a with
      | true => some ((pc + 1, mz_put ls a (some (.int x)), r, M), [])
      | false => none)
    | _ => none)
  | .astore _ => (match st with
    | .ref x :: r => (match mz_fit ls a with
      | true => some ((pc + 2, mz_put ls a (some (.ref x)), r, M), [])
      | false => none)
    | _ => none)
  | .astore_n _ => (match st with
    | .ref x :: r => (match mz_fit ls a with
      | true => some ((pc + 1, mz_put ls a (some (.ref x)), r, M), [])
      | false => none)
    | _ => none)
  | .iinc _ _ => (match mz_int (mz_get ls a) with
    | some x => (match mz_fit ls a with
      | true => some ((pc + 3, mz_put ls a (some (.int (x + v))), st, M), [])
      | false => none)
    | none => none)
  | .iadd => mz_bin (fun x y => x + y) (fun _ _ => []) pc ls st M
  | .isub => mz_bin (fun x y => x - y) (fun _ _ => []) pc ls st M
  | .imul => mz_bin (fun x y => x * y) (fun _ _ => []) pc ls st M
  | .iand => mz_bin (fun x y => x &&& y) (fun _ _ => []) pc ls st M
  | .ior => mz_bin (fun x y => x ||| y) (fun _ _ => []) pc ls st M
  | .ixor => mz_bin (fun x y => x ^^^ y) (fun _ _ => []) pc ls st M
  | .ishl => mz_bin (fun x y => x <<< (y &&& 31)) (fun _ _ => []) pc ls st M
  | .ishr => mz_bin (fun x y => x >>> (y &&& 31)) (fun _ _ => []) pc ls st M
  | .iushr => mz_bin (fun x y => (x.toUInt32 >>> (y.toUInt32 &&& Int32.toUInt32 31)).toInt32) (fun _ _ => []) pc ls st M
  | .idiv => mz_bin (fun x y => x / y) (fun _ y => [¬ y = 0]) pc ls st M
  | .irem => mz_bin (fun x y => x - x / y * y) (fun _ y => [¬ y = 0]) pc ls st M
  | .ladd => (match st with
    | .long y :: .long x :: r => some ((pc + 1, ls, .long (x + y) :: r, M), [])
    | _ => none)
  | .lcmp => (match st with
    | .long y :: .long x :: r => some ((pc + 1, ls, .int (lg_cmp x y) :: r, M), [])
    | _ => none)
  | .i2l => (match st with
    | .int x :: r => some ((pc + 1, ls, .long x.toInt64 :: r, M), [])
    | _ => none)
  | .l2i => (match st with
    | .long x :: r => some ((pc + 1, ls, .int x.toInt32 :: r, M), [])
    | _ => none)
  | .i2b => (match st with
    | .int x :: r => some ((pc + 1, ls, .int x.toInt8.toInt32 :: r, M), [])
    | _ => none)
  | .pop => (match st with
    | .int _ :: r => some ((pc + 1, ls, r, M), [])
    | _ => none)
  | .dup => (match st with
    | .int x :: r => some ((pc + 1, ls, .int x :: .int x :: r, M), [])
    | .ref x :: r => some ((pc + 1, ls, .ref x :: .ref x :: r, M), [])
    | _ => none)
  | .dup_x1 => (match st with
    | .int x :: .ref y :: r => some ((pc + 1, ls, .int x :: .ref y :: .int x :: r, M), [])
    | _ => none)
  | .dup2 => (match st with
    | .int x :: .ref y :: r => some ((pc + 1, ls, .int x :: .ref y :: .int x :: .ref y :: r, M), [])
    | _ => none)
  | .goto _ => some ((a, ls, st, M), [])
  | .ifCond .eq _ => mz_if (fun x => x = 0) (fun _ => inferInstance) a pc ls st M
  | .ifCond .ne _ => mz_if (fun x => ¬ x = 0) (fun _ => inferInstance) a pc ls st M
  | .ifCond .lt _ => mz_if (fun x => x < 0) (fun _ => inferInstance) a pc ls st M
  | .ifCond .ge _ => mz_if (fun x => 0 ≤ x) (fun _ => inferInstance) a pc ls st M
  | .ifCond .gt _ => mz_if (fun x => 0 < x) (fun _ => inferInstance) a pc ls st M
  | .ifCond .le _ => mz_if (fun x => x ≤ 0) (fun _ => inferInstance) a pc ls st M
  | .if_icmp .eq _ => mz_ic (fun x y => x = y) (fun _ _ => inferInstance) a pc ls st M
  | .if_icmp .ne _ => mz_ic (fun x y => ¬ x = y) (fun _ _ => inferInstance) a pc ls st M
  | .if_icmp .lt _ => mz_ic (fun x y => x < y) (fun _ _ => inferInstance) a pc ls st M
  | .if_icmp .ge _ => mz_ic (fun x y => y ≤ x) (fun _ _ => inferInstance) a pc ls st M
  | .if_icmp .gt _ => mz_ic (fun x y => y < x) (fun _ _ => inferInstance) a pc ls st M
  | .if_icmp .le _ => mz_ic (fun x y => x ≤ y) (fun _ _ => inferInstance) a pc ls st M
  | .iaload => (match st with
    | .int i :: .ref r :: q => (match mz_nth SK r with
      | some (.inl (0, n, _)) => some ((pc + 1, ls, .int (M.1 r i.toNatClampNeg) :: q, M), [vp_in i n])
      | _ => none)
    | _ => none)
  | .baload => (match st with
    | .int i :: .ref r :: q => (match mz_nth SK r with
      | some (.inl (1, n, _)) => some ((pc + 1, ls, .int (M.1 r i.toNatClampNeg) :: q, M), [vp_in i n])
      | _ => none)
    | _ => none)
  | .laload => (match st with
    | .int i :: .ref r :: q => (match mz_nth SK r with
      | some (.inl (2, n, _)) => some ((pc + 1, ls, .long (M.2 r i.toNatClampNeg) :: q, M), [vp_in i n])
      | _ => none)
    | _ => none)
  | .aaload => (match st with
    | .int i :: .ref r :: q => (match mz_nth SK r with
      | some (.inl (k + 3, n, rs)) => some ((pc + 1, ls, .ref (rs.getD i.toNatClampNeg 0) :: q, M), [vp_in i n, rs.length = n])
      | _ => none)
    | _ => none)
  | .iastore => (match st with
    | .int x :: .int i :: .ref r :: q => (match mz_nth SK r with
      | some (.inl (0, n, _)) => some ((pc + 1, ls, q, mz_wr M r (upd (M.1 r) i.toNatClampNeg x)), [vp_in i n])
      | _ => none)
    | _ => none)
  | .bastore => (match st with
    | .int x :: .int i :: .ref r :: q => (match mz_nth SK r with
      | some (.inl (1, n, _)) => some ((pc + 1, ls, q, mz_wr M r (upd (M.1 r) i.toNatClampNeg (vp_nar .byte x))), [vp_in i n])
      | _ => none)
    | _ => none)
  | .lastore => (match st with
    | .long x :: .int i :: .ref r :: q => (match mz_nth SK r with
      | some (.inl (2, n, _)) => some ((pc + 1, ls, q, mz_wrl M r (vp_updL (M.2 r) i.toNatClampNeg x)), [vp_in i n])
      | _ => none)
    | _ => none)
  | .arraylength => (match st with
    | .ref r :: q => (match mz_nth SK r with
      | some (.inl (_, n, _)) => some ((pc + 1, ls, .int (Int32.ofNat n) :: q, M), [])
      | _ => none)
    | _ => none)
  | .getfield _ => (match st with
    | .ref r :: q => (match mz_nth SK r with
      | some (.inr (ci, fs)) => (match mz_nth fs (a % 64) with
        | some none => (match Nat.beq ci (a / 64) with
          | true => some ((pc + 3, ls, .int (M.1 r (a % 64)) :: q, M), [])
          | false => none)
        | some (some z) => (match Nat.beq ci (a / 64) with
          | true => some ((pc + 3, ls, .ref z :: q, M), [])
          | false => none)
        | none => none)
      | _ => none)
    | _ => none)
  | .putfield _ => (match st with
    | .int x :: .ref r :: q => (match mz_nth SK r with
      | some (.inr (ci, fs)) => (match mz_nth fs (a % 64) with
        | some none => (match Nat.beq ci (a / 64) with
          | true => some ((pc + 3, ls, q, mz_wr M r (upd (M.1 r) (a % 64) x)), match v.toBitVec.toNat with
            | 0 => []
            | _ => [x = 0 ∨ x = 1])
          | false => none)
        | _ => none)
      | _ => none)
    | _ => none)
  | .tableswitch d lo hi offs => (match st with
    | .int x :: r => some ((if x.toInt < lo ∨ hi < x.toInt then a else ((pc : Int) + offs.getD (x.toInt - lo).toNat 0).toNat, ls, r, M), [])
    | _ => none)
  | _ => none
end
section
/-! from the small machine to the machine: cells, locals -/
def mz_cv (ad : Nat → Nat) (v : Value) : Value := match v with
  | .ref k => .ref (ad k)
  | w => w
theorem mz_cv_cat (ad : Nat → Nat) (v : Value) : (mz_cv ad v).category = v.category := by cases v <;> rfl
theorem mz_sum (ad : Nat → Nat) (l : List Value) : ((l.map (mz_cv ad)).map fun v => v.category).sum = (l.map fun v => v.category).sum := by
  induction l with
  | nil => rfl
  | cons a l ih => simp only [List.map_cons, List.sum_cons, mz_cv_cat, ih]
def mz_con (ad : Nat → Nat) (M : mz_M) (k t : Nat) (rs : List Nat) : (Nat → Int32) ⊕ (Nat → Int64) ⊕ (Nat → UInt32) ⊕ (Nat → UInt64) ⊕ (Nat → Option Nat) := match t with
  | 0 => .inl (M.1 k)
  | 1 => .inl (M.1 k)
  | 2 => .inr (.inl (M.2 k))
  | _ + 3 => .inr (.inr (.inr (.inr (fun j => if j < rs.length then some (ad (rs.getD j 0)) else none))))
def mz_fs (ad : Nat → Nat) (M : mz_M) (k : Nat) : Nat → List (Option Nat) → List Value
  | _, [] => []
  | i, none :: r => .int (M.1 k i) :: mz_fs ad M k (i + 1) r
  | i, some q :: r => .ref (ad q) :: mz_fs ad M k (i + 1) r
def mz_ent (cA ad : Nat → Nat) (M : mz_M) (k : Nat) (e : mz_E) : va_E := match e with
  | .inl (t, n, rs) => .inl (cA t, n, mz_con ad M k t rs)
  | .inr (ci, fs) => .inr (ci, mz_fs ad M k 0 fs)
def mz_wl (cA ad : Nat → Nat) (M : mz_M) : Nat → List mz_E → va_W
  | _, [] => []
  | k, e :: r => (ad k, mz_ent cA ad M k e) :: mz_wl cA ad M (k + 1) r
theorem mz_wl_get (cA ad : Nat → Nat) (M : mz_M) : ∀ (l : List mz_E) (k i : Nat), (mz_wl cA ad M k l)[i]? = (mz_nth l i).map (fun e => (ad (k + i), mz_ent cA ad M (k + i) e))
  | [], k, i => by simp [mz_wl, mz_nth]
  | e :: r, k, 0 => by simp [mz_wl, mz_nth]
  | e :: r, k, i + 1 => by
    have h := mz_wl_get cA ad M r (k + 1) i
    simp only [mz_wl, mz_nth, List.getElem?_cons_succ]
    rw [h, show k + 1 + i = k + (i + 1) by omega]
theorem mz_fs_get (ad : Nat → Nat) (M : mz_M) (k : Nat) : ∀ (l : List (Option Nat)) (b i : Nat), (mz_fs ad M k b l)[i]? = (mz_nth l i).map (fun o => match o with
    | none => Value.int (M.1 k (b + i))
    | some q => Value.ref (ad q))
  | [], b, i => by simp [mz_fs, mz_nth]
  | none :: r, b, 0 => by simp [mz_fs, mz_nth]
  | some q :: r, b, 0 => by simp [mz_fs, mz_nth]
  | none :: r, b, i + 1 => by
    have h := mz_fs_get ad M k r (b + 1) i
    simp only [mz_fs, mz_nth, List.getElem?_cons_succ]
    rw [h, show b + 1 + i = b + (i + 1) by omega]
  | some q :: r, b, i + 1 => by
    have h := mz_fs_get ad M k r (b + 1) i
    simp only [mz_fs, mz_nth, List.getElem?_cons_succ]
    rw [h, show b + 1 + i = b + (i + 1) by omega]
theorem mz_fs_len (ad : Nat → Nat) (M : mz_M) (k : Nat) : ∀ (l : List (Option Nat)) (b : Nat), (mz_fs ad M k b l).length = l.length
  | [], b => rfl
  | none :: r, b => by simp only [mz_fs, List.length_cons, mz_fs_len ad M k r (b + 1)]
  | some q :: r, b => by simp only [mz_fs, List.length_cons, mz_fs_len ad M k r (b + 1)]
theorem mz_nth_lt {α : Type} : ∀ {l : List α} {i : Nat} {a : α}, mz_nth l i = some a → i < l.length
  | [], i, a, h => by simp [mz_nth] at h
  | b :: r, 0, a, h => by simp
  | b :: r, i + 1, a, h => by
    have := mz_nth_lt (l := r) (i := i) (a := a) h
    simp only [List.length_cons]
    omega
theorem mz_fs_set (ad : Nat → Nat) (M : mz_M) (k : Nat) (x : Int32) : ∀ (l : List (Option Nat)) (b i : Nat), mz_nth l i = some none → (mz_fs ad M k b l).set i (.int x) = mz_fs ad (mz_wr M k (upd (M.1 k) (b + i) x)) k b l := by
  intro l b i hi
  apply List.ext_getElem?
  intro j
  rw [List.getElem?_set, mz_fs_len, mz_fs_get, mz_fs_get]
  by_cases h : i = j
  · subst h
    rw [if_pos rfl, if_pos (mz_nth_lt hi), hi]
    simp [mz_wr, upd]
  · rw [if_neg h]
    cases mz_nth l j with
    | none => rfl
    | some o => cases o with
      | none => simp [mz_wr, upd, show ¬ j = i from fun q => h q.symm]
      | some q => rfl
/-- what a cell holds hangs on its own part of the store alone -/
theorem mz_ent_same {cA ad : Nat → Nat} {M M' : mz_M} {k : Nat} (h1 : M'.1 k = M.1 k) (h2 : M'.2 k = M.2 k) (e : mz_E) : mz_ent cA ad M' k e = mz_ent cA ad M k e := by
  have hf : ∀ (l : List (Option Nat)) (b : Nat), mz_fs ad M' k b l = mz_fs ad M k b l := by
    intro l
    induction l with
    | nil => intro b; rfl
    | cons o r ih => intro b; cases o <;> simp only [mz_fs, ih, h1]
  obtain ⟨t, n, rs⟩ | ⟨ci, fs⟩ := e
  · match t with
    | 0 => simp only [mz_ent, mz_con, h1]
    | 1 => simp only [mz_ent, mz_con, h1]
    | 2 => simp only [mz_ent, mz_con, h2]
    | t + 3 => simp only [mz_ent, mz_con]
  · simp only [mz_ent, hf]
theorem mz_wl_set {cA ad : Nat → Nat} {M M' : mz_M} {l : List mz_E} {i : Nat} {e : mz_E} (hi : mz_nth l i = some e) (hM : ∀ b, b ≠ i → M'.1 b = M.1 b ∧ M'.2 b = M.2 b) : (mz_wl cA ad M 0 l).set i (ad i, mz_ent cA ad M' i e) = mz_wl cA ad M' 0 l := by
  apply List.ext_getElem?
  intro j
  rw [List.getElem?_set, mz_wl_get, mz_wl_get]
  by_cases h : i = j
  · subst h
    have hlen : i < (mz_wl cA ad M 0 l).length := by
      have h9 : (mz_wl cA ad M 0 l)[i]? = some (ad (0 + i), mz_ent cA ad M (0 + i) e) := by rw [mz_wl_get, hi]; rfl
      exact (List.getElem?_eq_some_iff.mp h9).1
    rw [if_pos rfl, if_pos hlen, hi]
    simp
  · rw [if_neg h]
    cases mz_nth l j with
    | none => rfl
    | some e2 =>
      obtain ⟨a1, a2⟩ := hM j (fun q => h q.symm)
      simp only [Option.map_some, Nat.zero_add, mz_ent_same a1 a2]
theorem mz_w_at {cA ad : Nat → Nat} {M : mz_M} {l : List mz_E} {i : Nat} {e : mz_E} (hi : mz_nth l i = some e) : (mz_wl cA ad M 0 l)[i]? = some (ad i, mz_ent cA ad M i e) := by
  rw [mz_wl_get, hi]
  simp
/-! locals -/
theorem mz_put_len (v : Option Value) : ∀ (ls : mz_L) (i : Nat), (mz_put ls i v).length = ls.length
  | [], i => rfl
  | a :: l, 0 => rfl
  | a :: l, i + 1 => by simp only [mz_put, List.length_cons, mz_put_len v l i]
theorem mz_put_get (v : Option Value) : ∀ (ls : mz_L) (i j : Nat), mz_get (mz_put ls i v) j = if j = i ∧ i < ls.length then v else mz_get ls j
  | [], i, j => by simp [mz_put, mz_get]
  | a :: l, 0, 0 => by simp [mz_put, mz_get]
  | a :: l, 0, j + 1 => by simp [mz_put, mz_get]
  | a :: l, i + 1, 0 => by simp [mz_put, mz_get]
  | a :: l, i + 1, j + 1 => by simp [mz_put, mz_get, mz_put_get v l i j]
theorem mz_get_lt : ∀ {ls : mz_L} {i : Nat} {v : Value}, mz_get ls i = some v → i < ls.length
  | [], i, v, h => by simp [mz_get] at h
  | a :: l, 0, v, h => by simp
  | a :: l, i + 1, v, h => by
    have := mz_get_lt (ls := l) (i := i) (v := v) h
    simp only [List.length_cons]
    omega
def mz_has (ad : Nat → Nat) (lsR : Array Slot) (nL : Nat) (ls : mz_L) : Prop := lsR.size = nL ∧ lv_wf lsR ∧ ls.length = nL ∧ ∀ (i : Nat) (v : Value), mz_get ls i = some v → lsR[i]? = some (.val (mz_cv ad v))
def mz_as (ad : Nat → Nat) (ls : mz_L) : List (Nat × Value) := (List.range ls.length).filterMap (fun i => (mz_get ls i).map (fun v => (i, mz_cv ad v)))
theorem mz_as_mem {ad : Nat → Nat} {ls : mz_L} {q : Nat × Value} : q ∈ mz_as ad ls ↔ ∃ v, mz_get ls q.1 = some v ∧ q.2 = mz_cv ad v := by
  unfold mz_as
  rw [List.mem_filterMap]
  constructor
  · rintro ⟨i, -, h⟩
    cases hg : mz_get ls i with
    | none => rw [hg] at h; cases h
    | some v =>
      rw [hg] at h
      cases h
      exact ⟨v, hg, rfl⟩
  · rintro ⟨v, h, e⟩
    refine ⟨q.1, List.mem_range.mpr (mz_get_lt h), ?_⟩
    rw [h, Option.map_some, ← e]
theorem mz_has.lv {ad : Nat → Nat} {lsR : Array Slot} {nL : Nat} {ls : mz_L} (h : mz_has ad lsR nL ls) : lv_has lsR nL (mz_as ad ls) := by
  refine ⟨h.1, h.2.1, fun q hq => ?_⟩
  obtain ⟨v, h1, h2⟩ := mz_as_mem.mp hq
  rw [h2]
  exact h.2.2.2 _ _ h1
theorem mz_has.st {ad : Nat → Nat} {lsR ls' : Array Slot} {nL i : Nat} {ls : mz_L} {v : Value} (h : mz_has ad lsR nL ls) (ha : mz_ahead ls i = false) (hL : lv_has ls' nL ((i, mz_cv ad v) :: (mz_as ad ls).filter (fun q => !(q.1 == i) && !(q.1 + 1 == i && q.2.category == 2)))) : mz_has ad ls' nL (mz_put ls i (some v)) := by
  refine ⟨hL.1, hL.2.1, (mz_put_len _ _ _).trans h.2.2.1, fun j w hj => ?_⟩
  rw [mz_put_get] at hj
  by_cases hji : j = i ∧ i < ls.length
  · rw [if_pos hji] at hj
    cases hj
    rw [hji.1]
    exact hL.2.2 (i, mz_cv ad v) List.mem_cons_self
  · rw [if_neg hji] at hj
    have hne : ¬ j = i := fun q => hji ⟨q, q ▸ mz_get_lt hj⟩
    refine hL.2.2 (j, mz_cv ad w) (List.mem_cons_of_mem _ (List.mem_filter.mpr ⟨mz_as_mem.mpr ⟨w, hj, rfl⟩, ?_⟩))
    have h2 : ¬ (j + 1 = i ∧ (mz_cv ad w).category = 2) := by
      rintro ⟨e1, e2⟩
      subst e1
      rw [mz_cv_cat] at e2
      simp only [mz_ahead, hj] at ha
      cases w <;> simp [mz_wide, Value.category] at ha e2
    simp only [Bool.and_eq_true, Bool.not_eq_true', beq_eq_false_iff_ne, ne_eq, Bool.and_eq_false_iff]
    refine ⟨hne, ?_⟩
    by_cases e1 : j + 1 = i
    · exact Or.inr (fun e2 => h2 ⟨e1, e2⟩)
    · exact Or.inl e1
theorem mz_int_some {o : Option Value} {x : Int32} (h : mz_int o = some x) : o = some (.int x) := by
  unfold mz_int at h
  split at h
  · cases h; rfl
  · cases h
theorem mz_ref_some {o : Option Value} {x : Nat} (h : mz_ref o = some x) : o = some (.ref x) := by
  unfold mz_ref at h
  split at h
  · cases h; rfl
  · cases h
theorem mz_long_some {o : Option Value} {x : Int64} (h : mz_long o = some x) : o = some (.long x) := by
  unfold mz_long at h
  split at h
  · cases h; rfl
  · cases h
/-! the locals with which a method begins -/
def mz_args : List Value → mz_L
  | [] => []
  | v :: vs => match mz_wide (some v) with
    | true => some v :: none :: mz_args vs
    | false => some v :: mz_args vs
def mz_pad : Nat → mz_L → mz_L
  | 0, _ => []
  | n + 1, [] => none :: mz_pad n []
  | n + 1, a :: l => a :: mz_pad n l
theorem mz_pad_len : ∀ (n : Nat) (l : mz_L), (mz_pad n l).length = n
  | 0, l => rfl
  | n + 1, [] => by simp only [mz_pad, List.length_cons, mz_pad_len n []]
  | n + 1, a :: l => by simp only [mz_pad, List.length_cons, mz_pad_len n l]
theorem mz_pad_get : ∀ (n : Nat) (l : mz_L) (i : Nat) (v : Value), mz_get (mz_pad n l) i = some v → mz_get l i = some v
  | 0, l, i, v, h => by simp [mz_pad, mz_get] at h
  | n + 1, [], 0, v, h => by simp [mz_pad, mz_get] at h
  | n + 1, [], i + 1, v, h => by
    have := mz_pad_get n [] i v h
    simp [mz_get] at this
  | n + 1, a :: l, 0, v, h => h
  | n + 1, a :: l, i + 1, v, h => mz_pad_get n l i v h
theorem mz_wide_cat (v : Value) : mz_wide (some v) = true ↔ v.category = 2 := by cases v <;> simp [mz_wide, Value.category]
theorem mz_args_get (ad : Nat → Nat) : ∀ (vs : List Value) (b i : Nat) (v : Value), mz_get (mz_args vs) i = some v → (b + i, mz_cv ad v) ∈ lv_args b (vs.map (mz_cv ad))
  | [], b, i, v, h => by simp [mz_args, mz_get] at h
  | w :: vs, b, i, v, h => by
    unfold mz_args at h
    split at h
    · next hw =>
      have hc : (mz_cv ad w).category = 2 := by rw [mz_cv_cat]; exact (mz_wide_cat w).mp hw
      simp only [List.map_cons, lv_args, hc, if_true]
      match i, h with
      | 0, h => simp only [mz_get, Option.some.injEq] at h; rw [h]; exact List.mem_cons_self
      | 1, h => simp [mz_get] at h
      | i + 2, h =>
        have h2 := mz_args_get ad vs (b + 2) i v h
        rw [show b + 2 + i = b + (i + 2) by omega] at h2
        exact List.mem_cons_of_mem _ h2
    · next hw =>
      have hc : ¬ (mz_cv ad w).category = 2 := by rw [mz_cv_cat]; intro q; rw [(mz_wide_cat w).mpr q] at hw; cases hw
      simp only [List.map_cons, lv_args, hc, if_false]
      match i, h with
      | 0, h => simp only [mz_get, Option.some.injEq] at h; rw [h]; exact List.mem_cons_self
      | i + 1, h =>
        have h2 := mz_args_get ad vs (b + 1) i v h
        rw [show b + 1 + i = b + (i + 1) by omega] at h2
        exact List.mem_cons_of_mem _ h2
theorem mz_entry (ad : Nat → Nat) (As : List Value) {n : Nat} (h : (lg_sl (As.map (mz_cv ad))).length ≤ n) : mz_has ad ((lg_sl (As.map (mz_cv ad)) ++ List.replicate (n - (lg_sl (As.map (mz_cv ad))).length) Slot.unset).toArray) n (mz_pad n (mz_args As)) := by
  obtain ⟨h1, h2, h3⟩ := lv_entry (As.map (mz_cv ad)) h
  refine ⟨h1, h2, mz_pad_len _ _, fun i v hi => ?_⟩
  have h4 := mz_args_get ad As 0 i v (mz_pad_get _ _ _ _ hi)
  rw [Nat.zero_add] at h4
  exact h3 _ h4
end
section
/-! a row is what the code has there, and its link is among the words -/
def mz_okj (LK : List Cond) (j : Nat) (w : Cond) : Bool := decide (mz_nth LK j = some w)
def mz_okb (LK : List Cond) (cl : List vw_C) (tyf : Nat → Nat → FieldType) (own : String) (cc : ByteArray) (r : mz_R) : Bool := match r with
  | (pc, ins, len, a, v, j) => (match decode cc pc with
    | .ok q => decide (q = (ins, len))
    | .error _ => false) && (match ins with
    | .iconst n => decide (len = 1) && decide (Int32.ofInt n = v)
    | .bipush n => decide (len = 2) && decide ((Int8.ofInt n).toInt32 = v)
    | .sipush n => decide (len = 3) && decide ((Int16.ofInt n).toInt32 = v)
    | .ldc i => decide (len = 2) && mz_okj LK j (.constant own i v)
    | .ldc_w i => decide (len = 3) && mz_okj LK j (.constant own i v)
    | .lconst n => decide (len = 1) && decide (Int64.ofNat (n : Nat) = v.toInt64)
    | .ldc2_w i => decide (len = 3) && mz_okj LK j (.constantLong own i v.toInt64)
    | .iload i => decide (len = 2) && decide (i = a)
    | .aload i => decide (len = 2) && decide (i = a)
    | .lload i => decide (len = 2) && decide (i = a)
    | .istore i => decide (len = 2) && decide (i = a)
    | .astore i => decide (len = 2) && decide (i = a)
    | .iload_n i => decide (len = 1) && decide ((i : Nat) = a)
    | .aload_n i => decide (len = 1) && decide ((i : Nat) = a)
    | .lload_n i => decide (len = 1) && decide ((i : Nat) = a)
    | .istore_n i => decide (len = 1) && decide ((i : Nat) = a)
    | .astore_n i => decide (len = 1) && decide ((i : Nat) = a)
    | .iinc i n => decide (len = 3) && decide (i = a) && decide (Int32.ofInt n = v)
    | .goto o => decide (len = 3) && decide ((pc : Int) + o = (a : Int))
    | .ifCond _ o => decide (len = 3) && decide ((pc : Int) + o = (a : Int))
    | .if_icmp _ o => decide (len = 3) && decide ((pc : Int) + o = (a : Int))
    | .tableswitch d lo hi offs => decide ((pc : Int) + d = (a : Int)) && decide ((offs.size : Int) = hi - lo + 1) && offs.all (fun o => decide (0 ≤ (pc : Int) + o))
    | .getfield i => decide (len = 3) && (match cl[a / 64]? with
      | some q => decide (a % 64 < q.2.2) && mz_okj LK j (.fieldLink own i (q.2.1 (a % 64)).1 (q.2.1 (a % 64)).2.1 (q.2.1 (a % 64)).2.2.1)
      | none => false)
    | .putfield i => decide (len = 3) && (match cl[a / 64]? with
      | some q => decide (a % 64 < q.2.2) && mz_okj LK j (.fieldLink own i (q.2.1 (a % 64)).1 (q.2.1 (a % 64)).2.1 (q.2.1 (a % 64)).2.2.1) && decide ((q.2.1 (a % 64)).2.2.2 = false) && decide (tyf (a / 64) (a % 64) = if v = 0 then .int else .boolean)
      | none => false)
    | _ => decide (len = (match ins with
      | .invokevirtual _ => 3
      | .invokestatic _ => 3
      | _ => 1)))
/-! one instruction -/
section MZ
variable {p : Program} {l : Launch} {e : Env} {R : Room} {s : State} {m : MethodId} {args : Array Value} {below : List Frame} {meth : Method} {c : Code} {Q : State → Prop}
variable {cc : ByteArray} {nL : Nat} {D : va_G} {cl : List vw_C} {tys : List (ClassId × FieldType)} {A : Nat → Prop} {Ts LK : List Cond} {own : String} {cA ad : Nat → Nat} {SK : List mz_E} {tyf : Nat → Nat → FieldType}
def mz_W (p : Program) (l : Launch) (e : Env) (R : Room) (s : State) (m : MethodId) (args : Array Value) (below : List Frame) (meth : Method) (c : Code) (Q : State → Prop) (nL : Nat) (D : va_G) (cl : List vw_C) (A : Nat → Prop) (cA ad : Nat → Nat) (SK : List mz_E) (k : mz_C) : Prop :=
  ∀ (H : Heap) (locs : List Loc) (lsR : Array Slot), va_P D cl (mz_wl cA ad k.2.2.2 0 SK) H → va_D A (mz_wl cA ad k.2.2.2 0 SK) → va_S A s.heap H locs → mz_has ad lsR nL k.2.1 → W p l e R s m args below meth c H locs 0 0 Q (F0 m k.1 lsR (k.2.2.1.map (mz_cv ad)))
/-- the arrays' kinds, as the tables have them -/
def mz_tys (cA : Nat → Nat) (tys : List (ClassId × FieldType)) (SK : List mz_E) : Prop := tys[0]? = some (cA 0, .int) ∧ tys[1]? = some (cA 1, .byte) ∧ tys[2]? = some (cA 2, .long) ∧ ∀ (r t n : Nat) (rs : List Nat), mz_nth SK r = some (.inl (t + 3, n, rs)) → ∃ ty : FieldType, ty.isReference = true ∧ tys[t + 3]? = some (cA (t + 3), ty)
/-- the classes' fields: their words, types and names -/
def mz_cls (cl : List vw_C) (tyf : Nat → Nat → FieldType) (Ts : List Cond) : Prop := ∀ (ci : Nat) (q : vw_C), cl[ci]? = some q → (∀ w ∈ u_ws q.1 q.2.1 q.2.2, w ∈ Ts) ∧ (∀ k, k < q.2.2 → parseFieldDescriptor (q.2.1 k).2.2.1 = some (tyf ci k)) ∧ ∀ a, a < q.2.2 → ∀ b, b < q.2.2 → a ≠ b → (q.2.1 a).2.1 ≠ (q.2.1 b).2.1
theorem mz_fit_iff {ls : mz_L} {i : Nat} : mz_fit ls i = true ↔ mz_ahead ls i = false ∧ i < ls.length := by
  unfold mz_fit
  cases mz_ahead ls i with
  | true => simp
  | false => simp [Nat.blt_eq]
theorem mz_nth_mem {α : Type} : ∀ {l : List α} {i : Nat} {a : α}, mz_nth l i = some a → a ∈ l
  | [], i, a, h => by simp [mz_nth] at h
  | b :: r, 0, a, h => by simp only [mz_nth, Option.some.injEq] at h; rw [h]; exact List.mem_cons_self
  | b :: r, i + 1, a, h => List.mem_cons_of_mem _ (mz_nth_mem (l := r) h)
theorem mz_okj_in {j : Nat} {w : Cond} (hLK : ∀ w ∈ LK, w ∈ Ts) (h : mz_okj LK j w = true) : w ∈ Ts := hLK w (mz_nth_mem (of_decide_eq_true h))
theorem mz_decode {cc : ByteArray} {pc : Nat} {q : Instr × Nat} (h : (match decode cc pc with
    | .ok q2 => decide (q2 = q)
    | .error _ => false) = true) : decode cc pc = .ok q := by
  split at h
  · next q2 e => rw [e, of_decide_eq_true h]
  · cases h
theorem mz_bin_some {f : Int32 → Int32 → Int32} {P : Int32 → Int32 → List Prop} {pc : Nat} {ls : mz_L} {st : List Value} {M : mz_M} {k : mz_C} {P' : List Prop} (h : mz_bin f P pc ls st M = some (k, P')) : ∃ x y r, st = .int y :: .int x :: r ∧ k = (pc + 1, ls, .int (f x y) :: r, M) ∧ P' = P x y := by
  unfold mz_bin at h
  split at h
  · cases h; exact ⟨_, _, _, rfl, rfl, rfl⟩
  · cases h
theorem mz_if_some {f : Int32 → Prop} {d : ∀ x, Decidable (f x)} {a pc : Nat} {ls : mz_L} {st : List Value} {M : mz_M} {k : mz_C} {P' : List Prop} (h : mz_if f d a pc ls st M = some (k, P')) : ∃ x r, st = .int x :: r ∧ k = (@ite Nat (f x) (d x) a (pc + 3), ls, r, M) := by
  unfold mz_if at h
  split at h
  · cases h; exact ⟨_, _, rfl, rfl⟩
  · cases h
theorem mz_ic_some {f : Int32 → Int32 → Prop} {d : ∀ x y, Decidable (f x y)} {a pc : Nat} {ls : mz_L} {st : List Value} {M : mz_M} {k : mz_C} {P' : List Prop} (h : mz_ic f d a pc ls st M = some (k, P')) : ∃ x y r, st = .int y :: .int x :: r ∧ k = (@ite Nat (f x y) (d x y) a (pc + 3), ls, r, M) := by
  unfold mz_ic at h
  split at h
  · cases h; exact ⟨_, _, _, rfl, rfl⟩
  · cases h
theorem mz_rowI {M : mz_M} {r t n : Nat} {rs : List Nat} {f : Nat → Int32} (ht : t = 0 ∨ t = 1) (e0 : mz_nth SK r = some (.inl (t, n, rs))) : (mz_wl cA ad M 0 SK).set r (ad r, .inl (cA t, n, .inl f)) = mz_wl cA ad (mz_wr M r f) 0 SK := by
  rw [← mz_wl_set (M := M) (M' := mz_wr M r f) e0 (fun b hb => by simp [mz_wr, hb])]
  rcases ht with rfl | rfl <;> simp [mz_ent, mz_con, mz_wr]
theorem mz_rowL {M : mz_M} {r n : Nat} {rs : List Nat} {f : Nat → Int64} (e0 : mz_nth SK r = some (.inl (2, n, rs))) : (mz_wl cA ad M 0 SK).set r (ad r, .inl (cA 2, n, .inr (.inl f))) = mz_wl cA ad (mz_wrl M r f) 0 SK := by
  rw [← mz_wl_set (M := M) (M' := mz_wrl M r f) e0 (fun b hb => by simp [mz_wrl, hb])]
  simp [mz_ent, mz_con, mz_wrl]
theorem mz_rowF {M : mz_M} {r ci k : Nat} {fs : List (Option Nat)} {x : Int32} (e0 : mz_nth SK r = some (.inr (ci, fs))) (hk : mz_nth fs k = some none) : (mz_wl cA ad M 0 SK).set r (ad r, .inr (ci, (mz_fs ad M r 0 fs).set k (.int x))) = mz_wl cA ad (mz_wr M r (upd (M.1 r) k x)) 0 SK := by
  rw [mz_fs_set ad M r x fs 0 k hk, Nat.zero_add, ← mz_wl_set (M := M) (M' := mz_wr M r (upd (M.1 r) k x)) e0 (fun b hb => by simp [mz_wr, hb])]
  simp [mz_ent]
theorem mz_aald {ws : va_W} {H : Heap} {locs : List Loc} {a q0 t0 n pc : Nat} {cB : ClassId} {ty : FieldType} {f : Nat → Option Nat} {i : Int32} {rest : List Value} {ls : Array Slot} (hx : p.tables.exec = Jvm.exec) (hb : c.code = cc) (hK : va_K D cl tys s) (hP : va_P D cl ws H) (hr : ty.isReference = true) (ha : ws[q0]? = some (a, .inl (cB, n, .inr (.inr (.inr (.inr f)))))) (ht : tys[t0]? = some (cB, ty)) (hin : vp_in i n) (hdg : decode cc pc = .ok (.aaload, 1))
    (kk : W p l e R s m args below meth c H locs 0 0 Q (F0 m (pc + 1) ls (va_rf (f i.toNatClampNeg) :: rest))) : W p l e R s m args below meth c H locs 0 0 Q (F0 m pc ls (.int i :: .ref a :: rest)) := by
  have hlt : i.toNatClampNeg < n := Nat.not_le.mp fun q => hin (Or.inr q)
  exact W.aald (v := va_rf (f i.toNatClampNeg)) (ty := ty) hx hb (hP q0 _ ha) ((hK.2 t0 _ ht).1 n (fun j => va_rf (f j))) hr (fun q => by cases q) (by show ¬ (i < 0 ∨ (arrV _ _ _).slots.size ≤ _); rw [arrV_size]; exact hin) (by show (arrV _ _ _).slots[_]? = _; rw [arrV_read _ _ hlt]) rfl rfl hdg kk
set_option maxHeartbeats 4000000 in
/-- a row of the small machine is an instruction's -/
theorem mz_one (hx : p.tables.exec = Jvm.exec) (hb : c.code = cc) (hml : c.maxLocals = nL) (hown : s.vm.findClass own = some m.cls) (hts : ∀ w ∈ Ts, w.before args s = true) (hLK : ∀ w ∈ LK, w ∈ Ts) (hK : va_K D cl tys s) (hty : mz_tys cA tys SK) (hcl : mz_cls cl tyf Ts)
    {pc len a j : Nat} {ins : Instr} {v : Int32} (hok : mz_okb LK cl tyf own cc (pc, ins, len, a, v, j) = true) {ls : mz_L} {st : List Value} {M : mz_M} {k : mz_C} {P : List Prop} (h : mz_step SK ins len a v pc ls st M = some (k, P)) (hP : ∀ x ∈ P, x)
    (kk : mz_W p l e R s m args below meth c Q nL D cl A cA ad SK k) : mz_W p l e R s m args below meth c Q nL D cl A cA ad SK (pc, ls, st, M) := by
  intro H locs lsR h1 h2 h3 h4
  dsimp only at h1 h2 h3 h4
  unfold mz_okb at hok
  dsimp only at hok
  rw [Bool.and_eq_true] at hok
  obtain ⟨hd, hok⟩ := hok
  replace hd := mz_decode hd
  have go : ∀ {k2 : mz_C}, k2 = k → k2.2.2.2 = M → k2.2.1 = ls → W p l e R s m args below meth c H locs 0 0 Q (F0 m k.1 lsR (k.2.2.1.map (mz_cv ad))) := by
    intro k2 e1 e2 e3
    subst e1
    exact kk H locs lsR (by rw [e2]; exact h1) (by rw [e2]; exact h2) h3 (by rw [e3]; exact h4)
  cases ins
  case iconst n =>
    dsimp only [mz_step] at h
    simp only [Bool.and_eq_true, decide_eq_true_eq] at hok
    cases h
    obtain ⟨rfl, hv⟩ := hok
    exact lv_iconst hx hb hd hv (go rfl rfl rfl)
  case bipush n =>
    dsimp only [mz_step] at h
    simp only [Bool.and_eq_true, decide_eq_true_eq] at hok
    cases h
    obtain ⟨rfl, hv⟩ := hok
    exact lv_bipush hx hb hd hv (go rfl rfl rfl)
  case sipush n =>
    dsimp only [mz_step] at h
    simp only [Bool.and_eq_true, decide_eq_true_eq] at hok
    cases h
    obtain ⟨rfl, hv⟩ := hok
    exact lv_sipush hx hb hd hv (go rfl rfl rfl)
  case lconst n =>
    dsimp only [mz_step] at h
    simp only [Bool.and_eq_true, decide_eq_true_eq] at hok
    cases h
    obtain ⟨rfl, hv⟩ := hok
    exact lv_lconst hx hb hd hv (go rfl rfl rfl)
  case ldc i =>
    dsimp only [mz_step] at h
    simp only [Bool.and_eq_true, decide_eq_true_eq] at hok
    cases h
    obtain ⟨rfl, hv⟩ := hok
    exact lv_ldc hx hb hown (hts _ (mz_okj_in hLK hv)) hd (go rfl rfl rfl)
  case ldc_w i =>
    dsimp only [mz_step] at h
    simp only [Bool.and_eq_true, decide_eq_true_eq] at hok
    cases h
    obtain ⟨rfl, hv⟩ := hok
    exact lv_ldcw hx hb hown (hts _ (mz_okj_in hLK hv)) hd (go rfl rfl rfl)
  case ldc2_w i =>
    dsimp only [mz_step] at h
    simp only [Bool.and_eq_true, decide_eq_true_eq] at hok
    cases h
    obtain ⟨rfl, hv⟩ := hok
    exact lv_ldc2 hx hb hown (hts _ (mz_okj_in hLK hv)) hd (go rfl rfl rfl)
  case iload i =>
    dsimp only [mz_step] at h
    simp only [Bool.and_eq_true, decide_eq_true_eq] at hok
    obtain ⟨rfl, hi⟩ := hok
    split at h
    · next x e0 =>
      cases h
      have hg := h4.2.2.2 _ _ (mz_int_some e0)
      subst hi
      exact lv_iload hx hb hd hg (go rfl rfl rfl)
    · cases h
  case aload i =>
    dsimp only [mz_step] at h
    simp only [Bool.and_eq_true, decide_eq_true_eq] at hok
    obtain ⟨rfl, hi⟩ := hok
    split at h
    · next x e0 =>
      cases h
      have hg := h4.2.2.2 _ _ (mz_ref_some e0)
      subst hi
      exact lv_aload hx hb hd hg (go rfl rfl rfl)
    · cases h
  case lload i =>
    dsimp only [mz_step] at h
    simp only [Bool.and_eq_true, decide_eq_true_eq] at hok
    obtain ⟨rfl, hi⟩ := hok
    split at h
    · next x e0 =>
      cases h
      have hg := h4.2.2.2 _ _ (mz_long_some e0)
      subst hi
      exact lv_lload hx hb hd hg (go rfl rfl rfl)
    · cases h
  case iload_n i =>
    dsimp only [mz_step] at h
    simp only [Bool.and_eq_true, decide_eq_true_eq] at hok
    obtain ⟨rfl, hi⟩ := hok
    split at h
    · next x e0 =>
      cases h
      have hg := h4.2.2.2 _ _ (mz_int_some e0)
      skip
      exact lv_iload_n hx hb hd hi hg (go rfl rfl rfl)
    · cases h
  case aload_n i =>
    dsimp only [mz_step] at h
    simp only [Bool.and_eq_true, decide_eq_true_eq] at hok
    obtain ⟨rfl, hi⟩ := hok
    split at h
    · next x e0 =>
      cases h
      have hg := h4.2.2.2 _ _ (mz_ref_some e0)
      skip
      exact lv_aload_n hx hb hd hi hg (go rfl rfl rfl)
    · cases h
  case lload_n i =>
    dsimp only [mz_step] at h
    simp only [Bool.and_eq_true, decide_eq_true_eq] at hok
    obtain ⟨rfl, hi⟩ := hok
    split at h
    · next x e0 =>
      cases h
      have hg := h4.2.2.2 _ _ (mz_long_some e0)
      skip
      exact lv_lload_n hx hb hd hi hg (go rfl rfl rfl)
    · cases h
  case istore i =>
    dsimp only [mz_step] at h
    simp only [Bool.and_eq_true, decide_eq_true_eq] at hok
    obtain ⟨rfl, hi⟩ := hok
    split at h
    · next x r =>
      split at h
      · next hfit =>
        cases h
        obtain ⟨hfa, hfl⟩ := mz_fit_iff.mp hfit
        subst hi
        exact lv_istore hx hb hd h4.lv (by have := h4.2.2.1; omega) rfl (fun ls' hl' => kk H locs ls' h1 h2 h3 (h4.st hfa hl'))
      · cases h
    · cases h
  case astore i =>
    dsimp only [mz_step] at h
    simp only [Bool.and_eq_true, decide_eq_true_eq] at hok
    obtain ⟨rfl, hi⟩ := hok
    split at h
    · next x r =>
      split at h
      · next hfit =>
        cases h
        obtain ⟨hfa, hfl⟩ := mz_fit_iff.mp hfit
        subst hi
        exact lv_astore hx hb hd h4.lv (by have := h4.2.2.1; omega) rfl (fun ls' hl' => kk H locs ls' h1 h2 h3 (h4.st hfa hl'))
      · cases h
    · cases h
  case istore_n i =>
    dsimp only [mz_step] at h
    simp only [Bool.and_eq_true, decide_eq_true_eq] at hok
    obtain ⟨rfl, hi⟩ := hok
    split at h
    · next x r =>
      split at h
      · next hfit =>
        cases h
        obtain ⟨hfa, hfl⟩ := mz_fit_iff.mp hfit
        skip
        exact lv_istore_n hx hb hd hi h4.lv (by have := h4.2.2.1; omega) rfl (fun ls' hl' => kk H locs ls' h1 h2 h3 (h4.st hfa hl'))
      · cases h
    · cases h
  case astore_n i =>
    dsimp only [mz_step] at h
    simp only [Bool.and_eq_true, decide_eq_true_eq] at hok
    obtain ⟨rfl, hi⟩ := hok
    split at h
    · next x r =>
      split at h
      · next hfit =>
        cases h
        obtain ⟨hfa, hfl⟩ := mz_fit_iff.mp hfit
        skip
        exact lv_astore_n hx hb hd hi h4.lv (by have := h4.2.2.1; omega) rfl (fun ls' hl' => kk H locs ls' h1 h2 h3 (h4.st hfa hl'))
      · cases h
    · cases h
  case iinc i n =>
    dsimp only [mz_step] at h
    simp only [Bool.and_eq_true, decide_eq_true_eq] at hok
    obtain ⟨⟨rfl, hi⟩, hv⟩ := hok
    split at h
    · next x e0 =>
      split at h
      · next hfit =>
        cases h
        obtain ⟨hfa, hfl⟩ := mz_fit_iff.mp hfit
        subst hi
        obtain ⟨k0, hk0⟩ := List.getElem?_of_mem (mz_as_mem (ad := ad) (q := (i, .int x)) |>.mpr ⟨.int x, mz_int_some e0, rfl⟩)
        exact lv_iinc hx hb hd h4.lv hk0 (by rw [hv]) (by have := h4.2.2.1; omega) rfl (fun ls' hl' => kk H locs ls' h1 h2 h3 (h4.st hfa hl'))
      · cases h
    · cases h
  case iadd =>
    simp only [decide_eq_true_eq] at hok
    subst hok
    obtain ⟨x, y, r, rfl, rfl, -⟩ := mz_bin_some h
    exact lv_iadd hx hb hd (go rfl rfl rfl)
  case isub =>
    simp only [decide_eq_true_eq] at hok
    subst hok
    obtain ⟨x, y, r, rfl, rfl, -⟩ := mz_bin_some h
    exact lv_isub hx hb hd (go rfl rfl rfl)
  case imul =>
    simp only [decide_eq_true_eq] at hok
    subst hok
    obtain ⟨x, y, r, rfl, rfl, -⟩ := mz_bin_some h
    exact lv_imul hx hb hd (go rfl rfl rfl)
  case iand =>
    simp only [decide_eq_true_eq] at hok
    subst hok
    obtain ⟨x, y, r, rfl, rfl, -⟩ := mz_bin_some h
    exact lv_iand hx hb hd (go rfl rfl rfl)
  case ior =>
    simp only [decide_eq_true_eq] at hok
    subst hok
    obtain ⟨x, y, r, rfl, rfl, -⟩ := mz_bin_some h
    exact lv_ior hx hb hd (go rfl rfl rfl)
  case ixor =>
    simp only [decide_eq_true_eq] at hok
    subst hok
    obtain ⟨x, y, r, rfl, rfl, -⟩ := mz_bin_some h
    exact lv_ixor hx hb hd (go rfl rfl rfl)
  case ishl =>
    simp only [decide_eq_true_eq] at hok
    subst hok
    obtain ⟨x, y, r, rfl, rfl, -⟩ := mz_bin_some h
    exact lv_ishl hx hb hd (go rfl rfl rfl)
  case ishr =>
    simp only [decide_eq_true_eq] at hok
    subst hok
    obtain ⟨x, y, r, rfl, rfl, -⟩ := mz_bin_some h
    exact lv_ishr hx hb hd (go rfl rfl rfl)
  case iushr =>
    simp only [decide_eq_true_eq] at hok
    subst hok
    obtain ⟨x, y, r, rfl, rfl, -⟩ := mz_bin_some h
    exact lv_iushr hx hb hd rfl (go rfl rfl rfl)
  case idiv =>
    simp only [decide_eq_true_eq] at hok
    subst hok
    obtain ⟨x, y, r, rfl, rfl, rfl⟩ := mz_bin_some h
    exact lv_idiv hx hb hd (hP _ List.mem_cons_self) (go rfl rfl rfl)
  case irem =>
    simp only [decide_eq_true_eq] at hok
    subst hok
    obtain ⟨x, y, r, rfl, rfl, rfl⟩ := mz_bin_some h
    exact lv_irem hx hb hd (hP _ List.mem_cons_self) (go rfl rfl rfl)
  case ladd =>
    simp only [decide_eq_true_eq] at hok
    subst hok
    dsimp only [mz_step] at h
    split at h
    · cases h
      exact lv_ladd hx hb hd (go rfl rfl rfl)
    · cases h
  case lcmp =>
    simp only [decide_eq_true_eq] at hok
    subst hok
    dsimp only [mz_step] at h
    split at h
    · cases h
      exact W.lcmp hx hb hd (go rfl rfl rfl)
    · cases h
  case i2l =>
    simp only [decide_eq_true_eq] at hok
    subst hok
    dsimp only [mz_step] at h
    split at h
    · cases h
      exact lv_i2l hx hb hd rfl (go rfl rfl rfl)
    · cases h
  case l2i =>
    simp only [decide_eq_true_eq] at hok
    subst hok
    dsimp only [mz_step] at h
    split at h
    · cases h
      exact lv_l2i hx hb hd rfl (go rfl rfl rfl)
    · cases h
  case i2b =>
    simp only [decide_eq_true_eq] at hok
    subst hok
    dsimp only [mz_step] at h
    split at h
    · cases h
      exact lv_i2b hx hb hd rfl (go rfl rfl rfl)
    · cases h
  case pop =>
    simp only [decide_eq_true_eq] at hok
    subst hok
    dsimp only [mz_step] at h
    split at h
    · cases h
      exact lv_pop hx hb hd rfl (go rfl rfl rfl)
    · cases h
  case dup =>
    simp only [decide_eq_true_eq] at hok
    subst hok
    dsimp only [mz_step] at h
    split at h
    · cases h
      exact lv_dup hx hb hd rfl (go rfl rfl rfl)
    · cases h
      exact lv_dup hx hb hd rfl (go rfl rfl rfl)
    · cases h
  case dup_x1 =>
    simp only [decide_eq_true_eq] at hok
    subst hok
    dsimp only [mz_step] at h
    split at h
    · cases h
      exact lv_dup_x1 hx hb hd rfl rfl (go rfl rfl rfl)
    · cases h
  case dup2 =>
    simp only [decide_eq_true_eq] at hok
    subst hok
    dsimp only [mz_step] at h
    split at h
    · cases h
      exact lv_dup2_11 hx hb hd rfl rfl (go rfl rfl rfl)
    · cases h
  case goto o =>
    dsimp only [mz_step] at h
    simp only [Bool.and_eq_true, decide_eq_true_eq] at hok
    obtain ⟨rfl, ht⟩ := hok
    cases h
    exact lv_goto hx hb hd ht (go rfl rfl rfl)
  case ifCond cn o =>
    simp only [Bool.and_eq_true, decide_eq_true_eq] at hok
    obtain ⟨rfl, ht⟩ := hok
    cases cn
    case eq =>
      obtain ⟨x, r, rfl, rfl⟩ := mz_if_some h
      have g := kk H locs lsR h1 h2 h3 h4
      dsimp only at g
      exact lv_if_eq hx hb hd ht (fun hc => by rw [if_pos hc] at g; exact g) (fun hc => by rw [if_neg hc] at g; exact g)
    case ne =>
      obtain ⟨x, r, rfl, rfl⟩ := mz_if_some h
      have g := kk H locs lsR h1 h2 h3 h4
      dsimp only at g
      exact lv_if_ne hx hb hd ht (fun hc => by rw [if_pos hc] at g; exact g) (fun hc => by rw [if_neg (fun q => q hc)] at g; exact g)
    case lt =>
      obtain ⟨x, r, rfl, rfl⟩ := mz_if_some h
      have g := kk H locs lsR h1 h2 h3 h4
      dsimp only at g
      exact lv_if_lt hx hb hd ht (fun hc => by rw [if_pos hc] at g; exact g) (fun hc => by rw [if_neg hc] at g; exact g)
    case ge =>
      obtain ⟨x, r, rfl, rfl⟩ := mz_if_some h
      have g := kk H locs lsR h1 h2 h3 h4
      dsimp only at g
      exact lv_if_ge hx hb hd ht (fun hc => by rw [if_pos hc] at g; exact g) (fun hc => by rw [if_neg hc] at g; exact g)
    case gt =>
      obtain ⟨x, r, rfl, rfl⟩ := mz_if_some h
      have g := kk H locs lsR h1 h2 h3 h4
      dsimp only at g
      exact lv_if_gt hx hb hd ht (fun hc => by rw [if_pos hc] at g; exact g) (fun hc => by rw [if_neg hc] at g; exact g)
    case le =>
      obtain ⟨x, r, rfl, rfl⟩ := mz_if_some h
      have g := kk H locs lsR h1 h2 h3 h4
      dsimp only at g
      exact lv_if_le hx hb hd ht (fun hc => by rw [if_pos hc] at g; exact g) (fun hc => by rw [if_neg hc] at g; exact g)
  case if_icmp cn o =>
    simp only [Bool.and_eq_true, decide_eq_true_eq] at hok
    obtain ⟨rfl, ht⟩ := hok
    cases cn
    case eq =>
      obtain ⟨x, y, r, rfl, rfl⟩ := mz_ic_some h
      have g := kk H locs lsR h1 h2 h3 h4
      dsimp only at g
      exact lv_icmp_eq hx hb hd ht (fun hc => by rw [if_pos hc] at g; exact g) (fun hc => by rw [if_neg hc] at g; exact g)
    case ne =>
      obtain ⟨x, y, r, rfl, rfl⟩ := mz_ic_some h
      have g := kk H locs lsR h1 h2 h3 h4
      dsimp only at g
      exact lv_icmp_ne hx hb hd ht (fun hc => by rw [if_pos hc] at g; exact g) (fun hc => by rw [if_neg (fun q => q hc)] at g; exact g)
    case lt =>
      obtain ⟨x, y, r, rfl, rfl⟩ := mz_ic_some h
      have g := kk H locs lsR h1 h2 h3 h4
      dsimp only at g
      exact lv_icmp_lt hx hb hd ht (fun hc => by rw [if_pos hc] at g; exact g) (fun hc => by rw [if_neg hc] at g; exact g)
    case ge =>
      obtain ⟨x, y, r, rfl, rfl⟩ := mz_ic_some h
      have g := kk H locs lsR h1 h2 h3 h4
      dsimp only at g
      exact lv_icmp_ge hx hb hd ht (fun hc => by rw [if_pos hc] at g; exact g) (fun hc => by rw [if_neg hc] at g; exact g)
    case gt =>
      obtain ⟨x, y, r, rfl, rfl⟩ := mz_ic_some h
      have g := kk H locs lsR h1 h2 h3 h4
      dsimp only at g
      exact lv_icmp_gt hx hb hd ht (fun hc => by rw [if_pos hc] at g; exact g) (fun hc => by rw [if_neg hc] at g; exact g)
    case le =>
      obtain ⟨x, y, r, rfl, rfl⟩ := mz_ic_some h
      have g := kk H locs lsR h1 h2 h3 h4
      dsimp only at g
      exact lv_icmp_le hx hb hd ht (fun hc => by rw [if_pos hc] at g; exact g) (fun hc => by rw [if_neg hc] at g; exact g)
  case tableswitch d lo hi offs =>
    dsimp only [mz_step] at h
    simp only [Bool.and_eq_true, decide_eq_true_eq] at hok
    obtain ⟨⟨ht, hsz⟩, hall⟩ := hok
    split at h
    · next x r =>
      cases h
      have g := kk H locs lsR h1 h2 h3 h4
      dsimp only at g
      by_cases hc : x.toInt < lo ∨ hi < x.toInt
      · rw [if_pos hc] at g
        exact lv_tableOut hx hb hd hc ht g
      · rw [if_neg hc] at g
        have hlt : (x.toInt - lo).toNat < offs.size := by omega
        have hg : offs[(x.toInt - lo).toNat]? = some (offs.getD (x.toInt - lo).toNat 0) := by
          simp [Array.getD, hlt]
        have h0 : (0 : Int) ≤ (pc : Int) + offs.getD (x.toInt - lo).toNat 0 := by
          have h9 := Array.all_eq_true.mp hall (x.toInt - lo).toNat hlt
          simpa [Array.getD, hlt] using h9
        exact lv_tableIn hx hb hd (fun q => hc (Or.inl q)) (fun q => hc (Or.inr q)) hg (by omega) g
    · cases h
  case iaload =>
    simp only [decide_eq_true_eq] at hok
    subst hok
    dsimp only [mz_step] at h
    split at h
    · next i r q =>
      split at h
      · next n rs e0 =>
        cases h
        have hw : (mz_wl cA ad M 0 SK)[r]? = some (ad r, .inl (cA 0, n, .inl (M.1 r))) := mz_w_at e0
        exact va_iald hx hb hK h1 r 0 hw hty.1 (hP _ List.mem_cons_self) hd (go rfl rfl rfl)
      · cases h
    · cases h
  case baload =>
    simp only [decide_eq_true_eq] at hok
    subst hok
    dsimp only [mz_step] at h
    split at h
    · next i r q =>
      split at h
      · next n rs e0 =>
        cases h
        have hw : (mz_wl cA ad M 0 SK)[r]? = some (ad r, .inl (cA 1, n, .inl (M.1 r))) := mz_w_at e0
        exact va_bald hx hb hK h1 r 1 hw hty.2.1 (hP _ List.mem_cons_self) hd (go rfl rfl rfl)
      · cases h
    · cases h
  case laload =>
    simp only [decide_eq_true_eq] at hok
    subst hok
    dsimp only [mz_step] at h
    split at h
    · next i r q =>
      split at h
      · next n rs e0 =>
        cases h
        have hw : (mz_wl cA ad M 0 SK)[r]? = some (ad r, .inl (cA 2, n, .inr (.inl (M.2 r)))) := mz_w_at e0
        exact va_lald hx hb hK h1 r 2 hw hty.2.2.1 (hP _ List.mem_cons_self) hd (go rfl rfl rfl)
      · cases h
    · cases h
  case aaload =>
    simp only [decide_eq_true_eq] at hok
    subst hok
    dsimp only [mz_step] at h
    split at h
    · next i r q =>
      split at h
      · next t n rs e0 =>
        cases h
        have hin : vp_in i n := hP _ List.mem_cons_self
        have hlen : rs.length = n := hP _ (List.mem_cons_of_mem _ List.mem_cons_self)
        have hw : (mz_wl cA ad M 0 SK)[r]? = some (ad r, .inl (cA (t + 3), n, .inr (.inr (.inr (.inr (fun j => if j < rs.length then some (ad (rs.getD j 0)) else none)))))) := mz_w_at e0
        obtain ⟨ty, hr, ht⟩ := hty.2.2.2 r t n rs e0
        refine mz_aald hx hb hK h1 hr hw ht hin hd ?_
        have hlt : i.toNatClampNeg < rs.length := by rw [hlen]; exact Nat.not_le.mp fun q => hin (Or.inr q)
        rw [if_pos hlt]
        exact go rfl rfl rfl
      · cases h
    · cases h
  case iastore =>
    simp only [decide_eq_true_eq] at hok
    subst hok
    dsimp only [mz_step] at h
    split at h
    · next x i r q =>
      split at h
      · next n rs e0 =>
        cases h
        have hw : (mz_wl cA ad M 0 SK)[r]? = some (ad r, .inl (cA 0, n, .inl (M.1 r))) := mz_w_at e0
        refine va_iast hx hb hK h1 h2 h3 r 0 hw hty.1 (hP _ List.mem_cons_self) hd (fun H1 locs1 g1 g2 g3 => ?_)
        rw [mz_rowI (Or.inl rfl) e0] at g1 g2
        exact kk H1 locs1 lsR g1 g2 g3 h4
      · cases h
    · cases h
  case bastore =>
    simp only [decide_eq_true_eq] at hok
    subst hok
    dsimp only [mz_step] at h
    split at h
    · next x i r q =>
      split at h
      · next n rs e0 =>
        cases h
        have hw : (mz_wl cA ad M 0 SK)[r]? = some (ad r, .inl (cA 1, n, .inl (M.1 r))) := mz_w_at e0
        refine va_bast hx hb hK h1 h2 h3 r 1 hw hty.2.1 (hP _ List.mem_cons_self) hd (fun H1 locs1 g1 g2 g3 => ?_)
        rw [mz_rowI (Or.inr rfl) e0] at g1 g2
        exact kk H1 locs1 lsR g1 g2 g3 h4
      · cases h
    · cases h
  case lastore =>
    simp only [decide_eq_true_eq] at hok
    subst hok
    dsimp only [mz_step] at h
    split at h
    · next x i r q =>
      split at h
      · next n rs e0 =>
        cases h
        have hw : (mz_wl cA ad M 0 SK)[r]? = some (ad r, .inl (cA 2, n, .inr (.inl (M.2 r)))) := mz_w_at e0
        refine va_last hx hb hK h1 h2 h3 r 2 hw hty.2.2.1 (hP _ List.mem_cons_self) hd (fun H1 locs1 g1 g2 g3 => ?_)
        rw [mz_rowL e0] at g1 g2
        exact kk H1 locs1 lsR g1 g2 g3 h4
      · cases h
    · cases h
  case arraylength =>
    simp only [decide_eq_true_eq] at hok
    subst hok
    dsimp only [mz_step] at h
    split at h
    · next r q =>
      split at h
      · next t n rs e0 =>
        cases h
        have hw : (mz_wl cA ad M 0 SK)[r]? = some (ad r, .inl (cA t, n, mz_con ad M r t rs)) := mz_w_at e0
        match t, hw, e0 with
        | 0, hw, _ => exact va_alen hx hb hK h1 r 0 hw hty.1 rfl hd (go rfl rfl rfl)
        | 1, hw, _ => exact va_alen hx hb hK h1 r 1 hw hty.2.1 rfl hd (go rfl rfl rfl)
        | 2, hw, _ => exact va_alen hx hb hK h1 r 2 hw hty.2.2.1 rfl hd (go rfl rfl rfl)
        | t + 3, hw, e0 =>
          obtain ⟨ty, -, ht⟩ := hty.2.2.2 r t n rs e0
          exact va_alen hx hb hK h1 r (t + 3) hw ht rfl hd (go rfl rfl rfl)
      · cases h
    · cases h
  case getfield i =>
    dsimp only [mz_step] at h
    rw [Bool.and_eq_true] at hok
    obtain ⟨hlen, hok⟩ := hok
    simp only [decide_eq_true_eq] at hlen
    subst hlen
    split at h
    · next r q =>
      split at h
      · next ci fs e0 =>
        split at hok
        · next q9 e9 =>
          simp only [Bool.and_eq_true, decide_eq_true_eq] at hok
          obtain ⟨hlt, hj⟩ := hok
          have hw : (mz_wl cA ad M 0 SK)[r]? = some (ad r, .inr (ci, mz_fs ad M r 0 fs)) := mz_w_at e0
          split at h
          · next ek =>
            split at h
            · next hbe =>
              cases h
              have hv : (mz_fs ad M r 0 fs)[a % 64]? = some (.int (M.1 r (a % 64))) := by rw [mz_fs_get, ek]; simp
              have hci := Nat.eq_of_beq_eq_true hbe
              subst hci
              exact va_get (C := q9.1) (T := q9.2.1) (N := q9.2.2) hx hb hts (hcl _ _ e9).1 hown hK h1 r hw e9 (a % 64) hlt (hts _ (mz_okj_in hLK hj)) (fun _ h9 => h9) hv hd (go rfl rfl rfl)
            · cases h
          · next z ek =>
            split at h
            · next hbe =>
              cases h
              have hv : (mz_fs ad M r 0 fs)[a % 64]? = some (.ref (ad z)) := by rw [mz_fs_get, ek]; simp
              have hci := Nat.eq_of_beq_eq_true hbe
              subst hci
              exact va_get (C := q9.1) (T := q9.2.1) (N := q9.2.2) hx hb hts (hcl _ _ e9).1 hown hK h1 r hw e9 (a % 64) hlt (hts _ (mz_okj_in hLK hj)) (fun _ h9 => h9) hv hd (go rfl rfl rfl)
            · cases h
          · cases h
        · cases hok
      · cases h
    · cases h
  case putfield i =>
    dsimp only [mz_step] at h
    rw [Bool.and_eq_true] at hok
    obtain ⟨hlen, hok⟩ := hok
    simp only [decide_eq_true_eq] at hlen
    subst hlen
    split at h
    · next x r q =>
      split at h
      · next ci fs e0 =>
        split at hok
        · next q9 e9 =>
          simp only [Bool.and_eq_true, decide_eq_true_eq] at hok
          obtain ⟨⟨⟨hlt, hj⟩, hfin⟩, htf⟩ := hok
          have hw : (mz_wl cA ad M 0 SK)[r]? = some (ad r, .inr (ci, mz_fs ad M r 0 fs)) := mz_w_at e0
          split at h
          · next ek =>
            split at h
            · next hbe =>
              cases h
              have hci := Nat.eq_of_beq_eq_true hbe
              subst hci
              obtain ⟨c1, c2, c3⟩ := hcl _ _ e9
              have hnf : narrow (tyf (a / 64) (a % 64)) (.int x) = .int x ∧ fits (tyf (a / 64) (a % 64)) (.int x) = true := by
                rw [htf]
                by_cases hv0 : v = 0
                · rw [if_pos hv0]; exact ⟨rfl, rfl⟩
                · rw [if_neg hv0]
                  have hbo : x = 0 ∨ x = 1 := by
                    split at hP
                    · next hz =>
                      exact absurd (Int32.toBitVec_inj.mp (BitVec.eq_of_toNat_eq hz)) hv0
                    · exact hP _ List.mem_cons_self
                  rcases hbo with q | q
                  · subst q; exact ⟨by decide +kernel, by decide +kernel⟩
                  · subst q; exact ⟨by decide +kernel, by decide +kernel⟩
              refine va_put (C := q9.1) (T := q9.2.1) (N := q9.2.2) hx hb hts c1 (tyf (a / 64)) c2 c3 hown hK h1 h2 h3 r hw e9 (a % 64) hlt (hts _ (mz_okj_in hLK hj)) (fun _ h9 => h9) hfin (c2 _ hlt) hnf.1 hnf.2 (by rw [mz_fs_len]; exact mz_nth_lt ek) hd (fun H1 locs1 g1 g2 g3 => ?_)
              rw [show mz_cv ad (Value.int x) = .int x from rfl, mz_rowF e0 ek] at g1 g2
              exact kk H1 locs1 lsR g1 g2 g3 h4
            · cases h
          · cases h
        · cases hok
      · cases h
    · cases h
  all_goals (dsimp only [mz_step] at h; cases h)
end MZ
end
section
/-! runs of the small machine -/
def mz_y (I : mz_I) : MethodName := I.1
def mz_cc (I : mz_I) : ByteArray := I.2.1
def mz_nL (I : mz_I) : Nat := I.2.2.1
def mz_rt (I : mz_I) : Option FieldType := I.2.2.2.1
def mz_sta (I : mz_I) : Bool := I.2.2.2.2.1
def mz_ci (I : mz_I) : Nat := I.2.2.2.2.2.1
def mz_np (I : mz_I) : Nat := I.2.2.2.2.2.2.1
def mz_fr (I : mz_I) : Nat := I.2.2.2.2.2.2.2.1
def mz_lo (I : mz_I) : Nat := I.2.2.2.2.2.2.2.2.1
def mz_rows (I : mz_I) : List mz_R := I.2.2.2.2.2.2.2.2.2
abbrev mz_O : Type := Option Value × mz_M
/-- what a row that calls or returns does; otherwise a step -/
def mz_do (SK : List mz_E) (tab : List mz_I) (run : mz_I → mz_C → mz_O → Prop) (I : mz_I) (r : mz_R) (k : mz_C) (res : mz_O) : Prop := match r.2.1 with
  | .ireturn => ∃ x : Int32, k.2.2.1 = [.int x] ∧ res = (some (.int x), k.2.2.2) ∧ (mz_rt I = some .int ∨ (mz_rt I = some .boolean ∧ (x = 0 ∨ x = 1)))
  | .lreturn => ∃ x : Int64, k.2.2.1 = [.long x] ∧ res = (some (.long x), k.2.2.2) ∧ mz_rt I = some .long
  | .return_ => k.2.2.1 = [] ∧ res = (none, k.2.2.2) ∧ mz_rt I = none
  | .invokevirtual _ => ∃ (J : mz_I) (As : List Value) (b : Nat) (rest : List Value) (fs : List (Option Nat)) (r1 : mz_O), mz_nth tab r.2.2.2.1 = some J ∧ k.2.2.1 = As.reverse ++ .ref b :: rest ∧ As.length = mz_np J ∧ mz_sta J = false ∧ mz_nth SK b = some (.inr (mz_ci J, fs)) ∧ (rest.map fun v => v.category).sum ≤ 8 ∧ (lg_sl (Value.ref b :: As)).length ≤ mz_nL J ∧ run J (0, mz_pad (mz_nL J) (mz_args (.ref b :: As)), [], k.2.2.2) r1 ∧ run I (k.1 + 3, k.2.1, r1.1.toList ++ rest, r1.2) res
  | .invokestatic _ => (∃ (J : mz_I) (As : List Value) (rest : List Value) (r1 : mz_O), mz_nth tab r.2.2.2.1 = some J ∧ ¬ r.2.2.2.1 = 1000 ∧ k.2.2.1 = As.reverse ++ rest ∧ As.length = mz_np J ∧ mz_sta J = true ∧ (rest.map fun v => v.category).sum ≤ 8 ∧ (lg_sl As).length ≤ mz_nL J ∧ run J (0, mz_pad (mz_nL J) (mz_args As), [], k.2.2.2) r1 ∧ run I (k.1 + 3, k.2.1, r1.1.toList ++ rest, r1.2) res) ∨
      ∃ (sp dp n : Int32) (b0 b n0 n1 : Nat) (rs0 rs1 : List Nat) (rest : List Value), r.2.2.2.1 = 1000 ∧ k.2.2.1 = .int n :: .int dp :: .ref b :: .int sp :: .ref b0 :: rest ∧ mz_nth SK b0 = some (.inl (0, n0, rs0)) ∧ mz_nth SK b = some (.inl (0, n1, rs1)) ∧ ¬ sp < 0 ∧ ¬ dp < 0 ∧ ¬ n < 0 ∧ sp.toNatClampNeg + n.toNatClampNeg ≤ n0 ∧ dp.toNatClampNeg + n.toNatClampNeg ≤ n1 ∧ (rest.map fun v => v.category).sum ≤ 8 ∧ run I (k.1 + 3, k.2.1, rest, mz_wr k.2.2.2 b (va_cpy (k.2.2.2.1 b0) (k.2.2.2.1 b) sp.toNatClampNeg dp.toNatClampNeg n.toNatClampNeg)) res
  | ins => ∃ (k2 : mz_C) (P : List Prop), mz_step SK ins r.2.2.1 r.2.2.2.1 r.2.2.2.2.1 k.1 k.2.1 k.2.2.1 k.2.2.2 = some (k2, P) ∧ (∀ x ∈ P, x) ∧ run I k2 res
def mz_run (SK : List mz_E) (tab : List mz_I) : Nat → mz_I → mz_C → mz_O → Prop
  | 0, _, _, _ => False
  | n + 1, I, k, res => ∃ r : mz_R, mz_find k.1 (mz_rows I) = some r ∧ mz_do SK tab (mz_run SK tab n) I r k res
theorem mz_do_mono {SK : List mz_E} {tab : List mz_I} {run run' : mz_I → mz_C → mz_O → Prop} (h : ∀ I k res, run I k res → run' I k res) {I : mz_I} {r : mz_R} {k : mz_C} {res : mz_O} (hd : mz_do SK tab run I r k res) : mz_do SK tab run' I r k res := by
  unfold mz_do at hd ⊢
  split at hd
  · exact hd
  · exact hd
  · exact hd
  · obtain ⟨J, As, b, rest, fs, r1, a1, a2, a3, a4, a5, a6, a7, a8, a9⟩ := hd
    exact ⟨J, As, b, rest, fs, r1, a1, a2, a3, a4, a5, a6, a7, h _ _ _ a8, h _ _ _ a9⟩
  · rcases hd with ⟨J, As, rest, r1, a1, a0, a2, a3, a4, a6, a7, a8, a9⟩ | ⟨sp, dp, n, b0, b, n0, n1, rs0, rs1, rest, a1, a2, a3, a4, a5, a6, a7, a8, a9, b1, b2⟩
    · exact Or.inl ⟨J, As, rest, r1, a1, a0, a2, a3, a4, a6, a7, h _ _ _ a8, h _ _ _ a9⟩
    · exact Or.inr ⟨sp, dp, n, b0, b, n0, n1, rs0, rs1, rest, a1, a2, a3, a4, a5, a6, a7, a8, a9, b1, h _ _ _ b2⟩
  · obtain ⟨k2, P, a1, a2, a3⟩ := hd
    exact ⟨k2, P, a1, a2, h _ _ _ a3⟩
theorem mz_run_succ {SK : List mz_E} {tab : List mz_I} : ∀ {n : Nat} {I : mz_I} {k : mz_C} {res : mz_O}, mz_run SK tab n I k res → mz_run SK tab (n + 1) I k res
  | 0, I, k, res, h => h.elim
  | n + 1, I, k, res, h => by
    obtain ⟨r, h1, h2⟩ := h
    exact ⟨r, h1, mz_do_mono (fun I k res h => mz_run_succ h) h2⟩
theorem mz_run_le {SK : List mz_E} {tab : List mz_I} {n n' : Nat} (hn : n ≤ n') {I : mz_I} {k : mz_C} {res : mz_O} (h : mz_run SK tab n I k res) : mz_run SK tab n' I k res := by
  induction hn with
  | refl => exact h
  | step _ ih => exact mz_run_succ ih
/-! a table's methods: what is checked of each, once, by program -/
def mz_okc (LK : List Cond) (tab : List mz_I) (I : mz_I) (r : mz_R) : Bool := match r with
  | (_, ins, _, a, _, j) => match ins with
    | .invokevirtual i => (match mz_nth tab a with
      | some J => mz_okj LK j (.methodLink (mz_y I).cls i (mz_y J)) && decide (mz_fr J + 1 ≤ mz_fr I) && decide (8 + (mz_nL J + 11) + mz_lo J ≤ mz_lo I)
      | none => false)
    | .invokestatic i => if a = 1000 then mz_okj LK j (.methodLink (mz_y I).cls i arraycopyName) && decide (1 ≤ mz_fr I) && decide (8 + (nativeFrameWords "java/lang/System" "arraycopy" 5 + 11) ≤ mz_lo I) else (match mz_nth tab a with
      | some J => mz_okj LK j (.methodLink (mz_y I).cls i (mz_y J)) && decide (mz_fr J + 1 ≤ mz_fr I) && decide (8 + (mz_nL J + 11) + mz_lo J ≤ mz_lo I)
      | none => false)
    | _ => true
/-- a method's own words: its code, its class, how it is chosen -/
def mz_okm (Ts : List Cond) (cl : List vw_C) (I : mz_I) : Prop := plainName (mz_y I).cls = true ∧ Cond.code (mz_y I) (mz_cc I) (mz_nL I) (mz_rt I) ∈ Ts ∧ Cond.initialized (mz_y I).cls ∈ Ts ∧ ((mz_y I).cls ≠ "java/lang/invoke/MethodHandle" ∧ (mz_y I).cls ≠ "java/lang/invoke/VarHandle" ∧ (parseMethodDescriptor (mz_y I).desc).map (fun d => d.parameters.length) = some (mz_np I)) ∧ (mz_sta I = true → Cond.static (mz_y I) ∈ Ts) ∧ (mz_sta I = false → Cond.instanceMethod (mz_y I) ∈ Ts ∧ Cond.selects (mz_y I).cls (mz_y I) (mz_y I) ∈ Ts ∧ ∃ q : vw_C, cl[mz_ci I]? = some q ∧ q.1 = (mz_y I).cls)
def mz_ok (LK Ts : List Cond) (cl : List vw_C) (tyf : Nat → Nat → FieldType) (tab : List mz_I) : Prop := ∀ (a : Nat) (I : mz_I), mz_nth tab a = some I → mz_okm Ts cl I ∧ ∀ r ∈ mz_rows I, mz_okb LK cl tyf (mz_y I).cls (mz_cc I) r = true ∧ mz_okc LK tab I r = true
theorem mz_find_mem {pc : Nat} : ∀ {l : List mz_R} {r : mz_R}, mz_find pc l = some r → r ∈ l ∧ r.1 = pc
  | [], r, h => by simp [mz_find] at h
  | a :: l, r, h => by
    unfold mz_find at h
    split at h
    · next e => cases h; exact ⟨List.mem_cons_self, Nat.eq_of_beq_eq_true e⟩
    · obtain ⟨h1, h2⟩ := mz_find_mem (l := l) h
      exact ⟨List.mem_cons_of_mem _ h1, h2⟩
/-! a method's contract -/
def mz_ws (Ts : List Cond) (I : mz_I) : List Cond := Cond.code (mz_y I) (mz_cc I) (mz_nL I) (mz_rt I) :: Ts
def mz_rm (I : mz_I) : Room := { frames := mz_fr I, cells := 0, slots := 0, locals := mz_lo I }
def mz_Pc (SK : List mz_E) (cA ad : Nat → Nat) (D : va_G) (cl : List vw_C) (tys : List (ClassId × FieldType)) (As : List Value) (M : mz_M) (sz : Nat) : Array Value → State → Prop :=
  va_Pc (As.map (mz_cv ad)) (fun U => U.heap.size = sz ∧ va_P D cl (mz_wl cA ad M 0 SK) U.heap ∧ va_K D cl tys U ∧ va_D (fun _ => True) (mz_wl cA ad M 0 SK))
def mz_Q (SK : List mz_E) (cA ad : Nat → Nat) (D : va_G) (cl : List vw_C) (tys : List (ClassId × FieldType)) (res : mz_O) (A : Nat → Prop) : Array Value → State → Outcome → State → Prop :=
  fun _ st oc t => (oc = .returned (res.1.map (mz_cv ad)) ∧ va_P D cl (mz_wl cA ad res.2 0 SK) t.heap ∧ va_K D cl tys t ∧ va_D A (mz_wl cA ad res.2 0 SK)) ∧ va_F A st t
theorem mz_blind {SK : List mz_E} {cA ad : Nat → Nat} {D : va_G} {cl : List vw_C} {tys : List (ClassId × FieldType)} {As : List Value} {M : mz_M} {sz : Nat} : FrameBlind (mz_Pc SK cA ad D cl tys As M sz) :=
  fun a U g mk q => by
    obtain ⟨q0, q1, qP, qK, qD⟩ := q
    exact ⟨q0, q1, qP, va_K.moved (u := U) (U := U.calling g mk a) (Vm.Alike.refl U.vm) qK, qD⟩
section MZC
variable {p : Program} {l : Launch} {e : Env} {R : Room} {s : State} {m : MethodId} {args : Array Value} {below : List Frame} {meth : Method} {c : Code} {Q : State → Prop}
variable {cc : ByteArray} {nL : Nat} {D : va_G} {cl : List vw_C} {tys : List (ClassId × FieldType)} {A0 A1 : Nat → Prop} {Ts LK : List Cond} {own : String} {cA ad : Nat → Nat} {SK : List mz_E} {tyf : Nat → Nat → FieldType} {tab : List mz_I}
/-- behind a call -/
theorem mz_back {H H0 : Heap} {locs : List Loc} {pc : Nat} {ls : Array Slot} {st0 rest : List Value} {res : mz_O} {a : Array Value} {free : Nat → Prop} (hr : va_Run p l e R s m args below meth c H locs 0 0 0 0 (F0 m pc ls st0) rest (mz_Q SK cA ad D cl tys res A1 a) free) (hS : va_S A0 H0 H locs) (hA : ∀ q, q < H.size → A1 q → A0 q) (hA2 : ∀ q, A1 q → A0 q) (hf : ∀ q, free q → A0 q)
    (kk : ∀ (H1 : Heap) (locs1 : List Loc), va_P D cl (mz_wl cA ad res.2 0 SK) H1 → va_D A0 (mz_wl cA ad res.2 0 SK) → va_S A0 H0 H1 locs1 → W p l e R s m args below meth c H1 locs1 0 0 Q (F0 m (pc + 3) ls ((res.1.map (mz_cv ad)).toList ++ rest))) : W p l e R s m args below meth c H locs 0 0 Q (F0 m pc ls st0) := by
  intro T hT X
  obtain ⟨v, st₀, t, T', L, h0, X', hL, e1, e2, ⟨⟨hv, qP, qK, qD⟩, hz, hk⟩, st⟩ := hr T hT X
  cases hv
  rw [h0] at hz hk
  obtain ⟨t2, a1, b1⟩ := kk T'.heap (locs ++ L) (by rw [e1]; exact qP) (qD.weaken (fun _ _ _ h => hA2 _ h))
    ⟨Nat.le_trans hS.1 (by rw [e1]; exact hz), fun q h1 h2 => by rw [e1, hk q (Nat.lt_of_lt_of_le h1 hS.1) (fun z => h2 (hA q (Nat.lt_of_lt_of_le h1 hS.1) z))]; exact hS.2.1 q h1 h2, fun q hq => by
      rcases List.mem_append.mp hq with h | h
      · exact hS.2.2 q h
      · exact hf _ (hL q h)⟩ T' rfl X'
  exact ⟨t2, st t2 a1, b1⟩
/-- what a method's runs say of the machine -/
def mz_Sim (l : Launch) (D : va_G) (cl : List vw_C) (tys : List (ClassId × FieldType)) (Ts : List Cond) (cA ad : Nat → Nat) (SK : List mz_E) (n : Nat) (tab : List mz_I) : Prop :=
  ∀ (a : Nat) (I : mz_I) (As : List Value) (M : mz_M) (res : mz_O) (sz : Nat), mz_nth tab a = some I → mz_run SK tab n I (0, mz_pad (mz_nL I) (mz_args As), [], M) res → (lg_sl As).length ≤ mz_nL I →
    Met l (mz_y I) (mz_ws Ts I) (mz_rm I) (mz_Pc SK cA ad D cl tys As M sz) (mz_Q SK cA ad D cl tys res (va_A (mz_wl cA ad M 0 SK) sz)) 0 0 (va_A (mz_wl cA ad M 0 SK) sz)
theorem mz_lgsl (ad : Nat → Nat) : ∀ (As : List Value), (lg_sl (As.map (mz_cv ad))).length = (lg_sl As).length
  | [] => rfl
  | v :: vs => by
    have h := mz_lgsl ad vs
    simp only [lg_sl, List.map_cons, List.flatMap_cons, List.length_append, mz_cv_cat] at h ⊢
    rw [h]
    split <;> rfl
theorem mz_goodIn {Ts : List Cond} (hg : ∀ w ∈ Ts, goodWord w = true) {I J : mz_I} {ws : List Cond} (hJ : Cond.code (mz_y J) (mz_cc J) (mz_nL J) (mz_rt J) ∈ Ts) : GoodIn (mz_ws Ts I) (mz_ws Ts J) := by
  intro w hw
  rcases List.mem_cons.mp hw with rfl | hw
  · exact ⟨List.mem_cons_of_mem _ hJ, good_of_word (hg _ hJ)⟩
  · exact ⟨List.mem_cons_of_mem _ hw, good_of_word (hg _ hw)⟩
set_option maxHeartbeats 4000000 in
theorem mz_sim (hok : mz_ok LK Ts cl tyf tab) (hg : ∀ w ∈ Ts, goodWord w = true) (hLK : ∀ w ∈ LK, w ∈ Ts) (hty : mz_tys cA tys SK) (hcl : mz_cls cl tyf Ts) (hcpy : Cond.native arraycopyName ∈ Ts ∧ Cond.static arraycopyName ∈ Ts ∧ Cond.initialized "java/lang/System" ∈ Ts) : ∀ n, mz_Sim l D cl tys Ts cA ad SK n tab := by
  have body : ∀ (n : Nat), (∀ k, k < n → mz_Sim l D cl tys Ts cA ad SK k tab) → ∀ (j : Nat), j ≤ n → ∀ (p : Program) (e : Env) (s : State) (m : MethodId) (args : Array Value) (below : List Frame) (meth : Method) (c : Code) (a : Nat) (I : mz_I) (k : mz_C) (res : mz_O) (A : Nat → Prop), mz_nth tab a = some I → p.tables.exec = Jvm.exec → c.code = mz_cc I → c.maxLocals = mz_nL I → meth.sig.returnType = mz_rt I → meth.locks = false → s.vm.findClass (mz_y I).cls = some m.cls → (∀ w ∈ mz_ws Ts I, w.before args s = true) → va_K D cl tys s → (∀ q, s.heap.size ≤ q → A q) → mz_run SK tab j I k res →
      mz_W p l e (mz_rm I) s m args below meth c (MQ below (mz_Q SK cA ad D cl tys res A) args s 0 0 A) (mz_nL I) D cl A cA ad SK k := by
    intro n ihn j
    induction j with
    | zero => intro _ p e s m args below meth c a I k res A _ _ _ _ _ _ _ _ _ _ h; exact h.elim
    | succ j ihj =>
      intro hj p e s m args below meth c a I k res A hI hx hb hml hr hlocks hown hts hK hA hrun
      have ih := fun k2 res2 h => ihj (by omega) p e s m args below meth c a I k2 res2 A hI hx hb hml hr hlocks hown hts hK hA h
      obtain ⟨⟨pc', ins, len, a9, v9, j9⟩, hf, hdo⟩ := hrun
      obtain ⟨hmem, hpc⟩ := mz_find_mem hf
      obtain ⟨hokm, hokr⟩ := hok a I hI
      obtain ⟨hob, hoc⟩ := hokr _ hmem
      dsimp only at hpc
      obtain ⟨pc, ls, st, M⟩ := k
      dsimp only at hpc
      subst hpc
      have hts2 : ∀ w ∈ Ts, w.before args s = true := fun w hw => hts w (List.mem_cons_of_mem _ hw)
      have hdc : decode (mz_cc I) pc' = .ok (ins, len) := by
        have h9 := hob
        unfold mz_okb at h9
        dsimp only at h9
        rw [Bool.and_eq_true] at h9
        exact mz_decode h9.1
      unfold mz_do at hdo
      dsimp only at hdo
      have hlen1 : ∀ x : Nat, mz_okb LK cl tyf (mz_y I).cls (mz_cc I) (pc', ins, len, a9, v9, j9) = true → (len = (match ins with
        | .invokevirtual _ => 3
        | .invokestatic _ => 3
        | .ireturn => 1
        | .lreturn => 1
        | .return_ => 1
        | _ => len)) := by
        intro _ h9
        unfold mz_okb at h9
        dsimp only at h9
        rw [Bool.and_eq_true] at h9
        cases ins <;> first | rfl | exact of_decide_eq_true h9.2
      have hln := hlen1 0 hob
      split at hdo
      · -- ireturn
        obtain ⟨x, e1, e2, e3⟩ := hdo
        dsimp only at hln
        subst hln
        subst e1
        subst e2
        intro H locs lsR h1 h2 h3 h4
        dsimp only at h1 h2 h3 h4
        rcases e3 with e3 | ⟨e3, e4⟩
        · exact W.iret (v := x) hx hb (hr.trans e3) (fun t ht hW => ⟨⟨rfl, by rw [ht]; exact h1, va_K.moved hW.alike hK, h2⟩, h3.F ht⟩) h3.2.2 hdc hlocks
        · have hn : narrow .boolean (.int x) = .int x := by rcases e4 with rfl | rfl <;> decide +kernel
          exact W.zret (v := x) (ty := .boolean) hx hb (hr.trans e3) hn (fun t ht hW => ⟨⟨rfl, by rw [ht]; exact h1, va_K.moved hW.alike hK, h2⟩, h3.F ht⟩) h3.2.2 hdc hlocks
      · -- lreturn
        obtain ⟨x, e1, e2, e3⟩ := hdo
        dsimp only at hln
        subst hln
        subst e1
        subst e2
        intro H locs lsR h1 h2 h3 h4
        dsimp only at h1 h2 h3 h4
        exact W.lret (v := x) hx hb (hr.trans e3) (fun t ht hW => ⟨⟨rfl, by rw [ht]; exact h1, va_K.moved hW.alike hK, h2⟩, h3.F ht⟩) h3.2.2 hdc hlocks
      · -- return
        obtain ⟨e1, e2, e3⟩ := hdo
        dsimp only at hln
        subst hln
        subst e1
        subst e2
        intro H locs lsR h1 h2 h3 h4
        dsimp only at h1 h2 h3 h4
        exact W.vret hx hb (hr.trans e3) (fun t ht hW => ⟨⟨rfl, by rw [ht]; exact h1, va_K.moved hW.alike hK, h2⟩, h3.F ht⟩) h3.2.2 hdc hlocks
      · -- invokevirtual
        next i9 =>
        obtain ⟨J, As, b, rest, fs, r1, a1, a2, a3, a4, a5, a6, a7, a8, b9⟩ := hdo
        dsimp only at hln
        subst hln
        subst a2
        intro H locs lsR h1 h2 h3 h4
        dsimp only at h1 h2 h3 h4
        unfold mz_okc at hoc
        dsimp only at hoc a1
        rw [a1] at hoc
        simp only [Bool.and_eq_true, decide_eq_true_eq] at hoc
        obtain ⟨⟨c1, c2⟩, c3⟩ := hoc
        obtain ⟨⟨m1, m2, m3, m4, -, m5⟩, -⟩ := hok _ J a1
        obtain ⟨m6, m7, q9, m8, m9⟩ := m5 a4
        have hM := ihn j (by omega) _ J (.ref b :: As) M r1 H.size a1 a8 a7
        have hw : (mz_wl cA ad M 0 SK)[b]? = some (ad b, .inr (mz_ci J, mz_fs ad M b 0 fs)) := mz_w_at a5
        have hCB := callB_of (R := mz_rm I) (rm := mz_rm J) (ws := mz_ws Ts J) (ws' := Ts) (mc := 0) (ms := 0) (own := (mz_y I).cls) (index := i9) (mz_np J) hts (mz_goodIn (ws := Ts) hg m2) rfl rfl rfl (hts2 _ m3) (hts2 _ (mz_okj_in hLK c1)) m4 ⟨c2, c3⟩
        have hrcv := va_recv hK h1 m8 hw
        rw [m9] at hrcv
        have hrn := va_runV (e := e) (below := below) (meth := meth) (C := (mz_y J).cls) (b := ad b) (As := As.map (mz_cv ad)) (rest := rest.map (mz_cv ad)) (g := F0 m pc' lsR ((As.reverse ++ .ref b :: rest).map (mz_cv ad))) (locs := locs) (cells := 0) (slots := 0) ⟨hx, hb, hml, hown, hts⟩ hM ⟨hCB, hts2 _ m6, hts2 _ m7⟩ ⟨mz_blind, hrcv, fun U hU hW => ⟨rfl, by rw [hU], by rw [hU]; exact h1, va_K.moved hW.alike hK, h2.weaken (fun _ _ _ _ => trivial)⟩⟩ rfl (by rw [List.length_map]; exact a3) h4.1 (by rw [List.map_append, List.map_reverse]; rfl) (lv_room (by rw [mz_sum]; exact a6)) hdc ⟨Nat.le_refl _, Nat.le_refl _⟩
        have hsub : ∀ q, va_A (mz_wl cA ad M 0 SK) H.size q → A q := by
          rintro q (⟨k0, e0, h⟩ | h)
          · exact h2.2 k0 _ h
          · exact hA q (Nat.le_trans h3.1 h)
        refine mz_back hrn h3 (fun q _ h => hsub q h) hsub hsub (fun H1 locs1 g1 g2 g3 => ?_)
        have := ih _ res b9 H1 locs1 lsR g1 g2 g3 h4
        dsimp only at this
        obtain ⟨_ | v1, M1⟩ := r1
        · exact this
        · exact this
      · -- invokestatic
        next i9 =>
        rcases hdo with ⟨J, As, rest, r1, a1, a0, a2, a3, a4, a6, a7, a8, b9⟩ | ⟨sp, dp, n9, b0, b, n0, n1, rs0, rs1, rest, a1, a2, a3, a4, a5, a6, a7, a8, a9', b1, b2⟩
        · dsimp only at hln
          subst hln
          subst a2
          intro H locs lsR h1 h2 h3 h4
          dsimp only at h1 h2 h3 h4
          unfold mz_okc at hoc
          dsimp only at hoc a1
          rw [if_neg a0, a1] at hoc
          simp only [Bool.and_eq_true, decide_eq_true_eq] at hoc
          obtain ⟨⟨c1, c2⟩, c3⟩ := hoc
          obtain ⟨⟨m1, m2, m3, m4, m5, -⟩, -⟩ := hok _ J a1
          have hM := ihn j (by omega) _ J As M r1 H.size a1 a8 a7
          have hCB := callB_of (R := mz_rm I) (rm := mz_rm J) (ws := mz_ws Ts J) (ws' := Ts) (mc := 0) (ms := 0) (own := (mz_y I).cls) (index := i9) (mz_np J) hts (mz_goodIn (ws := Ts) hg m2) rfl rfl rfl (hts2 _ m3) (hts2 _ (mz_okj_in hLK c1)) m4 ⟨c2, c3⟩
          have hrn := va_runS (e := e) (below := below) (meth := meth) (As := As.map (mz_cv ad)) (rest := rest.map (mz_cv ad)) (g := F0 m pc' lsR ((As.reverse ++ rest).map (mz_cv ad))) (locs := locs) (cells := 0) (slots := 0) ⟨hx, hb, hml, hown, hts⟩ hM ⟨hCB, hts2 _ (m5 a4)⟩ ⟨mz_blind, fun U hU hW => ⟨rfl, by rw [hU], by rw [hU]; exact h1, va_K.moved hW.alike hK, h2.weaken (fun _ _ _ _ => trivial)⟩⟩ rfl (by rw [List.length_map]; exact a3) h4.1 (by rw [List.map_append, List.map_reverse]) (lv_room (by rw [mz_sum]; exact a6)) hdc ⟨Nat.le_refl _, Nat.le_refl _⟩
          have hsub : ∀ q, va_A (mz_wl cA ad M 0 SK) H.size q → A q := by
            rintro q (⟨k0, e0, h⟩ | h)
            · exact h2.2 k0 _ h
            · exact hA q (Nat.le_trans h3.1 h)
          refine mz_back hrn h3 (fun q _ h => hsub q h) hsub hsub (fun H1 locs1 g1 g2 g3 => ?_)
          have := ih _ res b9 H1 locs1 lsR g1 g2 g3 h4
          dsimp only at this
          obtain ⟨_ | v1, M1⟩ := r1
          · exact this
          · exact this
        · dsimp only at hln a1
          subst hln
          subst a2
          subst a1
          intro H locs lsR h1 h2 h3 h4
          dsimp only at h1 h2 h3 h4
          unfold mz_okc at hoc
          dsimp only at hoc
          rw [if_pos rfl] at hoc
          simp only [Bool.and_eq_true, decide_eq_true_eq] at hoc
          obtain ⟨⟨c1, c2⟩, c3⟩ := hoc
          have hw0 : (mz_wl cA ad M 0 SK)[b0]? = some (ad b0, .inl (cA 0, n0, .inl (M.1 b0))) := mz_w_at a3
          have hw1 : (mz_wl cA ad M 0 SK)[b]? = some (ad b, .inl (cA 0, n1, .inl (M.1 b))) := mz_w_at a4
          refine va_copyi hx hb (hml.trans h4.1.symm) hown (hts2 _ (mz_okj_in hLK c1)) (hts2 _ hcpy.1) (hts2 _ hcpy.2.1) (hts2 _ hcpy.2.2) hK h1 h2 h3 b0 b 0 0 hw0 hw1 hty.1 hty.1 rfl a5 a6 a7 a8 a9' (fun _ _ => rfl) c2 (by rw [mz_sum]; show _ ≤ mz_lo I; omega) hdc (fun H1 locs1 g1 g2 g3 => ?_)
          rw [mz_rowI (Or.inl rfl) a4] at g1 g2
          exact ih _ res b2 H1 locs1 lsR g1 g2 g3 h4
      · -- a step
        obtain ⟨k2, P, a1, a2, a3⟩ := hdo
        exact mz_one hx hb hml hown hts2 hLK hK hty hcl hob a1 a2 (ih k2 res a3)
  intro n
  induction n using Nat.strongRecOn with
  | _ n ihn =>
    intro a I As M res sz hI hrun hlen
    obtain ⟨⟨m1, m2, m3, m4, -, -⟩, -⟩ := hok a I hI
    refine Met.ofW (cc := mz_cc I) (maxL := mz_nL I) (ret := mz_rt I) m1 rfl ?_
    intro p e s m args below meth c s₁ B hml hv
    obtain ⟨rfl, hsz, h1, hK, hD0⟩ := hv
    subst hsz
    have hts := atoms_spec (ws := mz_ws Ts I) B.pre
    have hown : s.vm.findClass (mz_y I).cls = some m.cls := findClass_of_methodNamed B.named
    have hlocks := B.notSynchronized
    rw [lg_entry_eq]
    refine body n ihn n (Nat.le_refl _) p e s m _ below meth c a I _ res _ hI B.exec B.bytes hml B.returns hlocks hown hts hK (fun q h => Or.inr h) hrun s.heap [] _ h1 hD0.self va_S.rf (mz_entry ad As (by rw [mz_lgsl]; exact hlen))
end MZC
end
section
/-! a table's checks, by program -/
def mz_okmb (LK : List Cond) (cl : List vw_C) (I : mz_I) (jc ji jm jx : Nat) : Bool := plainName (mz_y I).cls && mz_okj LK jc (.code (mz_y I) (mz_cc I) (mz_nL I) (mz_rt I)) && mz_okj LK ji (.initialized (mz_y I).cls) && decide ((mz_y I).cls ≠ "java/lang/invoke/MethodHandle") && decide ((mz_y I).cls ≠ "java/lang/invoke/VarHandle") && decide ((parseMethodDescriptor (mz_y I).desc).map (fun d => d.parameters.length) = some (mz_np I)) && (match mz_sta I with
  | true => mz_okj LK jm (.static (mz_y I))
  | false => mz_okj LK jm (.instanceMethod (mz_y I)) && mz_okj LK jx (.selects (mz_y I).cls (mz_y I) (mz_y I)) && (match cl[mz_ci I]? with
    | some q => decide (q.1 = (mz_y I).cls)
    | none => false))
theorem mz_okm_of {LK Ts : List Cond} {cl : List vw_C} {I : mz_I} (hLK : ∀ w ∈ LK, w ∈ Ts) (jc ji jm jx : Nat) (h : mz_okmb LK cl I jc ji jm jx = true) : mz_okm Ts cl I := by
  unfold mz_okmb at h
  simp only [Bool.and_eq_true, decide_eq_true_eq] at h
  obtain ⟨⟨⟨⟨⟨⟨h1, h2⟩, h3⟩, h4⟩, h5⟩, h6⟩, h7⟩ := h
  refine ⟨h1, mz_okj_in hLK h2, mz_okj_in hLK h3, ⟨h4, h5, h6⟩, fun e => ?_, fun e => ?_⟩
  · rw [e] at h7
    exact mz_okj_in hLK h7
  · rw [e] at h7
    simp only [Bool.and_eq_true] at h7
    obtain ⟨⟨h8, h9⟩, h10⟩ := h7
    refine ⟨mz_okj_in hLK h8, mz_okj_in hLK h9, ?_⟩
    split at h10
    · next q hq => exact ⟨q, hq, of_decide_eq_true h10⟩
    · cases h10
/-- all of a method's checks -/
def mz_okI (LK : List Cond) (cl : List vw_C) (tyf : Nat → Nat → FieldType) (tab : List mz_I) (I : mz_I) (j : Nat × Nat × Nat × Nat) : Bool := mz_okmb LK cl I j.1 j.2.1 j.2.2.1 j.2.2.2 && (mz_rows I).all (fun r => mz_okb LK cl tyf (mz_y I).cls (mz_cc I) r && mz_okc LK tab I r)
def mz_okP (LK Ts : List Cond) (cl : List vw_C) (tyf : Nat → Nat → FieldType) (tab : List mz_I) (I : mz_I) : Prop := mz_okm Ts cl I ∧ ∀ r ∈ mz_rows I, mz_okb LK cl tyf (mz_y I).cls (mz_cc I) r = true ∧ mz_okc LK tab I r = true
theorem mz_okP_of {LK Ts : List Cond} {cl : List vw_C} {tyf : Nat → Nat → FieldType} {tab : List mz_I} {I : mz_I} (hLK : ∀ w ∈ LK, w ∈ Ts) (j : Nat × Nat × Nat × Nat) (h : mz_okI LK cl tyf tab I j = true) : mz_okP LK Ts cl tyf tab I := by
  unfold mz_okI at h
  rw [Bool.and_eq_true] at h
  refine ⟨mz_okm_of hLK _ _ _ _ h.1, fun r hr => ?_⟩
  have h2 := List.all_eq_true.mp h.2 r hr
  rw [Bool.and_eq_true] at h2
  exact h2
theorem mz_ok_of {LK Ts : List Cond} {cl : List vw_C} {tyf : Nat → Nat → FieldType} {tab : List mz_I} (h : ∀ I ∈ tab, mz_okP LK Ts cl tyf tab I) : mz_ok LK Ts cl tyf tab := fun _ I hI => h I (mz_nth_mem hI)
end
section
/-! runs, whatever their length -/
def mz_Go (SK : List mz_E) (tab : List mz_I) (I : mz_I) (k : mz_C) (res : mz_O) : Prop := ∃ n, mz_run SK tab n I k res
def mz_stp (SK : List mz_E) (I : mz_I) (k : mz_C) : Option (mz_C × List Prop) := match mz_find k.1 (mz_rows I) with
  | some r => mz_step SK r.2.1 r.2.2.1 r.2.2.2.1 r.2.2.2.2.1 k.1 k.2.1 k.2.2.1 k.2.2.2
  | none => none
def mz_stps (SK : List mz_E) (I : mz_I) : Nat → mz_C → Option (mz_C × List Prop)
  | 0, k => some (k, [])
  | n + 1, k => match mz_stp SK I k with
    | some (k2, P) => (match mz_stps SK I n k2 with
      | some (k3, P3) => some (k3, P ++ P3)
      | none => none)
    | none => none
section MZG
variable {SK : List mz_E} {tab : List mz_I} {I J : mz_I} {res : mz_O}
theorem mz_Go.step {k k2 : mz_C} {P : List Prop} (h : mz_stp SK I k = some (k2, P)) (hP : ∀ x ∈ P, x) (g : mz_Go SK tab I k2 res) : mz_Go SK tab I k res := by
  obtain ⟨n, g⟩ := g
  unfold mz_stp at h
  split at h
  · next r hr =>
    refine ⟨n + 1, r, hr, ?_⟩
    obtain ⟨pc, ins, len, a, v, j⟩ := r
    cases ins <;> first | exact ⟨k2, P, h, hP, g⟩ | (exfalso; dsimp only [mz_step] at h; cases h; done)
  · cases h
theorem mz_Go.steps : ∀ {n : Nat} {k k2 : mz_C} {P : List Prop}, mz_stps SK I n k = some (k2, P) → (∀ x ∈ P, x) → mz_Go SK tab I k2 res → mz_Go SK tab I k res
  | 0, k, k2, P, h, hP, g => by
    simp only [mz_stps, Option.some.injEq, Prod.mk.injEq] at h
    rw [h.1]
    exact g
  | n + 1, k, k2, P, h, hP, g => by
    unfold mz_stps at h
    split at h
    · next k1 P1 h1 =>
      split at h
      · next k3 P3 h3 =>
        simp only [Option.some.injEq, Prod.mk.injEq] at h
        obtain ⟨rfl, rfl⟩ := h
        exact mz_Go.step h1 (fun x hx => hP x (List.mem_append_left _ hx)) (mz_Go.steps h3 (fun x hx => hP x (List.mem_append_right _ hx)) g)
      · cases h
    · cases h
theorem mz_Go.ite {c : Prop} {a b : Nat} {r : mz_L × List Value × mz_M} {hd : Decidable c} (h1 : c → mz_Go SK tab I (a, r) res) (h2 : ¬ c → mz_Go SK tab I (b, r) res) : mz_Go SK tab I (@ite Nat c hd a b, r) res := by
  by_cases h : c
  · rw [if_pos h]; exact h1 h
  · rw [if_neg h]; exact h2 h
theorem mz_Go.iret {pc len a j : Nat} {v x : Int32} {ls : mz_L} {M : mz_M} (hf : mz_find pc (mz_rows I) = some (pc, .ireturn, len, a, v, j)) (hr : mz_rt I = some .int) : mz_Go SK tab I (pc, ls, [.int x], M) (some (.int x), M) :=
  ⟨1, _, hf, x, rfl, rfl, Or.inl hr⟩
theorem mz_Go.zret {pc len a j : Nat} {v x : Int32} {ls : mz_L} {M : mz_M} (hf : mz_find pc (mz_rows I) = some (pc, .ireturn, len, a, v, j)) (hr : mz_rt I = some .boolean) (hx : x = 0 ∨ x = 1) : mz_Go SK tab I (pc, ls, [.int x], M) (some (.int x), M) :=
  ⟨1, _, hf, x, rfl, rfl, Or.inr ⟨hr, hx⟩⟩
theorem mz_Go.lret {pc len a j : Nat} {v : Int32} {x : Int64} {ls : mz_L} {M : mz_M} (hf : mz_find pc (mz_rows I) = some (pc, .lreturn, len, a, v, j)) (hr : mz_rt I = some .long) : mz_Go SK tab I (pc, ls, [.long x], M) (some (.long x), M) :=
  ⟨1, _, hf, x, rfl, rfl, hr⟩
theorem mz_Go.vret {pc len a j : Nat} {v : Int32} {ls : mz_L} {M : mz_M} (hf : mz_find pc (mz_rows I) = some (pc, .return_, len, a, v, j)) (hr : mz_rt I = none) : mz_Go SK tab I (pc, ls, [], M) (none, M) :=
  ⟨1, _, hf, rfl, rfl, hr⟩
/-- a method's answer and what it leaves -/
def mz_Call (SK : List mz_E) (tab : List mz_I) (J : mz_I) (As : List Value) (M : mz_M) (r : mz_O) : Prop := mz_Go SK tab J (0, mz_pad (mz_nL J) (mz_args As), [], M) r
theorem mz_Go.callV {pc len a j i b : Nat} {v : Int32} {ls : mz_L} {st rest As : List Value} {M : mz_M} {fs : List (Option Nat)} {r1 : mz_O} (hf : mz_find pc (mz_rows I) = some (pc, .invokevirtual i, len, a, v, j)) (hJ : mz_nth tab a = some J) (hb : mz_nth SK b = some (.inr (mz_ci J, fs))) (hst : st = As.reverse ++ .ref b :: rest) (h3 : As.length = mz_np J) (h4 : mz_sta J = false) (h5 : (rest.map fun v => v.category).sum ≤ 8) (h6 : (lg_sl (Value.ref b :: As)).length ≤ mz_nL J)
    (hc : mz_Call SK tab J (.ref b :: As) M r1) (g : mz_Go SK tab I (pc + 3, ls, r1.1.toList ++ rest, r1.2) res) : mz_Go SK tab I (pc, ls, st, M) res := by
  obtain ⟨n1, hc⟩ := hc
  obtain ⟨n2, g⟩ := g
  exact ⟨max n1 n2 + 1, _, hf, J, As, b, rest, fs, r1, hJ, hst, h3, h4, hb, h5, h6, mz_run_le (Nat.le_max_left _ _) hc, mz_run_le (Nat.le_max_right _ _) g⟩
theorem mz_Go.callS {pc len a j i : Nat} {v : Int32} {ls : mz_L} {st rest As : List Value} {M : mz_M} {r1 : mz_O} (hf : mz_find pc (mz_rows I) = some (pc, .invokestatic i, len, a, v, j)) (hJ : mz_nth tab a = some J) (h0 : ¬ a = 1000) (hst : st = As.reverse ++ rest) (h3 : As.length = mz_np J) (h4 : mz_sta J = true) (h5 : (rest.map fun v => v.category).sum ≤ 8) (h6 : (lg_sl As).length ≤ mz_nL J)
    (hc : mz_Call SK tab J As M r1) (g : mz_Go SK tab I (pc + 3, ls, r1.1.toList ++ rest, r1.2) res) : mz_Go SK tab I (pc, ls, st, M) res := by
  obtain ⟨n1, hc⟩ := hc
  obtain ⟨n2, g⟩ := g
  exact ⟨max n1 n2 + 1, _, hf, Or.inl ⟨J, As, rest, r1, hJ, h0, hst, h3, h4, h5, h6, mz_run_le (Nat.le_max_left _ _) hc, mz_run_le (Nat.le_max_right _ _) g⟩⟩
theorem mz_Go.copy {pc len j i b0 b n0 n1 : Nat} {v sp dp n : Int32} {ls : mz_L} {rest : List Value} {M : mz_M} {rs0 rs1 : List Nat} (hf : mz_find pc (mz_rows I) = some (pc, .invokestatic i, len, 1000, v, j)) (h0 : mz_nth SK b0 = some (.inl (0, n0, rs0))) (h1 : mz_nth SK b = some (.inl (0, n1, rs1))) (h2 : ¬ sp < 0) (h3 : ¬ dp < 0) (h4 : ¬ n < 0) (h5 : sp.toNatClampNeg + n.toNatClampNeg ≤ n0) (h6 : dp.toNatClampNeg + n.toNatClampNeg ≤ n1) (h7 : (rest.map fun v => v.category).sum ≤ 8)
    (g : mz_Go SK tab I (pc + 3, ls, rest, mz_wr M b (va_cpy (M.1 b0) (M.1 b) sp.toNatClampNeg dp.toNatClampNeg n.toNatClampNeg)) res) : mz_Go SK tab I (pc, ls, .int n :: .int dp :: .ref b :: .int sp :: .ref b0 :: rest, M) res := by
  obtain ⟨n2, g⟩ := g
  exact ⟨n2 + 1, _, hf, Or.inr ⟨sp, dp, n, b0, b, n0, n1, rs0, rs1, rest, rfl, rfl, h0, h1, h2, h3, h4, h5, h6, h7, g⟩⟩
end MZG
end
