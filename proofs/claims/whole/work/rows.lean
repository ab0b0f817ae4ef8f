section
-- ===== PART A: goes FIRST, ahead of the names: the tables' words, and 'selects' of the private methods out of them =====
/-- a private method of a class that the tables say can be made, by its rows of tables_1 -/
def lw_okq (q : MethodName × Nat) : Prop := (q.1.cls ≠ "java/lang/invoke/MethodHandle" ∧ q.1.cls ≠ "java/lang/invoke/VarHandle") ∧ Cond.instantiable q.1.cls q.2 ∈ tables_1 ∧ Cond.privateMethod q.1 ∈ tables_1 ∧ Cond.instanceMethod q.1 ∈ tables_1
theorem lw_p0 : lw_okq (⟨"FieldBases$Field", "fills", "(I)Z"⟩, 6) := ⟨⟨by decide +kernel, by decide +kernel⟩, List.mem_of_getElem? (i := 34) (by decide +kernel), List.mem_of_getElem? (i := 172) (by decide +kernel), List.mem_of_getElem? (i := 173) (by decide +kernel)⟩
theorem lw_p1 : lw_okq (⟨"FieldBases$Field", "multiplied", "(II)I"⟩, 6) := ⟨⟨by decide +kernel, by decide +kernel⟩, List.mem_of_getElem? (i := 34) (by decide +kernel), List.mem_of_getElem? (i := 176) (by decide +kernel), List.mem_of_getElem? (i := 177) (by decide +kernel)⟩
theorem lw_p2 : lw_okq (⟨"FieldBases$Text", "powerRead", "(I)I"⟩, 4) := ⟨⟨by decide +kernel, by decide +kernel⟩, List.mem_of_getElem? (i := 129) (by decide +kernel), List.mem_of_getElem? (i := 258) (by decide +kernel), List.mem_of_getElem? (i := 259) (by decide +kernel)⟩
theorem lw_p3 : lw_okq (⟨"FieldBases$Text", "signAt", "(I)I"⟩, 4) := ⟨⟨by decide +kernel, by decide +kernel⟩, List.mem_of_getElem? (i := 129) (by decide +kernel), List.mem_of_getElem? (i := 262) (by decide +kernel), List.mem_of_getElem? (i := 263) (by decide +kernel)⟩
theorem lw_p4 : lw_okq (⟨"FieldBases", "tellsField", "(I)I"⟩, 11) := ⟨⟨by decide +kernel, by decide +kernel⟩, List.mem_of_getElem? (i := 20) (by decide +kernel), List.mem_of_getElem? (i := 274) (by decide +kernel), List.mem_of_getElem? (i := 275) (by decide +kernel)⟩
theorem lw_p5 : lw_okq (⟨"FieldBases", "isElement", "(I)Z"⟩, 11) := ⟨⟨by decide +kernel, by decide +kernel⟩, List.mem_of_getElem? (i := 20) (by decide +kernel), List.mem_of_getElem? (i := 302) (by decide +kernel), List.mem_of_getElem? (i := 303) (by decide +kernel)⟩
theorem lw_p6 : lw_okq (⟨"FieldBases$Text", "numberRead", "()I"⟩, 4) := ⟨⟨by decide +kernel, by decide +kernel⟩, List.mem_of_getElem? (i := 129) (by decide +kernel), List.mem_of_getElem? (i := 524) (by decide +kernel), List.mem_of_getElem? (i := 525) (by decide +kernel)⟩
theorem lw_p7 : lw_okq (⟨"FieldBases", "isSlot", "(I)Z"⟩, 11) := ⟨⟨by decide +kernel, by decide +kernel⟩, List.mem_of_getElem? (i := 20) (by decide +kernel), List.mem_of_getElem? (i := 531) (by decide +kernel), List.mem_of_getElem? (i := 532) (by decide +kernel)⟩
theorem lw_p8 : lw_okq (⟨"FieldBases", "setsSlot", "(I[I)I"⟩, 11) := ⟨⟨by decide +kernel, by decide +kernel⟩, List.mem_of_getElem? (i := 20) (by decide +kernel), List.mem_of_getElem? (i := 535) (by decide +kernel), List.mem_of_getElem? (i := 536) (by decide +kernel)⟩
theorem lw_p9 : lw_okq (⟨"FieldBases", "isPlace", "(I)Z"⟩, 11) := ⟨⟨by decide +kernel, by decide +kernel⟩, List.mem_of_getElem? (i := 20) (by decide +kernel), List.mem_of_getElem? (i := 563) (by decide +kernel), List.mem_of_getElem? (i := 564) (by decide +kernel)⟩
theorem lw_p10 : lw_okq (⟨"FieldBases", "tellsLocated", "([I)I"⟩, 11) := ⟨⟨by decide +kernel, by decide +kernel⟩, List.mem_of_getElem? (i := 20) (by decide +kernel), List.mem_of_getElem? (i := 596) (by decide +kernel), List.mem_of_getElem? (i := 597) (by decide +kernel)⟩
theorem lw_p11 : lw_okq (⟨"FieldBases", "followsState", "()V"⟩, 11) := ⟨⟨by decide +kernel, by decide +kernel⟩, List.mem_of_getElem? (i := 20) (by decide +kernel), List.mem_of_getElem? (i := 710) (by decide +kernel), List.mem_of_getElem? (i := 711) (by decide +kernel)⟩
theorem lw_p12 : lw_okq (⟨"FieldBases$Text", "puts", "(II)I"⟩, 4) := ⟨⟨by decide +kernel, by decide +kernel⟩, List.mem_of_getElem? (i := 129) (by decide +kernel), List.mem_of_getElem? (i := 731) (by decide +kernel), List.mem_of_getElem? (i := 732) (by decide +kernel)⟩
theorem lw_p13 : lw_okq (⟨"FieldBases", "normalSlots", "()I"⟩, 11) := ⟨⟨by decide +kernel, by decide +kernel⟩, List.mem_of_getElem? (i := 20) (by decide +kernel), List.mem_of_getElem? (i := 739) (by decide +kernel), List.mem_of_getElem? (i := 740) (by decide +kernel)⟩
theorem lw_p14 : lw_okq (⟨"FieldBases", "plainSlots", "()I"⟩, 11) := ⟨⟨by decide +kernel, by decide +kernel⟩, List.mem_of_getElem? (i := 20) (by decide +kernel), List.mem_of_getElem? (i := 743) (by decide +kernel), List.mem_of_getElem? (i := 744) (by decide +kernel)⟩
theorem lw_p15 : lw_okq (⟨"java/lang/Throwable", "fillInStackTrace", "(I)Ljava/lang/Throwable;"⟩, 6) := ⟨⟨by decide +kernel, by decide +kernel⟩, List.mem_of_getElem? (i := 795) (by decide +kernel), List.mem_of_getElem? (i := 793) (by decide +kernel), List.mem_of_getElem? (i := 794) (by decide +kernel)⟩
def lw_privs_1 : List (MethodName × Nat) := [(⟨"FieldBases$Field", "fills", "(I)Z"⟩, 6), (⟨"FieldBases$Field", "multiplied", "(II)I"⟩, 6), (⟨"FieldBases$Text", "powerRead", "(I)I"⟩, 4), (⟨"FieldBases$Text", "signAt", "(I)I"⟩, 4), (⟨"FieldBases", "tellsField", "(I)I"⟩, 11), (⟨"FieldBases", "isElement", "(I)Z"⟩, 11), (⟨"FieldBases$Text", "numberRead", "()I"⟩, 4), (⟨"FieldBases", "isSlot", "(I)Z"⟩, 11), (⟨"FieldBases", "setsSlot", "(I[I)I"⟩, 11), (⟨"FieldBases", "isPlace", "(I)Z"⟩, 11), (⟨"FieldBases", "tellsLocated", "([I)I"⟩, 11), (⟨"FieldBases", "followsState", "()V"⟩, 11), (⟨"FieldBases$Text", "puts", "(II)I"⟩, 4), (⟨"FieldBases", "normalSlots", "()I"⟩, 11), (⟨"FieldBases", "plainSlots", "()I"⟩, 11), (⟨"java/lang/Throwable", "fillInStackTrace", "(I)Ljava/lang/Throwable;"⟩, 6)]
theorem lw_r1 : ∀ q ∈ lw_privs_1, lw_okq q := List.forall_mem_cons.mpr ⟨lw_p0, List.forall_mem_cons.mpr ⟨lw_p1, List.forall_mem_cons.mpr ⟨lw_p2, List.forall_mem_cons.mpr ⟨lw_p3, List.forall_mem_cons.mpr ⟨lw_p4, List.forall_mem_cons.mpr ⟨lw_p5, List.forall_mem_cons.mpr ⟨lw_p6, List.forall_mem_cons.mpr ⟨lw_p7, List.forall_mem_cons.mpr ⟨lw_p8, List.forall_mem_cons.mpr ⟨lw_p9, List.forall_mem_cons.mpr ⟨lw_p10, List.forall_mem_cons.mpr ⟨lw_p11, List.forall_mem_cons.mpr ⟨lw_p12, List.forall_mem_cons.mpr ⟨lw_p13, List.forall_mem_cons.mpr ⟨lw_p14, List.forall_mem_cons.mpr ⟨lw_p15, fun _ h => absurd h List.not_mem_nil⟩⟩⟩⟩⟩⟩⟩⟩⟩⟩⟩⟩⟩⟩⟩⟩
theorem lw_p16 : lw_okq (⟨"FieldBasesModel", "fields", "(I)V"⟩, 24) := ⟨⟨by decide +kernel, by decide +kernel⟩, List.mem_of_getElem? (i := 820) (by decide +kernel), List.mem_of_getElem? (i := 826) (by decide +kernel), List.mem_of_getElem? (i := 827) (by decide +kernel)⟩
theorem lw_p17 : lw_okq (⟨"FieldBasesModel", "lays", "()V"⟩, 24) := ⟨⟨by decide +kernel, by decide +kernel⟩, List.mem_of_getElem? (i := 820) (by decide +kernel), List.mem_of_getElem? (i := 833) (by decide +kernel), List.mem_of_getElem? (i := 834) (by decide +kernel)⟩
theorem lw_p18 : lw_okq (⟨"FieldBasesModel", "begin", "()V"⟩, 24) := ⟨⟨by decide +kernel, by decide +kernel⟩, List.mem_of_getElem? (i := 820) (by decide +kernel), List.mem_of_getElem? (i := 930) (by decide +kernel), List.mem_of_getElem? (i := 931) (by decide +kernel)⟩
theorem lw_p19 : lw_okq (⟨"FieldBasesModel", "readsPoly", "()I"⟩, 24) := ⟨⟨by decide +kernel, by decide +kernel⟩, List.mem_of_getElem? (i := 820) (by decide +kernel), List.mem_of_getElem? (i := 934) (by decide +kernel), List.mem_of_getElem? (i := 935) (by decide +kernel)⟩
theorem lw_p20 : lw_okq (⟨"FieldBasesModel", "readsPower", "(I)I"⟩, 24) := ⟨⟨by decide +kernel, by decide +kernel⟩, List.mem_of_getElem? (i := 820) (by decide +kernel), List.mem_of_getElem? (i := 938) (by decide +kernel), List.mem_of_getElem? (i := 939) (by decide +kernel)⟩
theorem lw_p21 : lw_okq (⟨"FieldBasesModel", "sees", "()I"⟩, 24) := ⟨⟨by decide +kernel, by decide +kernel⟩, List.mem_of_getElem? (i := 820) (by decide +kernel), List.mem_of_getElem? (i := 942) (by decide +kernel), List.mem_of_getElem? (i := 943) (by decide +kernel)⟩
theorem lw_p22 : lw_okq (⟨"FieldBasesModel", "fault", "(I)V"⟩, 24) := ⟨⟨by decide +kernel, by decide +kernel⟩, List.mem_of_getElem? (i := 820) (by decide +kernel), List.mem_of_getElem? (i := 946) (by decide +kernel), List.mem_of_getElem? (i := 947) (by decide +kernel)⟩
theorem lw_p23 : lw_okq (⟨"FieldBasesModel", "does", "()V"⟩, 24) := ⟨⟨by decide +kernel, by decide +kernel⟩, List.mem_of_getElem? (i := 820) (by decide +kernel), List.mem_of_getElem? (i := 962) (by decide +kernel), List.mem_of_getElem? (i := 963) (by decide +kernel)⟩
theorem lw_p24 : lw_okq (⟨"FieldBasesModel", "isElement", "(I)Z"⟩, 24) := ⟨⟨by decide +kernel, by decide +kernel⟩, List.mem_of_getElem? (i := 820) (by decide +kernel), List.mem_of_getElem? (i := 976) (by decide +kernel), List.mem_of_getElem? (i := 977) (by decide +kernel)⟩
theorem lw_p25 : lw_okq (⟨"FieldBasesModel", "times", "(II)I"⟩, 24) := ⟨⟨by decide +kernel, by decide +kernel⟩, List.mem_of_getElem? (i := 820) (by decide +kernel), List.mem_of_getElem? (i := 980) (by decide +kernel), List.mem_of_getElem? (i := 981) (by decide +kernel)⟩
theorem lw_p26 : lw_okq (⟨"FieldBasesModel", "inverseOf", "(I)I"⟩, 24) := ⟨⟨by decide +kernel, by decide +kernel⟩, List.mem_of_getElem? (i := 820) (by decide +kernel), List.mem_of_getElem? (i := 991) (by decide +kernel), List.mem_of_getElem? (i := 992) (by decide +kernel)⟩
theorem lw_p27 : lw_okq (⟨"FieldBasesModel", "powered", "(II)I"⟩, 24) := ⟨⟨by decide +kernel, by decide +kernel⟩, List.mem_of_getElem? (i := 820) (by decide +kernel), List.mem_of_getElem? (i := 995) (by decide +kernel), List.mem_of_getElem? (i := 996) (by decide +kernel)⟩
theorem lw_p28 : lw_okq (⟨"FieldBasesModel", "isGenerator", "(I)Z"⟩, 24) := ⟨⟨by decide +kernel, by decide +kernel⟩, List.mem_of_getElem? (i := 820) (by decide +kernel), List.mem_of_getElem? (i := 1008) (by decide +kernel), List.mem_of_getElem? (i := 1009) (by decide +kernel)⟩
theorem lw_p29 : lw_okq (⟨"FieldBasesModel", "orderOf", "(I)I"⟩, 24) := ⟨⟨by decide +kernel, by decide +kernel⟩, List.mem_of_getElem? (i := 820) (by decide +kernel), List.mem_of_getElem? (i := 1012) (by decide +kernel), List.mem_of_getElem? (i := 1013) (by decide +kernel)⟩
theorem lw_p30 : lw_okq (⟨"FieldBasesModel", "tell", "(J)V"⟩, 24) := ⟨⟨by decide +kernel, by decide +kernel⟩, List.mem_of_getElem? (i := 820) (by decide +kernel), List.mem_of_getElem? (i := 1016) (by decide +kernel), List.mem_of_getElem? (i := 1017) (by decide +kernel)⟩
theorem lw_p31 : lw_okq (⟨"FieldBasesModel", "conj", "(II)I"⟩, 24) := ⟨⟨by decide +kernel, by decide +kernel⟩, List.mem_of_getElem? (i := 820) (by decide +kernel), List.mem_of_getElem? (i := 1025) (by decide +kernel), List.mem_of_getElem? (i := 1026) (by decide +kernel)⟩
def lw_privs_2 : List (MethodName × Nat) := [(⟨"FieldBasesModel", "fields", "(I)V"⟩, 24), (⟨"FieldBasesModel", "lays", "()V"⟩, 24), (⟨"FieldBasesModel", "begin", "()V"⟩, 24), (⟨"FieldBasesModel", "readsPoly", "()I"⟩, 24), (⟨"FieldBasesModel", "readsPower", "(I)I"⟩, 24), (⟨"FieldBasesModel", "sees", "()I"⟩, 24), (⟨"FieldBasesModel", "fault", "(I)V"⟩, 24), (⟨"FieldBasesModel", "does", "()V"⟩, 24), (⟨"FieldBasesModel", "isElement", "(I)Z"⟩, 24), (⟨"FieldBasesModel", "times", "(II)I"⟩, 24), (⟨"FieldBasesModel", "inverseOf", "(I)I"⟩, 24), (⟨"FieldBasesModel", "powered", "(II)I"⟩, 24), (⟨"FieldBasesModel", "isGenerator", "(I)Z"⟩, 24), (⟨"FieldBasesModel", "orderOf", "(I)I"⟩, 24), (⟨"FieldBasesModel", "tell", "(J)V"⟩, 24), (⟨"FieldBasesModel", "conj", "(II)I"⟩, 24)]
theorem lw_r2 : ∀ q ∈ lw_privs_2, lw_okq q := List.forall_mem_cons.mpr ⟨lw_p16, List.forall_mem_cons.mpr ⟨lw_p17, List.forall_mem_cons.mpr ⟨lw_p18, List.forall_mem_cons.mpr ⟨lw_p19, List.forall_mem_cons.mpr ⟨lw_p20, List.forall_mem_cons.mpr ⟨lw_p21, List.forall_mem_cons.mpr ⟨lw_p22, List.forall_mem_cons.mpr ⟨lw_p23, List.forall_mem_cons.mpr ⟨lw_p24, List.forall_mem_cons.mpr ⟨lw_p25, List.forall_mem_cons.mpr ⟨lw_p26, List.forall_mem_cons.mpr ⟨lw_p27, List.forall_mem_cons.mpr ⟨lw_p28, List.forall_mem_cons.mpr ⟨lw_p29, List.forall_mem_cons.mpr ⟨lw_p30, List.forall_mem_cons.mpr ⟨lw_p31, fun _ h => absurd h List.not_mem_nil⟩⟩⟩⟩⟩⟩⟩⟩⟩⟩⟩⟩⟩⟩⟩⟩
theorem lw_p32 : lw_okq (⟨"FieldBasesModel", "sizeOf", "(I)I"⟩, 24) := ⟨⟨by decide +kernel, by decide +kernel⟩, List.mem_of_getElem? (i := 820) (by decide +kernel), List.mem_of_getElem? (i := 1033) (by decide +kernel), List.mem_of_getElem? (i := 1034) (by decide +kernel)⟩
theorem lw_p33 : lw_okq (⟨"FieldBasesModel", "rooted", "(II)I"⟩, 24) := ⟨⟨by decide +kernel, by decide +kernel⟩, List.mem_of_getElem? (i := 820) (by decide +kernel), List.mem_of_getElem? (i := 1041) (by decide +kernel), List.mem_of_getElem? (i := 1042) (by decide +kernel)⟩
theorem lw_p34 : lw_okq (⟨"FieldBasesModel", "isPart", "(I)Z"⟩, 24) := ⟨⟨by decide +kernel, by decide +kernel⟩, List.mem_of_getElem? (i := 820) (by decide +kernel), List.mem_of_getElem? (i := 1049) (by decide +kernel), List.mem_of_getElem? (i := 1050) (by decide +kernel)⟩
theorem lw_p35 : lw_okq (⟨"FieldBasesModel", "traceTo", "(II)I"⟩, 24) := ⟨⟨by decide +kernel, by decide +kernel⟩, List.mem_of_getElem? (i := 820) (by decide +kernel), List.mem_of_getElem? (i := 1053) (by decide +kernel), List.mem_of_getElem? (i := 1054) (by decide +kernel)⟩
theorem lw_p36 : lw_okq (⟨"FieldBasesModel", "normTo", "(II)I"⟩, 24) := ⟨⟨by decide +kernel, by decide +kernel⟩, List.mem_of_getElem? (i := 820) (by decide +kernel), List.mem_of_getElem? (i := 1061) (by decide +kernel), List.mem_of_getElem? (i := 1062) (by decide +kernel)⟩
theorem lw_p37 : lw_okq (⟨"FieldBasesModel", "takesSubbase", "(I)V"⟩, 24) := ⟨⟨by decide +kernel, by decide +kernel⟩, List.mem_of_getElem? (i := 820) (by decide +kernel), List.mem_of_getElem? (i := 1110) (by decide +kernel), List.mem_of_getElem? (i := 1111) (by decide +kernel)⟩
theorem lw_p38 : lw_okq (⟨"FieldBasesModel", "rank", "(I)I"⟩, 24) := ⟨⟨by decide +kernel, by decide +kernel⟩, List.mem_of_getElem? (i := 820) (by decide +kernel), List.mem_of_getElem? (i := 1114) (by decide +kernel), List.mem_of_getElem? (i := 1115) (by decide +kernel)⟩
theorem lw_p39 : lw_okq (⟨"FieldBasesModel", "takesConjugates", "(I)V"⟩, 24) := ⟨⟨by decide +kernel, by decide +kernel⟩, List.mem_of_getElem? (i := 820) (by decide +kernel), List.mem_of_getElem? (i := 1125) (by decide +kernel), List.mem_of_getElem? (i := 1126) (by decide +kernel)⟩
theorem lw_p40 : lw_okq (⟨"FieldBasesModel", "isNormal", "(I)Z"⟩, 24) := ⟨⟨by decide +kernel, by decide +kernel⟩, List.mem_of_getElem? (i := 820) (by decide +kernel), List.mem_of_getElem? (i := 1133) (by decide +kernel), List.mem_of_getElem? (i := 1134) (by decide +kernel)⟩
theorem lw_p41 : lw_okq (⟨"FieldBasesModel", "isNormalOver", "(II)Z"⟩, 24) := ⟨⟨by decide +kernel, by decide +kernel⟩, List.mem_of_getElem? (i := 820) (by decide +kernel), List.mem_of_getElem? (i := 1141) (by decide +kernel), List.mem_of_getElem? (i := 1142) (by decide +kernel)⟩
theorem lw_p42 : lw_okq (⟨"FieldBasesModel", "someIsBase", "()V"⟩, 24) := ⟨⟨by decide +kernel, by decide +kernel⟩, List.mem_of_getElem? (i := 820) (by decide +kernel), List.mem_of_getElem? (i := 1149) (by decide +kernel), List.mem_of_getElem? (i := 1150) (by decide +kernel)⟩
theorem lw_p43 : lw_okq (⟨"FieldBasesModel", "laysCoordinates", "()V"⟩, 24) := ⟨⟨by decide +kernel, by decide +kernel⟩, List.mem_of_getElem? (i := 820) (by decide +kernel), List.mem_of_getElem? (i := 1153) (by decide +kernel), List.mem_of_getElem? (i := 1154) (by decide +kernel)⟩
theorem lw_p44 : lw_okq (⟨"FieldBasesModel", "madeOf", "(I)I"⟩, 24) := ⟨⟨by decide +kernel, by decide +kernel⟩, List.mem_of_getElem? (i := 820) (by decide +kernel), List.mem_of_getElem? (i := 1157) (by decide +kernel), List.mem_of_getElem? (i := 1158) (by decide +kernel)⟩
theorem lw_p45 : lw_okq (⟨"FieldBasesModel", "complexityNow", "()I"⟩, 24) := ⟨⟨by decide +kernel, by decide +kernel⟩, List.mem_of_getElem? (i := 820) (by decide +kernel), List.mem_of_getElem? (i := 1161) (by decide +kernel), List.mem_of_getElem? (i := 1162) (by decide +kernel)⟩
theorem lw_p46 : lw_okq (⟨"FieldBasesModel", "takesPowers", "(I)Z"⟩, 24) := ⟨⟨by decide +kernel, by decide +kernel⟩, List.mem_of_getElem? (i := 820) (by decide +kernel), List.mem_of_getElem? (i := 1172) (by decide +kernel), List.mem_of_getElem? (i := 1173) (by decide +kernel)⟩
theorem lw_p47 : lw_okq (⟨"FieldBasesModel", "weightNow", "()I"⟩, 24) := ⟨⟨by decide +kernel, by decide +kernel⟩, List.mem_of_getElem? (i := 820) (by decide +kernel), List.mem_of_getElem? (i := 1176) (by decide +kernel), List.mem_of_getElem? (i := 1177) (by decide +kernel)⟩
def lw_privs_3 : List (MethodName × Nat) := [(⟨"FieldBasesModel", "sizeOf", "(I)I"⟩, 24), (⟨"FieldBasesModel", "rooted", "(II)I"⟩, 24), (⟨"FieldBasesModel", "isPart", "(I)Z"⟩, 24), (⟨"FieldBasesModel", "traceTo", "(II)I"⟩, 24), (⟨"FieldBasesModel", "normTo", "(II)I"⟩, 24), (⟨"FieldBasesModel", "takesSubbase", "(I)V"⟩, 24), (⟨"FieldBasesModel", "rank", "(I)I"⟩, 24), (⟨"FieldBasesModel", "takesConjugates", "(I)V"⟩, 24), (⟨"FieldBasesModel", "isNormal", "(I)Z"⟩, 24), (⟨"FieldBasesModel", "isNormalOver", "(II)Z"⟩, 24), (⟨"FieldBasesModel", "someIsBase", "()V"⟩, 24), (⟨"FieldBasesModel", "laysCoordinates", "()V"⟩, 24), (⟨"FieldBasesModel", "madeOf", "(I)I"⟩, 24), (⟨"FieldBasesModel", "complexityNow", "()I"⟩, 24), (⟨"FieldBasesModel", "takesPowers", "(I)Z"⟩, 24), (⟨"FieldBasesModel", "weightNow", "()I"⟩, 24)]
theorem lw_r3 : ∀ q ∈ lw_privs_3, lw_okq q := List.forall_mem_cons.mpr ⟨lw_p32, List.forall_mem_cons.mpr ⟨lw_p33, List.forall_mem_cons.mpr ⟨lw_p34, List.forall_mem_cons.mpr ⟨lw_p35, List.forall_mem_cons.mpr ⟨lw_p36, List.forall_mem_cons.mpr ⟨lw_p37, List.forall_mem_cons.mpr ⟨lw_p38, List.forall_mem_cons.mpr ⟨lw_p39, List.forall_mem_cons.mpr ⟨lw_p40, List.forall_mem_cons.mpr ⟨lw_p41, List.forall_mem_cons.mpr ⟨lw_p42, List.forall_mem_cons.mpr ⟨lw_p43, List.forall_mem_cons.mpr ⟨lw_p44, List.forall_mem_cons.mpr ⟨lw_p45, List.forall_mem_cons.mpr ⟨lw_p46, List.forall_mem_cons.mpr ⟨lw_p47, fun _ h => absurd h List.not_mem_nil⟩⟩⟩⟩⟩⟩⟩⟩⟩⟩⟩⟩⟩⟩⟩⟩
theorem lw_p48 : lw_okq (⟨"FieldBasesModel", "readsElement", "()I"⟩, 24) := ⟨⟨by decide +kernel, by decide +kernel⟩, List.mem_of_getElem? (i := 820) (by decide +kernel), List.mem_of_getElem? (i := 1194) (by decide +kernel), List.mem_of_getElem? (i := 1195) (by decide +kernel)⟩
theorem lw_p49 : lw_okq (⟨"FieldBasesModel", "holds", "(I)I"⟩, 24) := ⟨⟨by decide +kernel, by decide +kernel⟩, List.mem_of_getElem? (i := 820) (by decide +kernel), List.mem_of_getElem? (i := 1202) (by decide +kernel), List.mem_of_getElem? (i := 1203) (by decide +kernel)⟩
theorem lw_p50 : lw_okq (⟨"FieldBasesModel", "baseAt", "(II)I"⟩, 24) := ⟨⟨by decide +kernel, by decide +kernel⟩, List.mem_of_getElem? (i := 820) (by decide +kernel), List.mem_of_getElem? (i := 1214) (by decide +kernel), List.mem_of_getElem? (i := 1215) (by decide +kernel)⟩
theorem lw_p51 : lw_okq (⟨"FieldBasesModel", "looksAt", "(I)V"⟩, 24) := ⟨⟨by decide +kernel, by decide +kernel⟩, List.mem_of_getElem? (i := 820) (by decide +kernel), List.mem_of_getElem? (i := 1218) (by decide +kernel), List.mem_of_getElem? (i := 1219) (by decide +kernel)⟩
theorem lw_p52 : lw_okq (⟨"FieldBasesModel", "isPlace", "(I)Z"⟩, 24) := ⟨⟨by decide +kernel, by decide +kernel⟩, List.mem_of_getElem? (i := 820) (by decide +kernel), List.mem_of_getElem? (i := 1230) (by decide +kernel), List.mem_of_getElem? (i := 1231) (by decide +kernel)⟩
theorem lw_p53 : lw_okq (⟨"FieldBasesModel", "takesBase", "(I)V"⟩, 24) := ⟨⟨by decide +kernel, by decide +kernel⟩, List.mem_of_getElem? (i := 820) (by decide +kernel), List.mem_of_getElem? (i := 1234) (by decide +kernel), List.mem_of_getElem? (i := 1235) (by decide +kernel)⟩
theorem lw_p54 : lw_okq (⟨"FieldBasesModel", "tellsCoordinates", "(I)I"⟩, 24) := ⟨⟨by decide +kernel, by decide +kernel⟩, List.mem_of_getElem? (i := 820) (by decide +kernel), List.mem_of_getElem? (i := 1258) (by decide +kernel), List.mem_of_getElem? (i := 1259) (by decide +kernel)⟩
theorem lw_p55 : lw_okq (⟨"FieldBasesModel", "isNormalBase", "()Z"⟩, 24) := ⟨⟨by decide +kernel, by decide +kernel⟩, List.mem_of_getElem? (i := 820) (by decide +kernel), List.mem_of_getElem? (i := 1270) (by decide +kernel), List.mem_of_getElem? (i := 1271) (by decide +kernel)⟩
theorem lw_p56 : lw_okq (⟨"FieldBasesModel", "takesDual", "(I)V"⟩, 24) := ⟨⟨by decide +kernel, by decide +kernel⟩, List.mem_of_getElem? (i := 820) (by decide +kernel), List.mem_of_getElem? (i := 1307) (by decide +kernel), List.mem_of_getElem? (i := 1308) (by decide +kernel)⟩
theorem lw_p57 : lw_okq (⟨"FieldBasesModel", "dualAt", "(II)I"⟩, 24) := ⟨⟨by decide +kernel, by decide +kernel⟩, List.mem_of_getElem? (i := 820) (by decide +kernel), List.mem_of_getElem? (i := 1311) (by decide +kernel), List.mem_of_getElem? (i := 1312) (by decide +kernel)⟩
theorem lw_p58 : lw_okq (⟨"FieldBasesModel", "placeOf", "(II)I"⟩, 24) := ⟨⟨by decide +kernel, by decide +kernel⟩, List.mem_of_getElem? (i := 820) (by decide +kernel), List.mem_of_getElem? (i := 1319) (by decide +kernel), List.mem_of_getElem? (i := 1320) (by decide +kernel)⟩
theorem lw_p59 : lw_okq (⟨"FieldBasesModel", "isUnder", "(I)Z"⟩, 24) := ⟨⟨by decide +kernel, by decide +kernel⟩, List.mem_of_getElem? (i := 820) (by decide +kernel), List.mem_of_getElem? (i := 1335) (by decide +kernel), List.mem_of_getElem? (i := 1336) (by decide +kernel)⟩
theorem lw_p60 : lw_okq (⟨"FieldBasesModel", "writes", "(I)V"⟩, 24) := ⟨⟨by decide +kernel, by decide +kernel⟩, List.mem_of_getElem? (i := 820) (by decide +kernel), List.mem_of_getElem? (i := 1367) (by decide +kernel), List.mem_of_getElem? (i := 1368) (by decide +kernel)⟩
theorem lw_p61 : lw_okq (⟨"FieldBasesModel", "lost", "()I"⟩, 24) := ⟨⟨by decide +kernel, by decide +kernel⟩, List.mem_of_getElem? (i := 820) (by decide +kernel), List.mem_of_getElem? (i := 1379) (by decide +kernel), List.mem_of_getElem? (i := 1380) (by decide +kernel)⟩
def lw_privs_4 : List (MethodName × Nat) := [(⟨"FieldBasesModel", "readsElement", "()I"⟩, 24), (⟨"FieldBasesModel", "holds", "(I)I"⟩, 24), (⟨"FieldBasesModel", "baseAt", "(II)I"⟩, 24), (⟨"FieldBasesModel", "looksAt", "(I)V"⟩, 24), (⟨"FieldBasesModel", "isPlace", "(I)Z"⟩, 24), (⟨"FieldBasesModel", "takesBase", "(I)V"⟩, 24), (⟨"FieldBasesModel", "tellsCoordinates", "(I)I"⟩, 24), (⟨"FieldBasesModel", "isNormalBase", "()Z"⟩, 24), (⟨"FieldBasesModel", "takesDual", "(I)V"⟩, 24), (⟨"FieldBasesModel", "dualAt", "(II)I"⟩, 24), (⟨"FieldBasesModel", "placeOf", "(II)I"⟩, 24), (⟨"FieldBasesModel", "isUnder", "(I)Z"⟩, 24), (⟨"FieldBasesModel", "writes", "(I)V"⟩, 24), (⟨"FieldBasesModel", "lost", "()I"⟩, 24)]
theorem lw_r4 : ∀ q ∈ lw_privs_4, lw_okq q := List.forall_mem_cons.mpr ⟨lw_p48, List.forall_mem_cons.mpr ⟨lw_p49, List.forall_mem_cons.mpr ⟨lw_p50, List.forall_mem_cons.mpr ⟨lw_p51, List.forall_mem_cons.mpr ⟨lw_p52, List.forall_mem_cons.mpr ⟨lw_p53, List.forall_mem_cons.mpr ⟨lw_p54, List.forall_mem_cons.mpr ⟨lw_p55, List.forall_mem_cons.mpr ⟨lw_p56, List.forall_mem_cons.mpr ⟨lw_p57, List.forall_mem_cons.mpr ⟨lw_p58, List.forall_mem_cons.mpr ⟨lw_p59, List.forall_mem_cons.mpr ⟨lw_p60, List.forall_mem_cons.mpr ⟨lw_p61, fun _ h => absurd h List.not_mem_nil⟩⟩⟩⟩⟩⟩⟩⟩⟩⟩⟩⟩⟩⟩
def lw_privs : List (MethodName × Nat) := lw_privs_1 ++ (lw_privs_2 ++ (lw_privs_3 ++ (lw_privs_4)))
def lw_tbl : List Cond := k2_sels lw_privs ++ tables_1
theorem lw_privs_ok : ∀ q ∈ lw_privs, lw_okq q := by
  show ∀ q ∈ lw_privs_1 ++ (lw_privs_2 ++ (lw_privs_3 ++ (lw_privs_4))), lw_okq q
  exact List.forall_mem_append.mpr ⟨lw_r1, List.forall_mem_append.mpr ⟨lw_r2, List.forall_mem_append.mpr ⟨lw_r3, lw_r4⟩⟩⟩
-- ===== end of PART A; then your names; then what follows =====
end
section
def RX0 : String := "FieldBases$Field"
def TX0 : u_T := fun k => match k with
  | 0 => ("FieldBases$Field", "modulus", "I", false)
  | 1 => ("FieldBases$Field", "degree", "I", false)
  | 2 => ("FieldBases$Field", "size", "I", false)
  | 3 => ("FieldBases$Field", "powers", "[I", true)
  | 4 => ("FieldBases$Field", "logs", "[I", true)
  | _ => ("FieldBases$Field", "tracedOnes", "I", false)
def tyX0 : Nat → FieldType := fun k => match k with
  | 0 => .int
  | 1 => .int
  | 2 => .int
  | 3 => .array .int
  | 4 => .array .int
  | _ => .int
abbrev wsX00 : List Cond := u_ws RX0 TX0 6
theorem nmX0 : ∀ a, a < 6 → ∀ b, b < 6 → a ≠ b → (TX0 a).2.1 ≠ (TX0 b).2.1 := by decide +kernel
theorem tyX0_ok : ∀ k, k < 6 → parseFieldDescriptor (TX0 k).2.2.1 = some (tyX0 k) := by decide +kernel
abbrev cX0_init : ByteArray := prog_2_method_1_code
def yX0_init : MethodName := ⟨RX0, "<init>", "()V"⟩
abbrev cX0_settle : ByteArray := prog_2_method_2_code
def yX0_settle : MethodName := ⟨RX0, "settle", "(I)V"⟩
abbrev cX0_fills : ByteArray := prog_2_method_3_code
def yX0_fills : MethodName := ⟨RX0, "fills", "(I)Z"⟩
abbrev cX0_multiplied : ByteArray := prog_2_method_4_code
def yX0_multiplied : MethodName := ⟨RX0, "multiplied", "(II)I"⟩
abbrev cX0_times : ByteArray := prog_2_method_5_code
def yX0_times : MethodName := ⟨RX0, "times", "(II)I"⟩
abbrev cX0_turned : ByteArray := prog_2_method_6_code
def yX0_turned : MethodName := ⟨RX0, "turned", "(I)I"⟩
abbrev cX0_raised : ByteArray := prog_2_method_7_code
def yX0_raised : MethodName := ⟨RX0, "raised", "(II)I"⟩
abbrev cX0_squared : ByteArray := prog_2_method_8_code
def yX0_squared : MethodName := ⟨RX0, "squared", "(II)I"⟩
abbrev cX0_orderOf : ByteArray := prog_2_method_9_code
def yX0_orderOf : MethodName := ⟨RX0, "orderOf", "(I)I"⟩
abbrev cX0_generates : ByteArray := prog_2_method_10_code
def yX0_generates : MethodName := ⟨RX0, "generates", "(I)Z"⟩
abbrev cX0_howManyOfOrder : ByteArray := prog_2_method_11_code
def yX0_howManyOfOrder : MethodName := ⟨RX0, "howManyOfOrder", "(I)I"⟩
abbrev cX0_sizeOf : ByteArray := prog_2_method_12_code
def yX0_sizeOf : MethodName := ⟨RX0, "sizeOf", "(I)I"⟩
abbrev cX0_hasSubfield : ByteArray := prog_2_method_13_code
def yX0_hasSubfield : MethodName := ⟨RX0, "hasSubfield", "(I)Z"⟩
abbrev cX0_tracedTo : ByteArray := prog_2_method_14_code
def yX0_tracedTo : MethodName := ⟨RX0, "tracedTo", "(II)I"⟩
abbrev cX0_tracedToOne : ByteArray := prog_2_method_15_code
def yX0_tracedToOne : MethodName := ⟨RX0, "tracedToOne", "(I)I"⟩
abbrev cX0_normedTo : ByteArray := prog_2_method_16_code
def yX0_normedTo : MethodName := ⟨RX0, "normedTo", "(II)I"⟩
abbrev cX0_valueAt : ByteArray := prog_2_method_17_code
def yX0_valueAt : MethodName := ⟨RX0, "valueAt", "(II)I"⟩
abbrev cX0_fillsPowers : ByteArray := prog_2_method_18_code
def yX0_fillsPowers : MethodName := ⟨RX0, "fillsPowers", "([II)V"⟩
abbrev cX0_fillsConjugates : ByteArray := prog_2_method_19_code
def yX0_fillsConjugates : MethodName := ⟨RX0, "fillsConjugates", "([II)V"⟩
def RX1 : String := "FieldBases$Frame"
def TX1 : u_T := fun k => match k with
  | 0 => ("FieldBases$Frame", "leads", "[I", true)
  | 1 => ("FieldBases$Frame", "shares", "[I", true)
  | _ => ("FieldBases$Frame", "rank", "I", false)
def tyX1 : Nat → FieldType := fun k => match k with
  | 0 => .array .int
  | 1 => .array .int
  | _ => .int
abbrev wsX10 : List Cond := u_ws RX1 TX1 3
theorem nmX1 : ∀ a, a < 3 → ∀ b, b < 3 → a ≠ b → (TX1 a).2.1 ≠ (TX1 b).2.1 := by decide +kernel
theorem tyX1_ok : ∀ k, k < 3 → parseFieldDescriptor (TX1 k).2.2.1 = some (tyX1 k) := by decide +kernel
abbrev cX1_init : ByteArray := prog_3_method_1_code
def yX1_init : MethodName := ⟨RX1, "<init>", "()V"⟩
abbrev cX1_empties : ByteArray := prog_3_method_2_code
def yX1_empties : MethodName := ⟨RX1, "empties", "()V"⟩
abbrev cX1_takes : ByteArray := prog_3_method_3_code
def yX1_takes : MethodName := ⟨RX1, "takes", "(I)Z"⟩
abbrev cX1_holds : ByteArray := prog_3_method_4_code
def yX1_holds : MethodName := ⟨RX1, "holds", "([II)Z"⟩
abbrev cX1_located : ByteArray := prog_3_method_5_code
def yX1_located : MethodName := ⟨RX1, "located", "(I)I"⟩
def RX2 : String := "FieldBases$Measure"
def TX2 : u_T := fun k => match k with
  | 0 => ("FieldBases$Measure", "numbers", "LFieldBases$Field;", true)
  | _ => ("FieldBases$Measure", "frame", "LFieldBases$Frame;", true)
def tyX2 : Nat → FieldType := fun k => match k with
  | 0 => .object "FieldBases$Field"
  | _ => .object "FieldBases$Frame"
abbrev wsX20 : List Cond := u_ws RX2 TX2 2
theorem nmX2 : ∀ a, a < 2 → ∀ b, b < 2 → a ≠ b → (TX2 a).2.1 ≠ (TX2 b).2.1 := by decide +kernel
theorem tyX2_ok : ∀ k, k < 2 → parseFieldDescriptor (TX2 k).2.2.1 = some (tyX2 k) := by decide +kernel
abbrev cX2_init : ByteArray := prog_4_method_1_code
def yX2_init : MethodName := ⟨RX2, "<init>", "()V"⟩
abbrev cX2_complexityOf : ByteArray := prog_4_method_2_code
def yX2_complexityOf : MethodName := ⟨RX2, "complexityOf", "([I)I"⟩
abbrev cX2_bitsOfFirst : ByteArray := prog_4_method_3_code
def yX2_bitsOfFirst : MethodName := ⟨RX2, "bitsOfFirst", "([I)I"⟩
abbrev cX2_bitsOfAll : ByteArray := prog_4_method_4_code
def yX2_bitsOfAll : MethodName := ⟨RX2, "bitsOfAll", "([I)I"⟩
abbrev cX2_whoseNormal : ByteArray := prog_4_method_5_code
def yX2_whoseNormal : MethodName := ⟨RX2, "whoseNormal", "([I)I"⟩
abbrev cX2_sumAt : ByteArray := prog_4_method_6_code
def yX2_sumAt : MethodName := ⟨RX2, "sumAt", "([II)I"⟩
abbrev cX2_placeOf : ByteArray := prog_4_method_7_code
def yX2_placeOf : MethodName := ⟨RX2, "placeOf", "([II)I"⟩
abbrev cX2_leastPolynomial : ByteArray := prog_4_method_8_code
def yX2_leastPolynomial : MethodName := ⟨RX2, "leastPolynomial", "(I)I"⟩
abbrev cX2_fillsSubbase : ByteArray := prog_4_method_9_code
def yX2_fillsSubbase : MethodName := ⟨RX2, "fillsSubbase", "([II)V"⟩
abbrev cX2_fillsOverSubbase : ByteArray := prog_4_method_10_code
def yX2_fillsOverSubbase : MethodName := ⟨RX2, "fillsOverSubbase", "([I[III)V"⟩
abbrev cX2_fillsTower : ByteArray := prog_4_method_11_code
def yX2_fillsTower : MethodName := ⟨RX2, "fillsTower", "([I[III)V"⟩
abbrev cX2_traceBits : ByteArray := prog_4_method_12_code
def yX2_traceBits : MethodName := ⟨RX2, "traceBits", "([II)I"⟩
abbrev cX2_fillsDual : ByteArray := prog_4_method_13_code
def yX2_fillsDual : MethodName := ⟨RX2, "fillsDual", "([I[I)V"⟩
abbrev cX2_fillsPlaces : ByteArray := prog_4_method_14_code
def yX2_fillsPlaces : MethodName := ⟨RX2, "fillsPlaces", "([I[II[I)Z"⟩
def RX3 : String := "FieldBases$Past"
def TX3 : u_T := fun k => match k with
  | 0 => ("FieldBases$Past", "states", "[LFieldBases$State;", true)
  | 1 => ("FieldBases$Past", "next", "I", false)
  | _ => ("FieldBases$Past", "held", "I", false)
def tyX3 : Nat → FieldType := fun k => match k with
  | 0 => .array (.object "FieldBases$State")
  | 1 => .int
  | _ => .int
abbrev wsX30 : List Cond := u_ws RX3 TX3 3
theorem nmX3 : ∀ a, a < 3 → ∀ b, b < 3 → a ≠ b → (TX3 a).2.1 ≠ (TX3 b).2.1 := by decide +kernel
theorem tyX3_ok : ∀ k, k < 3 → parseFieldDescriptor (TX3 k).2.2.1 = some (tyX3 k) := by decide +kernel
abbrev cX3_init : ByteArray := prog_5_method_1_code
def yX3_init : MethodName := ⟨RX3, "<init>", "()V"⟩
abbrev cX3_remembers : ByteArray := prog_5_method_2_code
def yX3_remembers : MethodName := ⟨RX3, "remembers", "(LFieldBases$State;)V"⟩
abbrev cX3_restores : ByteArray := prog_5_method_3_code
def yX3_restores : MethodName := ⟨RX3, "restores", "(LFieldBases$State;)Z"⟩
def RX4 : String := "FieldBases$Polynomials"
def TX4 : u_T := fun k => match k with
  | _ => ("", "", "", false)
def tyX4 : Nat → FieldType := fun k => match k with
  | _ => .int
abbrev wsX40 : List Cond := u_ws RX4 TX4 0
theorem nmX4 : ∀ a, a < 0 → ∀ b, b < 0 → a ≠ b → (TX4 a).2.1 ≠ (TX4 b).2.1 := by decide +kernel
theorem tyX4_ok : ∀ k, k < 0 → parseFieldDescriptor (TX4 k).2.2.1 = some (tyX4 k) := by decide +kernel
abbrev cX4_degreeOf : ByteArray := prog_6_method_2_code
def yX4_degreeOf : MethodName := ⟨RX4, "degreeOf", "(I)I"⟩
abbrev cX4_remainder : ByteArray := prog_6_method_3_code
def yX4_remainder : MethodName := ⟨RX4, "remainder", "(II)I"⟩
abbrev cX4_quotient : ByteArray := prog_6_method_4_code
def yX4_quotient : MethodName := ⟨RX4, "quotient", "(II)I"⟩
abbrev cX4_isIrreducible : ByteArray := prog_6_method_5_code
def yX4_isIrreducible : MethodName := ⟨RX4, "isIrreducible", "(I)Z"⟩
abbrev cX4_isGeneratedByX : ByteArray := prog_6_method_6_code
def yX4_isGeneratedByX : MethodName := ⟨RX4, "isGeneratedByX", "(I)Z"⟩
def RX5 : String := "FieldBases$Primes"
def TX5 : u_T := fun k => match k with
  | _ => ("", "", "", false)
def tyX5 : Nat → FieldType := fun k => match k with
  | _ => .int
abbrev wsX50 : List Cond := u_ws RX5 TX5 0
theorem nmX5 : ∀ a, a < 0 → ∀ b, b < 0 → a ≠ b → (TX5 a).2.1 ≠ (TX5 b).2.1 := by decide +kernel
theorem tyX5_ok : ∀ k, k < 0 → parseFieldDescriptor (TX5 k).2.2.1 = some (tyX5 k) := by decide +kernel
abbrev cX5_isPrime : ByteArray := prog_7_method_2_code
def yX5_isPrime : MethodName := ⟨RX5, "isPrime", "(I)Z"⟩
abbrev cX5_powersOfTwo : ByteArray := prog_7_method_3_code
def yX5_powersOfTwo : MethodName := ⟨RX5, "powersOfTwo", "(I)I"⟩
def RX6 : String := "FieldBases$Row"
def TX6 : u_T := fun k => match k with
  | 0 => ("FieldBases$Row", "numbers", "[J", true)
  | _ => ("FieldBases$Row", "length", "I", false)
def tyX6 : Nat → FieldType := fun k => match k with
  | 0 => .array .long
  | _ => .int
abbrev wsX60 : List Cond := u_ws RX6 TX6 2
theorem nmX6 : ∀ a, a < 2 → ∀ b, b < 2 → a ≠ b → (TX6 a).2.1 ≠ (TX6 b).2.1 := by decide +kernel
theorem tyX6_ok : ∀ k, k < 2 → parseFieldDescriptor (TX6 k).2.2.1 = some (tyX6 k) := by decide +kernel
abbrev cX6_init : ByteArray := prog_8_method_1_code
def yX6_init : MethodName := ⟨RX6, "<init>", "()V"⟩
abbrev cX6_empties : ByteArray := prog_8_method_2_code
def yX6_empties : MethodName := ⟨RX6, "empties", "()V"⟩
abbrev cX6_puts : ByteArray := prog_8_method_3_code
def yX6_puts : MethodName := ⟨RX6, "puts", "(J)V"⟩
abbrev cX6_putsAll : ByteArray := prog_8_method_4_code
def yX6_putsAll : MethodName := ⟨RX6, "putsAll", "([II)V"⟩
def RX7 : String := "FieldBases$State"
def TX7 : u_T := fun k => match k with
  | 0 => ("FieldBases$State", "modulus", "I", false)
  | _ => ("FieldBases$State", "slots", "[[I", true)
def tyX7 : Nat → FieldType := fun k => match k with
  | 0 => .int
  | _ => .array (.array .int)
abbrev wsX70 : List Cond := u_ws RX7 TX7 2
theorem nmX7 : ∀ a, a < 2 → ∀ b, b < 2 → a ≠ b → (TX7 a).2.1 ≠ (TX7 b).2.1 := by decide +kernel
theorem tyX7_ok : ∀ k, k < 2 → parseFieldDescriptor (TX7 k).2.2.1 = some (tyX7 k) := by decide +kernel
abbrev cX7_init : ByteArray := prog_9_method_1_code
def yX7_init : MethodName := ⟨RX7, "<init>", "()V"⟩
abbrev cX7_start : ByteArray := prog_9_method_2_code
def yX7_start : MethodName := ⟨RX7, "start", "(I)V"⟩
abbrev cX7_becomes : ByteArray := prog_9_method_3_code
def yX7_becomes : MethodName := ⟨RX7, "becomes", "(LFieldBases$State;)V"⟩
abbrev cX7_setsSlot : ByteArray := prog_9_method_4_code
def yX7_setsSlot : MethodName := ⟨RX7, "setsSlot", "(I[I)V"⟩
abbrev cX7_copiesSlot : ByteArray := prog_9_method_5_code
def yX7_copiesSlot : MethodName := ⟨RX7, "copiesSlot", "(I[I)V"⟩
abbrev cX7_isPlain : ByteArray := prog_9_method_6_code
def yX7_isPlain : MethodName := ⟨RX7, "isPlain", "(II)Z"⟩
def RX8 : String := "FieldBases$Text"
def TX8 : u_T := fun k => match k with
  | 0 => ("FieldBases$Text", "signs", "[I", true)
  | 1 => ("FieldBases$Text", "line", "[I", true)
  | 2 => ("FieldBases$Text", "length", "I", false)
  | _ => ("FieldBases$Text", "position", "I", false)
def tyX8 : Nat → FieldType := fun k => match k with
  | 0 => .array .int
  | 1 => .array .int
  | 2 => .int
  | _ => .int
abbrev wsX80 : List Cond := u_ws RX8 TX8 4
theorem nmX8 : ∀ a, a < 4 → ∀ b, b < 4 → a ≠ b → (TX8 a).2.1 ≠ (TX8 b).2.1 := by decide +kernel
theorem tyX8_ok : ∀ k, k < 4 → parseFieldDescriptor (TX8 k).2.2.1 = some (tyX8 k) := by decide +kernel
abbrev cX8_init : ByteArray := prog_10_method_1_code
def yX8_init : MethodName := ⟨RX8, "<init>", "()V"⟩
abbrev cX8_takes : ByteArray := prog_10_method_2_code
def yX8_takes : MethodName := ⟨RX8, "takes", "(I)Z"⟩
abbrev cX8_shortens : ByteArray := prog_10_method_3_code
def yX8_shortens : MethodName := ⟨RX8, "shortens", "(I)Z"⟩
abbrev cX8_empties : ByteArray := prog_10_method_4_code
def yX8_empties : MethodName := ⟨RX8, "empties", "()V"⟩
abbrev cX8_signAt : ByteArray := prog_10_method_5_code
def yX8_signAt : MethodName := ⟨RX8, "signAt", "(I)I"⟩
abbrev cX8_polynomialRead : ByteArray := prog_10_method_6_code
def yX8_polynomialRead : MethodName := ⟨RX8, "polynomialRead", "()I"⟩
abbrev cX8_powerRead : ByteArray := prog_10_method_7_code
def yX8_powerRead : MethodName := ⟨RX8, "powerRead", "(I)I"⟩
abbrev cX8_elementsRead : ByteArray := prog_10_method_8_code
def yX8_elementsRead : MethodName := ⟨RX8, "elementsRead", "([III)I"⟩
abbrev cX8_numberRead : ByteArray := prog_10_method_9_code
def yX8_numberRead : MethodName := ⟨RX8, "numberRead", "()I"⟩
abbrev cX8_isDigit : ByteArray := prog_10_method_10_code
def yX8_isDigit : MethodName := ⟨RX8, "isDigit", "(I)Z"⟩
abbrev cX8_signOf : ByteArray := prog_10_method_11_code
def yX8_signOf : MethodName := ⟨RX8, "signOf", "(II)I"⟩
abbrev cX8_puts : ByteArray := prog_10_method_12_code
def yX8_puts : MethodName := ⟨RX8, "puts", "(II)I"⟩
def RX9 : String := "FieldBases"
def TX9 : u_T := fun k => match k with
  | 0 => ("FieldBases", "measure", "LFieldBases$Measure;", true)
  | 1 => ("FieldBases", "numbers", "LFieldBases$Field;", true)
  | 2 => ("FieldBases", "frame", "LFieldBases$Frame;", true)
  | 3 => ("FieldBases", "now", "LFieldBases$State;", true)
  | 4 => ("FieldBases", "kept", "LFieldBases$State;", true)
  | 5 => ("FieldBases", "past", "LFieldBases$Past;", true)
  | 6 => ("FieldBases", "text", "LFieldBases$Text;", true)
  | 7 => ("FieldBases", "told", "LFieldBases$Row;", true)
  | 8 => ("FieldBases", "fresh", "[I", true)
  | 9 => ("FieldBases", "second", "[I", true)
  | _ => ("FieldBases", "keeping", "Z", false)
def tyX9 : Nat → FieldType := fun k => match k with
  | 0 => .object "FieldBases$Measure"
  | 1 => .object "FieldBases$Field"
  | 2 => .object "FieldBases$Frame"
  | 3 => .object "FieldBases$State"
  | 4 => .object "FieldBases$State"
  | 5 => .object "FieldBases$Past"
  | 6 => .object "FieldBases$Text"
  | 7 => .object "FieldBases$Row"
  | 8 => .array .int
  | 9 => .array .int
  | _ => .boolean
abbrev wsX90 : List Cond := u_ws RX9 TX9 11
theorem nmX9 : ∀ a, a < 11 → ∀ b, b < 11 → a ≠ b → (TX9 a).2.1 ≠ (TX9 b).2.1 := by decide +kernel
theorem tyX9_ok : ∀ k, k < 11 → parseFieldDescriptor (TX9 k).2.2.1 = some (tyX9 k) := by decide +kernel
abbrev cX9_init : ByteArray := prog_1_method_1_code
def yX9_init : MethodName := ⟨RX9, "<init>", "()V"⟩
abbrev cX9_sign : ByteArray := prog_1_method_2_code
def yX9_sign : MethodName := ⟨RX9, "sign", "(I)I"⟩
abbrev cX9_end : ByteArray := prog_1_method_3_code
def yX9_end : MethodName := ⟨RX9, "end", "(I)Z"⟩
abbrev cX9_field : ByteArray := prog_1_method_4_code
def yX9_field : MethodName := ⟨RX9, "field", "()I"⟩
abbrev cX9_poly : ByteArray := prog_1_method_5_code
def yX9_poly : MethodName := ⟨RX9, "poly", "(I)I"⟩
abbrev cX9_product : ByteArray := prog_1_method_6_code
def yX9_product : MethodName := ⟨RX9, "product", "(II)I"⟩
abbrev cX9_inverse : ByteArray := prog_1_method_7_code
def yX9_inverse : MethodName := ⟨RX9, "inverse", "(I)I"⟩
abbrev cX9_power : ByteArray := prog_1_method_8_code
def yX9_power : MethodName := ⟨RX9, "power", "(II)I"⟩
abbrev cX9_order : ByteArray := prog_1_method_9_code
def yX9_order : MethodName := ⟨RX9, "order", "(I)I"⟩
abbrev cX9_conjugate : ByteArray := prog_1_method_10_code
def yX9_conjugate : MethodName := ⟨RX9, "conjugate", "(II)I"⟩
abbrev cX9_conjugates : ByteArray := prog_1_method_11_code
def yX9_conjugates : MethodName := ⟨RX9, "conjugates", "(I)I"⟩
abbrev cX9_least : ByteArray := prog_1_method_12_code
def yX9_least : MethodName := ⟨RX9, "least", "(I)I"⟩
abbrev cX9_trace : ByteArray := prog_1_method_13_code
def yX9_trace : MethodName := ⟨RX9, "trace", "(II)I"⟩
abbrev cX9_norm : ByteArray := prog_1_method_14_code
def yX9_norm : MethodName := ⟨RX9, "norm", "(II)I"⟩
abbrev cX9_root : ByteArray := prog_1_method_15_code
def yX9_root : MethodName := ⟨RX9, "root", "(I)I"⟩
abbrev cX9_solves : ByteArray := prog_1_method_16_code
def yX9_solves : MethodName := ⟨RX9, "solves", "(I)I"⟩
abbrev cX9_log : ByteArray := prog_1_method_17_code
def yX9_log : MethodName := ⟨RX9, "log", "(II)I"⟩
abbrev cX9_traced : ByteArray := prog_1_method_18_code
def yX9_traced : MethodName := ⟨RX9, "traced", "(II)I"⟩
abbrev cX9_factors : ByteArray := prog_1_method_19_code
def yX9_factors : MethodName := ⟨RX9, "factors", "(I)I"⟩
abbrev cX9_orders : ByteArray := prog_1_method_20_code
def yX9_orders : MethodName := ⟨RX9, "orders", "()I"⟩
abbrev cX9_quadratic : ByteArray := prog_1_method_21_code
def yX9_quadratic : MethodName := ⟨RX9, "quadratic", "(III)I"⟩
abbrev cX9_classes : ByteArray := prog_1_method_22_code
def yX9_classes : MethodName := ⟨RX9, "classes", "()I"⟩
abbrev cX9_generators : ByteArray := prog_1_method_23_code
def yX9_generators : MethodName := ⟨RX9, "generators", "()I"⟩
abbrev cX9_subfield : ByteArray := prog_1_method_24_code
def yX9_subfield : MethodName := ⟨RX9, "subfield", "(I)I"⟩
abbrev cX9_normal : ByteArray := prog_1_method_25_code
def yX9_normal : MethodName := ⟨RX9, "normal", "(I)I"⟩
abbrev cX9_normals : ByteArray := prog_1_method_26_code
def yX9_normals : MethodName := ⟨RX9, "normals", "()I"⟩
abbrev cX9_complete : ByteArray := prog_1_method_27_code
def yX9_complete : MethodName := ⟨RX9, "complete", "(I)I"⟩
abbrev cX9_leastNormal : ByteArray := prog_1_method_28_code
def yX9_leastNormal : MethodName := ⟨RX9, "leastNormal", "()I"⟩
abbrev cX9_leastPowers : ByteArray := prog_1_method_29_code
def yX9_leastPowers : MethodName := ⟨RX9, "leastPowers", "()I"⟩
abbrev cX9_types : ByteArray := prog_1_method_30_code
def yX9_types : MethodName := ⟨RX9, "types", "(I)I"⟩
abbrev cX9_base : ByteArray := prog_1_method_31_code
def yX9_base : MethodName := ⟨RX9, "base", "(I)I"⟩
abbrev cX9_makes : ByteArray := prog_1_method_32_code
def yX9_makes : MethodName := ⟨RX9, "makes", "(III)I"⟩
abbrev cX9_copies : ByteArray := prog_1_method_33_code
def yX9_copies : MethodName := ⟨RX9, "copies", "(II)I"⟩
abbrev cX9_scales : ByteArray := prog_1_method_34_code
def yX9_scales : MethodName := ⟨RX9, "scales", "(II)I"⟩
abbrev cX9_moves : ByteArray := prog_1_method_35_code
def yX9_moves : MethodName := ⟨RX9, "moves", "(III)I"⟩
abbrev cX9_adds : ByteArray := prog_1_method_36_code
def yX9_adds : MethodName := ⟨RX9, "adds", "(III)I"⟩
abbrev cX9_at : ByteArray := prog_1_method_37_code
def yX9_at : MethodName := ⟨RX9, "at", "(II)I"⟩
abbrev cX9_coordinates : ByteArray := prog_1_method_38_code
def yX9_coordinates : MethodName := ⟨RX9, "coordinates", "(II)I"⟩
abbrev cX9_made : ByteArray := prog_1_method_39_code
def yX9_made : MethodName := ⟨RX9, "made", "(II)I"⟩
abbrev cX9_change : ByteArray := prog_1_method_40_code
def yX9_change : MethodName := ⟨RX9, "change", "(II)I"⟩
abbrev cX9_table : ByteArray := prog_1_method_41_code
def yX9_table : MethodName := ⟨RX9, "table", "(III)I"⟩
abbrev cX9_complexity : ByteArray := prog_1_method_42_code
def yX9_complexity : MethodName := ⟨RX9, "complexity", "(I)I"⟩
abbrev cX9_by : ByteArray := prog_1_method_43_code
def yX9_by : MethodName := ⟨RX9, "by", "(II)I"⟩
abbrev cX9_squares : ByteArray := prog_1_method_44_code
def yX9_squares : MethodName := ⟨RX9, "squares", "(I)I"⟩
abbrev cX9_productIn : ByteArray := prog_1_method_45_code
def yX9_productIn : MethodName := ⟨RX9, "productIn", "(III)I"⟩
abbrev cX9_far : ByteArray := prog_1_method_46_code
def yX9_far : MethodName := ⟨RX9, "far", "(III)I"⟩
abbrev cX9_steady : ByteArray := prog_1_method_47_code
def yX9_steady : MethodName := ⟨RX9, "steady", "(I)I"⟩
abbrev cX9_bestScale : ByteArray := prog_1_method_48_code
def yX9_bestScale : MethodName := ⟨RX9, "bestScale", "(I)I"⟩
abbrev cX9_same : ByteArray := prog_1_method_49_code
def yX9_same : MethodName := ⟨RX9, "same", "(II)I"⟩
abbrev cX9_dual : ByteArray := prog_1_method_50_code
def yX9_dual : MethodName := ⟨RX9, "dual", "(II)I"⟩
abbrev cX9_weakly : ByteArray := prog_1_method_51_code
def yX9_weakly : MethodName := ⟨RX9, "weakly", "(I)I"⟩
abbrev cX9_traces : ByteArray := prog_1_method_52_code
def yX9_traces : MethodName := ⟨RX9, "traces", "(I)I"⟩
abbrev cX9_tower : ByteArray := prog_1_method_53_code
def yX9_tower : MethodName := ⟨RX9, "tower", "(III)I"⟩
abbrev cX9_fits : ByteArray := prog_1_method_54_code
def yX9_fits : MethodName := ⟨RX9, "fits", "(I)I"⟩
abbrev cX9_maps : ByteArray := prog_1_method_55_code
def yX9_maps : MethodName := ⟨RX9, "maps", "(III)I"⟩
abbrev cX9_irreducibles : ByteArray := prog_1_method_56_code
def yX9_irreducibles : MethodName := ⟨RX9, "irreducibles", "(I)I"⟩
abbrev cX9_undo : ByteArray := prog_1_method_57_code
def yX9_undo : MethodName := ⟨RX9, "undo", "()I"⟩
abbrev cX9_keeps : ByteArray := prog_1_method_58_code
def yX9_keeps : MethodName := ⟨RX9, "keeps", "()I"⟩
abbrev cX9_back : ByteArray := prog_1_method_59_code
def yX9_back : MethodName := ⟨RX9, "back", "()I"⟩
abbrev cX9_written : ByteArray := prog_1_method_60_code
def yX9_written : MethodName := ⟨RX9, "written", "(I)I"⟩
abbrev cX9_count : ByteArray := prog_1_method_61_code
def yX9_count : MethodName := ⟨RX9, "count", "(I)I"⟩
abbrev cX9_row : ByteArray := prog_1_method_62_code
def yX9_row : MethodName := ⟨RX9, "row", "(I)J"⟩
abbrev cX9_isElement : ByteArray := prog_1_method_63_code
def yX9_isElement : MethodName := ⟨RX9, "isElement", "(I)Z"⟩
abbrev cX9_isSlot : ByteArray := prog_1_method_64_code
def yX9_isSlot : MethodName := ⟨RX9, "isSlot", "(I)Z"⟩
abbrev cX9_isPlace : ByteArray := prog_1_method_65_code
def yX9_isPlace : MethodName := ⟨RX9, "isPlace", "(I)Z"⟩
abbrev cX9_tellsField : ByteArray := prog_1_method_66_code
def yX9_tellsField : MethodName := ⟨RX9, "tellsField", "(I)I"⟩
abbrev cX9_setsSlot : ByteArray := prog_1_method_67_code
def yX9_setsSlot : MethodName := ⟨RX9, "setsSlot", "(I[I)I"⟩
abbrev cX9_followsState : ByteArray := prog_1_method_68_code
def yX9_followsState : MethodName := ⟨RX9, "followsState", "()V"⟩
abbrev cX9_tellsLocated : ByteArray := prog_1_method_69_code
def yX9_tellsLocated : MethodName := ⟨RX9, "tellsLocated", "([I)I"⟩
abbrev cX9_normalSlots : ByteArray := prog_1_method_70_code
def yX9_normalSlots : MethodName := ⟨RX9, "normalSlots", "()I"⟩
abbrev cX9_plainSlots : ByteArray := prog_1_method_71_code
def yX9_plainSlots : MethodName := ⟨RX9, "plainSlots", "()I"⟩
def RX10 : String := "FieldBasesModel"
def TX10 : u_T := fun k => match k with
  | 0 => ("FieldBasesModel", "w", "[I", true)
  | 1 => ("FieldBasesModel", "aside", "[I", true)
  | 2 => ("FieldBasesModel", "kept", "[I", true)
  | 3 => ("FieldBasesModel", "isKept", "Z", false)
  | 4 => ("FieldBasesModel", "past", "[I", true)
  | 5 => ("FieldBasesModel", "pastMany", "I", false)
  | 6 => ("FieldBasesModel", "text", "[B", true)
  | 7 => ("FieldBasesModel", "typed", "I", false)
  | 8 => ("FieldBasesModel", "row", "[J", true)
  | 9 => ("FieldBasesModel", "rowMany", "I", false)
  | 10 => ("FieldBasesModel", "thrown", "I", false)
  | 11 => ("FieldBasesModel", "m", "I", false)
  | 12 => ("FieldBasesModel", "q", "I", false)
  | 13 => ("FieldBasesModel", "some", "[I", true)
  | 14 => ("FieldBasesModel", "steps", "[I", true)
  | 15 => ("FieldBasesModel", "sub", "[I", true)
  | 16 => ("FieldBasesModel", "base", "[I", true)
  | 17 => ("FieldBasesModel", "coordOf", "[I", true)
  | 18 => ("FieldBasesModel", "size", "I", false)
  | 19 => ("FieldBasesModel", "here", "I", false)
  | 20 => ("FieldBasesModel", "wrong", "I", false)
  | 21 => ("FieldBasesModel", "dualOf", "[I", true)
  | 22 => ("FieldBasesModel", "page", "[B", true)
  | _ => ("FieldBasesModel", "pageMany", "I", false)
def tyX10 : Nat → FieldType := fun k => match k with
  | 0 => .array .int
  | 1 => .array .int
  | 2 => .array .int
  | 3 => .boolean
  | 4 => .array .int
  | 5 => .int
  | 6 => .array .byte
  | 7 => .int
  | 8 => .array .long
  | 9 => .int
  | 10 => .int
  | 11 => .int
  | 12 => .int
  | 13 => .array .int
  | 14 => .array .int
  | 15 => .array .int
  | 16 => .array .int
  | 17 => .array .int
  | 18 => .int
  | 19 => .int
  | 20 => .int
  | 21 => .array .int
  | 22 => .array .byte
  | _ => .int
abbrev wsX100 : List Cond := u_ws RX10 TX10 24
theorem nmX10 : ∀ a, a < 24 → ∀ b, b < 24 → a ≠ b → (TX10 a).2.1 ≠ (TX10 b).2.1 := by decide +kernel
theorem tyX10_ok : ∀ k, k < 24 → parseFieldDescriptor (TX10 k).2.2.1 = some (tyX10 k) := by decide +kernel
abbrev cX10_init : ByteArray := prog_12_method_1_code
def yX10_init : MethodName := ⟨RX10, "<init>", "()V"⟩
abbrev cX10_thrown : ByteArray := prog_12_method_2_code
def yX10_thrown : MethodName := ⟨RX10, "thrown", "()I"⟩
abbrev cX10_in : ByteArray := prog_12_method_3_code
def yX10_in : MethodName := ⟨RX10, "in", "(JJJ)Z"⟩
abbrev cX10_lost : ByteArray := prog_12_method_4_code
def yX10_lost : MethodName := ⟨RX10, "lost", "()I"⟩
abbrev cX10_tell : ByteArray := prog_12_method_5_code
def yX10_tell : MethodName := ⟨RX10, "tell", "(J)V"⟩
abbrev cX10_bits : ByteArray := prog_12_method_6_code
def yX10_bits : MethodName := ⟨RX10, "bits", "(I)I"⟩
abbrev cX10_sign : ByteArray := prog_12_method_7_code
def yX10_sign : MethodName := ⟨RX10, "sign", "(I)I"⟩
abbrev cX10_end : ByteArray := prog_12_method_8_code
def yX10_end : MethodName := ⟨RX10, "end", "(I)Z"⟩
abbrev cX10_degree : ByteArray := prog_12_method_9_code
def yX10_degree : MethodName := ⟨RX10, "degree", "(I)I"⟩
abbrev cX10_modulo : ByteArray := prog_12_method_10_code
def yX10_modulo : MethodName := ⟨RX10, "modulo", "(II)I"⟩
abbrev cX10_timesPoly : ByteArray := prog_12_method_11_code
def yX10_timesPoly : MethodName := ⟨RX10, "timesPoly", "(II)I"⟩
abbrev cX10_quotient : ByteArray := prog_12_method_12_code
def yX10_quotient : MethodName := ⟨RX10, "quotient", "(II)I"⟩
abbrev cX10_leastFactor : ByteArray := prog_12_method_13_code
def yX10_leastFactor : MethodName := ⟨RX10, "leastFactor", "(I)I"⟩
abbrev cX10_isIrreducible : ByteArray := prog_12_method_14_code
def yX10_isIrreducible : MethodName := ⟨RX10, "isIrreducible", "(I)Z"⟩
abbrev cX10_lays : ByteArray := prog_12_method_15_code
def yX10_lays : MethodName := ⟨RX10, "lays", "()V"⟩
abbrev cX10_fields : ByteArray := prog_12_method_16_code
def yX10_fields : MethodName := ⟨RX10, "fields", "(I)V"⟩
abbrev cX10_times : ByteArray := prog_12_method_17_code
def yX10_times : MethodName := ⟨RX10, "times", "(II)I"⟩
abbrev cX10_conj : ByteArray := prog_12_method_18_code
def yX10_conj : MethodName := ⟨RX10, "conj", "(II)I"⟩
abbrev cX10_powered : ByteArray := prog_12_method_19_code
def yX10_powered : MethodName := ⟨RX10, "powered", "(II)I"⟩
abbrev cX10_inverseOf : ByteArray := prog_12_method_20_code
def yX10_inverseOf : MethodName := ⟨RX10, "inverseOf", "(I)I"⟩
abbrev cX10_sizeOf : ByteArray := prog_12_method_21_code
def yX10_sizeOf : MethodName := ⟨RX10, "sizeOf", "(I)I"⟩
abbrev cX10_orderOf : ByteArray := prog_12_method_22_code
def yX10_orderOf : MethodName := ⟨RX10, "orderOf", "(I)I"⟩
abbrev cX10_isGenerator : ByteArray := prog_12_method_23_code
def yX10_isGenerator : MethodName := ⟨RX10, "isGenerator", "(I)Z"⟩
abbrev cX10_traceTo : ByteArray := prog_12_method_24_code
def yX10_traceTo : MethodName := ⟨RX10, "traceTo", "(II)I"⟩
abbrev cX10_normTo : ByteArray := prog_12_method_25_code
def yX10_normTo : MethodName := ⟨RX10, "normTo", "(II)I"⟩
abbrev cX10_isElement : ByteArray := prog_12_method_26_code
def yX10_isElement : MethodName := ⟨RX10, "isElement", "(I)Z"⟩
abbrev cX10_isPart : ByteArray := prog_12_method_27_code
def yX10_isPart : MethodName := ⟨RX10, "isPart", "(I)Z"⟩
abbrev cX10_isSlot : ByteArray := prog_12_method_28_code
def yX10_isSlot : MethodName := ⟨RX10, "isSlot", "(I)Z"⟩
abbrev cX10_isPlace : ByteArray := prog_12_method_29_code
def yX10_isPlace : MethodName := ⟨RX10, "isPlace", "(I)Z"⟩
abbrev cX10_rank : ByteArray := prog_12_method_30_code
def yX10_rank : MethodName := ⟨RX10, "rank", "(I)I"⟩
abbrev cX10_takesConjugates : ByteArray := prog_12_method_31_code
def yX10_takesConjugates : MethodName := ⟨RX10, "takesConjugates", "(I)V"⟩
abbrev cX10_isNormal : ByteArray := prog_12_method_32_code
def yX10_isNormal : MethodName := ⟨RX10, "isNormal", "(I)Z"⟩
abbrev cX10_takesSubbase : ByteArray := prog_12_method_33_code
def yX10_takesSubbase : MethodName := ⟨RX10, "takesSubbase", "(I)V"⟩
abbrev cX10_isNormalOver : ByteArray := prog_12_method_34_code
def yX10_isNormalOver : MethodName := ⟨RX10, "isNormalOver", "(II)Z"⟩
abbrev cX10_madeOf : ByteArray := prog_12_method_35_code
def yX10_madeOf : MethodName := ⟨RX10, "madeOf", "(I)I"⟩
abbrev cX10_laysCoordinates : ByteArray := prog_12_method_36_code
def yX10_laysCoordinates : MethodName := ⟨RX10, "laysCoordinates", "()V"⟩
abbrev cX10_baseAt : ByteArray := prog_12_method_37_code
def yX10_baseAt : MethodName := ⟨RX10, "baseAt", "(II)I"⟩
abbrev cX10_looksAt : ByteArray := prog_12_method_38_code
def yX10_looksAt : MethodName := ⟨RX10, "looksAt", "(I)V"⟩
abbrev cX10_complexityNow : ByteArray := prog_12_method_39_code
def yX10_complexityNow : MethodName := ⟨RX10, "complexityNow", "()I"⟩
abbrev cX10_weightNow : ByteArray := prog_12_method_40_code
def yX10_weightNow : MethodName := ⟨RX10, "weightNow", "()I"⟩
abbrev cX10_isNormalBase : ByteArray := prog_12_method_41_code
def yX10_isNormalBase : MethodName := ⟨RX10, "isNormalBase", "()Z"⟩
abbrev cX10_someIsBase : ByteArray := prog_12_method_42_code
def yX10_someIsBase : MethodName := ⟨RX10, "someIsBase", "()V"⟩
abbrev cX10_does : ByteArray := prog_12_method_43_code
def yX10_does : MethodName := ⟨RX10, "does", "()V"⟩
abbrev cX10_holds : ByteArray := prog_12_method_44_code
def yX10_holds : MethodName := ⟨RX10, "holds", "(I)I"⟩
abbrev cX10_begin : ByteArray := prog_12_method_45_code
def yX10_begin : MethodName := ⟨RX10, "begin", "()V"⟩
abbrev cX10_sees : ByteArray := prog_12_method_46_code
def yX10_sees : MethodName := ⟨RX10, "sees", "()I"⟩
abbrev cX10_fault : ByteArray := prog_12_method_47_code
def yX10_fault : MethodName := ⟨RX10, "fault", "(I)V"⟩
abbrev cX10_readsPower : ByteArray := prog_12_method_48_code
def yX10_readsPower : MethodName := ⟨RX10, "readsPower", "(I)I"⟩
abbrev cX10_readsPoly : ByteArray := prog_12_method_49_code
def yX10_readsPoly : MethodName := ⟨RX10, "readsPoly", "()I"⟩
abbrev cX10_field : ByteArray := prog_12_method_50_code
def yX10_field : MethodName := ⟨RX10, "field", "()I"⟩
abbrev cX10_poly : ByteArray := prog_12_method_51_code
def yX10_poly : MethodName := ⟨RX10, "poly", "(I)I"⟩
abbrev cX10_product : ByteArray := prog_12_method_52_code
def yX10_product : MethodName := ⟨RX10, "product", "(II)I"⟩
abbrev cX10_inverse : ByteArray := prog_12_method_53_code
def yX10_inverse : MethodName := ⟨RX10, "inverse", "(I)I"⟩
abbrev cX10_power : ByteArray := prog_12_method_54_code
def yX10_power : MethodName := ⟨RX10, "power", "(II)I"⟩
abbrev cX10_order : ByteArray := prog_12_method_55_code
def yX10_order : MethodName := ⟨RX10, "order", "(I)I"⟩
abbrev cX10_conjugate : ByteArray := prog_12_method_56_code
def yX10_conjugate : MethodName := ⟨RX10, "conjugate", "(II)I"⟩
abbrev cX10_conjugates : ByteArray := prog_12_method_57_code
def yX10_conjugates : MethodName := ⟨RX10, "conjugates", "(I)I"⟩
abbrev cX10_rooted : ByteArray := prog_12_method_58_code
def yX10_rooted : MethodName := ⟨RX10, "rooted", "(II)I"⟩
abbrev cX10_least : ByteArray := prog_12_method_59_code
def yX10_least : MethodName := ⟨RX10, "least", "(I)I"⟩
abbrev cX10_trace : ByteArray := prog_12_method_60_code
def yX10_trace : MethodName := ⟨RX10, "trace", "(II)I"⟩
abbrev cX10_norm : ByteArray := prog_12_method_61_code
def yX10_norm : MethodName := ⟨RX10, "norm", "(II)I"⟩
abbrev cX10_root : ByteArray := prog_12_method_62_code
def yX10_root : MethodName := ⟨RX10, "root", "(I)I"⟩
abbrev cX10_solves : ByteArray := prog_12_method_63_code
def yX10_solves : MethodName := ⟨RX10, "solves", "(I)I"⟩
abbrev cX10_log : ByteArray := prog_12_method_64_code
def yX10_log : MethodName := ⟨RX10, "log", "(II)I"⟩
abbrev cX10_traced : ByteArray := prog_12_method_65_code
def yX10_traced : MethodName := ⟨RX10, "traced", "(II)I"⟩
abbrev cX10_factors : ByteArray := prog_12_method_66_code
def yX10_factors : MethodName := ⟨RX10, "factors", "(I)I"⟩
abbrev cX10_classes : ByteArray := prog_12_method_67_code
def yX10_classes : MethodName := ⟨RX10, "classes", "()I"⟩
abbrev cX10_generators : ByteArray := prog_12_method_68_code
def yX10_generators : MethodName := ⟨RX10, "generators", "()I"⟩
abbrev cX10_orders : ByteArray := prog_12_method_69_code
def yX10_orders : MethodName := ⟨RX10, "orders", "()I"⟩
abbrev cX10_quadratic : ByteArray := prog_12_method_70_code
def yX10_quadratic : MethodName := ⟨RX10, "quadratic", "(III)I"⟩
abbrev cX10_subfield : ByteArray := prog_12_method_71_code
def yX10_subfield : MethodName := ⟨RX10, "subfield", "(I)I"⟩
abbrev cX10_normal : ByteArray := prog_12_method_72_code
def yX10_normal : MethodName := ⟨RX10, "normal", "(I)I"⟩
abbrev cX10_normals : ByteArray := prog_12_method_73_code
def yX10_normals : MethodName := ⟨RX10, "normals", "()I"⟩
abbrev cX10_complete : ByteArray := prog_12_method_74_code
def yX10_complete : MethodName := ⟨RX10, "complete", "(I)I"⟩
abbrev cX10_leastNormal : ByteArray := prog_12_method_75_code
def yX10_leastNormal : MethodName := ⟨RX10, "leastNormal", "()I"⟩
abbrev cX10_takesPowers : ByteArray := prog_12_method_76_code
def yX10_takesPowers : MethodName := ⟨RX10, "takesPowers", "(I)Z"⟩
abbrev cX10_leastPowers : ByteArray := prog_12_method_77_code
def yX10_leastPowers : MethodName := ⟨RX10, "leastPowers", "()I"⟩
abbrev cX10_isPrime : ByteArray := prog_12_method_78_code
def yX10_isPrime : MethodName := ⟨RX10, "isPrime", "(I)Z"⟩
abbrev cX10_powersOfTwo : ByteArray := prog_12_method_79_code
def yX10_powersOfTwo : MethodName := ⟨RX10, "powersOfTwo", "(I)I"⟩
abbrev cX10_types : ByteArray := prog_12_method_80_code
def yX10_types : MethodName := ⟨RX10, "types", "(I)I"⟩
abbrev cX10_readsElement : ByteArray := prog_12_method_81_code
def yX10_readsElement : MethodName := ⟨RX10, "readsElement", "()I"⟩
abbrev cX10_base : ByteArray := prog_12_method_82_code
def yX10_base : MethodName := ⟨RX10, "base", "(I)I"⟩
abbrev cX10_makes : ByteArray := prog_12_method_83_code
def yX10_makes : MethodName := ⟨RX10, "makes", "(III)I"⟩
abbrev cX10_copies : ByteArray := prog_12_method_84_code
def yX10_copies : MethodName := ⟨RX10, "copies", "(II)I"⟩
abbrev cX10_scales : ByteArray := prog_12_method_85_code
def yX10_scales : MethodName := ⟨RX10, "scales", "(II)I"⟩
abbrev cX10_takesBase : ByteArray := prog_12_method_86_code
def yX10_takesBase : MethodName := ⟨RX10, "takesBase", "(I)V"⟩
abbrev cX10_moves : ByteArray := prog_12_method_87_code
def yX10_moves : MethodName := ⟨RX10, "moves", "(III)I"⟩
abbrev cX10_adds : ByteArray := prog_12_method_88_code
def yX10_adds : MethodName := ⟨RX10, "adds", "(III)I"⟩
abbrev cX10_at : ByteArray := prog_12_method_89_code
def yX10_at : MethodName := ⟨RX10, "at", "(II)I"⟩
abbrev cX10_coordinates : ByteArray := prog_12_method_90_code
def yX10_coordinates : MethodName := ⟨RX10, "coordinates", "(II)I"⟩
abbrev cX10_made : ByteArray := prog_12_method_91_code
def yX10_made : MethodName := ⟨RX10, "made", "(II)I"⟩
abbrev cX10_tellsCoordinates : ByteArray := prog_12_method_92_code
def yX10_tellsCoordinates : MethodName := ⟨RX10, "tellsCoordinates", "(I)I"⟩
abbrev cX10_change : ByteArray := prog_12_method_93_code
def yX10_change : MethodName := ⟨RX10, "change", "(II)I"⟩
abbrev cX10_table : ByteArray := prog_12_method_94_code
def yX10_table : MethodName := ⟨RX10, "table", "(III)I"⟩
abbrev cX10_complexity : ByteArray := prog_12_method_95_code
def yX10_complexity : MethodName := ⟨RX10, "complexity", "(I)I"⟩
abbrev cX10_by : ByteArray := prog_12_method_96_code
def yX10_by : MethodName := ⟨RX10, "by", "(II)I"⟩
abbrev cX10_squares : ByteArray := prog_12_method_97_code
def yX10_squares : MethodName := ⟨RX10, "squares", "(I)I"⟩
abbrev cX10_productIn : ByteArray := prog_12_method_98_code
def yX10_productIn : MethodName := ⟨RX10, "productIn", "(III)I"⟩
abbrev cX10_far : ByteArray := prog_12_method_99_code
def yX10_far : MethodName := ⟨RX10, "far", "(III)I"⟩
abbrev cX10_steady : ByteArray := prog_12_method_100_code
def yX10_steady : MethodName := ⟨RX10, "steady", "(I)I"⟩
abbrev cX10_bestScale : ByteArray := prog_12_method_101_code
def yX10_bestScale : MethodName := ⟨RX10, "bestScale", "(I)I"⟩
abbrev cX10_same : ByteArray := prog_12_method_102_code
def yX10_same : MethodName := ⟨RX10, "same", "(II)I"⟩
abbrev cX10_dualAt : ByteArray := prog_12_method_103_code
def yX10_dualAt : MethodName := ⟨RX10, "dualAt", "(II)I"⟩
abbrev cX10_takesDual : ByteArray := prog_12_method_104_code
def yX10_takesDual : MethodName := ⟨RX10, "takesDual", "(I)V"⟩
abbrev cX10_dual : ByteArray := prog_12_method_105_code
def yX10_dual : MethodName := ⟨RX10, "dual", "(II)I"⟩
abbrev cX10_placeOf : ByteArray := prog_12_method_106_code
def yX10_placeOf : MethodName := ⟨RX10, "placeOf", "(II)I"⟩
abbrev cX10_weakly : ByteArray := prog_12_method_107_code
def yX10_weakly : MethodName := ⟨RX10, "weakly", "(I)I"⟩
abbrev cX10_traces : ByteArray := prog_12_method_108_code
def yX10_traces : MethodName := ⟨RX10, "traces", "(I)I"⟩
abbrev cX10_tower : ByteArray := prog_12_method_109_code
def yX10_tower : MethodName := ⟨RX10, "tower", "(III)I"⟩
abbrev cX10_isUnder : ByteArray := prog_12_method_110_code
def yX10_isUnder : MethodName := ⟨RX10, "isUnder", "(I)Z"⟩
abbrev cX10_fits : ByteArray := prog_12_method_111_code
def yX10_fits : MethodName := ⟨RX10, "fits", "(I)I"⟩
abbrev cX10_maps : ByteArray := prog_12_method_112_code
def yX10_maps : MethodName := ⟨RX10, "maps", "(III)I"⟩
abbrev cX10_isPrimitive : ByteArray := prog_12_method_113_code
def yX10_isPrimitive : MethodName := ⟨RX10, "isPrimitive", "(I)Z"⟩
abbrev cX10_irreducibles : ByteArray := prog_12_method_114_code
def yX10_irreducibles : MethodName := ⟨RX10, "irreducibles", "(I)I"⟩
abbrev cX10_undo : ByteArray := prog_12_method_115_code
def yX10_undo : MethodName := ⟨RX10, "undo", "()I"⟩
abbrev cX10_keeps : ByteArray := prog_12_method_116_code
def yX10_keeps : MethodName := ⟨RX10, "keeps", "()I"⟩
abbrev cX10_back : ByteArray := prog_12_method_117_code
def yX10_back : MethodName := ⟨RX10, "back", "()I"⟩
abbrev cX10_writes : ByteArray := prog_12_method_118_code
def yX10_writes : MethodName := ⟨RX10, "writes", "(I)V"⟩
abbrev cX10_written : ByteArray := prog_12_method_119_code
def yX10_written : MethodName := ⟨RX10, "written", "(I)I"⟩
abbrev cX10_count : ByteArray := prog_12_method_120_code
def yX10_count : MethodName := ⟨RX10, "count", "(I)I"⟩
abbrev cX10_row : ByteArray := prog_12_method_121_code
def yX10_row : MethodName := ⟨RX10, "row", "(I)J"⟩
def RJx145de : String := "java/io/Serializable"
def TJx145de : u_T := fun k => match k with
  | _ => ("", "", "", false)
def tyJx145de : Nat → FieldType := fun k => match k with
  | _ => .int
abbrev wsJx145de0 : List Cond := u_ws RJx145de TJx145de 0
theorem nmJx145de : ∀ a, a < 0 → ∀ b, b < 0 → a ≠ b → (TJx145de a).2.1 ≠ (TJx145de b).2.1 := by decide +kernel
theorem tyJx145de_ok : ∀ k, k < 0 → parseFieldDescriptor (TJx145de k).2.2.1 = some (tyJx145de k) := by decide +kernel
def RJ6 : String := "java/lang/Integer"
def TJ6 : u_T := fun k => match k with
  | _ => ("", "", "", false)
def tyJ6 : Nat → FieldType := fun k => match k with
  | _ => .int
abbrev wsJ60 : List Cond := u_ws RJ6 TJ6 0
theorem nmJ6 : ∀ a, a < 0 → ∀ b, b < 0 → a ≠ b → (TJ6 a).2.1 ≠ (TJ6 b).2.1 := by decide +kernel
theorem tyJ6_ok : ∀ k, k < 0 → parseFieldDescriptor (TJ6 k).2.2.1 = some (tyJ6 k) := by decide +kernel
abbrev cJ6_bitCount_0f7a4 : ByteArray := prog_15_method_49_code
def yJ6_bitCount_0f7a4 : MethodName := ⟨RJ6, "bitCount", "(I)I"⟩
def RJ9 : String := "java/lang/Math"
def TJ9 : u_T := fun k => match k with
  | _ => ("", "", "", false)
def tyJ9 : Nat → FieldType := fun k => match k with
  | _ => .int
abbrev wsJ90 : List Cond := u_ws RJ9 TJ9 0
theorem nmJ9 : ∀ a, a < 0 → ∀ b, b < 0 → a ≠ b → (TJ9 a).2.1 ≠ (TJ9 b).2.1 := by decide +kernel
theorem tyJ9_ok : ∀ k, k < 0 → parseFieldDescriptor (TJ9 k).2.2.1 = some (tyJ9 k) := by decide +kernel
abbrev cJ9_min_7cf53 : ByteArray := prog_16_method_69_code
def yJ9_min_7cf53 : MethodName := ⟨RJ9, "min", "(II)I"⟩
def RJ10 : String := "java/lang/System"
def TJ10 : u_T := fun k => match k with
  | _ => ("", "", "", false)
def tyJ10 : Nat → FieldType := fun k => match k with
  | _ => .int
abbrev wsJ100 : List Cond := u_ws RJ10 TJ10 0
theorem nmJ10 : ∀ a, a < 0 → ∀ b, b < 0 → a ≠ b → (TJ10 a).2.1 ≠ (TJ10 b).2.1 := by decide +kernel
theorem tyJ10_ok : ∀ k, k < 0 → parseFieldDescriptor (TJ10 k).2.2.1 = some (tyJ10 k) := by decide +kernel
def RL : String := "FieldBasesLaw"
abbrev cL_row : ByteArray := method_3_code
def yL_row : MethodName := ⟨RL, "row", "(LFieldBases;I[J)I"⟩
abbrev cL_law : ByteArray := code
def yL_law : MethodName := ⟨RL, "law", "([I)Z"⟩
abbrev vwCl : List vw_C := [(RX0, TX0, 6), (RX1, TX1, 3), (RX2, TX2, 2), (RX3, TX3, 3), (RX6, TX6, 2), (RX7, TX7, 2), (RX8, TX8, 4), (RX9, TX9, 11), (RX10, TX10, 24)]
end
section
/-! THE SMALL MACHINE: bytecode over cells that are numbered, whose references never change, whose ints and longs are read off a store; one theorem (below) takes its runs to the machine's own. A row of a method: pc, instruction, length, a (a local's place, a branch's target, a callee, a field), v (a constant), j (its link's place). -/
abbrev mz_M : Type := (Nat → Nat → Int32) × (Nat → Nat → Int64)
/-- a cell's shape: an array (kind 0 int, 1 byte, 2 long, from 3 on references; length; whom the places name), or an object (class, fields: none a number, some a reference) -/
abbrev mz_E : Type := (Nat × Nat × List Nat) ⊕ (Nat × List (Option Nat))
abbrev mz_L : Type := List (Option Value)
abbrev mz_C : Type := Nat × mz_L × List Value × mz_M
abbrev mz_R : Type := Nat × Instr × Nat × Nat × Int32 × Nat
/-- a method: name, code, locals, type, static, class, parameters, frames and locals below it, rows -/
abbrev mz_I : Type := MethodName × ByteArray × Nat × Option FieldType × Bool × Nat × Nat × Nat × Nat × List mz_R
def mz_nth {α : Type} : List α → Nat → Option α
  | [], _ => none
  | a :: _, 0 => some a
  | _ :: l, n + 1 => mz_nth l n
def mz_get : mz_L → Nat → Option Value
  | [], _ => none
  | a :: _, 0 => a
  | _ :: l, n + 1 => mz_get l n
def mz_put : mz_L → Nat → Option Value → mz_L
  | [], _, _ => []
  | _ :: l, 0, v => v :: l
  | a :: l, n + 1, v => a :: mz_put l n v
/-- is the place ahead a long one -/
def mz_wide (o : Option Value) : Bool := match o with
  | some (.long _) => true
  | some (.double _) => true
  | _ => false
def mz_ahead (ls : mz_L) (i : Nat) : Bool := match i with
  | 0 => false
  | j + 1 => mz_wide (mz_get ls j)
def mz_fit (ls : mz_L) (i : Nat) : Bool := match mz_ahead ls i with
  | true => false
  | false => Nat.blt i ls.length
def mz_wr (M : mz_M) (a : Nat) (f : Nat → Int32) : mz_M := (fun b => if b = a then f else M.1 b, M.2)
def mz_wrl (M : mz_M) (a : Nat) (f : Nat → Int64) : mz_M := (M.1, fun b => if b = a then f else M.2 b)
def mz_find (pc : Nat) : List mz_R → Option mz_R
  | [] => none
  | r :: l => match Nat.beq r.1 pc with
    | true => some r
    | false => mz_find pc l
def mz_int (o : Option Value) : Option Int32 := match o with
  | some (.int x) => some x
  | _ => none
def mz_ref (o : Option Value) : Option Nat := match o with
  | some (.ref x) => some x
  | _ => none
def mz_long (o : Option Value) : Option Int64 := match o with
  | some (.long x) => some x
  | _ => none
def mz_bin (f : Int32 → Int32 → Int32) (P : Int32 → Int32 → List Prop) (pc : Nat) (ls : mz_L) (st : List Value) (M : mz_M) : Option (mz_C × List Prop) := match st with
  | .int y :: .int x :: r => some ((pc + 1, ls, .int (f x y) :: r, M), P x y)
  | _ => none
def mz_if (f : Int32 → Prop) (d : ∀ x, Decidable (f x)) (a pc : Nat) (ls : mz_L) (st : List Value) (M : mz_M) : Option (mz_C × List Prop) := match st with
  | .int x :: r => some ((@ite Nat (f x) (d x) a (pc + 3), ls, r, M), [])
  | _ => none
def mz_ic (f : Int32 → Int32 → Prop) (d : ∀ x y, Decidable (f x y)) (a pc : Nat) (ls : mz_L) (st : List Value) (M : mz_M) : Option (mz_C × List Prop) := match st with
  | .int y :: .int x :: r => some ((@ite Nat (f x y) (d x y) a (pc + 3), ls, r, M), [])
  | _ => none
def mz_T (o : Option mz_C) : Option (mz_C × List Prop) := match o with
  | some c => some (c, [])
  | none => none
/-- one instruction that neither calls nor returns: the next place, and what must hold for it -/
def mz_step (SK : List mz_E) (ins : Instr) (len a : Nat) (v : Int32) (pc : Nat) (ls : mz_L) (st : List Value) (M : mz_M) : Option (mz_C × List Prop) := match ins with
  | .iconst _ => some ((pc + 1, ls, .int v :: st, M), [])
  | .bipush _ => some ((pc + 2, ls, .int v :: st, M), [])
  | .sipush _ => some ((pc + 3, ls, .int v :: st, M), [])
  | .ldc _ => some ((pc + 2, ls, .int v :: st, M), [])
  | .ldc_w _ => some ((pc + 3, ls, .int v :: st, M), [])
  | .lconst _ => some ((pc + 1, ls, .long v.toInt64 :: st, M), [])
  | .ldc2_w _ => some ((pc + 3, ls, .long v.toInt64 :: st, M), [])
  | .iload _ => (match mz_int (mz_get ls a) with
    | some x => some ((pc + 2, ls, .int x :: st, M), [])
    | none => none)
  | .iload_n _ => (match mz_int (mz_get ls a) with
    | some x => some ((pc + 1, ls, .int x :: st, M), [])
    | none => none)
  | .aload _ => (match mz_ref (mz_get ls a) with
    | some x => some ((pc + 2, ls, .ref x :: st, M), [])
    | none => none)
  | .aload_n _ => (match mz_ref (mz_get ls a) with
    | some x => some ((pc + 1, ls, .ref x :: st, M), [])
    | none => none)
  | .lload _ => (match mz_long (mz_get ls a) with
    | some x => some ((pc + 2, ls, .long x :: st, M), [])
    | none => none)
  | .lload_n _ => (match mz_long (mz_get ls a) with
    | some x => some ((pc + 1, ls, .long x :: st, M), [])
    | none => none)
  | .istore _ => (match st with
    | .int x :: r => (match mz_fit ls a with
      | true => some ((pc + 2, mz_put ls a (some (.int x)), r, M), [])
      | false => none)
    | _ => none)
  | .istore_n _ => (match st with
    | .int x :: r => (match mz_fit ls a with
      | true => some ((pc + 1, mz_put ls a (some (.int x)), r, M), [])
      | false => none)
    | _ => none)
  | .astore _ => (match st with
    | .ref x :: r => (match mz_fit ls a with
      | true => some ((pc + 2, mz_put ls a (some (.ref x)), r, M), [])
      | false => none)
    | _ => none)
  | .astore_n _ => (match st with
    | .ref x :: r => (match mz_fit ls a with
      | true => some ((pc + 1, mz_put ls a (some (.ref x)), r, M), [])
      | false => none)
    | _ => none)
  | .iinc _ _ => (match mz_int (mz_get ls a) with
    | some x => (match mz_fit ls a with
      | true => some ((pc + 3, mz_put ls a (some (.int (x + v))), st, M), [])
      | false => none)
    | none => none)
  | .iadd => mz_bin (fun x y => x + y) (fun _ _ => []) pc ls st M
  | .isub => mz_bin (fun x y => x - y) (fun _ _ => []) pc ls st M
  | .imul => mz_bin (fun x y => x * y) (fun _ _ => []) pc ls st M
  | .iand => mz_bin (fun x y => x &&& y) (fun _ _ => []) pc ls st M
  | .ior => mz_bin (fun x y => x ||| y) (fun _ _ => []) pc ls st M
  | .ixor => mz_bin (fun x y => x ^^^ y) (fun _ _ => []) pc ls st M
  | .ishl => mz_bin (fun x y => x <<< (y &&& 31)) (fun _ _ => []) pc ls st M
  | .ishr => mz_bin (fun x y => x >>> (y &&& 31)) (fun _ _ => []) pc ls st M
  | .iushr => mz_bin (fun x y => (x.toUInt32 >>> (y.toUInt32 &&& Int32.toUInt32 31)).toInt32) (fun _ _ => []) pc ls st M
  | .idiv => mz_bin (fun x y => x / y) (fun _ y => [¬ y = 0]) pc ls st M
  | .irem => mz_bin (fun x y => x - x / y * y) (fun _ y => [¬ y = 0]) pc ls st M
  | .ladd => (match st with
    | .long y :: .long x :: r => some ((pc + 1, ls, .long (x + y) :: r, M), [])
    | _ => none)
  | .lcmp => (match st with
    | .long y :: .long x :: r => some ((pc + 1, ls, .int (lg_cmp x y) :: r, M), [])
    | _ => none)
  | .i2l => (match st with
    | .int x :: r => some ((pc + 1, ls, .long x.toInt64 :: r, M), [])
    | _ => none)
  | .l2i => (match st with
    | .long x :: r => some ((pc + 1, ls, .int x.toInt32 :: r, M), [])
    | _ => none)
  | .i2b => (match st with
    | .int x :: r => some ((pc + 1, ls, .int x.toInt8.toInt32 :: r, M), [])
    | _ => none)
  | .pop => (match st with
    | .int _ :: r => some ((pc + 1, ls, r, M), [])
    | _ => none)
  | .dup => (match st with
    | .int x :: r => some ((pc + 1, ls, .int x :: .int x :: r, M), [])
    | .ref x :: r => some ((pc + 1, ls, .ref x :: .ref x :: r, M), [])
    | _ => none)
  | .dup_x1 => (match st with
    | .int x :: .ref y :: r => some ((pc + 1, ls, .int x :: .ref y :: .int x :: r, M), [])
    | _ => none)
  | .dup2 => (match st with
    | .int x :: .ref y :: r => some ((pc + 1, ls, .int x :: .ref y :: .int x :: .ref y :: r, M), [])
    | _ => none)
  | .goto _ => some ((a, ls, st, M), [])
  | .ifCond .eq _ => mz_if (fun x => x = 0) (fun _ => inferInstance) a pc ls st M
  | .ifCond .ne _ => mz_if (fun x => ¬ x = 0) (fun _ => inferInstance) a pc ls st M
  | .ifCond .lt _ => mz_if (fun x => x < 0) (fun _ => inferInstance) a pc ls st M
  | .ifCond .ge _ => mz_if (fun x => 0 ≤ x) (fun _ => inferInstance) a pc ls st M
  | .ifCond .gt _ => mz_if (fun x => 0 < x) (fun _ => inferInstance) a pc ls st M
  | .ifCond .le _ => mz_if (fun x => x ≤ 0) (fun _ => inferInstance) a pc ls st M
  | .if_icmp .eq _ => mz_ic (fun x y => x = y) (fun _ _ => inferInstance) a pc ls st M
  | .if_icmp .ne _ => mz_ic (fun x y => ¬ x = y) (fun _ _ => inferInstance) a pc ls st M
  | .if_icmp .lt _ => mz_ic (fun x y => x < y) (fun _ _ => inferInstance) a pc ls st M
  | .if_icmp .ge _ => mz_ic (fun x y => y ≤ x) (fun _ _ => inferInstance) a pc ls st M
  | .if_icmp .gt _ => mz_ic (fun x y => y < x) (fun _ _ => inferInstance) a pc ls st M
  | .if_icmp .le _ => mz_ic (fun x y => x ≤ y) (fun _ _ => inferInstance) a pc ls st M
  | .iaload => (match st with
    | .int i :: .ref r :: q => (match mz_nth SK r with
      | some (.inl (0, n, _)) => some ((pc + 1, ls, .int (M.1 r i.toNatClampNeg) :: q, M), [vp_in i n])
      | _ => none)
    | _ => none)
  | .baload => (match st with
    | .int i :: .ref r :: q => (match mz_nth SK r with
      | some (.inl (1, n, _)) => some ((pc + 1, ls, .int (M.1 r i.toNatClampNeg) :: q, M), [vp_in i n])
      | _ => none)
    | _ => none)
  | .laload => (match st with
    | .int i :: .ref r :: q => (match mz_nth SK r with
      | some (.inl (2, n, _)) => some ((pc + 1, ls, .long (M.2 r i.toNatClampNeg) :: q, M), [vp_in i n])
      | _ => none)
    | _ => none)
  | .aaload => (match st with
    | .int i :: .ref r :: q => (match mz_nth SK r with
      | some (.inl (k + 3, n, rs)) => some ((pc + 1, ls, .ref (rs.getD i.toNatClampNeg 0) :: q, M), [vp_in i n, rs.length = n])
      | _ => none)
    | _ => none)
  | .iastore => (match st with
    | .int x :: .int i :: .ref r :: q => (match mz_nth SK r with
      | some (.inl (0, n, _)) => some ((pc + 1, ls, q, mz_wr M r (upd (M.1 r) i.toNatClampNeg x)), [vp_in i n])
      | _ => none)
    | _ => none)
  | .bastore => (match st with
    | .int x :: .int i :: .ref r :: q => (match mz_nth SK r with
      | some (.inl (1, n, _)) => some ((pc + 1, ls, q, mz_wr M r (upd (M.1 r) i.toNatClampNeg (vp_nar .byte x))), [vp_in i n])
      | _ => none)
    | _ => none)
  | .lastore => (match st with
    | .long x :: .int i :: .ref r :: q => (match mz_nth SK r with
      | some (.inl (2, n, _)) => some ((pc + 1, ls, q, mz_wrl M r (vp_updL (M.2 r) i.toNatClampNeg x)), [vp_in i n])
      | _ => none)
    | _ => none)
  | .arraylength => (match st with
    | .ref r :: q => (match mz_nth SK r with
      | some (.inl (_, n, _)) => some ((pc + 1, ls, .int (Int32.ofNat n) :: q, M), [])
      | _ => none)
    | _ => none)
  | .getfield _ => (match st with
    | .ref r :: q => (match mz_nth SK r with
      | some (.inr (ci, fs)) => (match mz_nth fs (a % 64) with
        | some none => (match Nat.beq ci (a / 64) with
          | true => some ((pc + 3, ls, .int (M.1 r (a % 64)) :: q, M), [])
          | false => none)
        | some (some z) => (match Nat.beq ci (a / 64) with
          | true => some ((pc + 3, ls, .ref z :: q, M), [])
          | false => none)
        | none => none)
      | _ => none)
    | _ => none)
  | .putfield _ => (match st with
    | .int x :: .ref r :: q => (match mz_nth SK r with
      | some (.inr (ci, fs)) => (match mz_nth fs (a % 64) with
        | some none => (match Nat.beq ci (a / 64) with
          | true => some ((pc + 3, ls, q, mz_wr M r (upd (M.1 r) (a % 64) x)), match v.toBitVec.toNat with
            | 0 => []
            | _ => [x = 0 ∨ x = 1])
          | false => none)
        | _ => none)
      | _ => none)
    | _ => none)
  | .tableswitch d lo hi offs => (match st with
    | .int x :: r => some ((if x.toInt < lo ∨ hi < x.toInt then a else ((pc : Int) + offs.getD (x.toInt - lo).toNat 0).toNat, ls, r, M), [])
    | _ => none)
  | _ => none
end
section
/-! from the small machine to the machine: cells, locals -/
def mz_cv (ad : Nat → Nat) (v : Value) : Value := match v with
  | .ref k => .ref (ad k)
  | w => w
theorem mz_cv_cat (ad : Nat → Nat) (v : Value) : (mz_cv ad v).category = v.category := by cases v <;> rfl
theorem mz_sum (ad : Nat → Nat) (l : List Value) : ((l.map (mz_cv ad)).map fun v => v.category).sum = (l.map fun v => v.category).sum := by
  induction l with
  | nil => rfl
  | cons a l ih => simp only [List.map_cons, List.sum_cons, mz_cv_cat, ih]
def mz_con (ad : Nat → Nat) (M : mz_M) (k t : Nat) (rs : List Nat) : (Nat → Int32) ⊕ (Nat → Int64) ⊕ (Nat → UInt32) ⊕ (Nat → UInt64) ⊕ (Nat → Option Nat) := match t with
  | 0 => .inl (M.1 k)
  | 1 => .inl (M.1 k)
  | 2 => .inr (.inl (M.2 k))
  | _ + 3 => .inr (.inr (.inr (.inr (fun j => if j < rs.length then some (ad (rs.getD j 0)) else none))))
def mz_fs (ad : Nat → Nat) (M : mz_M) (k : Nat) : Nat → List (Option Nat) → List Value
  | _, [] => []
  | i, none :: r => .int (M.1 k i) :: mz_fs ad M k (i + 1) r
  | i, some q :: r => .ref (ad q) :: mz_fs ad M k (i + 1) r
def mz_ent (cA ad : Nat → Nat) (M : mz_M) (k : Nat) (e : mz_E) : va_E := match e with
  | .inl (t, n, rs) => .inl (cA t, n, mz_con ad M k t rs)
  | .inr (ci, fs) => .inr (ci, mz_fs ad M k 0 fs)
def mz_wl (cA ad : Nat → Nat) (M : mz_M) : Nat → List mz_E → va_W
  | _, [] => []
  | k, e :: r => (ad k, mz_ent cA ad M k e) :: mz_wl cA ad M (k + 1) r
theorem mz_wl_get (cA ad : Nat → Nat) (M : mz_M) : ∀ (l : List mz_E) (k i : Nat), (mz_wl cA ad M k l)[i]? = (mz_nth l i).map (fun e => (ad (k + i), mz_ent cA ad M (k + i) e))
  | [], k, i => by simp [mz_wl, mz_nth]
  | e :: r, k, 0 => by simp [mz_wl, mz_nth]
  | e :: r, k, i + 1 => by
    have h := mz_wl_get cA ad M r (k + 1) i
    simp only [mz_wl, mz_nth, List.getElem?_cons_succ]
    rw [h, show k + 1 + i = k + (i + 1) by omega]
theorem mz_fs_get (ad : Nat → Nat) (M : mz_M) (k : Nat) : ∀ (l : List (Option Nat)) (b i : Nat), (mz_fs ad M k b l)[i]? = (mz_nth l i).map (fun o => match o with
    | none => Value.int (M.1 k (b + i))
    | some q => Value.ref (ad q))
  | [], b, i => by simp [mz_fs, mz_nth]
  | none :: r, b, 0 => by simp [mz_fs, mz_nth]
  | some q :: r, b, 0 => by simp [mz_fs, mz_nth]
  | none :: r, b, i + 1 => by
    have h := mz_fs_get ad M k r (b + 1) i
    simp only [mz_fs, mz_nth, List.getElem?_cons_succ]
    rw [h, show b + 1 + i = b + (i + 1) by omega]
  | some q :: r, b, i + 1 => by
    have h := mz_fs_get ad M k r (b + 1) i
    simp only [mz_fs, mz_nth, List.getElem?_cons_succ]
    rw [h, show b + 1 + i = b + (i + 1) by omega]
theorem mz_fs_len (ad : Nat → Nat) (M : mz_M) (k : Nat) : ∀ (l : List (Option Nat)) (b : Nat), (mz_fs ad M k b l).length = l.length
  | [], b => rfl
  | none :: r, b => by simp only [mz_fs, List.length_cons, mz_fs_len ad M k r (b + 1)]
  | some q :: r, b => by simp only [mz_fs, List.length_cons, mz_fs_len ad M k r (b + 1)]
theorem mz_nth_lt {α : Type} : ∀ {l : List α} {i : Nat} {a : α}, mz_nth l i = some a → i < l.length
  | [], i, a, h => by simp [mz_nth] at h
  | b :: r, 0, a, h => by simp
  | b :: r, i + 1, a, h => by
    have := mz_nth_lt (l := r) (i := i) (a := a) h
    simp only [List.length_cons]
    omega
theorem mz_fs_set (ad : Nat → Nat) (M : mz_M) (k : Nat) (x : Int32) : ∀ (l : List (Option Nat)) (b i : Nat), mz_nth l i = some none → (mz_fs ad M k b l).set i (.int x) = mz_fs ad (mz_wr M k (upd (M.1 k) (b + i) x)) k b l := by
  intro l b i hi
  apply List.ext_getElem?
  intro j
  rw [List.getElem?_set, mz_fs_len, mz_fs_get, mz_fs_get]
  by_cases h : i = j
  · subst h
    rw [if_pos rfl, if_pos (mz_nth_lt hi), hi]
    simp [mz_wr, upd]
  · rw [if_neg h]
    cases mz_nth l j with
    | none => rfl
    | some o => cases o with
      | none => simp [mz_wr, upd, show ¬ j = i from fun q => h q.symm]
      | some q => rfl
/-- what a cell holds hangs on its own part of the store alone -/
theorem mz_ent_same {cA ad : Nat → Nat} {M M' : mz_M} {k : Nat} (h1 : M'.1 k = M.1 k) (h2 : M'.2 k = M.2 k) (e : mz_E) : mz_ent cA ad M' k e = mz_ent cA ad M k e := by
  have hf : ∀ (l : List (Option Nat)) (b : Nat), mz_fs ad M' k b l = mz_fs ad M k b l := by
    intro l
    induction l with
    | nil => intro b; rfl
    | cons o r ih => intro b; cases o <;> simp only [mz_fs, ih, h1]
  obtain ⟨t, n, rs⟩ | ⟨ci, fs⟩ := e
  · match t with
    | 0 => simp only [mz_ent, mz_con, h1]
    | 1 => simp only [mz_ent, mz_con, h1]
    | 2 => simp only [mz_ent, mz_con, h2]
    | t + 3 => simp only [mz_ent, mz_con]
  · simp only [mz_ent, hf]
theorem mz_wl_set {cA ad : Nat → Nat} {M M' : mz_M} {l : List mz_E} {i : Nat} {e : mz_E} (hi : mz_nth l i = some e) (hM : ∀ b, b ≠ i → M'.1 b = M.1 b ∧ M'.2 b = M.2 b) : (mz_wl cA ad M 0 l).set i (ad i, mz_ent cA ad M' i e) = mz_wl cA ad M' 0 l := by
  apply List.ext_getElem?
  intro j
  rw [List.getElem?_set, mz_wl_get, mz_wl_get]
  by_cases h : i = j
  · subst h
    have hlen : i < (mz_wl cA ad M 0 l).length := by
      have h9 : (mz_wl cA ad M 0 l)[i]? = some (ad (0 + i), mz_ent cA ad M (0 + i) e) := by rw [mz_wl_get, hi]; rfl
      exact (List.getElem?_eq_some_iff.mp h9).1
    rw [if_pos rfl, if_pos hlen, hi]
    simp
  · rw [if_neg h]
    cases mz_nth l j with
    | none => rfl
    | some e2 =>
      obtain ⟨a1, a2⟩ := hM j (fun q => h q.symm)
      simp only [Option.map_some, Nat.zero_add, mz_ent_same a1 a2]
theorem mz_w_at {cA ad : Nat → Nat} {M : mz_M} {l : List mz_E} {i : Nat} {e : mz_E} (hi : mz_nth l i = some e) : (mz_wl cA ad M 0 l)[i]? = some (ad i, mz_ent cA ad M i e) := by
  rw [mz_wl_get, hi]
  simp
/-! locals -/
theorem mz_put_len (v : Option Value) : ∀ (ls : mz_L) (i : Nat), (mz_put ls i v).length = ls.length
  | [], i => rfl
  | a :: l, 0 => rfl
  | a :: l, i + 1 => by simp only [mz_put, List.length_cons, mz_put_len v l i]
theorem mz_put_get (v : Option Value) : ∀ (ls : mz_L) (i j : Nat), mz_get (mz_put ls i v) j = if j = i ∧ i < ls.length then v else mz_get ls j
  | [], i, j => by simp [mz_put, mz_get]
  | a :: l, 0, 0 => by simp [mz_put, mz_get]
  | a :: l, 0, j + 1 => by simp [mz_put, mz_get]
  | a :: l, i + 1, 0 => by simp [mz_put, mz_get]
  | a :: l, i + 1, j + 1 => by simp [mz_put, mz_get, mz_put_get v l i j]
theorem mz_get_lt : ∀ {ls : mz_L} {i : Nat} {v : Value}, mz_get ls i = some v → i < ls.length
  | [], i, v, h => by simp [mz_get] at h
  | a :: l, 0, v, h => by simp
  | a :: l, i + 1, v, h => by
    have := mz_get_lt (ls := l) (i := i) (v := v) h
    simp only [List.length_cons]
    omega
def mz_has (ad : Nat → Nat) (lsR : Array Slot) (nL : Nat) (ls : mz_L) : Prop := lsR.size = nL ∧ lv_wf lsR ∧ ls.length = nL ∧ ∀ (i : Nat) (v : Value), mz_get ls i = some v → lsR[i]? = some (.val (mz_cv ad v))
def mz_as (ad : Nat → Nat) (ls : mz_L) : List (Nat × Value) := (List.range ls.length).filterMap (fun i => (mz_get ls i).map (fun v => (i, mz_cv ad v)))
theorem mz_as_mem {ad : Nat → Nat} {ls : mz_L} {q : Nat × Value} : q ∈ mz_as ad ls ↔ ∃ v, mz_get ls q.1 = some v ∧ q.2 = mz_cv ad v := by
  unfold mz_as
  rw [List.mem_filterMap]
  constructor
  · rintro ⟨i, -, h⟩
    cases hg : mz_get ls i with
    | none => rw [hg] at h; cases h
    | some v =>
      rw [hg] at h
      cases h
      exact ⟨v, hg, rfl⟩
  · rintro ⟨v, h, e⟩
    refine ⟨q.1, List.mem_range.mpr (mz_get_lt h), ?_⟩
    rw [h, Option.map_some, ← e]
theorem mz_has.lv {ad : Nat → Nat} {lsR : Array Slot} {nL : Nat} {ls : mz_L} (h : mz_has ad lsR nL ls) : lv_has lsR nL (mz_as ad ls) := by
  refine ⟨h.1, h.2.1, fun q hq => ?_⟩
  obtain ⟨v, h1, h2⟩ := mz_as_mem.mp hq
  rw [h2]
  exact h.2.2.2 _ _ h1
theorem mz_has.st {ad : Nat → Nat} {lsR ls' : Array Slot} {nL i : Nat} {ls : mz_L} {v : Value} (h : mz_has ad lsR nL ls) (ha : mz_ahead ls i = false) (hL : lv_has ls' nL ((i, mz_cv ad v) :: (mz_as ad ls).filter (fun q => !(q.1 == i) && !(q.1 + 1 == i && q.2.category == 2)))) : mz_has ad ls' nL (mz_put ls i (some v)) := by
  refine ⟨hL.1, hL.2.1, (mz_put_len _ _ _).trans h.2.2.1, fun j w hj => ?_⟩
  rw [mz_put_get] at hj
  by_cases hji : j = i ∧ i < ls.length
  · rw [if_pos hji] at hj
    cases hj
    rw [hji.1]
    exact hL.2.2 (i, mz_cv ad v) List.mem_cons_self
  · rw [if_neg hji] at hj
    have hne : ¬ j = i := fun q => hji ⟨q, q ▸ mz_get_lt hj⟩
    refine hL.2.2 (j, mz_cv ad w) (List.mem_cons_of_mem _ (List.mem_filter.mpr ⟨mz_as_mem.mpr ⟨w, hj, rfl⟩, ?_⟩))
    have h2 : ¬ (j + 1 = i ∧ (mz_cv ad w).category = 2) := by
      rintro ⟨e1, e2⟩
      subst e1
      rw [mz_cv_cat] at e2
      simp only [mz_ahead, hj] at ha
      cases w <;> simp [mz_wide, Value.category] at ha e2
    simp only [Bool.and_eq_true, Bool.not_eq_true', beq_eq_false_iff_ne, ne_eq, Bool.and_eq_false_iff]
    refine ⟨hne, ?_⟩
    by_cases e1 : j + 1 = i
    · exact Or.inr (fun e2 => h2 ⟨e1, e2⟩)
    · exact Or.inl e1
theorem mz_int_some {o : Option Value} {x : Int32} (h : mz_int o = some x) : o = some (.int x) := by
  unfold mz_int at h
  split at h
  · cases h; rfl
  · cases h
theorem mz_ref_some {o : Option Value} {x : Nat} (h : mz_ref o = some x) : o = some (.ref x) := by
  unfold mz_ref at h
  split at h
  · cases h; rfl
  · cases h
theorem mz_long_some {o : Option Value} {x : Int64} (h : mz_long o = some x) : o = some (.long x) := by
  unfold mz_long at h
  split at h
  · cases h; rfl
  · cases h
/-! the locals with which a method begins -/
def mz_args : List Value → mz_L
  | [] => []
  | v :: vs => match mz_wide (some v) with
    | true => some v :: none :: mz_args vs
    | false => some v :: mz_args vs
def mz_pad : Nat → mz_L → mz_L
  | 0, _ => []
  | n + 1, [] => none :: mz_pad n []
  | n + 1, a :: l => a :: mz_pad n l
theorem mz_pad_len : ∀ (n : Nat) (l : mz_L), (mz_pad n l).length = n
  | 0, l => rfl
  | n + 1, [] => by simp only [mz_pad, List.length_cons, mz_pad_len n []]
  | n + 1, a :: l => by simp only [mz_pad, List.length_cons, mz_pad_len n l]
theorem mz_pad_get : ∀ (n : Nat) (l : mz_L) (i : Nat) (v : Value), mz_get (mz_pad n l) i = some v → mz_get l i = some v
  | 0, l, i, v, h => by simp [mz_pad, mz_get] at h
  | n + 1, [], 0, v, h => by simp [mz_pad, mz_get] at h
  | n + 1, [], i + 1, v, h => by
    have := mz_pad_get n [] i v h
    simp [mz_get] at this
  | n + 1, a :: l, 0, v, h => h
  | n + 1, a :: l, i + 1, v, h => mz_pad_get n l i v h
theorem mz_wide_cat (v : Value) : mz_wide (some v) = true ↔ v.category = 2 := by cases v <;> simp [mz_wide, Value.category]
theorem mz_args_get (ad : Nat → Nat) : ∀ (vs : List Value) (b i : Nat) (v : Value), mz_get (mz_args vs) i = some v → (b + i, mz_cv ad v) ∈ lv_args b (vs.map (mz_cv ad))
  | [], b, i, v, h => by simp [mz_args, mz_get] at h
  | w :: vs, b, i, v, h => by
    unfold mz_args at h
    split at h
    · next hw =>
      have hc : (mz_cv ad w).category = 2 := by rw [mz_cv_cat]; exact (mz_wide_cat w).mp hw
      simp only [List.map_cons, lv_args, hc, if_true]
      match i, h with
      | 0, h => simp only [mz_get, Option.some.injEq] at h; rw [h]; exact List.mem_cons_self
      | 1, h => simp [mz_get] at h
      | i + 2, h =>
        have h2 := mz_args_get ad vs (b + 2) i v h
        rw [show b + 2 + i = b + (i + 2) by omega] at h2
        exact List.mem_cons_of_mem _ h2
    · next hw =>
      have hc : ¬ (mz_cv ad w).category = 2 := by rw [mz_cv_cat]; intro q; rw [(mz_wide_cat w).mpr q] at hw; cases hw
      simp only [List.map_cons, lv_args, hc, if_false]
      match i, h with
      | 0, h => simp only [mz_get, Option.some.injEq] at h; rw [h]; exact List.mem_cons_self
      | i + 1, h =>
        have h2 := mz_args_get ad vs (b + 1) i v h
        rw [show b + 1 + i = b + (i + 1) by omega] at h2
        exact List.mem_cons_of_mem _ h2
theorem mz_entry (ad : Nat → Nat) (As : List Value) {n : Nat} (h : (lg_sl (As.map (mz_cv ad))).length ≤ n) : mz_has ad ((lg_sl (As.map (mz_cv ad)) ++ List.replicate (n - (lg_sl (As.map (mz_cv ad))).length) Slot.unset).toArray) n (mz_pad n (mz_args As)) := by
  obtain ⟨h1, h2, h3⟩ := lv_entry (As.map (mz_cv ad)) h
  refine ⟨h1, h2, mz_pad_len _ _, fun i v hi => ?_⟩
  have h4 := mz_args_get ad As 0 i v (mz_pad_get _ _ _ _ hi)
  rw [Nat.zero_add] at h4
  exact h3 _ h4
end
section
/-! a row is what the code has there, and its link is among the words -/
def mz_okj (LK : List Cond) (j : Nat) (w : Cond) : Bool := decide (mz_nth LK j = some w)
def mz_okb (LK : List Cond) (cl : List vw_C) (tyf : Nat → Nat → FieldType) (own : String) (cc : ByteArray) (r : mz_R) : Bool := match r with
  | (pc, ins, len, a, v, j) => (match decode cc pc with
    | .ok q => decide (q = (ins, len))
    | .error _ => false) && (match ins with
    | .iconst n => decide (len = 1) && decide (Int32.ofInt n = v)
    | .bipush n => decide (len = 2) && decide ((Int8.ofInt n).toInt32 = v)
    | .sipush n => decide (len = 3) && decide ((Int16.ofInt n).toInt32 = v)
    | .ldc i => decide (len = 2) && mz_okj LK j (.constant own i v)
    | .ldc_w i => decide (len = 3) && mz_okj LK j (.constant own i v)
    | .lconst n => decide (len = 1) && decide (Int64.ofNat (n : Nat) = v.toInt64)
    | .ldc2_w i => decide (len = 3) && mz_okj LK j (.constantLong own i v.toInt64)
    | .iload i => decide (len = 2) && decide (i = a)
    | .aload i => decide (len = 2) && decide (i = a)
    | .lload i => decide (len = 2) && decide (i = a)
    | .istore i => decide (len = 2) && decide (i = a)
    | .astore i => decide (len = 2) && decide (i = a)
    | .iload_n i => decide (len = 1) && decide ((i : Nat) = a)
    | .aload_n i => decide (len = 1) && decide ((i : Nat) = a)
    | .lload_n i => decide (len = 1) && decide ((i : Nat) = a)
    | .istore_n i => decide (len = 1) && decide ((i : Nat) = a)
    | .astore_n i => decide (len = 1) && decide ((i : Nat) = a)
    | .iinc i n => decide (len = 3) && decide (i = a) && decide (Int32.ofInt n = v)
    | .goto o => decide (len = 3) && decide ((pc : Int) + o = (a : Int))
    | .ifCond _ o => decide (len = 3) && decide ((pc : Int) + o = (a : Int))
    | .if_icmp _ o => decide (len = 3) && decide ((pc : Int) + o = (a : Int))
    | .tableswitch d lo hi offs => decide ((pc : Int) + d = (a : Int)) && decide ((offs.size : Int) = hi - lo + 1) && offs.all (fun o => decide (0 ≤ (pc : Int) + o))
    | .getfield i => decide (len = 3) && (match cl[a / 64]? with
      | some q => decide (a % 64 < q.2.2) && mz_okj LK j (.fieldLink own i (q.2.1 (a % 64)).1 (q.2.1 (a % 64)).2.1 (q.2.1 (a % 64)).2.2.1)
      | none => false)
    | .putfield i => decide (len = 3) && (match cl[a / 64]? with
      | some q => decide (a % 64 < q.2.2) && mz_okj LK j (.fieldLink own i (q.2.1 (a % 64)).1 (q.2.1 (a % 64)).2.1 (q.2.1 (a % 64)).2.2.1) && decide ((q.2.1 (a % 64)).2.2.2 = false) && decide (tyf (a / 64) (a % 64) = if v = 0 then .int else .boolean)
      | none => false)
    | _ => decide (len = (match ins with
      | .invokevirtual _ => 3
      | .invokestatic _ => 3
      | _ => 1)))
/-! one instruction -/
section MZ
variable {p : Program} {l : Launch} {e : Env} {R : Room} {s : State} {m : MethodId} {args : Array Value} {below : List Frame} {meth : Method} {c : Code} {Q : State → Prop}
variable {cc : ByteArray} {nL : Nat} {D : va_G} {cl : List vw_C} {tys : List (ClassId × FieldType)} {A : Nat → Prop} {Ts LK : List Cond} {own : String} {cA ad : Nat → Nat} {SK : List mz_E} {tyf : Nat → Nat → FieldType}
def mz_W (p : Program) (l : Launch) (e : Env) (R : Room) (s : State) (m : MethodId) (args : Array Value) (below : List Frame) (meth : Method) (c : Code) (Q : State → Prop) (nL : Nat) (D : va_G) (cl : List vw_C) (A : Nat → Prop) (cA ad : Nat → Nat) (SK : List mz_E) (k : mz_C) : Prop :=
  ∀ (H : Heap) (locs : List Loc) (lsR : Array Slot), va_P D cl (mz_wl cA ad k.2.2.2 0 SK) H → va_D A (mz_wl cA ad k.2.2.2 0 SK) → va_S A s.heap H locs → mz_has ad lsR nL k.2.1 → W p l e R s m args below meth c H locs 0 0 Q (F0 m k.1 lsR (k.2.2.1.map (mz_cv ad)))
/-- the arrays' kinds, as the tables have them -/
def mz_tys (cA : Nat → Nat) (tys : List (ClassId × FieldType)) (SK : List mz_E) : Prop := tys[0]? = some (cA 0, .int) ∧ tys[1]? = some (cA 1, .byte) ∧ tys[2]? = some (cA 2, .long) ∧ ∀ (r t n : Nat) (rs : List Nat), mz_nth SK r = some (.inl (t + 3, n, rs)) → ∃ ty : FieldType, ty.isReference = true ∧ tys[t + 3]? = some (cA (t + 3), ty)
/-- the classes' fields: their words, types and names -/
def mz_cls (cl : List vw_C) (tyf : Nat → Nat → FieldType) (Ts : List Cond) : Prop := ∀ (ci : Nat) (q : vw_C), cl[ci]? = some q → (∀ w ∈ u_ws q.1 q.2.1 q.2.2, w ∈ Ts) ∧ (∀ k, k < q.2.2 → parseFieldDescriptor (q.2.1 k).2.2.1 = some (tyf ci k)) ∧ ∀ a, a < q.2.2 → ∀ b, b < q.2.2 → a ≠ b → (q.2.1 a).2.1 ≠ (q.2.1 b).2.1
theorem mz_fit_iff {ls : mz_L} {i : Nat} : mz_fit ls i = true ↔ mz_ahead ls i = false ∧ i < ls.length := by
  unfold mz_fit
  cases mz_ahead ls i with
  | true => simp
  | false => simp [Nat.blt_eq]
theorem mz_nth_mem {α : Type} : ∀ {l : List α} {i : Nat} {a : α}, mz_nth l i = some a → a ∈ l
  | [], i, a, h => by simp [mz_nth] at h
  | b :: r, 0, a, h => by simp only [mz_nth, Option.some.injEq] at h; rw [h]; exact List.mem_cons_self
  | b :: r, i + 1, a, h => List.mem_cons_of_mem _ (mz_nth_mem (l := r) h)
theorem mz_okj_in {j : Nat} {w : Cond} (hLK : ∀ w ∈ LK, w ∈ Ts) (h : mz_okj LK j w = true) : w ∈ Ts := hLK w (mz_nth_mem (of_decide_eq_true h))
theorem mz_decode {cc : ByteArray} {pc : Nat} {q : Instr × Nat} (h : (match decode cc pc with
    | .ok q2 => decide (q2 = q)
    | .error _ => false) = true) : decode cc pc = .ok q := by
  split at h
  · next q2 e => rw [e, of_decide_eq_true h]
  · cases h
theorem mz_bin_some {f : Int32 → Int32 → Int32} {P : Int32 → Int32 → List Prop} {pc : Nat} {ls : mz_L} {st : List Value} {M : mz_M} {k : mz_C} {P' : List Prop} (h : mz_bin f P pc ls st M = some (k, P')) : ∃ x y r, st = .int y :: .int x :: r ∧ k = (pc + 1, ls, .int (f x y) :: r, M) ∧ P' = P x y := by
  unfold mz_bin at h
  split at h
  · cases h; exact ⟨_, _, _, rfl, rfl, rfl⟩
  · cases h
theorem mz_if_some {f : Int32 → Prop} {d : ∀ x, Decidable (f x)} {a pc : Nat} {ls : mz_L} {st : List Value} {M : mz_M} {k : mz_C} {P' : List Prop} (h : mz_if f d a pc ls st M = some (k, P')) : ∃ x r, st = .int x :: r ∧ k = (@ite Nat (f x) (d x) a (pc + 3), ls, r, M) := by
  unfold mz_if at h
  split at h
  · cases h; exact ⟨_, _, rfl, rfl⟩
  · cases h
theorem mz_ic_some {f : Int32 → Int32 → Prop} {d : ∀ x y, Decidable (f x y)} {a pc : Nat} {ls : mz_L} {st : List Value} {M : mz_M} {k : mz_C} {P' : List Prop} (h : mz_ic f d a pc ls st M = some (k, P')) : ∃ x y r, st = .int y :: .int x :: r ∧ k = (@ite Nat (f x y) (d x y) a (pc + 3), ls, r, M) := by
  unfold mz_ic at h
  split at h
  · cases h; exact ⟨_, _, _, rfl, rfl⟩
  · cases h
theorem mz_rowI {M : mz_M} {r t n : Nat} {rs : List Nat} {f : Nat → Int32} (ht : t = 0 ∨ t = 1) (e0 : mz_nth SK r = some (.inl (t, n, rs))) : (mz_wl cA ad M 0 SK).set r (ad r, .inl (cA t, n, .inl f)) = mz_wl cA ad (mz_wr M r f) 0 SK := by
  rw [← mz_wl_set (M := M) (M' := mz_wr M r f) e0 (fun b hb => by simp [mz_wr, hb])]
  rcases ht with rfl | rfl <;> simp [mz_ent, mz_con, mz_wr]
theorem mz_rowL {M : mz_M} {r n : Nat} {rs : List Nat} {f : Nat → Int64} (e0 : mz_nth SK r = some (.inl (2, n, rs))) : (mz_wl cA ad M 0 SK).set r (ad r, .inl (cA 2, n, .inr (.inl f))) = mz_wl cA ad (mz_wrl M r f) 0 SK := by
  rw [← mz_wl_set (M := M) (M' := mz_wrl M r f) e0 (fun b hb => by simp [mz_wrl, hb])]
  simp [mz_ent, mz_con, mz_wrl]
theorem mz_rowF {M : mz_M} {r ci k : Nat} {fs : List (Option Nat)} {x : Int32} (e0 : mz_nth SK r = some (.inr (ci, fs))) (hk : mz_nth fs k = some none) : (mz_wl cA ad M 0 SK).set r (ad r, .inr (ci, (mz_fs ad M r 0 fs).set k (.int x))) = mz_wl cA ad (mz_wr M r (upd (M.1 r) k x)) 0 SK := by
  rw [mz_fs_set ad M r x fs 0 k hk, Nat.zero_add, ← mz_wl_set (M := M) (M' := mz_wr M r (upd (M.1 r) k x)) e0 (fun b hb => by simp [mz_wr, hb])]
  simp [mz_ent]
theorem mz_aald {ws : va_W} {H : Heap} {locs : List Loc} {a q0 t0 n pc : Nat} {cB : ClassId} {ty : FieldType} {f : Nat → Option Nat} {i : Int32} {rest : List Value} {ls : Array Slot} (hx : p.tables.exec = Jvm.exec) (hb : c.code = cc) (hK : va_K D cl tys s) (hP : va_P D cl ws H) (hr : ty.isReference = true) (ha : ws[q0]? = some (a, .inl (cB, n, .inr (.inr (.inr (.inr f)))))) (ht : tys[t0]? = some (cB, ty)) (hin : vp_in i n) (hdg : decode cc pc = .ok (.aaload, 1))
    (kk : W p l e R s m args below meth c H locs 0 0 Q (F0 m (pc + 1) ls (va_rf (f i.toNatClampNeg) :: rest))) : W p l e R s m args below meth c H locs 0 0 Q (F0 m pc ls (.int i :: .ref a :: rest)) := by
  have hlt : i.toNatClampNeg < n := Nat.not_le.mp fun q => hin (Or.inr q)
  exact W.aald (v := va_rf (f i.toNatClampNeg)) (ty := ty) hx hb (hP q0 _ ha) ((hK.2 t0 _ ht).1 n (fun j => va_rf (f j))) hr (fun q => by cases q) (by show ¬ (i < 0 ∨ (arrV _ _ _).slots.size ≤ _); rw [arrV_size]; exact hin) (by show (arrV _ _ _).slots[_]? = _; rw [arrV_read _ _ hlt]) rfl rfl hdg kk
set_option maxHeartbeats 4000000 in
/-- a row of the small machine is an instruction's -/
theorem mz_one (hx : p.tables.exec = Jvm.exec) (hb : c.code = cc) (hml : c.maxLocals = nL) (hown : s.vm.findClass own = some m.cls) (hts : ∀ w ∈ Ts, w.before args s = true) (hLK : ∀ w ∈ LK, w ∈ Ts) (hK : va_K D cl tys s) (hty : mz_tys cA tys SK) (hcl : mz_cls cl tyf Ts)
    {pc len a j : Nat} {ins : Instr} {v : Int32} (hok : mz_okb LK cl tyf own cc (pc, ins, len, a, v, j) = true) {ls : mz_L} {st : List Value} {M : mz_M} {k : mz_C} {P : List Prop} (h : mz_step SK ins len a v pc ls st M = some (k, P)) (hP : ∀ x ∈ P, x)
    (kk : mz_W p l e R s m args below meth c Q nL D cl A cA ad SK k) : mz_W p l e R s m args below meth c Q nL D cl A cA ad SK (pc, ls, st, M) := by
  intro H locs lsR h1 h2 h3 h4
  dsimp only at h1 h2 h3 h4
  unfold mz_okb at hok
  dsimp only at hok
  rw [Bool.and_eq_true] at hok
  obtain ⟨hd, hok⟩ := hok
  replace hd := mz_decode hd
  have go : ∀ {k2 : mz_C}, k2 = k → k2.2.2.2 = M → k2.2.1 = ls → W p l e R s m args below meth c H locs 0 0 Q (F0 m k.1 lsR (k.2.2.1.map (mz_cv ad))) := by
    intro k2 e1 e2 e3
    subst e1
    exact kk H locs lsR (by rw [e2]; exact h1) (by rw [e2]; exact h2) h3 (by rw [e3]; exact h4)
  cases ins
  case iconst n =>
    dsimp only [mz_step] at h
    simp only [Bool.and_eq_true, decide_eq_true_eq] at hok
    cases h
    obtain ⟨rfl, hv⟩ := hok
    exact lv_iconst hx hb hd hv (go rfl rfl rfl)
  case bipush n =>
    dsimp only [mz_step] at h
    simp only [Bool.and_eq_true, decide_eq_true_eq] at hok
    cases h
    obtain ⟨rfl, hv⟩ := hok
    exact lv_bipush hx hb hd hv (go rfl rfl rfl)
  case sipush n =>
    dsimp only [mz_step] at h
    simp only [Bool.and_eq_true, decide_eq_true_eq] at hok
    cases h
    obtain ⟨rfl, hv⟩ := hok
    exact lv_sipush hx hb hd hv (go rfl rfl rfl)
  case lconst n =>
    dsimp only [mz_step] at h
    simp only [Bool.and_eq_true, decide_eq_true_eq] at hok
    cases h
    obtain ⟨rfl, hv⟩ := hok
    exact lv_lconst hx hb hd hv (go rfl rfl rfl)
  case ldc i =>
    dsimp only [mz_step] at h
    simp only [Bool.and_eq_true, decide_eq_true_eq] at hok
    cases h
    obtain ⟨rfl, hv⟩ := hok
    exact lv_ldc hx hb hown (hts _ (mz_okj_in hLK hv)) hd (go rfl rfl rfl)
  case ldc_w i =>
    dsimp only [mz_step] at h
    simp only [Bool.and_eq_true, decide_eq_true_eq] at hok
    cases h
    obtain ⟨rfl, hv⟩ := hok
    exact lv_ldcw hx hb hown (hts _ (mz_okj_in hLK hv)) hd (go rfl rfl rfl)
  case ldc2_w i =>
    dsimp only [mz_step] at h
    simp only [Bool.and_eq_true, decide_eq_true_eq] at hok
    cases h
    obtain ⟨rfl, hv⟩ := hok
    exact lv_ldc2 hx hb hown (hts _ (mz_okj_in hLK hv)) hd (go rfl rfl rfl)
  case iload i =>
    dsimp only [mz_step] at h
    simp only [Bool.and_eq_true, decide_eq_true_eq] at hok
    obtain ⟨rfl, hi⟩ := hok
    split at h
    · next x e0 =>
      cases h
      have hg := h4.2.2.2 _ _ (mz_int_some e0)
      subst hi
      exact lv_iload hx hb hd hg (go rfl rfl rfl)
    · cases h
  case aload i =>
    dsimp only [mz_step] at h
    simp only [Bool.and_eq_true, decide_eq_true_eq] at hok
    obtain ⟨rfl, hi⟩ := hok
    split at h
    · next x e0 =>
      cases h
      have hg := h4.2.2.2 _ _ (mz_ref_some e0)
      subst hi
      exact lv_aload hx hb hd hg (go rfl rfl rfl)
    · cases h
  case lload i =>
    dsimp only [mz_step] at h
    simp only [Bool.and_eq_true, decide_eq_true_eq] at hok
    obtain ⟨rfl, hi⟩ := hok
    split at h
    · next x e0 =>
      cases h
      have hg := h4.2.2.2 _ _ (mz_long_some e0)
      subst hi
      exact lv_lload hx hb hd hg (go rfl rfl rfl)
    · cases h
  case iload_n i =>
    dsimp only [mz_step] at h
    simp only [Bool.and_eq_true, decide_eq_true_eq] at hok
    obtain ⟨rfl, hi⟩ := hok
    split at h
    · next x e0 =>
      cases h
      have hg := h4.2.2.2 _ _ (mz_int_some e0)
      skip
      exact lv_iload_n hx hb hd hi hg (go rfl rfl rfl)
    · cases h
  case aload_n i =>
    dsimp only [mz_step] at h
    simp only [Bool.and_eq_true, decide_eq_true_eq] at hok
    obtain ⟨rfl, hi⟩ := hok
    split at h
    · next x e0 =>
      cases h
      have hg := h4.2.2.2 _ _ (mz_ref_some e0)
      skip
      exact lv_aload_n hx hb hd hi hg (go rfl rfl rfl)
    · cases h
  case lload_n i =>
    dsimp only [mz_step] at h
    simp only [Bool.and_eq_true, decide_eq_true_eq] at hok
    obtain ⟨rfl, hi⟩ := hok
    split at h
    · next x e0 =>
      cases h
      have hg := h4.2.2.2 _ _ (mz_long_some e0)
      skip
      exact lv_lload_n hx hb hd hi hg (go rfl rfl rfl)
    · cases h
  case istore i =>
    dsimp only [mz_step] at h
    simp only [Bool.and_eq_true, decide_eq_true_eq] at hok
    obtain ⟨rfl, hi⟩ := hok
    split at h
    · next x r =>
      split at h
      · next hfit =>
        cases h
        obtain ⟨hfa, hfl⟩ := mz_fit_iff.mp hfit
        subst hi
        exact lv_istore hx hb hd h4.lv (by have := h4.2.2.1; omega) rfl (fun ls' hl' => kk H locs ls' h1 h2 h3 (h4.st hfa hl'))
      · cases h
    · cases h
  case astore i =>
    dsimp only [mz_step] at h
    simp only [Bool.and_eq_true, decide_eq_true_eq] at hok
    obtain ⟨rfl, hi⟩ := hok
    split at h
    · next x r =>
      split at h
      · next hfit =>
        cases h
        obtain ⟨hfa, hfl⟩ := mz_fit_iff.mp hfit
        subst hi
        exact lv_astore hx hb hd h4.lv (by have := h4.2.2.1; omega) rfl (fun ls' hl' => kk H locs ls' h1 h2 h3 (h4.st hfa hl'))
      · cases h
    · cases h
  case istore_n i =>
    dsimp only [mz_step] at h
    simp only [Bool.and_eq_true, decide_eq_true_eq] at hok
    obtain ⟨rfl, hi⟩ := hok
    split at h
    · next x r =>
      split at h
      · next hfit =>
        cases h
        obtain ⟨hfa, hfl⟩ := mz_fit_iff.mp hfit
        skip
        exact lv_istore_n hx hb hd hi h4.lv (by have := h4.2.2.1; omega) rfl (fun ls' hl' => kk H locs ls' h1 h2 h3 (h4.st hfa hl'))
      · cases h
    · cases h
  case astore_n i =>
    dsimp only [mz_step] at h
    simp only [Bool.and_eq_true, decide_eq_true_eq] at hok
    obtain ⟨rfl, hi⟩ := hok
    split at h
    · next x r =>
      split at h
      · next hfit =>
        cases h
        obtain ⟨hfa, hfl⟩ := mz_fit_iff.mp hfit
        skip
        exact lv_astore_n hx hb hd hi h4.lv (by have := h4.2.2.1; omega) rfl (fun ls' hl' => kk H locs ls' h1 h2 h3 (h4.st hfa hl'))
      · cases h
    · cases h
  case iinc i n =>
    dsimp only [mz_step] at h
    simp only [Bool.and_eq_true, decide_eq_true_eq] at hok
    obtain ⟨⟨rfl, hi⟩, hv⟩ := hok
    split at h
    · next x e0 =>
      split at h
      · next hfit =>
        cases h
        obtain ⟨hfa, hfl⟩ := mz_fit_iff.mp hfit
        subst hi
        obtain ⟨k0, hk0⟩ := List.getElem?_of_mem (mz_as_mem (ad := ad) (q := (i, .int x)) |>.mpr ⟨.int x, mz_int_some e0, rfl⟩)
        exact lv_iinc hx hb hd h4.lv hk0 (by rw [hv]) (by have := h4.2.2.1; omega) rfl (fun ls' hl' => kk H locs ls' h1 h2 h3 (h4.st hfa hl'))
      · cases h
    · cases h
  case iadd =>
    simp only [decide_eq_true_eq] at hok
    subst hok
    obtain ⟨x, y, r, rfl, rfl, -⟩ := mz_bin_some h
    exact lv_iadd hx hb hd (go rfl rfl rfl)
  case isub =>
    simp only [decide_eq_true_eq] at hok
    subst hok
    obtain ⟨x, y, r, rfl, rfl, -⟩ := mz_bin_some h
    exact lv_isub hx hb hd (go rfl rfl rfl)
  case imul =>
    simp only [decide_eq_true_eq] at hok
    subst hok
    obtain ⟨x, y, r, rfl, rfl, -⟩ := mz_bin_some h
    exact lv_imul hx hb hd (go rfl rfl rfl)
  case iand =>
    simp only [decide_eq_true_eq] at hok
    subst hok
    obtain ⟨x, y, r, rfl, rfl, -⟩ := mz_bin_some h
    exact lv_iand hx hb hd (go rfl rfl rfl)
  case ior =>
    simp only [decide_eq_true_eq] at hok
    subst hok
    obtain ⟨x, y, r, rfl, rfl, -⟩ := mz_bin_some h
    exact lv_ior hx hb hd (go rfl rfl rfl)
  case ixor =>
    simp only [decide_eq_true_eq] at hok
    subst hok
    obtain ⟨x, y, r, rfl, rfl, -⟩ := mz_bin_some h
    exact lv_ixor hx hb hd (go rfl rfl rfl)
  case ishl =>
    simp only [decide_eq_true_eq] at hok
    subst hok
    obtain ⟨x, y, r, rfl, rfl, -⟩ := mz_bin_some h
    exact lv_ishl hx hb hd (go rfl rfl rfl)
  case ishr =>
    simp only [decide_eq_true_eq] at hok
    subst hok
    obtain ⟨x, y, r, rfl, rfl, -⟩ := mz_bin_some h
    exact lv_ishr hx hb hd (go rfl rfl rfl)
  case iushr =>
    simp only [decide_eq_true_eq] at hok
    subst hok
    obtain ⟨x, y, r, rfl, rfl, -⟩ := mz_bin_some h
    exact lv_iushr hx hb hd rfl (go rfl rfl rfl)
  case idiv =>
    simp only [decide_eq_true_eq] at hok
    subst hok
    obtain ⟨x, y, r, rfl, rfl, rfl⟩ := mz_bin_some h
    exact lv_idiv hx hb hd (hP _ List.mem_cons_self) (go rfl rfl rfl)
  case irem =>
    simp only [decide_eq_true_eq] at hok
    subst hok
    obtain ⟨x, y, r, rfl, rfl, rfl⟩ := mz_bin_some h
    exact lv_irem hx hb hd (hP _ List.mem_cons_self) (go rfl rfl rfl)
  case ladd =>
    simp only [decide_eq_true_eq] at hok
    subst hok
    dsimp only [mz_step] at h
    split at h
    · cases h
      exact lv_ladd hx hb hd (go rfl rfl rfl)
    · cases h
  case lcmp =>
    simp only [decide_eq_true_eq] at hok
    subst hok
    dsimp only [mz_step] at h
    split at h
    · cases h
      exact W.lcmp hx hb hd (go rfl rfl rfl)
    · cases h
  case i2l =>
    simp only [decide_eq_true_eq] at hok
    subst hok
    dsimp only [mz_step] at h
    split at h
    · cases h
      exact lv_i2l hx hb hd rfl (go rfl rfl rfl)
    · cases h
  case l2i =>
    simp only [decide_eq_true_eq] at hok
    subst hok
    dsimp only [mz_step] at h
    split at h
    · cases h
      exact lv_l2i hx hb hd rfl (go rfl rfl rfl)
    · cases h
  case i2b =>
    simp only [decide_eq_true_eq] at hok
    subst hok
    dsimp only [mz_step] at h
    split at h
    · cases h
      exact lv_i2b hx hb hd rfl (go rfl rfl rfl)
    · cases h
  case pop =>
    simp only [decide_eq_true_eq] at hok
    subst hok
    dsimp only [mz_step] at h
    split at h
    · cases h
      exact lv_pop hx hb hd rfl (go rfl rfl rfl)
    · cases h
  case dup =>
    simp only [decide_eq_true_eq] at hok
    subst hok
    dsimp only [mz_step] at h
    split at h
    · cases h
      exact lv_dup hx hb hd rfl (go rfl rfl rfl)
    · cases h
      exact lv_dup hx hb hd rfl (go rfl rfl rfl)
    · cases h
  case dup_x1 =>
    simp only [decide_eq_true_eq] at hok
    subst hok
    dsimp only [mz_step] at h
    split at h
    · cases h
      exact lv_dup_x1 hx hb hd rfl rfl (go rfl rfl rfl)
    · cases h
  case dup2 =>
    simp only [decide_eq_true_eq] at hok
    subst hok
    dsimp only [mz_step] at h
    split at h
    · cases h
      exact lv_dup2_11 hx hb hd rfl rfl (go rfl rfl rfl)
    · cases h
  case goto o =>
    dsimp only [mz_step] at h
    simp only [Bool.and_eq_true, decide_eq_true_eq] at hok
    obtain ⟨rfl, ht⟩ := hok
    cases h
    exact lv_goto hx hb hd ht (go rfl rfl rfl)
  case ifCond cn o =>
    simp only [Bool.and_eq_true, decide_eq_true_eq] at hok
    obtain ⟨rfl, ht⟩ := hok
    cases cn
    case eq =>
      obtain ⟨x, r, rfl, rfl⟩ := mz_if_some h
      have g := kk H locs lsR h1 h2 h3 h4
      dsimp only at g
      exact lv_if_eq hx hb hd ht (fun hc => by rw [if_pos hc] at g; exact g) (fun hc => by rw [if_neg hc] at g; exact g)
    case ne =>
      obtain ⟨x, r, rfl, rfl⟩ := mz_if_some h
      have g := kk H locs lsR h1 h2 h3 h4
      dsimp only at g
      exact lv_if_ne hx hb hd ht (fun hc => by rw [if_pos hc] at g; exact g) (fun hc => by rw [if_neg (fun q => q hc)] at g; exact g)
    case lt =>
      obtain ⟨x, r, rfl, rfl⟩ := mz_if_some h
      have g := kk H locs lsR h1 h2 h3 h4
      dsimp only at g
      exact lv_if_lt hx hb hd ht (fun hc => by rw [if_pos hc] at g; exact g) (fun hc => by rw [if_neg hc] at g; exact g)
    case ge =>
      obtain ⟨x, r, rfl, rfl⟩ := mz_if_some h
      have g := kk H locs lsR h1 h2 h3 h4
      dsimp only at g
      exact lv_if_ge hx hb hd ht (fun hc => by rw [if_pos hc] at g; exact g) (fun hc => by rw [if_neg hc] at g; exact g)
    case gt =>
      obtain ⟨x, r, rfl, rfl⟩ := mz_if_some h
      have g := kk H locs lsR h1 h2 h3 h4
      dsimp only at g
      exact lv_if_gt hx hb hd ht (fun hc => by rw [if_pos hc] at g; exact g) (fun hc => by rw [if_neg hc] at g; exact g)
    case le =>
      obtain ⟨x, r, rfl, rfl⟩ := mz_if_some h
      have g := kk H locs lsR h1 h2 h3 h4
      dsimp only at g
      exact lv_if_le hx hb hd ht (fun hc => by rw [if_pos hc] at g; exact g) (fun hc => by rw [if_neg hc] at g; exact g)
  case if_icmp cn o =>
    simp only [Bool.and_eq_true, decide_eq_true_eq] at hok
    obtain ⟨rfl, ht⟩ := hok
    cases cn
    case eq =>
      obtain ⟨x, y, r, rfl, rfl⟩ := mz_ic_some h
      have g := kk H locs lsR h1 h2 h3 h4
      dsimp only at g
      exact lv_icmp_eq hx hb hd ht (fun hc => by rw [if_pos hc] at g; exact g) (fun hc => by rw [if_neg hc] at g; exact g)
    case ne =>
      obtain ⟨x, y, r, rfl, rfl⟩ := mz_ic_some h
      have g := kk H locs lsR h1 h2 h3 h4
      dsimp only at g
      exact lv_icmp_ne hx hb hd ht (fun hc => by rw [if_pos hc] at g; exact g) (fun hc => by rw [if_neg (fun q => q hc)] at g; exact g)
    case lt =>
      obtain ⟨x, y, r, rfl, rfl⟩ := mz_ic_some h
      have g := kk H locs lsR h1 h2 h3 h4
      dsimp only at g
      exact lv_icmp_lt hx hb hd ht (fun hc => by rw [if_pos hc] at g; exact g) (fun hc => by rw [if_neg hc] at g; exact g)
    case ge =>
      obtain ⟨x, y, r, rfl, rfl⟩ := mz_ic_some h
      have g := kk H locs lsR h1 h2 h3 h4
      dsimp only at g
      exact lv_icmp_ge hx hb hd ht (fun hc => by rw [if_pos hc] at g; exact g) (fun hc => by rw [if_neg hc] at g; exact g)
    case gt =>
      obtain ⟨x, y, r, rfl, rfl⟩ := mz_ic_some h
      have g := kk H locs lsR h1 h2 h3 h4
      dsimp only at g
      exact lv_icmp_gt hx hb hd ht (fun hc => by rw [if_pos hc] at g; exact g) (fun hc => by rw [if_neg hc] at g; exact g)
    case le =>
      obtain ⟨x, y, r, rfl, rfl⟩ := mz_ic_some h
      have g := kk H locs lsR h1 h2 h3 h4
      dsimp only at g
      exact lv_icmp_le hx hb hd ht (fun hc => by rw [if_pos hc] at g; exact g) (fun hc => by rw [if_neg hc] at g; exact g)
  case tableswitch d lo hi offs =>
    dsimp only [mz_step] at h
    simp only [Bool.and_eq_true, decide_eq_true_eq] at hok
    obtain ⟨⟨ht, hsz⟩, hall⟩ := hok
    split at h
    · next x r =>
      cases h
      have g := kk H locs lsR h1 h2 h3 h4
      dsimp only at g
      by_cases hc : x.toInt < lo ∨ hi < x.toInt
      · rw [if_pos hc] at g
        exact lv_tableOut hx hb hd hc ht g
      · rw [if_neg hc] at g
        have hlt : (x.toInt - lo).toNat < offs.size := by omega
        have hg : offs[(x.toInt - lo).toNat]? = some (offs.getD (x.toInt - lo).toNat 0) := by
          simp [Array.getD, hlt]
        have h0 : (0 : Int) ≤ (pc : Int) + offs.getD (x.toInt - lo).toNat 0 := by
          have h9 := Array.all_eq_true.mp hall (x.toInt - lo).toNat hlt
          simpa [Array.getD, hlt] using h9
        exact lv_tableIn hx hb hd (fun q => hc (Or.inl q)) (fun q => hc (Or.inr q)) hg (by omega) g
    · cases h
  case iaload =>
    simp only [decide_eq_true_eq] at hok
    subst hok
    dsimp only [mz_step] at h
    split at h
    · next i r q =>
      split at h
      · next n rs e0 =>
        cases h
        have hw : (mz_wl cA ad M 0 SK)[r]? = some (ad r, .inl (cA 0, n, .inl (M.1 r))) := mz_w_at e0
        exact va_iald hx hb hK h1 r 0 hw hty.1 (hP _ List.mem_cons_self) hd (go rfl rfl rfl)
      · cases h
    · cases h
  case baload =>
    simp only [decide_eq_true_eq] at hok
    subst hok
    dsimp only [mz_step] at h
    split at h
    · next i r q =>
      split at h
      · next n rs e0 =>
        cases h
        have hw : (mz_wl cA ad M 0 SK)[r]? = some (ad r, .inl (cA 1, n, .inl (M.1 r))) := mz_w_at e0
        exact va_bald hx hb hK h1 r 1 hw hty.2.1 (hP _ List.mem_cons_self) hd (go rfl rfl rfl)
      · cases h
    · cases h
  case laload =>
    simp only [decide_eq_true_eq] at hok
    subst hok
    dsimp only [mz_step] at h
    split at h
    · next i r q =>
      split at h
      · next n rs e0 =>
        cases h
        have hw : (mz_wl cA ad M 0 SK)[r]? = some (ad r, .inl (cA 2, n, .inr (.inl (M.2 r)))) := mz_w_at e0
        exact va_lald hx hb hK h1 r 2 hw hty.2.2.1 (hP _ List.mem_cons_self) hd (go rfl rfl rfl)
      · cases h
    · cases h
  case aaload =>
    simp only [decide_eq_true_eq] at hok
    subst hok
    dsimp only [mz_step] at h
    split at h
    · next i r q =>
      split at h
      · next t n rs e0 =>
        cases h
        have hin : vp_in i n := hP _ List.mem_cons_self
        have hlen : rs.length = n := hP _ (List.mem_cons_of_mem _ List.mem_cons_self)
        have hw : (mz_wl cA ad M 0 SK)[r]? = some (ad r, .inl (cA (t + 3), n, .inr (.inr (.inr (.inr (fun j => if j < rs.length then some (ad (rs.getD j 0)) else none)))))) := mz_w_at e0
        obtain ⟨ty, hr, ht⟩ := hty.2.2.2 r t n rs e0
        refine mz_aald hx hb hK h1 hr hw ht hin hd ?_
        have hlt : i.toNatClampNeg < rs.length := by rw [hlen]; exact Nat.not_le.mp fun q => hin (Or.inr q)
        rw [if_pos hlt]
        exact go rfl rfl rfl
      · cases h
    · cases h
  case iastore =>
    simp only [decide_eq_true_eq] at hok
    subst hok
    dsimp only [mz_step] at h
    split at h
    · next x i r q =>
      split at h
      · next n rs e0 =>
        cases h
        have hw : (mz_wl cA ad M 0 SK)[r]? = some (ad r, .inl (cA 0, n, .inl (M.1 r))) := mz_w_at e0
        refine va_iast hx hb hK h1 h2 h3 r 0 hw hty.1 (hP _ List.mem_cons_self) hd (fun H1 locs1 g1 g2 g3 => ?_)
        rw [mz_rowI (Or.inl rfl) e0] at g1 g2
        exact kk H1 locs1 lsR g1 g2 g3 h4
      · cases h
    · cases h
  case bastore =>
    simp only [decide_eq_true_eq] at hok
    subst hok
    dsimp only [mz_step] at h
    split at h
    · next x i r q =>
      split at h
      · next n rs e0 =>
        cases h
        have hw : (mz_wl cA ad M 0 SK)[r]? = some (ad r, .inl (cA 1, n, .inl (M.1 r))) := mz_w_at e0
        refine va_bast hx hb hK h1 h2 h3 r 1 hw hty.2.1 (hP _ List.mem_cons_self) hd (fun H1 locs1 g1 g2 g3 => ?_)
        rw [mz_rowI (Or.inr rfl) e0] at g1 g2
        exact kk H1 locs1 lsR g1 g2 g3 h4
      · cases h
    · cases h
  case lastore =>
    simp only [decide_eq_true_eq] at hok
    subst hok
    dsimp only [mz_step] at h
    split at h
    · next x i r q =>
      split at h
      · next n rs e0 =>
        cases h
        have hw : (mz_wl cA ad M 0 SK)[r]? = some (ad r, .inl (cA 2, n, .inr (.inl (M.2 r)))) := mz_w_at e0
        refine va_last hx hb hK h1 h2 h3 r 2 hw hty.2.2.1 (hP _ List.mem_cons_self) hd (fun H1 locs1 g1 g2 g3 => ?_)
        rw [mz_rowL e0] at g1 g2
        exact kk H1 locs1 lsR g1 g2 g3 h4
      · cases h
    · cases h
  case arraylength =>
    simp only [decide_eq_true_eq] at hok
    subst hok
    dsimp only [mz_step] at h
    split at h
    · next r q =>
      split at h
      · next t n rs e0 =>
        cases h
        have hw : (mz_wl cA ad M 0 SK)[r]? = some (ad r, .inl (cA t, n, mz_con ad M r t rs)) := mz_w_at e0
        match t, hw, e0 with
        | 0, hw, _ => exact va_alen hx hb hK h1 r 0 hw hty.1 rfl hd (go rfl rfl rfl)
        | 1, hw, _ => exact va_alen hx hb hK h1 r 1 hw hty.2.1 rfl hd (go rfl rfl rfl)
        | 2, hw, _ => exact va_alen hx hb hK h1 r 2 hw hty.2.2.1 rfl hd (go rfl rfl rfl)
        | t + 3, hw, e0 =>
          obtain ⟨ty, -, ht⟩ := hty.2.2.2 r t n rs e0
          exact va_alen hx hb hK h1 r (t + 3) hw ht rfl hd (go rfl rfl rfl)
      · cases h
    · cases h
  case getfield i =>
    dsimp only [mz_step] at h
    rw [Bool.and_eq_true] at hok
    obtain ⟨hlen, hok⟩ := hok
    simp only [decide_eq_true_eq] at hlen
    subst hlen
    split at h
    · next r q =>
      split at h
      · next ci fs e0 =>
        split at hok
        · next q9 e9 =>
          simp only [Bool.and_eq_true, decide_eq_true_eq] at hok
          obtain ⟨hlt, hj⟩ := hok
          have hw : (mz_wl cA ad M 0 SK)[r]? = some (ad r, .inr (ci, mz_fs ad M r 0 fs)) := mz_w_at e0
          split at h
          · next ek =>
            split at h
            · next hbe =>
              cases h
              have hv : (mz_fs ad M r 0 fs)[a % 64]? = some (.int (M.1 r (a % 64))) := by rw [mz_fs_get, ek]; simp
              have hci := Nat.eq_of_beq_eq_true hbe
              subst hci
              exact va_get (C := q9.1) (T := q9.2.1) (N := q9.2.2) hx hb hts (hcl _ _ e9).1 hown hK h1 r hw e9 (a % 64) hlt (hts _ (mz_okj_in hLK hj)) (fun _ h9 => h9) hv hd (go rfl rfl rfl)
            · cases h
          · next z ek =>
            split at h
            · next hbe =>
              cases h
              have hv : (mz_fs ad M r 0 fs)[a % 64]? = some (.ref (ad z)) := by rw [mz_fs_get, ek]; simp
              have hci := Nat.eq_of_beq_eq_true hbe
              subst hci
              exact va_get (C := q9.1) (T := q9.2.1) (N := q9.2.2) hx hb hts (hcl _ _ e9).1 hown hK h1 r hw e9 (a % 64) hlt (hts _ (mz_okj_in hLK hj)) (fun _ h9 => h9) hv hd (go rfl rfl rfl)
            · cases h
          · cases h
        · cases hok
      · cases h
    · cases h
  case putfield i =>
    dsimp only [mz_step] at h
    rw [Bool.and_eq_true] at hok
    obtain ⟨hlen, hok⟩ := hok
    simp only [decide_eq_true_eq] at hlen
    subst hlen
    split at h
    · next x r q =>
      split at h
      · next ci fs e0 =>
        split at hok
        · next q9 e9 =>
          simp only [Bool.and_eq_true, decide_eq_true_eq] at hok
          obtain ⟨⟨⟨hlt, hj⟩, hfin⟩, htf⟩ := hok
          have hw : (mz_wl cA ad M 0 SK)[r]? = some (ad r, .inr (ci, mz_fs ad M r 0 fs)) := mz_w_at e0
          split at h
          · next ek =>
            split at h
            · next hbe =>
              cases h
              have hci := Nat.eq_of_beq_eq_true hbe
              subst hci
              obtain ⟨c1, c2, c3⟩ := hcl _ _ e9
              have hnf : narrow (tyf (a / 64) (a % 64)) (.int x) = .int x ∧ fits (tyf (a / 64) (a % 64)) (.int x) = true := by
                rw [htf]
                by_cases hv0 : v = 0
                · rw [if_pos hv0]; exact ⟨rfl, rfl⟩
                · rw [if_neg hv0]
                  have hbo : x = 0 ∨ x = 1 := by
                    split at hP
                    · next hz =>
                      exact absurd (Int32.toBitVec_inj.mp (BitVec.eq_of_toNat_eq hz)) hv0
                    · exact hP _ List.mem_cons_self
                  rcases hbo with q | q
                  · subst q; exact ⟨by decide +kernel, by decide +kernel⟩
                  · subst q; exact ⟨by decide +kernel, by decide +kernel⟩
              refine va_put (C := q9.1) (T := q9.2.1) (N := q9.2.2) hx hb hts c1 (tyf (a / 64)) c2 c3 hown hK h1 h2 h3 r hw e9 (a % 64) hlt (hts _ (mz_okj_in hLK hj)) (fun _ h9 => h9) hfin (c2 _ hlt) hnf.1 hnf.2 (by rw [mz_fs_len]; exact mz_nth_lt ek) hd (fun H1 locs1 g1 g2 g3 => ?_)
              rw [show mz_cv ad (Value.int x) = .int x from rfl, mz_rowF e0 ek] at g1 g2
              exact kk H1 locs1 lsR g1 g2 g3 h4
            · cases h
          · cases h
        · cases hok
      · cases h
    · cases h
  all_goals (dsimp only [mz_step] at h; cases h)
end MZ
end
section
/-! runs of the small machine -/
def mz_y (I : mz_I) : MethodName := I.1
def mz_cc (I : mz_I) : ByteArray := I.2.1
def mz_nL (I : mz_I) : Nat := I.2.2.1
def mz_rt (I : mz_I) : Option FieldType := I.2.2.2.1
def mz_sta (I : mz_I) : Bool := I.2.2.2.2.1
def mz_ci (I : mz_I) : Nat := I.2.2.2.2.2.1
def mz_np (I : mz_I) : Nat := I.2.2.2.2.2.2.1
def mz_fr (I : mz_I) : Nat := I.2.2.2.2.2.2.2.1
def mz_lo (I : mz_I) : Nat := I.2.2.2.2.2.2.2.2.1
def mz_rows (I : mz_I) : List mz_R := I.2.2.2.2.2.2.2.2.2
abbrev mz_O : Type := Option Value × mz_M
/-- what a row that calls or returns does; otherwise a step -/
def mz_do (SK : List mz_E) (tab : List mz_I) (run : mz_I → mz_C → mz_O → Prop) (I : mz_I) (r : mz_R) (k : mz_C) (res : mz_O) : Prop := match r.2.1 with
  | .ireturn => ∃ x : Int32, k.2.2.1 = [.int x] ∧ res = (some (.int x), k.2.2.2) ∧ (mz_rt I = some .int ∨ (mz_rt I = some .boolean ∧ (x = 0 ∨ x = 1)))
  | .lreturn => ∃ x : Int64, k.2.2.1 = [.long x] ∧ res = (some (.long x), k.2.2.2) ∧ mz_rt I = some .long
  | .return_ => k.2.2.1 = [] ∧ res = (none, k.2.2.2) ∧ mz_rt I = none
  | .invokevirtual _ => ∃ (J : mz_I) (As : List Value) (b : Nat) (rest : List Value) (fs : List (Option Nat)) (r1 : mz_O), mz_nth tab r.2.2.2.1 = some J ∧ k.2.2.1 = As.reverse ++ .ref b :: rest ∧ As.length = mz_np J ∧ mz_sta J = false ∧ mz_nth SK b = some (.inr (mz_ci J, fs)) ∧ (rest.map fun v => v.category).sum ≤ 8 ∧ (lg_sl (Value.ref b :: As)).length ≤ mz_nL J ∧ run J (0, mz_pad (mz_nL J) (mz_args (.ref b :: As)), [], k.2.2.2) r1 ∧ run I (k.1 + 3, k.2.1, r1.1.toList ++ rest, r1.2) res
  | .invokestatic _ => (∃ (J : mz_I) (As : List Value) (rest : List Value) (r1 : mz_O), mz_nth tab r.2.2.2.1 = some J ∧ ¬ r.2.2.2.1 = 1000 ∧ k.2.2.1 = As.reverse ++ rest ∧ As.length = mz_np J ∧ mz_sta J = true ∧ (rest.map fun v => v.category).sum ≤ 8 ∧ (lg_sl As).length ≤ mz_nL J ∧ run J (0, mz_pad (mz_nL J) (mz_args As), [], k.2.2.2) r1 ∧ run I (k.1 + 3, k.2.1, r1.1.toList ++ rest, r1.2) res) ∨
      ∃ (sp dp n : Int32) (b0 b n0 n1 : Nat) (rs0 rs1 : List Nat) (rest : List Value), r.2.2.2.1 = 1000 ∧ k.2.2.1 = .int n :: .int dp :: .ref b :: .int sp :: .ref b0 :: rest ∧ mz_nth SK b0 = some (.inl (0, n0, rs0)) ∧ mz_nth SK b = some (.inl (0, n1, rs1)) ∧ ¬ sp < 0 ∧ ¬ dp < 0 ∧ ¬ n < 0 ∧ sp.toNatClampNeg + n.toNatClampNeg ≤ n0 ∧ dp.toNatClampNeg + n.toNatClampNeg ≤ n1 ∧ (rest.map fun v => v.category).sum ≤ 8 ∧ run I (k.1 + 3, k.2.1, rest, mz_wr k.2.2.2 b (va_cpy (k.2.2.2.1 b0) (k.2.2.2.1 b) sp.toNatClampNeg dp.toNatClampNeg n.toNatClampNeg)) res
  | ins => ∃ (k2 : mz_C) (P : List Prop), mz_step SK ins r.2.2.1 r.2.2.2.1 r.2.2.2.2.1 k.1 k.2.1 k.2.2.1 k.2.2.2 = some (k2, P) ∧ (∀ x ∈ P, x) ∧ run I k2 res
def mz_run (SK : List mz_E) (tab : List mz_I) : Nat → mz_I → mz_C → mz_O → Prop
  | 0, _, _, _ => False
  | n + 1, I, k, res => ∃ r : mz_R, mz_find k.1 (mz_rows I) = some r ∧ mz_do SK tab (mz_run SK tab n) I r k res
theorem mz_do_mono {SK : List mz_E} {tab : List mz_I} {run run' : mz_I → mz_C → mz_O → Prop} (h : ∀ I k res, run I k res → run' I k res) {I : mz_I} {r : mz_R} {k : mz_C} {res : mz_O} (hd : mz_do SK tab run I r k res) : mz_do SK tab run' I r k res := by
  unfold mz_do at hd ⊢
  split at hd
  · exact hd
  · exact hd
  · exact hd
  · obtain ⟨J, As, b, rest, fs, r1, a1, a2, a3, a4, a5, a6, a7, a8, a9⟩ := hd
    exact ⟨J, As, b, rest, fs, r1, a1, a2, a3, a4, a5, a6, a7, h _ _ _ a8, h _ _ _ a9⟩
  · rcases hd with ⟨J, As, rest, r1, a1, a0, a2, a3, a4, a6, a7, a8, a9⟩ | ⟨sp, dp, n, b0, b, n0, n1, rs0, rs1, rest, a1, a2, a3, a4, a5, a6, a7, a8, a9, b1, b2⟩
    · exact Or.inl ⟨J, As, rest, r1, a1, a0, a2, a3, a4, a6, a7, h _ _ _ a8, h _ _ _ a9⟩
    · exact Or.inr ⟨sp, dp, n, b0, b, n0, n1, rs0, rs1, rest, a1, a2, a3, a4, a5, a6, a7, a8, a9, b1, h _ _ _ b2⟩
  · obtain ⟨k2, P, a1, a2, a3⟩ := hd
    exact ⟨k2, P, a1, a2, h _ _ _ a3⟩
theorem mz_run_succ {SK : List mz_E} {tab : List mz_I} : ∀ {n : Nat} {I : mz_I} {k : mz_C} {res : mz_O}, mz_run SK tab n I k res → mz_run SK tab (n + 1) I k res
  | 0, I, k, res, h => h.elim
  | n + 1, I, k, res, h => by
    obtain ⟨r, h1, h2⟩ := h
    exact ⟨r, h1, mz_do_mono (fun I k res h => mz_run_succ h) h2⟩
theorem mz_run_le {SK : List mz_E} {tab : List mz_I} {n n' : Nat} (hn : n ≤ n') {I : mz_I} {k : mz_C} {res : mz_O} (h : mz_run SK tab n I k res) : mz_run SK tab n' I k res := by
  induction hn with
  | refl => exact h
  | step _ ih => exact mz_run_succ ih
/-! a table's methods: what is checked of each, once, by program -/
def mz_okc (LK : List Cond) (tab : List mz_I) (I : mz_I) (r : mz_R) : Bool := match r with
  | (_, ins, _, a, _, j) => match ins with
    | .invokevirtual i => (match mz_nth tab a with
      | some J => mz_okj LK j (.methodLink (mz_y I).cls i (mz_y J)) && decide (mz_fr J + 1 ≤ mz_fr I) && decide (8 + (mz_nL J + 11) + mz_lo J ≤ mz_lo I)
      | none => false)
    | .invokestatic i => if a = 1000 then mz_okj LK j (.methodLink (mz_y I).cls i arraycopyName) && decide (1 ≤ mz_fr I) && decide (8 + (nativeFrameWords "java/lang/System" "arraycopy" 5 + 11) ≤ mz_lo I) else (match mz_nth tab a with
      | some J => mz_okj LK j (.methodLink (mz_y I).cls i (mz_y J)) && decide (mz_fr J + 1 ≤ mz_fr I) && decide (8 + (mz_nL J + 11) + mz_lo J ≤ mz_lo I)
      | none => false)
    | _ => true
/-- a method's own words: its code, its class, how it is chosen -/
def mz_okm (Ts : List Cond) (cl : List vw_C) (I : mz_I) : Prop := plainName (mz_y I).cls = true ∧ Cond.code (mz_y I) (mz_cc I) (mz_nL I) (mz_rt I) ∈ Ts ∧ Cond.initialized (mz_y I).cls ∈ Ts ∧ ((mz_y I).cls ≠ "java/lang/invoke/MethodHandle" ∧ (mz_y I).cls ≠ "java/lang/invoke/VarHandle" ∧ (parseMethodDescriptor (mz_y I).desc).map (fun d => d.parameters.length) = some (mz_np I)) ∧ (mz_sta I = true → Cond.static (mz_y I) ∈ Ts) ∧ (mz_sta I = false → Cond.instanceMethod (mz_y I) ∈ Ts ∧ Cond.selects (mz_y I).cls (mz_y I) (mz_y I) ∈ Ts ∧ ∃ q : vw_C, cl[mz_ci I]? = some q ∧ q.1 = (mz_y I).cls)
def mz_ok (LK Ts : List Cond) (cl : List vw_C) (tyf : Nat → Nat → FieldType) (tab : List mz_I) : Prop := ∀ (a : Nat) (I : mz_I), mz_nth tab a = some I → mz_okm Ts cl I ∧ ∀ r ∈ mz_rows I, mz_okb LK cl tyf (mz_y I).cls (mz_cc I) r = true ∧ mz_okc LK tab I r = true
theorem mz_find_mem {pc : Nat} : ∀ {l : List mz_R} {r : mz_R}, mz_find pc l = some r → r ∈ l ∧ r.1 = pc
  | [], r, h => by simp [mz_find] at h
  | a :: l, r, h => by
    unfold mz_find at h
    split at h
    · next e => cases h; exact ⟨List.mem_cons_self, Nat.eq_of_beq_eq_true e⟩
    · obtain ⟨h1, h2⟩ := mz_find_mem (l := l) h
      exact ⟨List.mem_cons_of_mem _ h1, h2⟩
/-! a method's contract -/
def mz_ws (Ts : List Cond) (I : mz_I) : List Cond := Cond.code (mz_y I) (mz_cc I) (mz_nL I) (mz_rt I) :: Ts
def mz_rm (I : mz_I) : Room := { frames := mz_fr I, cells := 0, slots := 0, locals := mz_lo I }
def mz_Pc (SK : List mz_E) (cA ad : Nat → Nat) (D : va_G) (cl : List vw_C) (tys : List (ClassId × FieldType)) (As : List Value) (M : mz_M) (sz : Nat) : Array Value → State → Prop :=
  va_Pc (As.map (mz_cv ad)) (fun U => U.heap.size = sz ∧ va_P D cl (mz_wl cA ad M 0 SK) U.heap ∧ va_K D cl tys U ∧ va_D (fun _ => True) (mz_wl cA ad M 0 SK))
def mz_Q (SK : List mz_E) (cA ad : Nat → Nat) (D : va_G) (cl : List vw_C) (tys : List (ClassId × FieldType)) (res : mz_O) (A : Nat → Prop) : Array Value → State → Outcome → State → Prop :=
  fun _ st oc t => (oc = .returned (res.1.map (mz_cv ad)) ∧ va_P D cl (mz_wl cA ad res.2 0 SK) t.heap ∧ va_K D cl tys t ∧ va_D A (mz_wl cA ad res.2 0 SK)) ∧ va_F A st t
theorem mz_blind {SK : List mz_E} {cA ad : Nat → Nat} {D : va_G} {cl : List vw_C} {tys : List (ClassId × FieldType)} {As : List Value} {M : mz_M} {sz : Nat} : FrameBlind (mz_Pc SK cA ad D cl tys As M sz) :=
  fun a U g mk q => by
    obtain ⟨q0, q1, qP, qK, qD⟩ := q
    exact ⟨q0, q1, qP, va_K.moved (u := U) (U := U.calling g mk a) (Vm.Alike.refl U.vm) qK, qD⟩
section MZC
variable {p : Program} {l : Launch} {e : Env} {R : Room} {s : State} {m : MethodId} {args : Array Value} {below : List Frame} {meth : Method} {c : Code} {Q : State → Prop}
variable {cc : ByteArray} {nL : Nat} {D : va_G} {cl : List vw_C} {tys : List (ClassId × FieldType)} {A0 A1 : Nat → Prop} {Ts LK : List Cond} {own : String} {cA ad : Nat → Nat} {SK : List mz_E} {tyf : Nat → Nat → FieldType} {tab : List mz_I}
/-- behind a call -/
theorem mz_back {H H0 : Heap} {locs : List Loc} {pc : Nat} {ls : Array Slot} {st0 rest : List Value} {res : mz_O} {a : Array Value} {free : Nat → Prop} (hr : va_Run p l e R s m args below meth c H locs 0 0 0 0 (F0 m pc ls st0) rest (mz_Q SK cA ad D cl tys res A1 a) free) (hS : va_S A0 H0 H locs) (hA : ∀ q, q < H.size → A1 q → A0 q) (hA2 : ∀ q, A1 q → A0 q) (hf : ∀ q, free q → A0 q)
    (kk : ∀ (H1 : Heap) (locs1 : List Loc), va_P D cl (mz_wl cA ad res.2 0 SK) H1 → va_D A0 (mz_wl cA ad res.2 0 SK) → va_S A0 H0 H1 locs1 → W p l e R s m args below meth c H1 locs1 0 0 Q (F0 m (pc + 3) ls ((res.1.map (mz_cv ad)).toList ++ rest))) : W p l e R s m args below meth c H locs 0 0 Q (F0 m pc ls st0) := by
  intro T hT X
  obtain ⟨v, st₀, t, T', L, h0, X', hL, e1, e2, ⟨⟨hv, qP, qK, qD⟩, hz, hk⟩, st⟩ := hr T hT X
  cases hv
  rw [h0] at hz hk
  obtain ⟨t2, a1, b1⟩ := kk T'.heap (locs ++ L) (by rw [e1]; exact qP) (qD.weaken (fun _ _ _ h => hA2 _ h))
    ⟨Nat.le_trans hS.1 (by rw [e1]; exact hz), fun q h1 h2 => by rw [e1, hk q (Nat.lt_of_lt_of_le h1 hS.1) (fun z => h2 (hA q (Nat.lt_of_lt_of_le h1 hS.1) z))]; exact hS.2.1 q h1 h2, fun q hq => by
      rcases List.mem_append.mp hq with h | h
      · exact hS.2.2 q h
      · exact hf _ (hL q h)⟩ T' rfl X'
  exact ⟨t2, st t2 a1, b1⟩
/-- what a method's runs say of the machine -/
def mz_Sim (l : Launch) (D : va_G) (cl : List vw_C) (tys : List (ClassId × FieldType)) (Ts : List Cond) (cA ad : Nat → Nat) (SK : List mz_E) (n : Nat) (tab : List mz_I) : Prop :=
  ∀ (a : Nat) (I : mz_I) (As : List Value) (M : mz_M) (res : mz_O) (sz : Nat), mz_nth tab a = some I → mz_run SK tab n I (0, mz_pad (mz_nL I) (mz_args As), [], M) res → (lg_sl As).length ≤ mz_nL I →
    Met l (mz_y I) (mz_ws Ts I) (mz_rm I) (mz_Pc SK cA ad D cl tys As M sz) (mz_Q SK cA ad D cl tys res (va_A (mz_wl cA ad M 0 SK) sz)) 0 0 (va_A (mz_wl cA ad M 0 SK) sz)
theorem mz_lgsl (ad : Nat → Nat) : ∀ (As : List Value), (lg_sl (As.map (mz_cv ad))).length = (lg_sl As).length
  | [] => rfl
  | v :: vs => by
    have h := mz_lgsl ad vs
    simp only [lg_sl, List.map_cons, List.flatMap_cons, List.length_append, mz_cv_cat] at h ⊢
    rw [h]
    split <;> rfl
theorem mz_goodIn {Ts : List Cond} (hg : ∀ w ∈ Ts, goodWord w = true) {I J : mz_I} {ws : List Cond} (hJ : Cond.code (mz_y J) (mz_cc J) (mz_nL J) (mz_rt J) ∈ Ts) : GoodIn (mz_ws Ts I) (mz_ws Ts J) := by
  intro w hw
  rcases List.mem_cons.mp hw with rfl | hw
  · exact ⟨List.mem_cons_of_mem _ hJ, good_of_word (hg _ hJ)⟩
  · exact ⟨List.mem_cons_of_mem _ hw, good_of_word (hg _ hw)⟩
set_option maxHeartbeats 4000000 in
theorem mz_sim (hok : mz_ok LK Ts cl tyf tab) (hg : ∀ w ∈ Ts, goodWord w = true) (hLK : ∀ w ∈ LK, w ∈ Ts) (hty : mz_tys cA tys SK) (hcl : mz_cls cl tyf Ts) (hcpy : Cond.native arraycopyName ∈ Ts ∧ Cond.static arraycopyName ∈ Ts ∧ Cond.initialized "java/lang/System" ∈ Ts) : ∀ n, mz_Sim l D cl tys Ts cA ad SK n tab := by
  have body : ∀ (n : Nat), (∀ k, k < n → mz_Sim l D cl tys Ts cA ad SK k tab) → ∀ (j : Nat), j ≤ n → ∀ (p : Program) (e : Env) (s : State) (m : MethodId) (args : Array Value) (below : List Frame) (meth : Method) (c : Code) (a : Nat) (I : mz_I) (k : mz_C) (res : mz_O) (A : Nat → Prop), mz_nth tab a = some I → p.tables.exec = Jvm.exec → c.code = mz_cc I → c.maxLocals = mz_nL I → meth.sig.returnType = mz_rt I → meth.locks = false → s.vm.findClass (mz_y I).cls = some m.cls → (∀ w ∈ mz_ws Ts I, w.before args s = true) → va_K D cl tys s → (∀ q, s.heap.size ≤ q → A q) → mz_run SK tab j I k res →
      mz_W p l e (mz_rm I) s m args below meth c (MQ below (mz_Q SK cA ad D cl tys res A) args s 0 0 A) (mz_nL I) D cl A cA ad SK k := by
    intro n ihn j
    induction j with
    | zero => intro _ p e s m args below meth c a I k res A _ _ _ _ _ _ _ _ _ _ h; exact h.elim
    | succ j ihj =>
      intro hj p e s m args below meth c a I k res A hI hx hb hml hr hlocks hown hts hK hA hrun
      have ih := fun k2 res2 h => ihj (by omega) p e s m args below meth c a I k2 res2 A hI hx hb hml hr hlocks hown hts hK hA h
      obtain ⟨⟨pc', ins, len, a9, v9, j9⟩, hf, hdo⟩ := hrun
      obtain ⟨hmem, hpc⟩ := mz_find_mem hf
      obtain ⟨hokm, hokr⟩ := hok a I hI
      obtain ⟨hob, hoc⟩ := hokr _ hmem
      dsimp only at hpc
      obtain ⟨pc, ls, st, M⟩ := k
      dsimp only at hpc
      subst hpc
      have hts2 : ∀ w ∈ Ts, w.before args s = true := fun w hw => hts w (List.mem_cons_of_mem _ hw)
      have hdc : decode (mz_cc I) pc' = .ok (ins, len) := by
        have h9 := hob
        unfold mz_okb at h9
        dsimp only at h9
        rw [Bool.and_eq_true] at h9
        exact mz_decode h9.1
      unfold mz_do at hdo
      dsimp only at hdo
      have hlen1 : ∀ x : Nat, mz_okb LK cl tyf (mz_y I).cls (mz_cc I) (pc', ins, len, a9, v9, j9) = true → (len = (match ins with
        | .invokevirtual _ => 3
        | .invokestatic _ => 3
        | .ireturn => 1
        | .lreturn => 1
        | .return_ => 1
        | _ => len)) := by
        intro _ h9
        unfold mz_okb at h9
        dsimp only at h9
        rw [Bool.and_eq_true] at h9
        cases ins <;> first | rfl | exact of_decide_eq_true h9.2
      have hln := hlen1 0 hob
      split at hdo
      · -- ireturn
        obtain ⟨x, e1, e2, e3⟩ := hdo
        dsimp only at hln
        subst hln
        subst e1
        subst e2
        intro H locs lsR h1 h2 h3 h4
        dsimp only at h1 h2 h3 h4
        rcases e3 with e3 | ⟨e3, e4⟩
        · exact W.iret (v := x) hx hb (hr.trans e3) (fun t ht hW => ⟨⟨rfl, by rw [ht]; exact h1, va_K.moved hW.alike hK, h2⟩, h3.F ht⟩) h3.2.2 hdc hlocks
        · have hn : narrow .boolean (.int x) = .int x := by rcases e4 with rfl | rfl <;> decide +kernel
          exact W.zret (v := x) (ty := .boolean) hx hb (hr.trans e3) hn (fun t ht hW => ⟨⟨rfl, by rw [ht]; exact h1, va_K.moved hW.alike hK, h2⟩, h3.F ht⟩) h3.2.2 hdc hlocks
      · -- lreturn
        obtain ⟨x, e1, e2, e3⟩ := hdo
        dsimp only at hln
        subst hln
        subst e1
        subst e2
        intro H locs lsR h1 h2 h3 h4
        dsimp only at h1 h2 h3 h4
        exact W.lret (v := x) hx hb (hr.trans e3) (fun t ht hW => ⟨⟨rfl, by rw [ht]; exact h1, va_K.moved hW.alike hK, h2⟩, h3.F ht⟩) h3.2.2 hdc hlocks
      · -- return
        obtain ⟨e1, e2, e3⟩ := hdo
        dsimp only at hln
        subst hln
        subst e1
        subst e2
        intro H locs lsR h1 h2 h3 h4
        dsimp only at h1 h2 h3 h4
        exact W.vret hx hb (hr.trans e3) (fun t ht hW => ⟨⟨rfl, by rw [ht]; exact h1, va_K.moved hW.alike hK, h2⟩, h3.F ht⟩) h3.2.2 hdc hlocks
      · -- invokevirtual
        next i9 =>
        obtain ⟨J, As, b, rest, fs, r1, a1, a2, a3, a4, a5, a6, a7, a8, b9⟩ := hdo
        dsimp only at hln
        subst hln
        subst a2
        intro H locs lsR h1 h2 h3 h4
        dsimp only at h1 h2 h3 h4
        unfold mz_okc at hoc
        dsimp only at hoc a1
        rw [a1] at hoc
        simp only [Bool.and_eq_true, decide_eq_true_eq] at hoc
        obtain ⟨⟨c1, c2⟩, c3⟩ := hoc
        obtain ⟨⟨m1, m2, m3, m4, -, m5⟩, -⟩ := hok _ J a1
        obtain ⟨m6, m7, q9, m8, m9⟩ := m5 a4
        have hM := ihn j (by omega) _ J (.ref b :: As) M r1 H.size a1 a8 a7
        have hw : (mz_wl cA ad M 0 SK)[b]? = some (ad b, .inr (mz_ci J, mz_fs ad M b 0 fs)) := mz_w_at a5
        have hCB := callB_of (R := mz_rm I) (rm := mz_rm J) (ws := mz_ws Ts J) (ws' := Ts) (mc := 0) (ms := 0) (own := (mz_y I).cls) (index := i9) (mz_np J) hts (mz_goodIn (ws := Ts) hg m2) rfl rfl rfl (hts2 _ m3) (hts2 _ (mz_okj_in hLK c1)) m4 ⟨c2, c3⟩
        have hrcv := va_recv hK h1 m8 hw
        rw [m9] at hrcv
        have hrn := va_runV (e := e) (below := below) (meth := meth) (C := (mz_y J).cls) (b := ad b) (As := As.map (mz_cv ad)) (rest := rest.map (mz_cv ad)) (g := F0 m pc' lsR ((As.reverse ++ .ref b :: rest).map (mz_cv ad))) (locs := locs) (cells := 0) (slots := 0) ⟨hx, hb, hml, hown, hts⟩ hM ⟨hCB, hts2 _ m6, hts2 _ m7⟩ ⟨mz_blind, hrcv, fun U hU hW => ⟨rfl, by rw [hU], by rw [hU]; exact h1, va_K.moved hW.alike hK, h2.weaken (fun _ _ _ _ => trivial)⟩⟩ rfl (by rw [List.length_map]; exact a3) h4.1 (by rw [List.map_append, List.map_reverse]; rfl) (lv_room (by rw [mz_sum]; exact a6)) hdc ⟨Nat.le_refl _, Nat.le_refl _⟩
        have hsub : ∀ q, va_A (mz_wl cA ad M 0 SK) H.size q → A q := by
          rintro q (⟨k0, e0, h⟩ | h)
          · exact h2.2 k0 _ h
          · exact hA q (Nat.le_trans h3.1 h)
        refine mz_back hrn h3 (fun q _ h => hsub q h) hsub hsub (fun H1 locs1 g1 g2 g3 => ?_)
        have := ih _ res b9 H1 locs1 lsR g1 g2 g3 h4
        dsimp only at this
        obtain ⟨_ | v1, M1⟩ := r1
        · exact this
        · exact this
      · -- invokestatic
        next i9 =>
        rcases hdo with ⟨J, As, rest, r1, a1, a0, a2, a3, a4, a6, a7, a8, b9⟩ | ⟨sp, dp, n9, b0, b, n0, n1, rs0, rs1, rest, a1, a2, a3, a4, a5, a6, a7, a8, a9', b1, b2⟩
        · dsimp only at hln
          subst hln
          subst a2
          intro H locs lsR h1 h2 h3 h4
          dsimp only at h1 h2 h3 h4
          unfold mz_okc at hoc
          dsimp only at hoc a1
          rw [if_neg a0, a1] at hoc
          simp only [Bool.and_eq_true, decide_eq_true_eq] at hoc
          obtain ⟨⟨c1, c2⟩, c3⟩ := hoc
          obtain ⟨⟨m1, m2, m3, m4, m5, -⟩, -⟩ := hok _ J a1
          have hM := ihn j (by omega) _ J As M r1 H.size a1 a8 a7
          have hCB := callB_of (R := mz_rm I) (rm := mz_rm J) (ws := mz_ws Ts J) (ws' := Ts) (mc := 0) (ms := 0) (own := (mz_y I).cls) (index := i9) (mz_np J) hts (mz_goodIn (ws := Ts) hg m2) rfl rfl rfl (hts2 _ m3) (hts2 _ (mz_okj_in hLK c1)) m4 ⟨c2, c3⟩
          have hrn := va_runS (e := e) (below := below) (meth := meth) (As := As.map (mz_cv ad)) (rest := rest.map (mz_cv ad)) (g := F0 m pc' lsR ((As.reverse ++ rest).map (mz_cv ad))) (locs := locs) (cells := 0) (slots := 0) ⟨hx, hb, hml, hown, hts⟩ hM ⟨hCB, hts2 _ (m5 a4)⟩ ⟨mz_blind, fun U hU hW => ⟨rfl, by rw [hU], by rw [hU]; exact h1, va_K.moved hW.alike hK, h2.weaken (fun _ _ _ _ => trivial)⟩⟩ rfl (by rw [List.length_map]; exact a3) h4.1 (by rw [List.map_append, List.map_reverse]) (lv_room (by rw [mz_sum]; exact a6)) hdc ⟨Nat.le_refl _, Nat.le_refl _⟩
          have hsub : ∀ q, va_A (mz_wl cA ad M 0 SK) H.size q → A q := by
            rintro q (⟨k0, e0, h⟩ | h)
            · exact h2.2 k0 _ h
            · exact hA q (Nat.le_trans h3.1 h)
          refine mz_back hrn h3 (fun q _ h => hsub q h) hsub hsub (fun H1 locs1 g1 g2 g3 => ?_)
          have := ih _ res b9 H1 locs1 lsR g1 g2 g3 h4
          dsimp only at this
          obtain ⟨_ | v1, M1⟩ := r1
          · exact this
          · exact this
        · dsimp only at hln a1
          subst hln
          subst a2
          subst a1
          intro H locs lsR h1 h2 h3 h4
          dsimp only at h1 h2 h3 h4
          unfold mz_okc at hoc
          dsimp only at hoc
          rw [if_pos rfl] at hoc
          simp only [Bool.and_eq_true, decide_eq_true_eq] at hoc
          obtain ⟨⟨c1, c2⟩, c3⟩ := hoc
          have hw0 : (mz_wl cA ad M 0 SK)[b0]? = some (ad b0, .inl (cA 0, n0, .inl (M.1 b0))) := mz_w_at a3
          have hw1 : (mz_wl cA ad M 0 SK)[b]? = some (ad b, .inl (cA 0, n1, .inl (M.1 b))) := mz_w_at a4
          refine va_copyi hx hb (hml.trans h4.1.symm) hown (hts2 _ (mz_okj_in hLK c1)) (hts2 _ hcpy.1) (hts2 _ hcpy.2.1) (hts2 _ hcpy.2.2) hK h1 h2 h3 b0 b 0 0 hw0 hw1 hty.1 hty.1 rfl a5 a6 a7 a8 a9' (fun _ _ => rfl) c2 (by rw [mz_sum]; show _ ≤ mz_lo I; omega) hdc (fun H1 locs1 g1 g2 g3 => ?_)
          rw [mz_rowI (Or.inl rfl) a4] at g1 g2
          exact ih _ res b2 H1 locs1 lsR g1 g2 g3 h4
      · -- a step
        obtain ⟨k2, P, a1, a2, a3⟩ := hdo
        exact mz_one hx hb hml hown hts2 hLK hK hty hcl hob a1 a2 (ih k2 res a3)
  intro n
  induction n using Nat.strongRecOn with
  | _ n ihn =>
    intro a I As M res sz hI hrun hlen
    obtain ⟨⟨m1, m2, m3, m4, -, -⟩, -⟩ := hok a I hI
    refine Met.ofW (cc := mz_cc I) (maxL := mz_nL I) (ret := mz_rt I) m1 rfl ?_
    intro p e s m args below meth c s₁ B hml hv
    obtain ⟨rfl, hsz, h1, hK, hD0⟩ := hv
    subst hsz
    have hts := atoms_spec (ws := mz_ws Ts I) B.pre
    have hown : s.vm.findClass (mz_y I).cls = some m.cls := findClass_of_methodNamed B.named
    have hlocks := B.notSynchronized
    rw [lg_entry_eq]
    refine body n ihn n (Nat.le_refl _) p e s m _ below meth c a I _ res _ hI B.exec B.bytes hml B.returns hlocks hown hts hK (fun q h => Or.inr h) hrun s.heap [] _ h1 hD0.self va_S.rf (mz_entry ad As (by rw [mz_lgsl]; exact hlen))
end MZC
end
section
/-! a table's checks, by program -/
def mz_okmb (LK : List Cond) (cl : List vw_C) (I : mz_I) (jc ji jm jx : Nat) : Bool := plainName (mz_y I).cls && mz_okj LK jc (.code (mz_y I) (mz_cc I) (mz_nL I) (mz_rt I)) && mz_okj LK ji (.initialized (mz_y I).cls) && decide ((mz_y I).cls ≠ "java/lang/invoke/MethodHandle") && decide ((mz_y I).cls ≠ "java/lang/invoke/VarHandle") && decide ((parseMethodDescriptor (mz_y I).desc).map (fun d => d.parameters.length) = some (mz_np I)) && (match mz_sta I with
  | true => mz_okj LK jm (.static (mz_y I))
  | false => mz_okj LK jm (.instanceMethod (mz_y I)) && mz_okj LK jx (.selects (mz_y I).cls (mz_y I) (mz_y I)) && (match cl[mz_ci I]? with
    | some q => decide (q.1 = (mz_y I).cls)
    | none => false))
theorem mz_okm_of {LK Ts : List Cond} {cl : List vw_C} {I : mz_I} (hLK : ∀ w ∈ LK, w ∈ Ts) (jc ji jm jx : Nat) (h : mz_okmb LK cl I jc ji jm jx = true) : mz_okm Ts cl I := by
  unfold mz_okmb at h
  simp only [Bool.and_eq_true, decide_eq_true_eq] at h
  obtain ⟨⟨⟨⟨⟨⟨h1, h2⟩, h3⟩, h4⟩, h5⟩, h6⟩, h7⟩ := h
  refine ⟨h1, mz_okj_in hLK h2, mz_okj_in hLK h3, ⟨h4, h5, h6⟩, fun e => ?_, fun e => ?_⟩
  · rw [e] at h7
    exact mz_okj_in hLK h7
  · rw [e] at h7
    simp only [Bool.and_eq_true] at h7
    obtain ⟨⟨h8, h9⟩, h10⟩ := h7
    refine ⟨mz_okj_in hLK h8, mz_okj_in hLK h9, ?_⟩
    split at h10
    · next q hq => exact ⟨q, hq, of_decide_eq_true h10⟩
    · cases h10
/-- all of a method's checks -/
def mz_okI (LK : List Cond) (cl : List vw_C) (tyf : Nat → Nat → FieldType) (tab : List mz_I) (I : mz_I) (j : Nat × Nat × Nat × Nat) : Bool := mz_okmb LK cl I j.1 j.2.1 j.2.2.1 j.2.2.2 && (mz_rows I).all (fun r => mz_okb LK cl tyf (mz_y I).cls (mz_cc I) r && mz_okc LK tab I r)
def mz_okP (LK Ts : List Cond) (cl : List vw_C) (tyf : Nat → Nat → FieldType) (tab : List mz_I) (I : mz_I) : Prop := mz_okm Ts cl I ∧ ∀ r ∈ mz_rows I, mz_okb LK cl tyf (mz_y I).cls (mz_cc I) r = true ∧ mz_okc LK tab I r = true
theorem mz_okP_of {LK Ts : List Cond} {cl : List vw_C} {tyf : Nat → Nat → FieldType} {tab : List mz_I} {I : mz_I} (hLK : ∀ w ∈ LK, w ∈ Ts) (j : Nat × Nat × Nat × Nat) (h : mz_okI LK cl tyf tab I j = true) : mz_okP LK Ts cl tyf tab I := by
  unfold mz_okI at h
  rw [Bool.and_eq_true] at h
  refine ⟨mz_okm_of hLK _ _ _ _ h.1, fun r hr => ?_⟩
  have h2 := List.all_eq_true.mp h.2 r hr
  rw [Bool.and_eq_true] at h2
  exact h2
theorem mz_ok_of {LK Ts : List Cond} {cl : List vw_C} {tyf : Nat → Nat → FieldType} {tab : List mz_I} (h : ∀ I ∈ tab, mz_okP LK Ts cl tyf tab I) : mz_ok LK Ts cl tyf tab := fun _ I hI => h I (mz_nth_mem hI)
end
section
/-! runs, whatever their length -/
def mz_Go (SK : List mz_E) (tab : List mz_I) (I : mz_I) (k : mz_C) (res : mz_O) : Prop := ∃ n, mz_run SK tab n I k res
def mz_stp (SK : List mz_E) (I : mz_I) (k : mz_C) : Option (mz_C × List Prop) := match mz_find k.1 (mz_rows I) with
  | some r => mz_step SK r.2.1 r.2.2.1 r.2.2.2.1 r.2.2.2.2.1 k.1 k.2.1 k.2.2.1 k.2.2.2
  | none => none
def mz_stps (SK : List mz_E) (I : mz_I) : Nat → mz_C → Option (mz_C × List Prop)
  | 0, k => some (k, [])
  | n + 1, k => match mz_stp SK I k with
    | some (k2, P) => (match mz_stps SK I n k2 with
      | some (k3, P3) => some (k3, P ++ P3)
      | none => none)
    | none => none
section MZG
variable {SK : List mz_E} {tab : List mz_I} {I J : mz_I} {res : mz_O}
theorem mz_Go.step {k k2 : mz_C} {P : List Prop} (h : mz_stp SK I k = some (k2, P)) (hP : ∀ x ∈ P, x) (g : mz_Go SK tab I k2 res) : mz_Go SK tab I k res := by
  obtain ⟨n, g⟩ := g
  unfold mz_stp at h
  split at h
  · next r hr =>
    refine ⟨n + 1, r, hr, ?_⟩
    obtain ⟨pc, ins, len, a, v, j⟩ := r
    cases ins <;> first | exact ⟨k2, P, h, hP, g⟩ | (exfalso; dsimp only [mz_step] at h; cases h; done)
  · cases h
theorem mz_Go.steps : ∀ {n : Nat} {k k2 : mz_C} {P : List Prop}, mz_stps SK I n k = some (k2, P) → (∀ x ∈ P, x) → mz_Go SK tab I k2 res → mz_Go SK tab I k res
  | 0, k, k2, P, h, hP, g => by
    simp only [mz_stps, Option.some.injEq, Prod.mk.injEq] at h
    rw [h.1]
    exact g
  | n + 1, k, k2, P, h, hP, g => by
    unfold mz_stps at h
    split at h
    · next k1 P1 h1 =>
      split at h
      · next k3 P3 h3 =>
        simp only [Option.some.injEq, Prod.mk.injEq] at h
        obtain ⟨rfl, rfl⟩ := h
        exact mz_Go.step h1 (fun x hx => hP x (List.mem_append_left _ hx)) (mz_Go.steps h3 (fun x hx => hP x (List.mem_append_right _ hx)) g)
      · cases h
    · cases h
theorem mz_Go.ite {c : Prop} {a b : Nat} {r : mz_L × List Value × mz_M} {hd : Decidable c} (h1 : c → mz_Go SK tab I (a, r) res) (h2 : ¬ c → mz_Go SK tab I (b, r) res) : mz_Go SK tab I (@ite Nat c hd a b, r) res := by
  by_cases h : c
  · rw [if_pos h]; exact h1 h
  · rw [if_neg h]; exact h2 h
theorem mz_Go.iret {pc len a j : Nat} {v x : Int32} {ls : mz_L} {M : mz_M} (hf : mz_find pc (mz_rows I) = some (pc, .ireturn, len, a, v, j)) (hr : mz_rt I = some .int) : mz_Go SK tab I (pc, ls, [.int x], M) (some (.int x), M) :=
  ⟨1, _, hf, x, rfl, rfl, Or.inl hr⟩
theorem mz_Go.zret {pc len a j : Nat} {v x : Int32} {ls : mz_L} {M : mz_M} (hf : mz_find pc (mz_rows I) = some (pc, .ireturn, len, a, v, j)) (hr : mz_rt I = some .boolean) (hx : x = 0 ∨ x = 1) : mz_Go SK tab I (pc, ls, [.int x], M) (some (.int x), M) :=
  ⟨1, _, hf, x, rfl, rfl, Or.inr ⟨hr, hx⟩⟩
theorem mz_Go.lret {pc len a j : Nat} {v : Int32} {x : Int64} {ls : mz_L} {M : mz_M} (hf : mz_find pc (mz_rows I) = some (pc, .lreturn, len, a, v, j)) (hr : mz_rt I = some .long) : mz_Go SK tab I (pc, ls, [.long x], M) (some (.long x), M) :=
  ⟨1, _, hf, x, rfl, rfl, hr⟩
theorem mz_Go.vret {pc len a j : Nat} {v : Int32} {ls : mz_L} {M : mz_M} (hf : mz_find pc (mz_rows I) = some (pc, .return_, len, a, v, j)) (hr : mz_rt I = none) : mz_Go SK tab I (pc, ls, [], M) (none, M) :=
  ⟨1, _, hf, rfl, rfl, hr⟩
/-- a method's answer and what it leaves -/
def mz_Call (SK : List mz_E) (tab : List mz_I) (J : mz_I) (As : List Value) (M : mz_M) (r : mz_O) : Prop := mz_Go SK tab J (0, mz_pad (mz_nL J) (mz_args As), [], M) r
theorem mz_Go.callV {pc len a j i b : Nat} {v : Int32} {ls : mz_L} {st rest As : List Value} {M : mz_M} {fs : List (Option Nat)} {r1 : mz_O} (hf : mz_find pc (mz_rows I) = some (pc, .invokevirtual i, len, a, v, j)) (hJ : mz_nth tab a = some J) (hb : mz_nth SK b = some (.inr (mz_ci J, fs))) (hst : st = As.reverse ++ .ref b :: rest) (h3 : As.length = mz_np J) (h4 : mz_sta J = false) (h5 : (rest.map fun v => v.category).sum ≤ 8) (h6 : (lg_sl (Value.ref b :: As)).length ≤ mz_nL J)
    (hc : mz_Call SK tab J (.ref b :: As) M r1) (g : mz_Go SK tab I (pc + 3, ls, r1.1.toList ++ rest, r1.2) res) : mz_Go SK tab I (pc, ls, st, M) res := by
  obtain ⟨n1, hc⟩ := hc
  obtain ⟨n2, g⟩ := g
  exact ⟨max n1 n2 + 1, _, hf, J, As, b, rest, fs, r1, hJ, hst, h3, h4, hb, h5, h6, mz_run_le (Nat.le_max_left _ _) hc, mz_run_le (Nat.le_max_right _ _) g⟩
theorem mz_Go.callS {pc len a j i : Nat} {v : Int32} {ls : mz_L} {st rest As : List Value} {M : mz_M} {r1 : mz_O} (hf : mz_find pc (mz_rows I) = some (pc, .invokestatic i, len, a, v, j)) (hJ : mz_nth tab a = some J) (h0 : ¬ a = 1000) (hst : st = As.reverse ++ rest) (h3 : As.length = mz_np J) (h4 : mz_sta J = true) (h5 : (rest.map fun v => v.category).sum ≤ 8) (h6 : (lg_sl As).length ≤ mz_nL J)
    (hc : mz_Call SK tab J As M r1) (g : mz_Go SK tab I (pc + 3, ls, r1.1.toList ++ rest, r1.2) res) : mz_Go SK tab I (pc, ls, st, M) res := by
  obtain ⟨n1, hc⟩ := hc
  obtain ⟨n2, g⟩ := g
  exact ⟨max n1 n2 + 1, _, hf, Or.inl ⟨J, As, rest, r1, hJ, h0, hst, h3, h4, h5, h6, mz_run_le (Nat.le_max_left _ _) hc, mz_run_le (Nat.le_max_right _ _) g⟩⟩
theorem mz_Go.copy {pc len j i b0 b n0 n1 : Nat} {v sp dp n : Int32} {ls : mz_L} {rest : List Value} {M : mz_M} {rs0 rs1 : List Nat} (hf : mz_find pc (mz_rows I) = some (pc, .invokestatic i, len, 1000, v, j)) (h0 : mz_nth SK b0 = some (.inl (0, n0, rs0))) (h1 : mz_nth SK b = some (.inl (0, n1, rs1))) (h2 : ¬ sp < 0) (h3 : ¬ dp < 0) (h4 : ¬ n < 0) (h5 : sp.toNatClampNeg + n.toNatClampNeg ≤ n0) (h6 : dp.toNatClampNeg + n.toNatClampNeg ≤ n1) (h7 : (rest.map fun v => v.category).sum ≤ 8)
    (g : mz_Go SK tab I (pc + 3, ls, rest, mz_wr M b (va_cpy (M.1 b0) (M.1 b) sp.toNatClampNeg dp.toNatClampNeg n.toNatClampNeg)) res) : mz_Go SK tab I (pc, ls, .int n :: .int dp :: .ref b :: .int sp :: .ref b0 :: rest, M) res := by
  obtain ⟨n2, g⟩ := g
  exact ⟨n2 + 1, _, hf, Or.inr ⟨sp, dp, n, b0, b, n0, n1, rs0, rs1, rest, rfl, rfl, h0, h1, h2, h3, h4, h5, h6, h7, g⟩⟩
end MZG
end
section
/-! the table of the class and the reference: written by program (wip/whole/py/gentab.py) out of what TURN printed -/
def mq_X0_settle : mz_I := (yX0_settle, cX0_settle, 4, none, false, 0, 1, 4, 93, [(0, .aload_n 0, 1, 0, 0, 0), (1, .iload_n 1, 1, 1, 0, 0), (2, .putfield 18, 3, 0, 0, 0), (5, .aload_n 0, 1, 0, 0, 0), (6, .iload_n 1, 1, 1, 0, 0), (7, .invokestatic 22, 3, 37, 0, 1), (10, .putfield 28, 3, 1, 0, 2), (13, .aload_n 0, 1, 0, 0, 0), (14, .iconst 1, 1, 0, 1, 0), (15, .aload_n 0, 1, 0, 0, 0), (16, .getfield 28, 3, 1, 0, 2), (19, .ishl, 1, 0, 0, 0), (20, .putfield 31, 3, 2, 0, 3), (23, .iconst 0, 1, 0, 0, 0), (24, .istore_n 2, 1, 2, 0, 0), (25, .iconst 2, 1, 0, 2, 0), (26, .istore_n 3, 1, 3, 0, 0), (27, .iload_n 3, 1, 3, 0, 0), (28, .aload_n 0, 1, 0, 0, 0), (29, .getfield 31, 3, 2, 0, 3), (32, .if_icmp .ge 19, 3, 51, 0, 0), (35, .iload_n 2, 1, 2, 0, 0), (36, .ifCond .ne 15, 3, 51, 0, 0), (39, .aload_n 0, 1, 0, 0, 0), (40, .iload_n 3, 1, 3, 0, 0), (41, .invokevirtual 34, 3, 1, 0, 4), (44, .istore_n 2, 1, 2, 0, 0), (45, .iinc 3 1, 3, 3, 1, 0), (48, .goto (-21), 3, 27, 0, 0), (51, .aload_n 0, 1, 0, 0, 0), (52, .iconst 0, 1, 0, 0, 0), (53, .putfield 38, 3, 5, 0, 5), (56, .iconst 0, 1, 0, 0, 0), (57, .istore_n 3, 1, 3, 0, 0), (58, .iload_n 3, 1, 3, 0, 0), (59, .aload_n 0, 1, 0, 0, 0), (60, .getfield 28, 3, 1, 0, 2), (63, .if_icmp .ge 28, 3, 91, 0, 0), (66, .aload_n 0, 1, 0, 0, 0), (67, .dup, 1, 0, 0, 0), (68, .getfield 38, 3, 5, 0, 5), (71, .aload_n 0, 1, 0, 0, 0), (72, .iconst 1, 1, 0, 1, 0), (73, .iload_n 3, 1, 3, 0, 0), (74, .ishl, 1, 0, 0, 0), (75, .iconst 1, 1, 0, 1, 0), (76, .invokevirtual 41, 3, 12, 0, 6), (79, .iload_n 3, 1, 3, 0, 0), (80, .ishl, 1, 0, 0, 0), (81, .ior, 1, 0, 0, 0), (82, .putfield 38, 3, 5, 0, 5), (85, .iinc 3 1, 3, 3, 1, 0), (88, .goto (-30), 3, 58, 0, 0), (91, .return_, 1, 0, 0, 0)])
def mq_X0_fills : mz_I := (yX0_fills, cX0_fills, 4, (some .boolean), false, 0, 1, 3, 70, [(0, .iconst 1, 1, 0, 1, 0), (1, .istore_n 2, 1, 2, 0, 0), (2, .iconst 0, 1, 0, 0, 0), (3, .istore_n 3, 1, 3, 0, 0), (4, .iload_n 3, 1, 3, 0, 0), (5, .aload_n 0, 1, 0, 0, 0), (6, .getfield 31, 3, 2, 0, 3), (9, .iconst 1, 1, 0, 1, 0), (10, .isub, 1, 0, 0, 0), (11, .if_icmp .ge 41, 3, 52, 0, 0), (14, .iload_n 3, 1, 3, 0, 0), (15, .ifCond .le 10, 3, 25, 0, 0), (18, .iload_n 2, 1, 2, 0, 0), (19, .iconst 1, 1, 0, 1, 0), (20, .if_icmp .ne 5, 3, 25, 0, 0), (23, .iconst 0, 1, 0, 0, 0), (24, .ireturn, 1, 0, 0, 0), (25, .aload_n 0, 1, 0, 0, 0), (26, .getfield 9, 3, 3, 0, 7), (29, .iload_n 3, 1, 3, 0, 0), (30, .iload_n 2, 1, 2, 0, 0), (31, .iastore, 1, 0, 0, 0), (32, .aload_n 0, 1, 0, 0, 0), (33, .getfield 15, 3, 4, 0, 8), (36, .iload_n 2, 1, 2, 0, 0), (37, .iload_n 3, 1, 3, 0, 0), (38, .iastore, 1, 0, 0, 0), (39, .aload_n 0, 1, 0, 0, 0), (40, .iload_n 2, 1, 2, 0, 0), (41, .iload_n 1, 1, 1, 0, 0), (42, .invokevirtual 45, 3, 2, 0, 9), (45, .istore_n 2, 1, 2, 0, 0), (46, .iinc 3 1, 3, 3, 1, 0), (49, .goto (-45), 3, 4, 0, 0), (52, .iconst 1, 1, 0, 1, 0), (53, .ireturn, 1, 0, 0, 0)])
def mq_X0_multiplied : mz_I := (yX0_multiplied, cX0_multiplied, 5, (some .int), false, 0, 2, 2, 46, [(0, .iconst 0, 1, 0, 0, 0), (1, .istore_n 3, 1, 3, 0, 0), (2, .iconst 0, 1, 0, 0, 0), (3, .istore 4, 2, 4, 0, 0), (5, .iload 4, 2, 4, 0, 0), (7, .bipush 8, 2, 0, 8, 0), (9, .if_icmp .ge 25, 3, 34, 0, 0), (12, .iload_n 2, 1, 2, 0, 0), (13, .iload 4, 2, 4, 0, 0), (15, .ishr, 1, 0, 0, 0), (16, .iconst 1, 1, 0, 1, 0), (17, .iand, 1, 0, 0, 0), (18, .ifCond .eq 10, 3, 28, 0, 0), (21, .iload_n 3, 1, 3, 0, 0), (22, .iload_n 1, 1, 1, 0, 0), (23, .iload 4, 2, 4, 0, 0), (25, .ishl, 1, 0, 0, 0), (26, .ixor, 1, 0, 0, 0), (27, .istore_n 3, 1, 3, 0, 0), (28, .iinc 4 1, 3, 4, 1, 0), (31, .goto (-26), 3, 5, 0, 0), (34, .iload_n 3, 1, 3, 0, 0), (35, .aload_n 0, 1, 0, 0, 0), (36, .getfield 18, 3, 0, 0, 0), (39, .invokestatic 48, 3, 38, 0, 10), (42, .ireturn, 1, 0, 0, 0)])
def mq_X0_times : mz_I := (yX0_times, cX0_times, 4, (some .int), false, 0, 2, 0, 0, [(0, .iload_n 1, 1, 1, 0, 0), (1, .ifCond .eq 7, 3, 8, 0, 0), (4, .iload_n 2, 1, 2, 0, 0), (5, .ifCond .ne 5, 3, 10, 0, 0), (8, .iconst 0, 1, 0, 0, 0), (9, .ireturn, 1, 0, 0, 0), (10, .aload_n 0, 1, 0, 0, 0), (11, .getfield 15, 3, 4, 0, 8), (14, .iload_n 1, 1, 1, 0, 0), (15, .iaload, 1, 0, 0, 0), (16, .aload_n 0, 1, 0, 0, 0), (17, .getfield 15, 3, 4, 0, 8), (20, .iload_n 2, 1, 2, 0, 0), (21, .iaload, 1, 0, 0, 0), (22, .iadd, 1, 0, 0, 0), (23, .istore_n 3, 1, 3, 0, 0), (24, .aload_n 0, 1, 0, 0, 0), (25, .getfield 9, 3, 3, 0, 7), (28, .iload_n 3, 1, 3, 0, 0), (29, .aload_n 0, 1, 0, 0, 0), (30, .getfield 31, 3, 2, 0, 3), (33, .iconst 1, 1, 0, 1, 0), (34, .isub, 1, 0, 0, 0), (35, .if_icmp .ge 7, 3, 42, 0, 0), (38, .iload_n 3, 1, 3, 0, 0), (39, .goto 11, 3, 50, 0, 0), (42, .iload_n 3, 1, 3, 0, 0), (43, .aload_n 0, 1, 0, 0, 0), (44, .getfield 31, 3, 2, 0, 3), (47, .isub, 1, 0, 0, 0), (48, .iconst 1, 1, 0, 1, 0), (49, .iadd, 1, 0, 0, 0), (50, .iaload, 1, 0, 0, 0), (51, .ireturn, 1, 0, 0, 0)])
def mq_X0_turned : mz_I := (yX0_turned, cX0_turned, 3, (some .int), false, 0, 1, 0, 0, [(0, .aload_n 0, 1, 0, 0, 0), (1, .getfield 15, 3, 4, 0, 8), (4, .iload_n 1, 1, 1, 0, 0), (5, .iaload, 1, 0, 0, 0), (6, .istore_n 2, 1, 2, 0, 0), (7, .aload_n 0, 1, 0, 0, 0), (8, .getfield 9, 3, 3, 0, 7), (11, .iload_n 2, 1, 2, 0, 0), (12, .ifCond .ne 7, 3, 19, 0, 0), (15, .iconst 0, 1, 0, 0, 0), (16, .goto 11, 3, 27, 0, 0), (19, .aload_n 0, 1, 0, 0, 0), (20, .getfield 31, 3, 2, 0, 3), (23, .iconst 1, 1, 0, 1, 0), (24, .isub, 1, 0, 0, 0), (25, .iload_n 2, 1, 2, 0, 0), (26, .isub, 1, 0, 0, 0), (27, .iaload, 1, 0, 0, 0), (28, .ireturn, 1, 0, 0, 0)])
def mq_X0_raised : mz_I := (yX0_raised, cX0_raised, 6, (some .int), false, 0, 2, 1, 23, [(0, .iconst 1, 1, 0, 1, 0), (1, .istore_n 3, 1, 3, 0, 0), (2, .iload_n 1, 1, 1, 0, 0), (3, .istore 4, 2, 4, 0, 0), (5, .iconst 0, 1, 0, 0, 0), (6, .istore 5, 2, 5, 0, 0), (8, .iload 5, 2, 5, 0, 0), (10, .bipush 31, 2, 0, 31, 0), (12, .if_icmp .ge 36, 3, 48, 0, 0), (15, .iload_n 2, 1, 2, 0, 0), (16, .iload 5, 2, 5, 0, 0), (18, .ishr, 1, 0, 0, 0), (19, .iconst 1, 1, 0, 1, 0), (20, .iand, 1, 0, 0, 0), (21, .ifCond .eq 11, 3, 32, 0, 0), (24, .aload_n 0, 1, 0, 0, 0), (25, .iload_n 3, 1, 3, 0, 0), (26, .iload 4, 2, 4, 0, 0), (28, .invokevirtual 51, 3, 3, 0, 11), (31, .istore_n 3, 1, 3, 0, 0), (32, .aload_n 0, 1, 0, 0, 0), (33, .iload 4, 2, 4, 0, 0), (35, .iload 4, 2, 4, 0, 0), (37, .invokevirtual 51, 3, 3, 0, 11), (40, .istore 4, 2, 4, 0, 0), (42, .iinc 5 1, 3, 5, 1, 0), (45, .goto (-37), 3, 8, 0, 0), (48, .iload_n 3, 1, 3, 0, 0), (49, .ireturn, 1, 0, 0, 0)])
def mq_X0_squared : mz_I := (yX0_squared, cX0_squared, 5, (some .int), false, 0, 2, 1, 23, [(0, .iload_n 1, 1, 1, 0, 0), (1, .istore_n 3, 1, 3, 0, 0), (2, .iconst 0, 1, 0, 0, 0), (3, .istore 4, 2, 4, 0, 0), (5, .iload 4, 2, 4, 0, 0), (7, .iload_n 2, 1, 2, 0, 0), (8, .if_icmp .ge 16, 3, 24, 0, 0), (11, .aload_n 0, 1, 0, 0, 0), (12, .iload_n 3, 1, 3, 0, 0), (13, .iload_n 3, 1, 3, 0, 0), (14, .invokevirtual 51, 3, 3, 0, 11), (17, .istore_n 3, 1, 3, 0, 0), (18, .iinc 4 1, 3, 4, 1, 0), (21, .goto (-16), 3, 5, 0, 0), (24, .iload_n 3, 1, 3, 0, 0), (25, .ireturn, 1, 0, 0, 0)])
def mq_X0_orderOf : mz_I := (yX0_orderOf, cX0_orderOf, 7, (some .int), false, 0, 1, 0, 0, [(0, .aload_n 0, 1, 0, 0, 0), (1, .getfield 31, 3, 2, 0, 3), (4, .iconst 1, 1, 0, 1, 0), (5, .isub, 1, 0, 0, 0), (6, .istore_n 2, 1, 2, 0, 0), (7, .iload_n 2, 1, 2, 0, 0), (8, .istore_n 3, 1, 3, 0, 0), (9, .aload_n 0, 1, 0, 0, 0), (10, .getfield 15, 3, 4, 0, 8), (13, .iload_n 1, 1, 1, 0, 0), (14, .iaload, 1, 0, 0, 0), (15, .istore 4, 2, 4, 0, 0), (17, .iconst 0, 1, 0, 0, 0), (18, .istore 5, 2, 5, 0, 0), (20, .iload 5, 2, 5, 0, 0), (22, .bipush 64, 2, 0, 64, 0), (24, .if_icmp .ge 27, 3, 51, 0, 0), (27, .iload 4, 2, 4, 0, 0), (29, .ifCond .le 22, 3, 51, 0, 0), (32, .iload_n 3, 1, 3, 0, 0), (33, .iload 4, 2, 4, 0, 0), (35, .irem, 1, 0, 0, 0), (36, .istore 6, 2, 6, 0, 0), (38, .iload 4, 2, 4, 0, 0), (40, .istore_n 3, 1, 3, 0, 0), (41, .iload 6, 2, 6, 0, 0), (43, .istore 4, 2, 4, 0, 0), (45, .iinc 5 1, 3, 5, 1, 0), (48, .goto (-28), 3, 20, 0, 0), (51, .iload_n 3, 1, 3, 0, 0), (52, .ifCond .le 9, 3, 61, 0, 0), (55, .iload_n 2, 1, 2, 0, 0), (56, .iload_n 3, 1, 3, 0, 0), (57, .idiv, 1, 0, 0, 0), (58, .goto 4, 3, 62, 0, 0), (61, .iconst 1, 1, 0, 1, 0), (62, .ireturn, 1, 0, 0, 0)])
def mq_X0_generates : mz_I := (yX0_generates, cX0_generates, 2, (some .boolean), false, 0, 1, 1, 26, [(0, .aload_n 0, 1, 0, 0, 0), (1, .iload_n 1, 1, 1, 0, 0), (2, .invokevirtual 54, 3, 7, 0, 12), (5, .aload_n 0, 1, 0, 0, 0), (6, .getfield 31, 3, 2, 0, 3), (9, .iconst 1, 1, 0, 1, 0), (10, .isub, 1, 0, 0, 0), (11, .if_icmp .ne 7, 3, 18, 0, 0), (14, .iconst 1, 1, 0, 1, 0), (15, .goto 4, 3, 19, 0, 0), (18, .iconst 0, 1, 0, 0, 0), (19, .ireturn, 1, 0, 0, 0)])
def mq_X0_howManyOfOrder : mz_I := (yX0_howManyOfOrder, cX0_howManyOfOrder, 4, (some .int), false, 0, 1, 1, 26, [(0, .iconst 0, 1, 0, 0, 0), (1, .istore_n 2, 1, 2, 0, 0), (2, .iload_n 1, 1, 1, 0, 0), (3, .ifCond .le 47, 3, 50, 0, 0), (6, .aload_n 0, 1, 0, 0, 0), (7, .getfield 31, 3, 2, 0, 3), (10, .iconst 1, 1, 0, 1, 0), (11, .isub, 1, 0, 0, 0), (12, .iload_n 1, 1, 1, 0, 0), (13, .irem, 1, 0, 0, 0), (14, .ifCond .ne 36, 3, 50, 0, 0), (17, .iconst 1, 1, 0, 1, 0), (18, .istore_n 3, 1, 3, 0, 0), (19, .iload_n 3, 1, 3, 0, 0), (20, .aload_n 0, 1, 0, 0, 0), (21, .getfield 31, 3, 2, 0, 3), (24, .if_icmp .ge 26, 3, 50, 0, 0), (27, .iload_n 2, 1, 2, 0, 0), (28, .aload_n 0, 1, 0, 0, 0), (29, .iload_n 3, 1, 3, 0, 0), (30, .invokevirtual 54, 3, 7, 0, 12), (33, .iload_n 1, 1, 1, 0, 0), (34, .if_icmp .ne 7, 3, 41, 0, 0), (37, .iconst 1, 1, 0, 1, 0), (38, .goto 4, 3, 42, 0, 0), (41, .iconst 0, 1, 0, 0, 0), (42, .iadd, 1, 0, 0, 0), (43, .istore_n 2, 1, 2, 0, 0), (44, .iinc 3 1, 3, 3, 1, 0), (47, .goto (-28), 3, 19, 0, 0), (50, .iload_n 2, 1, 2, 0, 0), (51, .ireturn, 1, 0, 0, 0)])
def mq_X0_sizeOf : mz_I := (yX0_sizeOf, cX0_sizeOf, 4, (some .int), false, 0, 1, 1, 23, [(0, .aload_n 0, 1, 0, 0, 0), (1, .iload_n 1, 1, 1, 0, 0), (2, .iload_n 1, 1, 1, 0, 0), (3, .invokevirtual 51, 3, 3, 0, 11), (6, .istore_n 2, 1, 2, 0, 0), (7, .iconst 1, 1, 0, 1, 0), (8, .istore_n 3, 1, 3, 0, 0), (9, .iload_n 3, 1, 3, 0, 0), (10, .aload_n 0, 1, 0, 0, 0), (11, .getfield 28, 3, 1, 0, 2), (14, .if_icmp .ge 21, 3, 35, 0, 0), (17, .iload_n 2, 1, 2, 0, 0), (18, .iload_n 1, 1, 1, 0, 0), (19, .if_icmp .eq 16, 3, 35, 0, 0), (22, .aload_n 0, 1, 0, 0, 0), (23, .iload_n 2, 1, 2, 0, 0), (24, .iload_n 2, 1, 2, 0, 0), (25, .invokevirtual 51, 3, 3, 0, 11), (28, .istore_n 2, 1, 2, 0, 0), (29, .iinc 3 1, 3, 3, 1, 0), (32, .goto (-23), 3, 9, 0, 0), (35, .iload_n 3, 1, 3, 0, 0), (36, .ireturn, 1, 0, 0, 0)])
def mq_X0_hasSubfield : mz_I := (yX0_hasSubfield, cX0_hasSubfield, 2, (some .boolean), false, 0, 1, 0, 0, [(0, .iload_n 1, 1, 1, 0, 0), (1, .iconst 1, 1, 0, 1, 0), (2, .if_icmp .lt 24, 3, 26, 0, 0), (5, .iload_n 1, 1, 1, 0, 0), (6, .aload_n 0, 1, 0, 0, 0), (7, .getfield 28, 3, 1, 0, 2), (10, .if_icmp .gt 16, 3, 26, 0, 0), (13, .aload_n 0, 1, 0, 0, 0), (14, .getfield 28, 3, 1, 0, 2), (17, .iload_n 1, 1, 1, 0, 0), (18, .irem, 1, 0, 0, 0), (19, .ifCond .ne 7, 3, 26, 0, 0), (22, .iconst 1, 1, 0, 1, 0), (23, .goto 4, 3, 27, 0, 0), (26, .iconst 0, 1, 0, 0, 0), (27, .ireturn, 1, 0, 0, 0)])
def mq_X0_tracedTo : mz_I := (yX0_tracedTo, cX0_tracedTo, 7, (some .int), false, 0, 2, 2, 47, [(0, .iload_n 2, 1, 2, 0, 0), (1, .iconst 1, 1, 0, 1, 0), (2, .if_icmp .ge 7, 3, 9, 0, 0), (5, .iconst 1, 1, 0, 1, 0), (6, .goto 4, 3, 10, 0, 0), (9, .iload_n 2, 1, 2, 0, 0), (10, .istore_n 3, 1, 3, 0, 0), (11, .iconst 0, 1, 0, 0, 0), (12, .istore 4, 2, 4, 0, 0), (14, .iload_n 1, 1, 1, 0, 0), (15, .istore 5, 2, 5, 0, 0), (17, .iconst 0, 1, 0, 0, 0), (18, .istore 6, 2, 6, 0, 0), (20, .iload 6, 2, 6, 0, 0), (22, .aload_n 0, 1, 0, 0, 0), (23, .getfield 28, 3, 1, 0, 2), (26, .if_icmp .ge 28, 3, 54, 0, 0), (29, .iload 4, 2, 4, 0, 0), (31, .iload 5, 2, 5, 0, 0), (33, .ixor, 1, 0, 0, 0), (34, .istore 4, 2, 4, 0, 0), (36, .aload_n 0, 1, 0, 0, 0), (37, .iload 5, 2, 5, 0, 0), (39, .iload_n 3, 1, 3, 0, 0), (40, .invokevirtual 57, 3, 6, 0, 13), (43, .istore 5, 2, 5, 0, 0), (45, .iload 6, 2, 6, 0, 0), (47, .iload_n 3, 1, 3, 0, 0), (48, .iadd, 1, 0, 0, 0), (49, .istore 6, 2, 6, 0, 0), (51, .goto (-31), 3, 20, 0, 0), (54, .iload 4, 2, 4, 0, 0), (56, .ireturn, 1, 0, 0, 0)])
def mq_X0_tracedToOne : mz_I := (yX0_tracedToOne, cX0_tracedToOne, 2, (some .int), false, 0, 1, 1, 20, [(0, .iload_n 1, 1, 1, 0, 0), (1, .aload_n 0, 1, 0, 0, 0), (2, .getfield 38, 3, 5, 0, 5), (5, .iand, 1, 0, 0, 0), (6, .invokestatic 60, 3, 252, 0, 14), (9, .iconst 1, 1, 0, 1, 0), (10, .iand, 1, 0, 0, 0), (11, .ireturn, 1, 0, 0, 0)])
def mq_X0_normedTo : mz_I := (yX0_normedTo, cX0_normedTo, 7, (some .int), false, 0, 2, 2, 47, [(0, .iload_n 2, 1, 2, 0, 0), (1, .iconst 1, 1, 0, 1, 0), (2, .if_icmp .ge 7, 3, 9, 0, 0), (5, .iconst 1, 1, 0, 1, 0), (6, .goto 4, 3, 10, 0, 0), (9, .iload_n 2, 1, 2, 0, 0), (10, .istore_n 3, 1, 3, 0, 0), (11, .iconst 1, 1, 0, 1, 0), (12, .istore 4, 2, 4, 0, 0), (14, .iload_n 1, 1, 1, 0, 0), (15, .istore 5, 2, 5, 0, 0), (17, .iconst 0, 1, 0, 0, 0), (18, .istore 6, 2, 6, 0, 0), (20, .iload 6, 2, 6, 0, 0), (22, .aload_n 0, 1, 0, 0, 0), (23, .getfield 28, 3, 1, 0, 2), (26, .if_icmp .ge 31, 3, 57, 0, 0), (29, .aload_n 0, 1, 0, 0, 0), (30, .iload 4, 2, 4, 0, 0), (32, .iload 5, 2, 5, 0, 0), (34, .invokevirtual 51, 3, 3, 0, 11), (37, .istore 4, 2, 4, 0, 0), (39, .aload_n 0, 1, 0, 0, 0), (40, .iload 5, 2, 5, 0, 0), (42, .iload_n 3, 1, 3, 0, 0), (43, .invokevirtual 57, 3, 6, 0, 13), (46, .istore 5, 2, 5, 0, 0), (48, .iload 6, 2, 6, 0, 0), (50, .iload_n 3, 1, 3, 0, 0), (51, .iadd, 1, 0, 0, 0), (52, .istore 6, 2, 6, 0, 0), (54, .goto (-34), 3, 20, 0, 0), (57, .iload 4, 2, 4, 0, 0), (59, .ireturn, 1, 0, 0, 0)])
def mq_X0_valueAt : mz_I := (yX0_valueAt, cX0_valueAt, 5, (some .int), false, 0, 2, 1, 23, [(0, .iconst 0, 1, 0, 0, 0), (1, .istore_n 3, 1, 3, 0, 0), (2, .bipush 8, 2, 0, 8, 0), (4, .istore 4, 2, 4, 0, 0), (6, .iload 4, 2, 4, 0, 0), (8, .ifCond .lt 23, 3, 31, 0, 0), (11, .aload_n 0, 1, 0, 0, 0), (12, .iload_n 3, 1, 3, 0, 0), (13, .iload_n 2, 1, 2, 0, 0), (14, .invokevirtual 51, 3, 3, 0, 11), (17, .iload_n 1, 1, 1, 0, 0), (18, .iload 4, 2, 4, 0, 0), (20, .ishr, 1, 0, 0, 0), (21, .iconst 1, 1, 0, 1, 0), (22, .iand, 1, 0, 0, 0), (23, .ixor, 1, 0, 0, 0), (24, .istore_n 3, 1, 3, 0, 0), (25, .iinc 4 (-1), 3, 4, (-1), 0), (28, .goto (-22), 3, 6, 0, 0), (31, .iload_n 3, 1, 3, 0, 0), (32, .ireturn, 1, 0, 0, 0)])
def mq_X0_fillsPowers : mz_I := (yX0_fillsPowers, cX0_fillsPowers, 5, none, false, 0, 2, 1, 23, [(0, .iconst 1, 1, 0, 1, 0), (1, .istore_n 3, 1, 3, 0, 0), (2, .iconst 0, 1, 0, 0, 0), (3, .istore 4, 2, 4, 0, 0), (5, .iload 4, 2, 4, 0, 0), (7, .aload_n 0, 1, 0, 0, 0), (8, .getfield 28, 3, 1, 0, 2), (11, .if_icmp .ge 21, 3, 32, 0, 0), (14, .aload_n 1, 1, 1, 0, 0), (15, .iload 4, 2, 4, 0, 0), (17, .iload_n 3, 1, 3, 0, 0), (18, .iastore, 1, 0, 0, 0), (19, .aload_n 0, 1, 0, 0, 0), (20, .iload_n 3, 1, 3, 0, 0), (21, .iload_n 2, 1, 2, 0, 0), (22, .invokevirtual 51, 3, 3, 0, 11), (25, .istore_n 3, 1, 3, 0, 0), (26, .iinc 4 1, 3, 4, 1, 0), (29, .goto (-24), 3, 5, 0, 0), (32, .return_, 1, 0, 0, 0)])
def mq_X0_fillsConjugates : mz_I := (yX0_fillsConjugates, cX0_fillsConjugates, 5, none, false, 0, 2, 1, 23, [(0, .iload_n 2, 1, 2, 0, 0), (1, .istore_n 3, 1, 3, 0, 0), (2, .iconst 0, 1, 0, 0, 0), (3, .istore 4, 2, 4, 0, 0), (5, .iload 4, 2, 4, 0, 0), (7, .aload_n 0, 1, 0, 0, 0), (8, .getfield 28, 3, 1, 0, 2), (11, .if_icmp .ge 21, 3, 32, 0, 0), (14, .aload_n 1, 1, 1, 0, 0), (15, .iload 4, 2, 4, 0, 0), (17, .iload_n 3, 1, 3, 0, 0), (18, .iastore, 1, 0, 0, 0), (19, .aload_n 0, 1, 0, 0, 0), (20, .iload_n 3, 1, 3, 0, 0), (21, .iload_n 3, 1, 3, 0, 0), (22, .invokevirtual 51, 3, 3, 0, 11), (25, .istore_n 3, 1, 3, 0, 0), (26, .iinc 4 1, 3, 4, 1, 0), (29, .goto (-24), 3, 5, 0, 0), (32, .return_, 1, 0, 0, 0)])
def mq_X1_empties : mz_I := (yX1_empties, cX1_empties, 2, none, false, 1, 0, 0, 0, [(0, .iconst 0, 1, 0, 0, 0), (1, .istore_n 1, 1, 1, 0, 0), (2, .iload_n 1, 1, 1, 0, 0), (3, .bipush 8, 2, 0, 8, 0), (5, .if_icmp .ge 23, 3, 28, 0, 0), (8, .aload_n 0, 1, 0, 0, 0), (9, .getfield 9, 3, 64, 0, 15), (12, .iload_n 1, 1, 1, 0, 0), (13, .iconst 0, 1, 0, 0, 0), (14, .iastore, 1, 0, 0, 0), (15, .aload_n 0, 1, 0, 0, 0), (16, .getfield 15, 3, 65, 0, 16), (19, .iload_n 1, 1, 1, 0, 0), (20, .iconst 0, 1, 0, 0, 0), (21, .iastore, 1, 0, 0, 0), (22, .iinc 1 1, 3, 1, 1, 0), (25, .goto (-23), 3, 2, 0, 0), (28, .aload_n 0, 1, 0, 0, 0), (29, .iconst 0, 1, 0, 0, 0), (30, .putfield 18, 3, 66, 0, 17), (33, .return_, 1, 0, 0, 0)])
def mq_X1_takes : mz_I := (yX1_takes, cX1_takes, 5, (some .boolean), false, 1, 1, 0, 0, [(0, .iload_n 1, 1, 1, 0, 0), (1, .istore_n 2, 1, 2, 0, 0), (2, .iconst 0, 1, 0, 0, 0), (3, .istore_n 3, 1, 3, 0, 0), (4, .bipush 7, 2, 0, 7, 0), (6, .istore 4, 2, 4, 0, 0), (8, .iload 4, 2, 4, 0, 0), (10, .ifCond .lt 83, 3, 93, 0, 0), (13, .iload_n 2, 1, 2, 0, 0), (14, .iload 4, 2, 4, 0, 0), (16, .ishr, 1, 0, 0, 0), (17, .iconst 1, 1, 0, 1, 0), (18, .iand, 1, 0, 0, 0), (19, .ifCond .eq 68, 3, 87, 0, 0), (22, .aload_n 0, 1, 0, 0, 0), (23, .getfield 9, 3, 64, 0, 15), (26, .iload 4, 2, 4, 0, 0), (28, .iaload, 1, 0, 0, 0), (29, .ifCond .ne 38, 3, 67, 0, 0), (32, .aload_n 0, 1, 0, 0, 0), (33, .getfield 9, 3, 64, 0, 15), (36, .iload 4, 2, 4, 0, 0), (38, .iload_n 2, 1, 2, 0, 0), (39, .iastore, 1, 0, 0, 0), (40, .aload_n 0, 1, 0, 0, 0), (41, .getfield 15, 3, 65, 0, 16), (44, .iload 4, 2, 4, 0, 0), (46, .iload_n 3, 1, 3, 0, 0), (47, .iconst 1, 1, 0, 1, 0), (48, .aload_n 0, 1, 0, 0, 0), (49, .getfield 18, 3, 66, 0, 17), (52, .ishl, 1, 0, 0, 0), (53, .ixor, 1, 0, 0, 0), (54, .iastore, 1, 0, 0, 0), (55, .aload_n 0, 1, 0, 0, 0), (56, .dup, 1, 0, 0, 0), (57, .getfield 18, 3, 66, 0, 17), (60, .iconst 1, 1, 0, 1, 0), (61, .iadd, 1, 0, 0, 0), (62, .putfield 18, 3, 66, 0, 17), (65, .iconst 1, 1, 0, 1, 0), (66, .ireturn, 1, 0, 0, 0), (67, .iload_n 2, 1, 2, 0, 0), (68, .aload_n 0, 1, 0, 0, 0), (69, .getfield 9, 3, 64, 0, 15), (72, .iload 4, 2, 4, 0, 0), (74, .iaload, 1, 0, 0, 0), (75, .ixor, 1, 0, 0, 0), (76, .istore_n 2, 1, 2, 0, 0), (77, .iload_n 3, 1, 3, 0, 0), (78, .aload_n 0, 1, 0, 0, 0), (79, .getfield 15, 3, 65, 0, 16), (82, .iload 4, 2, 4, 0, 0), (84, .iaload, 1, 0, 0, 0), (85, .ixor, 1, 0, 0, 0), (86, .istore_n 3, 1, 3, 0, 0), (87, .iinc 4 (-1), 3, 4, (-1), 0), (90, .goto (-82), 3, 8, 0, 0), (93, .iconst 0, 1, 0, 0, 0), (94, .ireturn, 1, 0, 0, 0)])
def mq_X1_holds : mz_I := (yX1_holds, cX1_holds, 4, (some .boolean), false, 1, 2, 1, 24, [(0, .aload_n 0, 1, 0, 0, 0), (1, .invokevirtual 22, 3, 18, 0, 18), (4, .iconst 0, 1, 0, 0, 0), (5, .istore_n 3, 1, 3, 0, 0), (6, .iload_n 3, 1, 3, 0, 0), (7, .iload_n 2, 1, 2, 0, 0), (8, .if_icmp .ge 17, 3, 25, 0, 0), (11, .aload_n 0, 1, 0, 0, 0), (12, .aload_n 1, 1, 1, 0, 0), (13, .iload_n 3, 1, 3, 0, 0), (14, .iaload, 1, 0, 0, 0), (15, .invokevirtual 25, 3, 19, 0, 19), (18, .pop, 1, 0, 0, 0), (19, .iinc 3 1, 3, 3, 1, 0), (22, .goto (-16), 3, 6, 0, 0), (25, .aload_n 0, 1, 0, 0, 0), (26, .getfield 18, 3, 66, 0, 17), (29, .iload_n 2, 1, 2, 0, 0), (30, .if_icmp .ne 7, 3, 37, 0, 0), (33, .iconst 1, 1, 0, 1, 0), (34, .goto 4, 3, 38, 0, 0), (37, .iconst 0, 1, 0, 0, 0), (38, .ireturn, 1, 0, 0, 0)])
def mq_X1_located : mz_I := (yX1_located, cX1_located, 5, (some .int), false, 1, 1, 0, 0, [(0, .iload_n 1, 1, 1, 0, 0), (1, .istore_n 2, 1, 2, 0, 0), (2, .iconst 0, 1, 0, 0, 0), (3, .istore_n 3, 1, 3, 0, 0), (4, .bipush 7, 2, 0, 7, 0), (6, .istore 4, 2, 4, 0, 0), (8, .iload 4, 2, 4, 0, 0), (10, .ifCond .lt 38, 3, 48, 0, 0), (13, .iload_n 2, 1, 2, 0, 0), (14, .iload 4, 2, 4, 0, 0), (16, .ishr, 1, 0, 0, 0), (17, .iconst 1, 1, 0, 1, 0), (18, .iand, 1, 0, 0, 0), (19, .ifCond .eq 23, 3, 42, 0, 0), (22, .iload_n 2, 1, 2, 0, 0), (23, .aload_n 0, 1, 0, 0, 0), (24, .getfield 9, 3, 64, 0, 15), (27, .iload 4, 2, 4, 0, 0), (29, .iaload, 1, 0, 0, 0), (30, .ixor, 1, 0, 0, 0), (31, .istore_n 2, 1, 2, 0, 0), (32, .iload_n 3, 1, 3, 0, 0), (33, .aload_n 0, 1, 0, 0, 0), (34, .getfield 15, 3, 65, 0, 16), (37, .iload 4, 2, 4, 0, 0), (39, .iaload, 1, 0, 0, 0), (40, .ixor, 1, 0, 0, 0), (41, .istore_n 3, 1, 3, 0, 0), (42, .iinc 4 (-1), 3, 4, (-1), 0), (45, .goto (-37), 3, 8, 0, 0), (48, .iload_n 3, 1, 3, 0, 0), (49, .ireturn, 1, 0, 0, 0)])
def mq_X2_complexityOf : mz_I := (yX2_complexityOf, cX2_complexityOf, 2, (some .int), false, 2, 1, 2, 47, [(0, .aload_n 0, 1, 0, 0, 0), (1, .getfield 21, 3, 129, 0, 20), (4, .aload_n 1, 1, 1, 0, 0), (5, .aload_n 0, 1, 0, 0, 0), (6, .getfield 12, 3, 128, 0, 21), (9, .getfield 25, 3, 1, 0, 22), (12, .invokevirtual 29, 3, 20, 0, 23), (15, .pop, 1, 0, 0, 0), (16, .aload_n 0, 1, 0, 0, 0), (17, .aload_n 1, 1, 1, 0, 0), (18, .invokevirtual 33, 3, 23, 0, 24), (21, .ireturn, 1, 0, 0, 0)])
def mq_X2_bitsOfFirst : mz_I := (yX2_bitsOfFirst, cX2_bitsOfFirst, 4, (some .int), false, 2, 1, 1, 24, [(0, .iconst 0, 1, 0, 0, 0), (1, .istore_n 2, 1, 2, 0, 0), (2, .iconst 0, 1, 0, 0, 0), (3, .istore_n 3, 1, 3, 0, 0), (4, .iload_n 3, 1, 3, 0, 0), (5, .aload_n 0, 1, 0, 0, 0), (6, .getfield 12, 3, 128, 0, 21), (9, .getfield 25, 3, 1, 0, 22), (12, .if_icmp .ge 35, 3, 47, 0, 0), (15, .iload_n 2, 1, 2, 0, 0), (16, .aload_n 0, 1, 0, 0, 0), (17, .getfield 21, 3, 129, 0, 20), (20, .aload_n 0, 1, 0, 0, 0), (21, .getfield 12, 3, 128, 0, 21), (24, .aload_n 1, 1, 1, 0, 0), (25, .iconst 0, 1, 0, 0, 0), (26, .iaload, 1, 0, 0, 0), (27, .aload_n 1, 1, 1, 0, 0), (28, .iload_n 3, 1, 3, 0, 0), (29, .iaload, 1, 0, 0, 0), (30, .invokevirtual 37, 3, 3, 0, 25), (33, .invokevirtual 41, 3, 21, 0, 26), (36, .invokestatic 45, 3, 252, 0, 27), (39, .iadd, 1, 0, 0, 0), (40, .istore_n 2, 1, 2, 0, 0), (41, .iinc 3 1, 3, 3, 1, 0), (44, .goto (-40), 3, 4, 0, 0), (47, .iload_n 2, 1, 2, 0, 0), (48, .ireturn, 1, 0, 0, 0)])
def mq_X2_bitsOfAll : mz_I := (yX2_bitsOfAll, cX2_bitsOfAll, 5, (some .int), false, 2, 1, 1, 24, [(0, .iconst 0, 1, 0, 0, 0), (1, .istore_n 2, 1, 2, 0, 0), (2, .iconst 0, 1, 0, 0, 0), (3, .istore_n 3, 1, 3, 0, 0), (4, .iload_n 3, 1, 3, 0, 0), (5, .aload_n 0, 1, 0, 0, 0), (6, .getfield 12, 3, 128, 0, 21), (9, .getfield 25, 3, 1, 0, 22), (12, .if_icmp .ge 51, 3, 63, 0, 0), (15, .iconst 0, 1, 0, 0, 0), (16, .istore 4, 2, 4, 0, 0), (18, .iload 4, 2, 4, 0, 0), (20, .iload_n 3, 1, 3, 0, 0), (21, .if_icmp .gt 36, 3, 57, 0, 0), (24, .iload_n 2, 1, 2, 0, 0), (25, .aload_n 0, 1, 0, 0, 0), (26, .getfield 21, 3, 129, 0, 20), (29, .aload_n 0, 1, 0, 0, 0), (30, .getfield 12, 3, 128, 0, 21), (33, .aload_n 1, 1, 1, 0, 0), (34, .iload 4, 2, 4, 0, 0), (36, .iaload, 1, 0, 0, 0), (37, .aload_n 1, 1, 1, 0, 0), (38, .iload_n 3, 1, 3, 0, 0), (39, .iaload, 1, 0, 0, 0), (40, .invokevirtual 37, 3, 3, 0, 25), (43, .invokevirtual 41, 3, 21, 0, 26), (46, .invokestatic 45, 3, 252, 0, 27), (49, .iadd, 1, 0, 0, 0), (50, .istore_n 2, 1, 2, 0, 0), (51, .iinc 4 1, 3, 4, 1, 0), (54, .goto (-36), 3, 18, 0, 0), (57, .iinc 3 1, 3, 3, 1, 0), (60, .goto (-56), 3, 4, 0, 0), (63, .iload_n 2, 1, 2, 0, 0), (64, .ireturn, 1, 0, 0, 0)])
def mq_X2_whoseNormal : mz_I := (yX2_whoseNormal, cX2_whoseNormal, 3, (some .int), false, 2, 1, 1, 23, [(0, .iconst 1, 1, 0, 1, 0), (1, .istore_n 2, 1, 2, 0, 0), (2, .iload_n 2, 1, 2, 0, 0), (3, .aload_n 0, 1, 0, 0, 0), (4, .getfield 12, 3, 128, 0, 21), (7, .getfield 25, 3, 1, 0, 22), (10, .if_icmp .ge 34, 3, 44, 0, 0), (13, .aload_n 0, 1, 0, 0, 0), (14, .getfield 12, 3, 128, 0, 21), (17, .aload_n 1, 1, 1, 0, 0), (18, .iload_n 2, 1, 2, 0, 0), (19, .iconst 1, 1, 0, 1, 0), (20, .isub, 1, 0, 0, 0), (21, .iaload, 1, 0, 0, 0), (22, .aload_n 1, 1, 1, 0, 0), (23, .iload_n 2, 1, 2, 0, 0), (24, .iconst 1, 1, 0, 1, 0), (25, .isub, 1, 0, 0, 0), (26, .iaload, 1, 0, 0, 0), (27, .invokevirtual 37, 3, 3, 0, 25), (30, .aload_n 1, 1, 1, 0, 0), (31, .iload_n 2, 1, 2, 0, 0), (32, .iaload, 1, 0, 0, 0), (33, .if_icmp .eq 5, 3, 38, 0, 0), (36, .iconst (-1), 1, 0, (-1), 0), (37, .ireturn, 1, 0, 0, 0), (38, .iinc 2 1, 3, 2, 1, 0), (41, .goto (-39), 3, 2, 0, 0), (44, .aload_n 1, 1, 1, 0, 0), (45, .iconst 0, 1, 0, 0, 0), (46, .iaload, 1, 0, 0, 0), (47, .ireturn, 1, 0, 0, 0)])
def mq_X2_sumAt : mz_I := (yX2_sumAt, cX2_sumAt, 5, (some .int), false, 2, 2, 0, 0, [(0, .iconst 0, 1, 0, 0, 0), (1, .istore_n 3, 1, 3, 0, 0), (2, .iconst 0, 1, 0, 0, 0), (3, .istore 4, 2, 4, 0, 0), (5, .iload 4, 2, 4, 0, 0), (7, .aload_n 0, 1, 0, 0, 0), (8, .getfield 12, 3, 128, 0, 21), (11, .getfield 25, 3, 1, 0, 22), (14, .if_icmp .ge 29, 3, 43, 0, 0), (17, .iload_n 3, 1, 3, 0, 0), (18, .iload_n 2, 1, 2, 0, 0), (19, .iload 4, 2, 4, 0, 0), (21, .ishr, 1, 0, 0, 0), (22, .iconst 1, 1, 0, 1, 0), (23, .iand, 1, 0, 0, 0), (24, .ifCond .eq 10, 3, 34, 0, 0), (27, .aload_n 1, 1, 1, 0, 0), (28, .iload 4, 2, 4, 0, 0), (30, .iaload, 1, 0, 0, 0), (31, .goto 4, 3, 35, 0, 0), (34, .iconst 0, 1, 0, 0, 0), (35, .ixor, 1, 0, 0, 0), (36, .istore_n 3, 1, 3, 0, 0), (37, .iinc 4 1, 3, 4, 1, 0), (40, .goto (-35), 3, 5, 0, 0), (43, .iload_n 3, 1, 3, 0, 0), (44, .ireturn, 1, 0, 0, 0)])
def mq_X2_placeOf : mz_I := (yX2_placeOf, cX2_placeOf, 4, (some .int), false, 2, 2, 0, 0, [(0, .iconst 0, 1, 0, 0, 0), (1, .istore_n 3, 1, 3, 0, 0), (2, .iload_n 3, 1, 3, 0, 0), (3, .aload_n 0, 1, 0, 0, 0), (4, .getfield 12, 3, 128, 0, 21), (7, .getfield 25, 3, 1, 0, 22), (10, .if_icmp .ge 18, 3, 28, 0, 0), (13, .aload_n 1, 1, 1, 0, 0), (14, .iload_n 3, 1, 3, 0, 0), (15, .iaload, 1, 0, 0, 0), (16, .iload_n 2, 1, 2, 0, 0), (17, .if_icmp .ne 5, 3, 22, 0, 0), (20, .iload_n 3, 1, 3, 0, 0), (21, .ireturn, 1, 0, 0, 0), (22, .iinc 3 1, 3, 3, 1, 0), (25, .goto (-23), 3, 2, 0, 0), (28, .iconst (-1), 1, 0, (-1), 0), (29, .ireturn, 1, 0, 0, 0)])
def mq_X2_leastPolynomial : mz_I := (yX2_leastPolynomial, cX2_leastPolynomial, 4, (some .int), false, 2, 1, 1, 24, [(0, .aload_n 0, 1, 0, 0, 0), (1, .getfield 21, 3, 129, 0, 20), (4, .invokevirtual 50, 3, 18, 0, 28), (7, .iconst 1, 1, 0, 1, 0), (8, .istore_n 2, 1, 2, 0, 0), (9, .iconst 0, 1, 0, 0, 0), (10, .istore_n 3, 1, 3, 0, 0), (11, .iload_n 3, 1, 3, 0, 0), (12, .aload_n 0, 1, 0, 0, 0), (13, .getfield 12, 3, 128, 0, 21), (16, .getfield 25, 3, 1, 0, 22), (19, .if_icmp .ge 30, 3, 49, 0, 0), (22, .aload_n 0, 1, 0, 0, 0), (23, .getfield 21, 3, 129, 0, 20), (26, .iload_n 2, 1, 2, 0, 0), (27, .invokevirtual 53, 3, 19, 0, 29), (30, .ifCond .eq 19, 3, 49, 0, 0), (33, .aload_n 0, 1, 0, 0, 0), (34, .getfield 12, 3, 128, 0, 21), (37, .iload_n 2, 1, 2, 0, 0), (38, .iload_n 1, 1, 1, 0, 0), (39, .invokevirtual 37, 3, 3, 0, 25), (42, .istore_n 2, 1, 2, 0, 0), (43, .iinc 3 1, 3, 3, 1, 0), (46, .goto (-35), 3, 11, 0, 0), (49, .iconst 1, 1, 0, 1, 0), (50, .iload_n 3, 1, 3, 0, 0), (51, .ishl, 1, 0, 0, 0), (52, .aload_n 0, 1, 0, 0, 0), (53, .getfield 21, 3, 129, 0, 20), (56, .iload_n 2, 1, 2, 0, 0), (57, .invokevirtual 41, 3, 21, 0, 26), (60, .ior, 1, 0, 0, 0), (61, .ireturn, 1, 0, 0, 0)])
def mq_X2_fillsSubbase : mz_I := (yX2_fillsSubbase, cX2_fillsSubbase, 5, none, false, 2, 2, 2, 47, [(0, .aload_n 0, 1, 0, 0, 0), (1, .getfield 21, 3, 129, 0, 20), (4, .invokevirtual 50, 3, 18, 0, 28), (7, .iconst 1, 1, 0, 1, 0), (8, .istore_n 3, 1, 3, 0, 0), (9, .iload_n 3, 1, 3, 0, 0), (10, .aload_n 0, 1, 0, 0, 0), (11, .getfield 12, 3, 128, 0, 21), (14, .getfield 57, 3, 2, 0, 30), (17, .if_icmp .ge 65, 3, 82, 0, 0), (20, .aload_n 0, 1, 0, 0, 0), (21, .getfield 21, 3, 129, 0, 20), (24, .getfield 60, 3, 66, 0, 31), (27, .iload_n 2, 1, 2, 0, 0), (28, .if_icmp .ge 54, 3, 82, 0, 0), (31, .aload_n 0, 1, 0, 0, 0), (32, .getfield 21, 3, 129, 0, 20), (35, .getfield 60, 3, 66, 0, 31), (38, .istore 4, 2, 4, 0, 0), (40, .iload 4, 2, 4, 0, 0), (42, .aload_n 1, 1, 1, 0, 0), (43, .arraylength, 1, 0, 0, 0), (44, .if_icmp .ge 32, 3, 76, 0, 0), (47, .aload_n 0, 1, 0, 0, 0), (48, .getfield 12, 3, 128, 0, 21), (51, .iload_n 3, 1, 3, 0, 0), (52, .iload_n 2, 1, 2, 0, 0), (53, .invokevirtual 63, 3, 6, 0, 32), (56, .iload_n 3, 1, 3, 0, 0), (57, .if_icmp .ne 19, 3, 76, 0, 0), (60, .aload_n 0, 1, 0, 0, 0), (61, .getfield 21, 3, 129, 0, 20), (64, .iload_n 3, 1, 3, 0, 0), (65, .invokevirtual 53, 3, 19, 0, 29), (68, .ifCond .eq 8, 3, 76, 0, 0), (71, .aload_n 1, 1, 1, 0, 0), (72, .iload 4, 2, 4, 0, 0), (74, .iload_n 3, 1, 3, 0, 0), (75, .iastore, 1, 0, 0, 0), (76, .iinc 3 1, 3, 3, 1, 0), (79, .goto (-70), 3, 9, 0, 0), (82, .return_, 1, 0, 0, 0)])
def mq_X2_fillsOverSubbase : mz_I := (yX2_fillsOverSubbase, cX2_fillsOverSubbase, 8, none, false, 2, 4, 2, 47, [(0, .iload 4, 2, 4, 0, 0), (2, .istore 5, 2, 5, 0, 0), (4, .iconst 0, 1, 0, 0, 0), (5, .istore 6, 2, 6, 0, 0), (7, .iconst 0, 1, 0, 0, 0), (8, .istore 7, 2, 7, 0, 0), (10, .iload 7, 2, 7, 0, 0), (12, .aload_n 0, 1, 0, 0, 0), (13, .getfield 12, 3, 128, 0, 21), (16, .getfield 25, 3, 1, 0, 22), (19, .if_icmp .ge 50, 3, 69, 0, 0), (22, .aload_n 1, 1, 1, 0, 0), (23, .iload 7, 2, 7, 0, 0), (25, .aload_n 0, 1, 0, 0, 0), (26, .getfield 12, 3, 128, 0, 21), (29, .aload_n 2, 1, 2, 0, 0), (30, .iload 6, 2, 6, 0, 0), (32, .iaload, 1, 0, 0, 0), (33, .iload 5, 2, 5, 0, 0), (35, .invokevirtual 37, 3, 3, 0, 25), (38, .iastore, 1, 0, 0, 0), (39, .iinc 6 1, 3, 6, 1, 0), (42, .iload 6, 2, 6, 0, 0), (44, .iload_n 3, 1, 3, 0, 0), (45, .if_icmp .ne 18, 3, 63, 0, 0), (48, .iconst 0, 1, 0, 0, 0), (49, .istore 6, 2, 6, 0, 0), (51, .aload_n 0, 1, 0, 0, 0), (52, .getfield 12, 3, 128, 0, 21), (55, .iload 5, 2, 5, 0, 0), (57, .iload_n 3, 1, 3, 0, 0), (58, .invokevirtual 63, 3, 6, 0, 32), (61, .istore 5, 2, 5, 0, 0), (63, .iinc 7 1, 3, 7, 1, 0), (66, .goto (-56), 3, 10, 0, 0), (69, .return_, 1, 0, 0, 0)])
def mq_X2_fillsTower : mz_I := (yX2_fillsTower, cX2_fillsTower, 8, none, false, 2, 4, 1, 23, [(0, .iconst 1, 1, 0, 1, 0), (1, .istore 5, 2, 5, 0, 0), (3, .iconst 0, 1, 0, 0, 0), (4, .istore 6, 2, 6, 0, 0), (6, .iconst 0, 1, 0, 0, 0), (7, .istore 7, 2, 7, 0, 0), (9, .iload 7, 2, 7, 0, 0), (11, .aload_n 0, 1, 0, 0, 0), (12, .getfield 12, 3, 128, 0, 21), (15, .getfield 25, 3, 1, 0, 22), (18, .if_icmp .ge 51, 3, 69, 0, 0), (21, .aload_n 1, 1, 1, 0, 0), (22, .iload 7, 2, 7, 0, 0), (24, .aload_n 0, 1, 0, 0, 0), (25, .getfield 12, 3, 128, 0, 21), (28, .aload_n 2, 1, 2, 0, 0), (29, .iload 6, 2, 6, 0, 0), (31, .iaload, 1, 0, 0, 0), (32, .iload 5, 2, 5, 0, 0), (34, .invokevirtual 37, 3, 3, 0, 25), (37, .iastore, 1, 0, 0, 0), (38, .iinc 6 1, 3, 6, 1, 0), (41, .iload 6, 2, 6, 0, 0), (43, .iload_n 3, 1, 3, 0, 0), (44, .if_icmp .ne 19, 3, 63, 0, 0), (47, .iconst 0, 1, 0, 0, 0), (48, .istore 6, 2, 6, 0, 0), (50, .aload_n 0, 1, 0, 0, 0), (51, .getfield 12, 3, 128, 0, 21), (54, .iload 5, 2, 5, 0, 0), (56, .iload 4, 2, 4, 0, 0), (58, .invokevirtual 37, 3, 3, 0, 25), (61, .istore 5, 2, 5, 0, 0), (63, .iinc 7 1, 3, 7, 1, 0), (66, .goto (-57), 3, 9, 0, 0), (69, .return_, 1, 0, 0, 0)])
def mq_X2_traceBits : mz_I := (yX2_traceBits, cX2_traceBits, 5, (some .int), false, 2, 2, 2, 41, [(0, .iconst 0, 1, 0, 0, 0), (1, .istore_n 3, 1, 3, 0, 0), (2, .iconst 0, 1, 0, 0, 0), (3, .istore 4, 2, 4, 0, 0), (5, .iload 4, 2, 4, 0, 0), (7, .aload_n 0, 1, 0, 0, 0), (8, .getfield 12, 3, 128, 0, 21), (11, .getfield 25, 3, 1, 0, 22), (14, .if_icmp .ge 34, 3, 48, 0, 0), (17, .iload_n 3, 1, 3, 0, 0), (18, .aload_n 0, 1, 0, 0, 0), (19, .getfield 12, 3, 128, 0, 21), (22, .aload_n 0, 1, 0, 0, 0), (23, .getfield 12, 3, 128, 0, 21), (26, .aload_n 1, 1, 1, 0, 0), (27, .iload 4, 2, 4, 0, 0), (29, .iaload, 1, 0, 0, 0), (30, .iload_n 2, 1, 2, 0, 0), (31, .invokevirtual 37, 3, 3, 0, 25), (34, .invokevirtual 66, 3, 13, 0, 33), (37, .iload 4, 2, 4, 0, 0), (39, .ishl, 1, 0, 0, 0), (40, .ior, 1, 0, 0, 0), (41, .istore_n 3, 1, 3, 0, 0), (42, .iinc 4 1, 3, 4, 1, 0), (45, .goto (-40), 3, 5, 0, 0), (48, .iload_n 3, 1, 3, 0, 0), (49, .ireturn, 1, 0, 0, 0)])
def mq_X2_fillsDual : mz_I := (yX2_fillsDual, cX2_fillsDual, 6, none, false, 2, 2, 3, 65, [(0, .iconst 1, 1, 0, 1, 0), (1, .istore_n 3, 1, 3, 0, 0), (2, .iload_n 3, 1, 3, 0, 0), (3, .aload_n 0, 1, 0, 0, 0), (4, .getfield 12, 3, 128, 0, 21), (7, .getfield 57, 3, 2, 0, 30), (10, .if_icmp .ge 52, 3, 62, 0, 0), (13, .aload_n 0, 1, 0, 0, 0), (14, .aload_n 2, 1, 2, 0, 0), (15, .iload_n 3, 1, 3, 0, 0), (16, .invokevirtual 69, 3, 32, 0, 34), (19, .istore 4, 2, 4, 0, 0), (21, .iconst 0, 1, 0, 0, 0), (22, .istore 5, 2, 5, 0, 0), (24, .iload 5, 2, 5, 0, 0), (26, .aload_n 0, 1, 0, 0, 0), (27, .getfield 12, 3, 128, 0, 21), (30, .getfield 25, 3, 1, 0, 22), (33, .if_icmp .ge 23, 3, 56, 0, 0), (36, .iload 4, 2, 4, 0, 0), (38, .iconst 1, 1, 0, 1, 0), (39, .iload 5, 2, 5, 0, 0), (41, .ishl, 1, 0, 0, 0), (42, .if_icmp .ne 8, 3, 50, 0, 0), (45, .aload_n 1, 1, 1, 0, 0), (46, .iload 5, 2, 5, 0, 0), (48, .iload_n 3, 1, 3, 0, 0), (49, .iastore, 1, 0, 0, 0), (50, .iinc 5 1, 3, 5, 1, 0), (53, .goto (-29), 3, 24, 0, 0), (56, .iinc 3 1, 3, 3, 1, 0), (59, .goto (-57), 3, 2, 0, 0), (62, .return_, 1, 0, 0, 0)])
def mq_X2_fillsPlaces : mz_I := (yX2_fillsPlaces, cX2_fillsPlaces, 6, (some .boolean), false, 2, 4, 1, 23, [(0, .iconst 0, 1, 0, 0, 0), (1, .istore 5, 2, 5, 0, 0), (3, .iload 5, 2, 5, 0, 0), (5, .aload_n 0, 1, 0, 0, 0), (6, .getfield 12, 3, 128, 0, 21), (9, .getfield 25, 3, 1, 0, 22), (12, .if_icmp .ge 41, 3, 53, 0, 0), (15, .aload_n 1, 1, 1, 0, 0), (16, .iload 5, 2, 5, 0, 0), (18, .aload_n 0, 1, 0, 0, 0), (19, .aload 4, 2, 4, 0, 0), (21, .aload_n 0, 1, 0, 0, 0), (22, .getfield 12, 3, 128, 0, 21), (25, .iload_n 3, 1, 3, 0, 0), (26, .aload_n 2, 1, 2, 0, 0), (27, .iload 5, 2, 5, 0, 0), (29, .iaload, 1, 0, 0, 0), (30, .invokevirtual 37, 3, 3, 0, 25), (33, .invokevirtual 73, 3, 27, 0, 35), (36, .iastore, 1, 0, 0, 0), (37, .aload_n 1, 1, 1, 0, 0), (38, .iload 5, 2, 5, 0, 0), (40, .iaload, 1, 0, 0, 0), (41, .iconst (-1), 1, 0, (-1), 0), (42, .if_icmp .ne 5, 3, 47, 0, 0), (45, .iconst 0, 1, 0, 0, 0), (46, .ireturn, 1, 0, 0, 0), (47, .iinc 5 1, 3, 5, 1, 0), (50, .goto (-47), 3, 3, 0, 0), (53, .iconst 1, 1, 0, 1, 0), (54, .ireturn, 1, 0, 0, 0)])
def mq_X3_remembers : mz_I := (yX3_remembers, cX3_remembers, 2, none, false, 3, 1, 3, 88, [(0, .aload_n 0, 1, 0, 0, 0), (1, .getfield 11, 3, 192, 0, 36), (4, .aload_n 0, 1, 0, 0, 0), (5, .getfield 16, 3, 193, 0, 37), (8, .aaload, 1, 0, 0, 0), (9, .aload_n 1, 1, 1, 0, 0), (10, .invokevirtual 20, 3, 48, 0, 38), (13, .aload_n 0, 1, 0, 0, 0), (14, .aload_n 0, 1, 0, 0, 0), (15, .getfield 16, 3, 193, 0, 37), (18, .iconst 1, 1, 0, 1, 0), (19, .iadd, 1, 0, 0, 0), (20, .bipush 7, 2, 0, 7, 0), (22, .iand, 1, 0, 0, 0), (23, .putfield 16, 3, 193, 0, 37), (26, .aload_n 0, 1, 0, 0, 0), (27, .aload_n 0, 1, 0, 0, 0), (28, .getfield 24, 3, 194, 0, 39), (31, .bipush 8, 2, 0, 8, 0), (33, .if_icmp .ge 12, 3, 45, 0, 0), (36, .aload_n 0, 1, 0, 0, 0), (37, .getfield 24, 3, 194, 0, 39), (40, .iconst 1, 1, 0, 1, 0), (41, .iadd, 1, 0, 0, 0), (42, .goto 5, 3, 47, 0, 0), (45, .bipush 8, 2, 0, 8, 0), (47, .putfield 24, 3, 194, 0, 39), (50, .return_, 1, 0, 0, 0)])
def mq_X3_restores : mz_I := (yX3_restores, cX3_restores, 2, (some .boolean), false, 3, 1, 3, 88, [(0, .aload_n 0, 1, 0, 0, 0), (1, .getfield 24, 3, 194, 0, 39), (4, .ifCond .ne 5, 3, 9, 0, 0), (7, .iconst 0, 1, 0, 0, 0), (8, .ireturn, 1, 0, 0, 0), (9, .aload_n 0, 1, 0, 0, 0), (10, .aload_n 0, 1, 0, 0, 0), (11, .getfield 16, 3, 193, 0, 37), (14, .bipush 8, 2, 0, 8, 0), (16, .iadd, 1, 0, 0, 0), (17, .iconst 1, 1, 0, 1, 0), (18, .isub, 1, 0, 0, 0), (19, .bipush 7, 2, 0, 7, 0), (21, .iand, 1, 0, 0, 0), (22, .putfield 16, 3, 193, 0, 37), (25, .aload_n 0, 1, 0, 0, 0), (26, .dup, 1, 0, 0, 0), (27, .getfield 24, 3, 194, 0, 39), (30, .iconst 1, 1, 0, 1, 0), (31, .isub, 1, 0, 0, 0), (32, .putfield 24, 3, 194, 0, 39), (35, .aload_n 1, 1, 1, 0, 0), (36, .aload_n 0, 1, 0, 0, 0), (37, .getfield 11, 3, 192, 0, 36), (40, .aload_n 0, 1, 0, 0, 0), (41, .getfield 16, 3, 193, 0, 37), (44, .aaload, 1, 0, 0, 0), (45, .invokevirtual 20, 3, 48, 0, 38), (48, .iconst 1, 1, 0, 1, 0), (49, .ireturn, 1, 0, 0, 0)])
def mq_X4_degreeOf : mz_I := (yX4_degreeOf, cX4_degreeOf, 3, (some .int), true, 0, 1, 0, 0, [(0, .iconst (-1), 1, 0, (-1), 0), (1, .istore_n 1, 1, 1, 0, 0), (2, .iload_n 0, 1, 0, 0, 0), (3, .istore_n 2, 1, 2, 0, 0), (4, .iload_n 2, 1, 2, 0, 0), (5, .ifCond .le 13, 3, 18, 0, 0), (8, .iinc 1 1, 3, 1, 1, 0), (11, .iload_n 2, 1, 2, 0, 0), (12, .iconst 1, 1, 0, 1, 0), (13, .ishr, 1, 0, 0, 0), (14, .istore_n 2, 1, 2, 0, 0), (15, .goto (-11), 3, 4, 0, 0), (18, .iload_n 1, 1, 1, 0, 0), (19, .ireturn, 1, 0, 0, 0)])
def mq_X4_remainder : mz_I := (yX4_remainder, cX4_remainder, 5, (some .int), true, 0, 2, 1, 22, [(0, .iload_n 1, 1, 1, 0, 0), (1, .invokestatic 9, 3, 37, 0, 40), (4, .istore_n 2, 1, 2, 0, 0), (5, .iload_n 0, 1, 0, 0, 0), (6, .istore_n 3, 1, 3, 0, 0), (7, .iload_n 0, 1, 0, 0, 0), (8, .invokestatic 9, 3, 37, 0, 40), (11, .istore 4, 2, 4, 0, 0), (13, .iload 4, 2, 4, 0, 0), (15, .iload_n 2, 1, 2, 0, 0), (16, .if_icmp .lt 31, 3, 47, 0, 0), (19, .iload_n 2, 1, 2, 0, 0), (20, .ifCond .lt 27, 3, 47, 0, 0), (23, .iload_n 3, 1, 3, 0, 0), (24, .iload 4, 2, 4, 0, 0), (26, .ishr, 1, 0, 0, 0), (27, .iconst 1, 1, 0, 1, 0), (28, .iand, 1, 0, 0, 0), (29, .ifCond .eq 12, 3, 41, 0, 0), (32, .iload_n 3, 1, 3, 0, 0), (33, .iload_n 1, 1, 1, 0, 0), (34, .iload 4, 2, 4, 0, 0), (36, .iload_n 2, 1, 2, 0, 0), (37, .isub, 1, 0, 0, 0), (38, .ishl, 1, 0, 0, 0), (39, .ixor, 1, 0, 0, 0), (40, .istore_n 3, 1, 3, 0, 0), (41, .iinc 4 (-1), 3, 4, (-1), 0), (44, .goto (-31), 3, 13, 0, 0), (47, .iload_n 3, 1, 3, 0, 0), (48, .ireturn, 1, 0, 0, 0)])
def mq_X4_quotient : mz_I := (yX4_quotient, cX4_quotient, 6, (some .int), true, 0, 2, 1, 22, [(0, .iload_n 1, 1, 1, 0, 0), (1, .invokestatic 9, 3, 37, 0, 40), (4, .istore_n 2, 1, 2, 0, 0), (5, .iload_n 0, 1, 0, 0, 0), (6, .istore_n 3, 1, 3, 0, 0), (7, .iconst 0, 1, 0, 0, 0), (8, .istore 4, 2, 4, 0, 0), (10, .iload_n 0, 1, 0, 0, 0), (11, .invokestatic 9, 3, 37, 0, 40), (14, .istore 5, 2, 5, 0, 0), (16, .iload 5, 2, 5, 0, 0), (18, .iload_n 2, 1, 2, 0, 0), (19, .if_icmp .lt 42, 3, 61, 0, 0), (22, .iload_n 2, 1, 2, 0, 0), (23, .ifCond .lt 38, 3, 61, 0, 0), (26, .iload_n 3, 1, 3, 0, 0), (27, .iload 5, 2, 5, 0, 0), (29, .ishr, 1, 0, 0, 0), (30, .iconst 1, 1, 0, 1, 0), (31, .iand, 1, 0, 0, 0), (32, .ifCond .eq 23, 3, 55, 0, 0), (35, .iload_n 3, 1, 3, 0, 0), (36, .iload_n 1, 1, 1, 0, 0), (37, .iload 5, 2, 5, 0, 0), (39, .iload_n 2, 1, 2, 0, 0), (40, .isub, 1, 0, 0, 0), (41, .ishl, 1, 0, 0, 0), (42, .ixor, 1, 0, 0, 0), (43, .istore_n 3, 1, 3, 0, 0), (44, .iload 4, 2, 4, 0, 0), (46, .iconst 1, 1, 0, 1, 0), (47, .iload 5, 2, 5, 0, 0), (49, .iload_n 2, 1, 2, 0, 0), (50, .isub, 1, 0, 0, 0), (51, .ishl, 1, 0, 0, 0), (52, .ior, 1, 0, 0, 0), (53, .istore 4, 2, 4, 0, 0), (55, .iinc 5 (-1), 3, 5, (-1), 0), (58, .goto (-42), 3, 16, 0, 0), (61, .iload 4, 2, 4, 0, 0), (63, .ireturn, 1, 0, 0, 0)])
def mq_X4_isIrreducible : mz_I := (yX4_isIrreducible, cX4_isIrreducible, 3, (some .boolean), true, 0, 1, 2, 46, [(0, .iload_n 0, 1, 0, 0, 0), (1, .invokestatic 9, 3, 37, 0, 40), (4, .istore_n 1, 1, 1, 0, 0), (5, .iload_n 1, 1, 1, 0, 0), (6, .iconst 1, 1, 0, 1, 0), (7, .if_icmp .lt 9, 3, 16, 0, 0), (10, .iload_n 1, 1, 1, 0, 0), (11, .bipush 9, 2, 0, 9, 0), (13, .if_icmp .le 5, 3, 18, 0, 0), (16, .iconst 0, 1, 0, 0, 0), (17, .ireturn, 1, 0, 0, 0), (18, .iconst 2, 1, 0, 2, 0), (19, .istore_n 2, 1, 2, 0, 0), (20, .iload_n 2, 1, 2, 0, 0), (21, .bipush 32, 2, 0, 32, 0), (23, .if_icmp .ge 29, 3, 52, 0, 0), (26, .iconst 2, 1, 0, 2, 0), (27, .iload_n 2, 1, 2, 0, 0), (28, .invokestatic 9, 3, 37, 0, 40), (31, .imul, 1, 0, 0, 0), (32, .iload_n 1, 1, 1, 0, 0), (33, .if_icmp .gt 19, 3, 52, 0, 0), (36, .iload_n 0, 1, 0, 0, 0), (37, .iload_n 2, 1, 2, 0, 0), (38, .invokestatic 15, 3, 38, 0, 41), (41, .ifCond .ne 5, 3, 46, 0, 0), (44, .iconst 0, 1, 0, 0, 0), (45, .ireturn, 1, 0, 0, 0), (46, .iinc 2 1, 3, 2, 1, 0), (49, .goto (-29), 3, 20, 0, 0), (52, .iconst 1, 1, 0, 1, 0), (53, .ireturn, 1, 0, 0, 0)])
def mq_X4_isGeneratedByX : mz_I := (yX4_isGeneratedByX, cX4_isGeneratedByX, 5, (some .boolean), true, 0, 1, 2, 46, [(0, .iload_n 0, 1, 0, 0, 0), (1, .invokestatic 9, 3, 37, 0, 40), (4, .istore_n 1, 1, 1, 0, 0), (5, .iconst 1, 1, 0, 1, 0), (6, .iload_n 1, 1, 1, 0, 0), (7, .ishl, 1, 0, 0, 0), (8, .iconst 1, 1, 0, 1, 0), (9, .isub, 1, 0, 0, 0), (10, .istore_n 2, 1, 2, 0, 0), (11, .iconst 2, 1, 0, 2, 0), (12, .istore_n 3, 1, 3, 0, 0), (13, .iconst 1, 1, 0, 1, 0), (14, .istore 4, 2, 4, 0, 0), (16, .iload 4, 2, 4, 0, 0), (18, .iload_n 2, 1, 2, 0, 0), (19, .if_icmp .ge 24, 3, 43, 0, 0), (22, .iload_n 3, 1, 3, 0, 0), (23, .iconst 1, 1, 0, 1, 0), (24, .if_icmp .ne 5, 3, 29, 0, 0), (27, .iconst 0, 1, 0, 0, 0), (28, .ireturn, 1, 0, 0, 0), (29, .iload_n 3, 1, 3, 0, 0), (30, .iconst 1, 1, 0, 1, 0), (31, .ishl, 1, 0, 0, 0), (32, .iload_n 0, 1, 0, 0, 0), (33, .invokestatic 15, 3, 38, 0, 41), (36, .istore_n 3, 1, 3, 0, 0), (37, .iinc 4 1, 3, 4, 1, 0), (40, .goto (-24), 3, 16, 0, 0), (43, .iload_n 3, 1, 3, 0, 0), (44, .iconst 1, 1, 0, 1, 0), (45, .if_icmp .ne 7, 3, 52, 0, 0), (48, .iconst 1, 1, 0, 1, 0), (49, .goto 4, 3, 53, 0, 0), (52, .iconst 0, 1, 0, 0, 0), (53, .ireturn, 1, 0, 0, 0)])
def mq_X5_isPrime : mz_I := (yX5_isPrime, cX5_isPrime, 2, (some .boolean), true, 0, 1, 0, 0, [(0, .iconst 2, 1, 0, 2, 0), (1, .istore_n 1, 1, 1, 0, 0), (2, .iload_n 1, 1, 1, 0, 0), (3, .iload_n 1, 1, 1, 0, 0), (4, .imul, 1, 0, 0, 0), (5, .iload_n 0, 1, 0, 0, 0), (6, .if_icmp .gt 24, 3, 30, 0, 0), (9, .iload_n 1, 1, 1, 0, 0), (10, .sipush 1000, 3, 0, 1000, 0), (13, .if_icmp .ge 17, 3, 30, 0, 0), (16, .iload_n 0, 1, 0, 0, 0), (17, .iload_n 1, 1, 1, 0, 0), (18, .irem, 1, 0, 0, 0), (19, .ifCond .ne 5, 3, 24, 0, 0), (22, .iconst 0, 1, 0, 0, 0), (23, .ireturn, 1, 0, 0, 0), (24, .iinc 1 1, 3, 1, 1, 0), (27, .goto (-25), 3, 2, 0, 0), (30, .iload_n 0, 1, 0, 0, 0), (31, .iconst 1, 1, 0, 1, 0), (32, .if_icmp .le 7, 3, 39, 0, 0), (35, .iconst 1, 1, 0, 1, 0), (36, .goto 4, 3, 40, 0, 0), (39, .iconst 0, 1, 0, 0, 0), (40, .ireturn, 1, 0, 0, 0)])
def mq_X5_powersOfTwo : mz_I := (yX5_powersOfTwo, cX5_powersOfTwo, 4, (some .int), true, 0, 1, 1, 21, [(0, .iload_n 0, 1, 0, 0, 0), (1, .invokestatic 7, 3, 42, 0, 42), (4, .ifCond .eq 8, 3, 12, 0, 0), (7, .iload_n 0, 1, 0, 0, 0), (8, .iconst 3, 1, 0, 3, 0), (9, .if_icmp .ge 5, 3, 14, 0, 0), (12, .iconst 0, 1, 0, 0, 0), (13, .ireturn, 1, 0, 0, 0), (14, .iconst 2, 1, 0, 2, 0), (15, .istore_n 1, 1, 1, 0, 0), (16, .iconst 1, 1, 0, 1, 0), (17, .istore_n 2, 1, 2, 0, 0), (18, .iconst 0, 1, 0, 0, 0), (19, .istore_n 3, 1, 3, 0, 0), (20, .iload_n 3, 1, 3, 0, 0), (21, .iload_n 0, 1, 0, 0, 0), (22, .if_icmp .ge 23, 3, 45, 0, 0), (25, .iload_n 1, 1, 1, 0, 0), (26, .iconst 1, 1, 0, 1, 0), (27, .if_icmp .eq 18, 3, 45, 0, 0), (30, .iload_n 1, 1, 1, 0, 0), (31, .iconst 2, 1, 0, 2, 0), (32, .imul, 1, 0, 0, 0), (33, .iload_n 0, 1, 0, 0, 0), (34, .irem, 1, 0, 0, 0), (35, .istore_n 1, 1, 1, 0, 0), (36, .iinc 2 1, 3, 2, 1, 0), (39, .iinc 3 1, 3, 3, 1, 0), (42, .goto (-22), 3, 20, 0, 0), (45, .iload_n 2, 1, 2, 0, 0), (46, .ireturn, 1, 0, 0, 0)])
def mq_X6_empties : mz_I := (yX6_empties, cX6_empties, 1, none, false, 4, 0, 0, 0, [(0, .aload_n 0, 1, 0, 0, 0), (1, .iconst 0, 1, 0, 0, 0), (2, .putfield 13, 3, 257, 0, 43), (5, .return_, 1, 0, 0, 0)])
def mq_X6_puts : mz_I := (yX6_puts, cX6_puts, 3, none, false, 4, 1, 0, 0, [(0, .aload_n 0, 1, 0, 0, 0), (1, .getfield 13, 3, 257, 0, 43), (4, .aload_n 0, 1, 0, 0, 0), (5, .getfield 7, 3, 256, 0, 44), (8, .arraylength, 1, 0, 0, 0), (9, .if_icmp .ge 23, 3, 32, 0, 0), (12, .aload_n 0, 1, 0, 0, 0), (13, .getfield 7, 3, 256, 0, 44), (16, .aload_n 0, 1, 0, 0, 0), (17, .getfield 13, 3, 257, 0, 43), (20, .lload_n 1, 1, 1, 0, 0), (21, .lastore, 1, 0, 0, 0), (22, .aload_n 0, 1, 0, 0, 0), (23, .dup, 1, 0, 0, 0), (24, .getfield 13, 3, 257, 0, 43), (27, .iconst 1, 1, 0, 1, 0), (28, .iadd, 1, 0, 0, 0), (29, .putfield 13, 3, 257, 0, 43), (32, .return_, 1, 0, 0, 0)])
def mq_X6_putsAll : mz_I := (yX6_putsAll, cX6_putsAll, 4, none, false, 4, 2, 1, 22, [(0, .iconst 0, 1, 0, 0, 0), (1, .istore_n 3, 1, 3, 0, 0), (2, .iload_n 3, 1, 3, 0, 0), (3, .iload_n 2, 1, 2, 0, 0), (4, .if_icmp .ge 23, 3, 27, 0, 0), (7, .iload_n 3, 1, 3, 0, 0), (8, .aload_n 1, 1, 1, 0, 0), (9, .arraylength, 1, 0, 0, 0), (10, .if_icmp .ge 17, 3, 27, 0, 0), (13, .aload_n 0, 1, 0, 0, 0), (14, .aload_n 1, 1, 1, 0, 0), (15, .iload_n 3, 1, 3, 0, 0), (16, .iaload, 1, 0, 0, 0), (17, .i2l, 1, 0, 0, 0), (18, .invokevirtual 17, 3, 45, 0, 45), (21, .iinc 3 1, 3, 3, 1, 0), (24, .goto (-22), 3, 2, 0, 0), (27, .return_, 1, 0, 0, 0)])
def mq_X7_start : mz_I := (yX7_start, cX7_start, 4, none, false, 5, 1, 0, 0, [(0, .aload_n 0, 1, 0, 0, 0), (1, .iload_n 1, 1, 1, 0, 0), (2, .putfield 16, 3, 320, 0, 46), (5, .iconst 0, 1, 0, 0, 0), (6, .istore_n 2, 1, 2, 0, 0), (7, .iload_n 2, 1, 2, 0, 0), (8, .iconst 4, 1, 0, 4, 0), (9, .if_icmp .ge 34, 3, 43, 0, 0), (12, .iconst 0, 1, 0, 0, 0), (13, .istore_n 3, 1, 3, 0, 0), (14, .iload_n 3, 1, 3, 0, 0), (15, .bipush 8, 2, 0, 8, 0), (17, .if_icmp .ge 20, 3, 37, 0, 0), (20, .aload_n 0, 1, 0, 0, 0), (21, .getfield 13, 3, 321, 0, 47), (24, .iload_n 2, 1, 2, 0, 0), (25, .aaload, 1, 0, 0, 0), (26, .iload_n 3, 1, 3, 0, 0), (27, .iconst 1, 1, 0, 1, 0), (28, .iload_n 3, 1, 3, 0, 0), (29, .ishl, 1, 0, 0, 0), (30, .iastore, 1, 0, 0, 0), (31, .iinc 3 1, 3, 3, 1, 0), (34, .goto (-20), 3, 14, 0, 0), (37, .iinc 2 1, 3, 2, 1, 0), (40, .goto (-33), 3, 7, 0, 0), (43, .return_, 1, 0, 0, 0)])
def mq_X7_becomes : mz_I := (yX7_becomes, cX7_becomes, 3, none, false, 5, 1, 2, 66, [(0, .aload_n 0, 1, 0, 0, 0), (1, .aload_n 1, 1, 1, 0, 0), (2, .getfield 16, 3, 320, 0, 46), (5, .putfield 16, 3, 320, 0, 46), (8, .iconst 0, 1, 0, 0, 0), (9, .istore_n 2, 1, 2, 0, 0), (10, .iload_n 2, 1, 2, 0, 0), (11, .iconst 4, 1, 0, 4, 0), (12, .if_icmp .ge 20, 3, 32, 0, 0), (15, .aload_n 0, 1, 0, 0, 0), (16, .iload_n 2, 1, 2, 0, 0), (17, .aload_n 1, 1, 1, 0, 0), (18, .getfield 13, 3, 321, 0, 47), (21, .iload_n 2, 1, 2, 0, 0), (22, .aaload, 1, 0, 0, 0), (23, .invokevirtual 20, 3, 49, 0, 48), (26, .iinc 2 1, 3, 2, 1, 0), (29, .goto (-19), 3, 10, 0, 0), (32, .return_, 1, 0, 0, 0)])
def mq_X7_setsSlot : mz_I := (yX7_setsSlot, cX7_setsSlot, 3, none, false, 5, 2, 1, 44, [(0, .aload_n 2, 1, 2, 0, 0), (1, .iconst 0, 1, 0, 0, 0), (2, .aload_n 0, 1, 0, 0, 0), (3, .getfield 13, 3, 321, 0, 47), (6, .iload_n 1, 1, 1, 0, 0), (7, .aaload, 1, 0, 0, 0), (8, .iconst 0, 1, 0, 0, 0), (9, .bipush 8, 2, 0, 8, 0), (11, .invokestatic 24, 3, 1000, 0, 49), (14, .return_, 1, 0, 0, 0)])
def mq_X7_copiesSlot : mz_I := (yX7_copiesSlot, cX7_copiesSlot, 3, none, false, 5, 2, 1, 44, [(0, .aload_n 0, 1, 0, 0, 0), (1, .getfield 13, 3, 321, 0, 47), (4, .iload_n 1, 1, 1, 0, 0), (5, .aaload, 1, 0, 0, 0), (6, .iconst 0, 1, 0, 0, 0), (7, .aload_n 2, 1, 2, 0, 0), (8, .iconst 0, 1, 0, 0, 0), (9, .bipush 8, 2, 0, 8, 0), (11, .invokestatic 24, 3, 1000, 0, 49), (14, .return_, 1, 0, 0, 0)])
def mq_X7_isPlain : mz_I := (yX7_isPlain, cX7_isPlain, 4, (some .boolean), false, 5, 2, 0, 0, [(0, .iconst 0, 1, 0, 0, 0), (1, .istore_n 3, 1, 3, 0, 0), (2, .iload_n 3, 1, 3, 0, 0), (3, .iload_n 2, 1, 2, 0, 0), (4, .if_icmp .ge 25, 3, 29, 0, 0), (7, .aload_n 0, 1, 0, 0, 0), (8, .getfield 13, 3, 321, 0, 47), (11, .iload_n 1, 1, 1, 0, 0), (12, .aaload, 1, 0, 0, 0), (13, .iload_n 3, 1, 3, 0, 0), (14, .iaload, 1, 0, 0, 0), (15, .iconst 1, 1, 0, 1, 0), (16, .iload_n 3, 1, 3, 0, 0), (17, .ishl, 1, 0, 0, 0), (18, .if_icmp .eq 5, 3, 23, 0, 0), (21, .iconst 0, 1, 0, 0, 0), (22, .ireturn, 1, 0, 0, 0), (23, .iinc 3 1, 3, 3, 1, 0), (26, .goto (-24), 3, 2, 0, 0), (29, .iconst 1, 1, 0, 1, 0), (30, .ireturn, 1, 0, 0, 0)])
def mq_X8_takes : mz_I := (yX8_takes, cX8_takes, 3, (some .boolean), false, 6, 1, 0, 0, [(0, .aload_n 0, 1, 0, 0, 0), (1, .getfield 18, 3, 386, 0, 50), (4, .iconst 4, 1, 0, 4, 0), (5, .iadd, 1, 0, 0, 0), (6, .bipush 100, 2, 0, 100, 0), (8, .if_icmp .le 5, 3, 13, 0, 0), (11, .iconst 0, 1, 0, 0, 0), (12, .ireturn, 1, 0, 0, 0), (13, .bipush 24, 2, 0, 24, 0), (15, .istore_n 2, 1, 2, 0, 0), (16, .iload_n 2, 1, 2, 0, 0), (17, .ifCond .lt 35, 3, 52, 0, 0), (20, .aload_n 0, 1, 0, 0, 0), (21, .getfield 11, 3, 384, 0, 51), (24, .aload_n 0, 1, 0, 0, 0), (25, .getfield 18, 3, 386, 0, 50), (28, .iload_n 1, 1, 1, 0, 0), (29, .iload_n 2, 1, 2, 0, 0), (30, .ishr, 1, 0, 0, 0), (31, .sipush 255, 3, 0, 255, 0), (34, .iand, 1, 0, 0, 0), (35, .iastore, 1, 0, 0, 0), (36, .aload_n 0, 1, 0, 0, 0), (37, .dup, 1, 0, 0, 0), (38, .getfield 18, 3, 386, 0, 50), (41, .iconst 1, 1, 0, 1, 0), (42, .iadd, 1, 0, 0, 0), (43, .putfield 18, 3, 386, 0, 50), (46, .iinc 2 (-8), 3, 2, (-8), 0), (49, .goto (-33), 3, 16, 0, 0), (52, .iconst 1, 1, 0, 1, 0), (53, .ireturn, 1, 0, 0, 0)])
def mq_X8_shortens : mz_I := (yX8_shortens, cX8_shortens, 2, (some .boolean), false, 6, 1, 0, 0, [(0, .iload_n 1, 1, 1, 0, 0), (1, .ifCond .lt 11, 3, 12, 0, 0), (4, .iload_n 1, 1, 1, 0, 0), (5, .aload_n 0, 1, 0, 0, 0), (6, .getfield 18, 3, 386, 0, 50), (9, .if_icmp .le 5, 3, 14, 0, 0), (12, .iconst 0, 1, 0, 0, 0), (13, .ireturn, 1, 0, 0, 0), (14, .aload_n 0, 1, 0, 0, 0), (15, .iload_n 1, 1, 1, 0, 0), (16, .putfield 18, 3, 386, 0, 50), (19, .iconst 1, 1, 0, 1, 0), (20, .ireturn, 1, 0, 0, 0)])
def mq_X8_empties : mz_I := (yX8_empties, cX8_empties, 1, none, false, 6, 0, 0, 0, [(0, .aload_n 0, 1, 0, 0, 0), (1, .iconst 0, 1, 0, 0, 0), (2, .putfield 18, 3, 386, 0, 50), (5, .return_, 1, 0, 0, 0)])
def mq_X8_signAt : mz_I := (yX8_signAt, cX8_signAt, 2, (some .int), false, 6, 1, 0, 0, [(0, .iload_n 1, 1, 1, 0, 0), (1, .ifCond .lt 20, 3, 21, 0, 0), (4, .iload_n 1, 1, 1, 0, 0), (5, .aload_n 0, 1, 0, 0, 0), (6, .getfield 18, 3, 386, 0, 50), (9, .if_icmp .ge 12, 3, 21, 0, 0), (12, .aload_n 0, 1, 0, 0, 0), (13, .getfield 11, 3, 384, 0, 51), (16, .iload_n 1, 1, 1, 0, 0), (17, .iaload, 1, 0, 0, 0), (18, .goto 4, 3, 22, 0, 0), (21, .iconst (-1), 1, 0, (-1), 0), (22, .ireturn, 1, 0, 0, 0)])
def mq_X8_polynomialRead : mz_I := (yX8_polynomialRead, cX8_polynomialRead, 5, (some .int), false, 6, 0, 2, 45, [(0, .aload_n 0, 1, 0, 0, 0), (1, .iconst 0, 1, 0, 0, 0), (2, .putfield 22, 3, 387, 0, 52), (5, .iconst 0, 1, 0, 0, 0), (6, .istore_n 1, 1, 1, 0, 0), (7, .bipush 9, 2, 0, 9, 0), (9, .istore_n 2, 1, 2, 0, 0), (10, .iconst 0, 1, 0, 0, 0), (11, .istore_n 3, 1, 3, 0, 0), (12, .iload_n 3, 1, 3, 0, 0), (13, .bipush 8, 2, 0, 8, 0), (15, .if_icmp .gt 88, 3, 103, 0, 0), (18, .aload_n 0, 1, 0, 0, 0), (19, .iload_n 2, 1, 2, 0, 0), (20, .invokevirtual 25, 3, 57, 0, 53), (23, .istore 4, 2, 4, 0, 0), (25, .iload 4, 2, 4, 0, 0), (27, .iconst (-1), 1, 0, (-1), 0), (28, .if_icmp .ne 11, 3, 39, 0, 0), (31, .bipush (-21), 2, 0, (-21), 0), (33, .aload_n 0, 1, 0, 0, 0), (34, .getfield 22, 3, 387, 0, 52), (37, .isub, 1, 0, 0, 0), (38, .ireturn, 1, 0, 0, 0), (39, .iload_n 1, 1, 1, 0, 0), (40, .iconst 1, 1, 0, 1, 0), (41, .iload 4, 2, 4, 0, 0), (43, .ishl, 1, 0, 0, 0), (44, .ior, 1, 0, 0, 0), (45, .istore_n 1, 1, 1, 0, 0), (46, .iload 4, 2, 4, 0, 0), (48, .istore_n 2, 1, 2, 0, 0), (49, .aload_n 0, 1, 0, 0, 0), (50, .getfield 22, 3, 387, 0, 52), (53, .aload_n 0, 1, 0, 0, 0), (54, .getfield 18, 3, 386, 0, 50), (57, .if_icmp .ne 5, 3, 62, 0, 0), (60, .iload_n 1, 1, 1, 0, 0), (61, .ireturn, 1, 0, 0, 0), (62, .iload_n 2, 1, 2, 0, 0), (63, .ifCond .eq 16, 3, 79, 0, 0), (66, .aload_n 0, 1, 0, 0, 0), (67, .aload_n 0, 1, 0, 0, 0), (68, .getfield 22, 3, 387, 0, 52), (71, .invokevirtual 29, 3, 55, 0, 54), (74, .bipush 43, 2, 0, 43, 0), (76, .if_icmp .eq 11, 3, 87, 0, 0), (79, .bipush (-21), 2, 0, (-21), 0), (81, .aload_n 0, 1, 0, 0, 0), (82, .getfield 22, 3, 387, 0, 52), (85, .isub, 1, 0, 0, 0), (86, .ireturn, 1, 0, 0, 0), (87, .aload_n 0, 1, 0, 0, 0), (88, .dup, 1, 0, 0, 0), (89, .getfield 22, 3, 387, 0, 52), (92, .iconst 1, 1, 0, 1, 0), (93, .iadd, 1, 0, 0, 0), (94, .putfield 22, 3, 387, 0, 52), (97, .iinc 3 1, 3, 3, 1, 0), (100, .goto (-88), 3, 12, 0, 0), (103, .bipush (-21), 2, 0, (-21), 0), (105, .aload_n 0, 1, 0, 0, 0), (106, .getfield 22, 3, 387, 0, 52), (109, .isub, 1, 0, 0, 0), (110, .ireturn, 1, 0, 0, 0)])
def mq_X8_powerRead : mz_I := (yX8_powerRead, cX8_powerRead, 5, (some .int), false, 6, 1, 1, 21, [(0, .iload_n 1, 1, 1, 0, 0), (1, .bipush 8, 2, 0, 8, 0), (3, .if_icmp .le 7, 3, 10, 0, 0), (6, .iconst 1, 1, 0, 1, 0), (7, .goto 4, 3, 11, 0, 0), (10, .iconst 0, 1, 0, 0, 0), (11, .istore_n 2, 1, 2, 0, 0), (12, .aload_n 0, 1, 0, 0, 0), (13, .aload_n 0, 1, 0, 0, 0), (14, .getfield 22, 3, 387, 0, 52), (17, .invokevirtual 29, 3, 55, 0, 54), (20, .bipush 49, 2, 0, 49, 0), (22, .if_icmp .ne 19, 3, 41, 0, 0), (25, .iload_n 2, 1, 2, 0, 0), (26, .ifCond .ne 15, 3, 41, 0, 0), (29, .aload_n 0, 1, 0, 0, 0), (30, .dup, 1, 0, 0, 0), (31, .getfield 22, 3, 387, 0, 52), (34, .iconst 1, 1, 0, 1, 0), (35, .iadd, 1, 0, 0, 0), (36, .putfield 22, 3, 387, 0, 52), (39, .iconst 0, 1, 0, 0, 0), (40, .ireturn, 1, 0, 0, 0), (41, .aload_n 0, 1, 0, 0, 0), (42, .aload_n 0, 1, 0, 0, 0), (43, .getfield 22, 3, 387, 0, 52), (46, .invokevirtual 29, 3, 55, 0, 54), (49, .bipush 120, 2, 0, 120, 0), (51, .if_icmp .ne 8, 3, 59, 0, 0), (54, .iload_n 1, 1, 1, 0, 0), (55, .iconst 2, 1, 0, 2, 0), (56, .if_icmp .ge 5, 3, 61, 0, 0), (59, .iconst (-1), 1, 0, (-1), 0), (60, .ireturn, 1, 0, 0, 0), (61, .aload_n 0, 1, 0, 0, 0), (62, .dup, 1, 0, 0, 0), (63, .getfield 22, 3, 387, 0, 52), (66, .iconst 1, 1, 0, 1, 0), (67, .iadd, 1, 0, 0, 0), (68, .putfield 22, 3, 387, 0, 52), (71, .aload_n 0, 1, 0, 0, 0), (72, .aload_n 0, 1, 0, 0, 0), (73, .getfield 22, 3, 387, 0, 52), (76, .invokevirtual 29, 3, 55, 0, 54), (79, .bipush 48, 2, 0, 48, 0), (81, .isub, 1, 0, 0, 0), (82, .istore_n 3, 1, 3, 0, 0), (83, .iload_n 3, 1, 3, 0, 0), (84, .iconst 2, 1, 0, 2, 0), (85, .if_icmp .lt 26, 3, 111, 0, 0), (88, .iload_n 3, 1, 3, 0, 0), (89, .iload_n 1, 1, 1, 0, 0), (90, .if_icmp .ge 21, 3, 111, 0, 0), (93, .iload_n 3, 1, 3, 0, 0), (94, .bipush 8, 2, 0, 8, 0), (96, .if_icmp .gt 15, 3, 111, 0, 0), (99, .aload_n 0, 1, 0, 0, 0), (100, .dup, 1, 0, 0, 0), (101, .getfield 22, 3, 387, 0, 52), (104, .iconst 1, 1, 0, 1, 0), (105, .iadd, 1, 0, 0, 0), (106, .putfield 22, 3, 387, 0, 52), (109, .iload_n 3, 1, 3, 0, 0), (110, .ireturn, 1, 0, 0, 0), (111, .aload_n 0, 1, 0, 0, 0), (112, .getfield 22, 3, 387, 0, 52), (115, .aload_n 0, 1, 0, 0, 0), (116, .getfield 18, 3, 386, 0, 50), (119, .if_icmp .eq 16, 3, 135, 0, 0), (122, .aload_n 0, 1, 0, 0, 0), (123, .aload_n 0, 1, 0, 0, 0), (124, .getfield 22, 3, 387, 0, 52), (127, .invokevirtual 29, 3, 55, 0, 54), (130, .bipush 43, 2, 0, 43, 0), (132, .if_icmp .ne 7, 3, 139, 0, 0), (135, .iconst 1, 1, 0, 1, 0), (136, .goto 4, 3, 140, 0, 0), (139, .iconst 0, 1, 0, 0, 0), (140, .istore 4, 2, 4, 0, 0), (142, .iload 4, 2, 4, 0, 0), (144, .ifCond .eq 11, 3, 155, 0, 0), (147, .iload_n 2, 1, 2, 0, 0), (148, .ifCond .ne 7, 3, 155, 0, 0), (151, .iconst 1, 1, 0, 1, 0), (152, .goto 4, 3, 156, 0, 0), (155, .iconst (-1), 1, 0, (-1), 0), (156, .ireturn, 1, 0, 0, 0)])
def mq_X8_elementsRead : mz_I := (yX8_elementsRead, cX8_elementsRead, 6, (some .int), false, 6, 3, 2, 43, [(0, .aload_n 0, 1, 0, 0, 0), (1, .iconst 0, 1, 0, 0, 0), (2, .putfield 22, 3, 387, 0, 52), (5, .iconst 0, 1, 0, 0, 0), (6, .istore 4, 2, 4, 0, 0), (8, .iload 4, 2, 4, 0, 0), (10, .iload_n 2, 1, 2, 0, 0), (11, .if_icmp .ge 87, 3, 98, 0, 0), (14, .iload 4, 2, 4, 0, 0), (16, .ifCond .le 34, 3, 50, 0, 0), (19, .aload_n 0, 1, 0, 0, 0), (20, .aload_n 0, 1, 0, 0, 0), (21, .getfield 22, 3, 387, 0, 52), (24, .invokevirtual 29, 3, 55, 0, 54), (27, .bipush 44, 2, 0, 44, 0), (29, .if_icmp .eq 11, 3, 40, 0, 0), (32, .bipush (-21), 2, 0, (-21), 0), (34, .aload_n 0, 1, 0, 0, 0), (35, .getfield 22, 3, 387, 0, 52), (38, .isub, 1, 0, 0, 0), (39, .ireturn, 1, 0, 0, 0), (40, .aload_n 0, 1, 0, 0, 0), (41, .dup, 1, 0, 0, 0), (42, .getfield 22, 3, 387, 0, 52), (45, .iconst 1, 1, 0, 1, 0), (46, .iadd, 1, 0, 0, 0), (47, .putfield 22, 3, 387, 0, 52), (50, .aload_n 0, 1, 0, 0, 0), (51, .invokevirtual 32, 3, 59, 0, 55), (54, .istore 5, 2, 5, 0, 0), (56, .iload 5, 2, 5, 0, 0), (58, .iconst (-1), 1, 0, (-1), 0), (59, .if_icmp .ne 11, 3, 70, 0, 0), (62, .bipush (-21), 2, 0, (-21), 0), (64, .aload_n 0, 1, 0, 0, 0), (65, .getfield 22, 3, 387, 0, 52), (68, .isub, 1, 0, 0, 0), (69, .ireturn, 1, 0, 0, 0), (70, .iload 5, 2, 5, 0, 0), (72, .iload_n 3, 1, 3, 0, 0), (73, .if_icmp .lt 13, 3, 86, 0, 0), (76, .bipush (-21), 2, 0, (-21), 0), (78, .aload_n 0, 1, 0, 0, 0), (79, .getfield 22, 3, 387, 0, 52), (82, .iconst 1, 1, 0, 1, 0), (83, .isub, 1, 0, 0, 0), (84, .isub, 1, 0, 0, 0), (85, .ireturn, 1, 0, 0, 0), (86, .aload_n 1, 1, 1, 0, 0), (87, .iload 4, 2, 4, 0, 0), (89, .iload 5, 2, 5, 0, 0), (91, .iastore, 1, 0, 0, 0), (92, .iinc 4 1, 3, 4, 1, 0), (95, .goto (-87), 3, 8, 0, 0), (98, .aload_n 0, 1, 0, 0, 0), (99, .getfield 22, 3, 387, 0, 52), (102, .aload_n 0, 1, 0, 0, 0), (103, .getfield 18, 3, 386, 0, 50), (106, .if_icmp .ne 7, 3, 113, 0, 0), (109, .iconst 0, 1, 0, 0, 0), (110, .goto 10, 3, 120, 0, 0), (113, .bipush (-21), 2, 0, (-21), 0), (115, .aload_n 0, 1, 0, 0, 0), (116, .getfield 22, 3, 387, 0, 52), (119, .isub, 1, 0, 0, 0), (120, .ireturn, 1, 0, 0, 0)])
def mq_X8_numberRead : mz_I := (yX8_numberRead, cX8_numberRead, 3, (some .int), false, 6, 0, 1, 21, [(0, .aload_n 0, 1, 0, 0, 0), (1, .aload_n 0, 1, 0, 0, 0), (2, .getfield 22, 3, 387, 0, 52), (5, .invokevirtual 29, 3, 55, 0, 54), (8, .invokestatic 36, 3, 60, 0, 56), (11, .ifCond .ne 5, 3, 16, 0, 0), (14, .iconst (-1), 1, 0, (-1), 0), (15, .ireturn, 1, 0, 0, 0), (16, .iconst 0, 1, 0, 0, 0), (17, .istore_n 1, 1, 1, 0, 0), (18, .iconst 0, 1, 0, 0, 0), (19, .istore_n 2, 1, 2, 0, 0), (20, .iload_n 2, 1, 2, 0, 0), (21, .iconst 3, 1, 0, 3, 0), (22, .if_icmp .ge 58, 3, 80, 0, 0), (25, .aload_n 0, 1, 0, 0, 0), (26, .aload_n 0, 1, 0, 0, 0), (27, .getfield 22, 3, 387, 0, 52), (30, .invokevirtual 29, 3, 55, 0, 54), (33, .invokestatic 36, 3, 60, 0, 56), (36, .ifCond .eq 44, 3, 80, 0, 0), (39, .iload_n 2, 1, 2, 0, 0), (40, .ifCond .eq 7, 3, 47, 0, 0), (43, .iload_n 1, 1, 1, 0, 0), (44, .ifCond .le 36, 3, 80, 0, 0), (47, .bipush 10, 2, 0, 10, 0), (49, .iload_n 1, 1, 1, 0, 0), (50, .imul, 1, 0, 0, 0), (51, .aload_n 0, 1, 0, 0, 0), (52, .aload_n 0, 1, 0, 0, 0), (53, .getfield 22, 3, 387, 0, 52), (56, .invokevirtual 29, 3, 55, 0, 54), (59, .iadd, 1, 0, 0, 0), (60, .bipush 48, 2, 0, 48, 0), (62, .isub, 1, 0, 0, 0), (63, .istore_n 1, 1, 1, 0, 0), (64, .aload_n 0, 1, 0, 0, 0), (65, .dup, 1, 0, 0, 0), (66, .getfield 22, 3, 387, 0, 52), (69, .iconst 1, 1, 0, 1, 0), (70, .iadd, 1, 0, 0, 0), (71, .putfield 22, 3, 387, 0, 52), (74, .iinc 2 1, 3, 2, 1, 0), (77, .goto (-57), 3, 20, 0, 0), (80, .iload_n 1, 1, 1, 0, 0), (81, .ireturn, 1, 0, 0, 0)])
def mq_X8_isDigit : mz_I := (yX8_isDigit, cX8_isDigit, 1, (some .boolean), true, 6, 1, 0, 0, [(0, .iload_n 0, 1, 0, 0, 0), (1, .bipush 48, 2, 0, 48, 0), (3, .if_icmp .lt 13, 3, 16, 0, 0), (6, .iload_n 0, 1, 0, 0, 0), (7, .bipush 57, 2, 0, 57, 0), (9, .if_icmp .gt 7, 3, 16, 0, 0), (12, .iconst 1, 1, 0, 1, 0), (13, .goto 4, 3, 17, 0, 0), (16, .iconst 0, 1, 0, 0, 0), (17, .ireturn, 1, 0, 0, 0)])
def mq_X8_signOf : mz_I := (yX8_signOf, cX8_signOf, 5, (some .int), false, 6, 2, 1, 22, [(0, .iconst 0, 1, 0, 0, 0), (1, .istore_n 3, 1, 3, 0, 0), (2, .bipush 8, 2, 0, 8, 0), (4, .istore 4, 2, 4, 0, 0), (6, .iload 4, 2, 4, 0, 0), (8, .ifCond .lt 65, 3, 73, 0, 0), (11, .iload_n 1, 1, 1, 0, 0), (12, .iload 4, 2, 4, 0, 0), (14, .ishr, 1, 0, 0, 0), (15, .iconst 1, 1, 0, 1, 0), (16, .iand, 1, 0, 0, 0), (17, .ifCond .eq 50, 3, 67, 0, 0), (20, .iload_n 3, 1, 3, 0, 0), (21, .ifCond .le 11, 3, 32, 0, 0), (24, .aload_n 0, 1, 0, 0, 0), (25, .iload_n 3, 1, 3, 0, 0), (26, .bipush 43, 2, 0, 43, 0), (28, .invokevirtual 40, 3, 62, 0, 57), (31, .istore_n 3, 1, 3, 0, 0), (32, .aload_n 0, 1, 0, 0, 0), (33, .iload_n 3, 1, 3, 0, 0), (34, .iload 4, 2, 4, 0, 0), (36, .ifCond .ne 8, 3, 44, 0, 0), (39, .bipush 49, 2, 0, 49, 0), (41, .goto 5, 3, 46, 0, 0), (44, .bipush 120, 2, 0, 120, 0), (46, .invokevirtual 40, 3, 62, 0, 57), (49, .istore_n 3, 1, 3, 0, 0), (50, .iload 4, 2, 4, 0, 0), (52, .iconst 1, 1, 0, 1, 0), (53, .if_icmp .le 14, 3, 67, 0, 0), (56, .aload_n 0, 1, 0, 0, 0), (57, .iload_n 3, 1, 3, 0, 0), (58, .bipush 48, 2, 0, 48, 0), (60, .iload 4, 2, 4, 0, 0), (62, .iadd, 1, 0, 0, 0), (63, .invokevirtual 40, 3, 62, 0, 57), (66, .istore_n 3, 1, 3, 0, 0), (67, .iinc 4 (-1), 3, 4, (-1), 0), (70, .goto (-64), 3, 6, 0, 0), (73, .iload_n 2, 1, 2, 0, 0), (74, .iconst (-1), 1, 0, (-1), 0), (75, .if_icmp .ne 5, 3, 80, 0, 0), (78, .iload_n 3, 1, 3, 0, 0), (79, .ireturn, 1, 0, 0, 0), (80, .iload_n 2, 1, 2, 0, 0), (81, .ifCond .lt 17, 3, 98, 0, 0), (84, .iload_n 2, 1, 2, 0, 0), (85, .iload_n 3, 1, 3, 0, 0), (86, .if_icmp .ge 12, 3, 98, 0, 0), (89, .aload_n 0, 1, 0, 0, 0), (90, .getfield 15, 3, 385, 0, 58), (93, .iload_n 2, 1, 2, 0, 0), (94, .iaload, 1, 0, 0, 0), (95, .goto 4, 3, 99, 0, 0), (98, .iconst (-1), 1, 0, (-1), 0), (99, .ireturn, 1, 0, 0, 0)])
def mq_X8_puts : mz_I := (yX8_puts, cX8_puts, 3, (some .int), false, 6, 2, 0, 0, [(0, .iload_n 1, 1, 1, 0, 0), (1, .ifCond .lt 12, 3, 13, 0, 0), (4, .iload_n 1, 1, 1, 0, 0), (5, .aload_n 0, 1, 0, 0, 0), (6, .getfield 15, 3, 385, 0, 58), (9, .arraylength, 1, 0, 0, 0), (10, .if_icmp .lt 5, 3, 15, 0, 0), (13, .iload_n 1, 1, 1, 0, 0), (14, .ireturn, 1, 0, 0, 0), (15, .aload_n 0, 1, 0, 0, 0), (16, .getfield 15, 3, 385, 0, 58), (19, .iload_n 1, 1, 1, 0, 0), (20, .iload_n 2, 1, 2, 0, 0), (21, .iastore, 1, 0, 0, 0), (22, .iload_n 1, 1, 1, 0, 0), (23, .iconst 1, 1, 0, 1, 0), (24, .iadd, 1, 0, 0, 0), (25, .ireturn, 1, 0, 0, 0)])
def mq_X9_sign : mz_I := (yX9_sign, cX9_sign, 2, (some .int), false, 7, 1, 1, 22, [(0, .aload_n 0, 1, 0, 0, 0), (1, .getfield 46, 3, 454, 0, 59), (4, .iload_n 1, 1, 1, 0, 0), (5, .invokevirtual 73, 3, 52, 0, 60), (8, .ifCond .eq 13, 3, 21, 0, 0), (11, .aload_n 0, 1, 0, 0, 0), (12, .getfield 46, 3, 454, 0, 59), (15, .getfield 77, 3, 386, 0, 61), (18, .goto 4, 3, 22, 0, 0), (21, .iconst (-1), 1, 0, (-1), 0), (22, .ireturn, 1, 0, 0, 0)])
def mq_X9_end : mz_I := (yX9_end, cX9_end, 2, (some .boolean), false, 7, 1, 1, 21, [(0, .aload_n 0, 1, 0, 0, 0), (1, .getfield 46, 3, 454, 0, 59), (4, .iload_n 1, 1, 1, 0, 0), (5, .invokevirtual 81, 3, 53, 0, 62), (8, .ireturn, 1, 0, 0, 0)])
def mq_X9_field : mz_I := (yX9_field, cX9_field, 2, (some .int), false, 7, 0, 6, 137, [(0, .aload_n 0, 1, 0, 0, 0), (1, .getfield 46, 3, 454, 0, 59), (4, .invokevirtual 84, 3, 56, 0, 63), (7, .istore_n 1, 1, 1, 0, 0), (8, .aload_n 0, 1, 0, 0, 0), (9, .getfield 46, 3, 454, 0, 59), (12, .invokevirtual 88, 3, 54, 0, 64), (15, .iload_n 1, 1, 1, 0, 0), (16, .ifCond .ge 5, 3, 21, 0, 0), (19, .iload_n 1, 1, 1, 0, 0), (20, .ireturn, 1, 0, 0, 0), (21, .iload_n 1, 1, 1, 0, 0), (22, .invokestatic 91, 3, 40, 0, 65), (25, .ifCond .eq 11, 3, 36, 0, 0), (28, .aload_n 0, 1, 0, 0, 0), (29, .iload_n 1, 1, 1, 0, 0), (30, .invokevirtual 96, 3, 126, 0, 66), (33, .goto 5, 3, 38, 0, 0), (36, .bipush (-2), 2, 0, (-2), 0), (38, .ireturn, 1, 0, 0, 0)])
def mq_X9_poly : mz_I := (yX9_poly, cX9_poly, 3, (some .int), false, 7, 1, 6, 137, [(0, .iload_n 1, 1, 1, 0, 0), (1, .invokestatic 100, 3, 37, 0, 67), (4, .istore_n 2, 1, 2, 0, 0), (5, .iload_n 2, 1, 2, 0, 0), (6, .iconst 2, 1, 0, 2, 0), (7, .if_icmp .lt 9, 3, 16, 0, 0), (10, .iload_n 2, 1, 2, 0, 0), (11, .bipush 8, 2, 0, 8, 0), (13, .if_icmp .le 5, 3, 18, 0, 0), (16, .iconst (-1), 1, 0, (-1), 0), (17, .ireturn, 1, 0, 0, 0), (18, .iload_n 1, 1, 1, 0, 0), (19, .invokestatic 91, 3, 40, 0, 65), (22, .ifCond .eq 11, 3, 33, 0, 0), (25, .aload_n 0, 1, 0, 0, 0), (26, .iload_n 1, 1, 1, 0, 0), (27, .invokevirtual 96, 3, 126, 0, 66), (30, .goto 5, 3, 35, 0, 0), (33, .bipush (-2), 2, 0, (-2), 0), (35, .ireturn, 1, 0, 0, 0)])
def mq_X9_product : mz_I := (yX9_product, cX9_product, 3, (some .int), false, 7, 2, 1, 23, [(0, .aload_n 0, 1, 0, 0, 0), (1, .iload_n 1, 1, 1, 0, 0), (2, .invokevirtual 103, 3, 123, 0, 68), (5, .ifCond .eq 23, 3, 28, 0, 0), (8, .aload_n 0, 1, 0, 0, 0), (9, .iload_n 2, 1, 2, 0, 0), (10, .invokevirtual 103, 3, 123, 0, 68), (13, .ifCond .eq 15, 3, 28, 0, 0), (16, .aload_n 0, 1, 0, 0, 0), (17, .getfield 20, 3, 449, 0, 69), (20, .iload_n 1, 1, 1, 0, 0), (21, .iload_n 2, 1, 2, 0, 0), (22, .invokevirtual 106, 3, 3, 0, 70), (25, .goto 4, 3, 29, 0, 0), (28, .iconst (-1), 1, 0, (-1), 0), (29, .ireturn, 1, 0, 0, 0)])
def mq_X9_inverse : mz_I := (yX9_inverse, cX9_inverse, 2, (some .int), false, 7, 1, 1, 22, [(0, .aload_n 0, 1, 0, 0, 0), (1, .iload_n 1, 1, 1, 0, 0), (2, .invokevirtual 103, 3, 123, 0, 68), (5, .ifCond .ne 5, 3, 10, 0, 0), (8, .iconst (-1), 1, 0, (-1), 0), (9, .ireturn, 1, 0, 0, 0), (10, .iload_n 1, 1, 1, 0, 0), (11, .ifCond .ne 8, 3, 19, 0, 0), (14, .bipush (-2), 2, 0, (-2), 0), (16, .goto 11, 3, 27, 0, 0), (19, .aload_n 0, 1, 0, 0, 0), (20, .getfield 20, 3, 449, 0, 69), (23, .iload_n 1, 1, 1, 0, 0), (24, .invokevirtual 110, 3, 4, 0, 71), (27, .ireturn, 1, 0, 0, 0)])
def mq_X9_power : mz_I := (yX9_power, cX9_power, 3, (some .int), false, 7, 2, 2, 48, [(0, .aload_n 0, 1, 0, 0, 0), (1, .iload_n 1, 1, 1, 0, 0), (2, .invokevirtual 103, 3, 123, 0, 68), (5, .ifCond .eq 13, 3, 18, 0, 0), (8, .iload_n 2, 1, 2, 0, 0), (9, .ifCond .lt 9, 3, 18, 0, 0), (12, .iload_n 2, 1, 2, 0, 0), (13, .ldc 113, 2, 0, 1000000000, 72), (15, .if_icmp .le 5, 3, 20, 0, 0), (18, .iconst (-1), 1, 0, (-1), 0), (19, .ireturn, 1, 0, 0, 0), (20, .aload_n 0, 1, 0, 0, 0), (21, .getfield 20, 3, 449, 0, 69), (24, .iload_n 1, 1, 1, 0, 0), (25, .iload_n 2, 1, 2, 0, 0), (26, .invokevirtual 114, 3, 5, 0, 73), (29, .ireturn, 1, 0, 0, 0)])
def mq_X9_order : mz_I := (yX9_order, cX9_order, 3, (some .int), false, 7, 1, 1, 26, [(0, .aload_n 0, 1, 0, 0, 0), (1, .iload_n 1, 1, 1, 0, 0), (2, .invokevirtual 103, 3, 123, 0, 68), (5, .ifCond .ne 5, 3, 10, 0, 0), (8, .iconst (-1), 1, 0, (-1), 0), (9, .ireturn, 1, 0, 0, 0), (10, .iload_n 1, 1, 1, 0, 0), (11, .ifCond .ne 6, 3, 17, 0, 0), (14, .bipush (-2), 2, 0, (-2), 0), (16, .ireturn, 1, 0, 0, 0), (17, .aload_n 0, 1, 0, 0, 0), (18, .getfield 20, 3, 449, 0, 69), (21, .iload_n 1, 1, 1, 0, 0), (22, .invokevirtual 117, 3, 7, 0, 74), (25, .istore_n 2, 1, 2, 0, 0), (26, .aload_n 0, 1, 0, 0, 0), (27, .getfield 53, 3, 455, 0, 75), (30, .invokevirtual 120, 3, 44, 0, 76), (33, .aload_n 0, 1, 0, 0, 0), (34, .getfield 53, 3, 455, 0, 75), (37, .iload_n 2, 1, 2, 0, 0), (38, .aload_n 0, 1, 0, 0, 0), (39, .getfield 20, 3, 449, 0, 69), (42, .getfield 121, 3, 2, 0, 77), (45, .iconst 1, 1, 0, 1, 0), (46, .isub, 1, 0, 0, 0), (47, .if_icmp .ne 7, 3, 54, 0, 0), (50, .lconst 1, 1, 0, 1, 0), (51, .goto 4, 3, 55, 0, 0), (54, .lconst 0, 1, 0, 0, 0), (55, .invokevirtual 124, 3, 45, 0, 78), (58, .iload_n 2, 1, 2, 0, 0), (59, .ireturn, 1, 0, 0, 0)])
def mq_X9_conjugate : mz_I := (yX9_conjugate, cX9_conjugate, 3, (some .int), false, 7, 2, 2, 47, [(0, .aload_n 0, 1, 0, 0, 0), (1, .iload_n 1, 1, 1, 0, 0), (2, .invokevirtual 103, 3, 123, 0, 68), (5, .ifCond .eq 13, 3, 18, 0, 0), (8, .iload_n 2, 1, 2, 0, 0), (9, .ifCond .lt 9, 3, 18, 0, 0), (12, .iload_n 2, 1, 2, 0, 0), (13, .bipush 100, 2, 0, 100, 0), (15, .if_icmp .le 5, 3, 20, 0, 0), (18, .iconst (-1), 1, 0, (-1), 0), (19, .ireturn, 1, 0, 0, 0), (20, .aload_n 0, 1, 0, 0, 0), (21, .getfield 20, 3, 449, 0, 69), (24, .iload_n 1, 1, 1, 0, 0), (25, .iload_n 2, 1, 2, 0, 0), (26, .invokevirtual 128, 3, 6, 0, 79), (29, .ireturn, 1, 0, 0, 0)])
def mq_X9_conjugates : mz_I := (yX9_conjugates, cX9_conjugates, 5, (some .int), false, 7, 1, 2, 46, [(0, .aload_n 0, 1, 0, 0, 0), (1, .iload_n 1, 1, 1, 0, 0), (2, .invokevirtual 103, 3, 123, 0, 68), (5, .ifCond .ne 5, 3, 10, 0, 0), (8, .iconst (-1), 1, 0, (-1), 0), (9, .ireturn, 1, 0, 0, 0), (10, .aload_n 0, 1, 0, 0, 0), (11, .getfield 20, 3, 449, 0, 69), (14, .iload_n 1, 1, 1, 0, 0), (15, .invokevirtual 131, 3, 10, 0, 80), (18, .istore_n 2, 1, 2, 0, 0), (19, .aload_n 0, 1, 0, 0, 0), (20, .getfield 53, 3, 455, 0, 75), (23, .invokevirtual 120, 3, 44, 0, 76), (26, .iload_n 1, 1, 1, 0, 0), (27, .istore_n 3, 1, 3, 0, 0), (28, .iconst 0, 1, 0, 0, 0), (29, .istore 4, 2, 4, 0, 0), (31, .iload 4, 2, 4, 0, 0), (33, .iload_n 2, 1, 2, 0, 0), (34, .if_icmp .ge 28, 3, 62, 0, 0), (37, .aload_n 0, 1, 0, 0, 0), (38, .getfield 53, 3, 455, 0, 75), (41, .iload_n 3, 1, 3, 0, 0), (42, .i2l, 1, 0, 0, 0), (43, .invokevirtual 124, 3, 45, 0, 78), (46, .aload_n 0, 1, 0, 0, 0), (47, .getfield 20, 3, 449, 0, 69), (50, .iload_n 3, 1, 3, 0, 0), (51, .iload_n 3, 1, 3, 0, 0), (52, .invokevirtual 106, 3, 3, 0, 70), (55, .istore_n 3, 1, 3, 0, 0), (56, .iinc 4 1, 3, 4, 1, 0), (59, .goto (-28), 3, 31, 0, 0), (62, .iload_n 2, 1, 2, 0, 0), (63, .ireturn, 1, 0, 0, 0)])
def mq_X9_least : mz_I := (yX9_least, cX9_least, 4, (some .int), false, 7, 1, 2, 47, [(0, .aload_n 0, 1, 0, 0, 0), (1, .iload_n 1, 1, 1, 0, 0), (2, .invokevirtual 103, 3, 123, 0, 68), (5, .ifCond .ne 5, 3, 10, 0, 0), (8, .iconst (-1), 1, 0, (-1), 0), (9, .ireturn, 1, 0, 0, 0), (10, .aload_n 0, 1, 0, 0, 0), (11, .getfield 10, 3, 448, 0, 81), (14, .iload_n 1, 1, 1, 0, 0), (15, .invokevirtual 134, 3, 28, 0, 82), (18, .istore_n 2, 1, 2, 0, 0), (19, .iload_n 2, 1, 2, 0, 0), (20, .invokestatic 100, 3, 37, 0, 67), (23, .istore_n 3, 1, 3, 0, 0), (24, .aload_n 0, 1, 0, 0, 0), (25, .getfield 53, 3, 455, 0, 75), (28, .invokevirtual 120, 3, 44, 0, 76), (31, .aload_n 0, 1, 0, 0, 0), (32, .getfield 53, 3, 455, 0, 75), (35, .iload_n 3, 1, 3, 0, 0), (36, .i2l, 1, 0, 0, 0), (37, .invokevirtual 124, 3, 45, 0, 78), (40, .aload_n 0, 1, 0, 0, 0), (41, .getfield 53, 3, 455, 0, 75), (44, .iload_n 3, 1, 3, 0, 0), (45, .ifCond .le 14, 3, 59, 0, 0), (48, .iload_n 2, 1, 2, 0, 0), (49, .iload_n 3, 1, 3, 0, 0), (50, .iconst 1, 1, 0, 1, 0), (51, .isub, 1, 0, 0, 0), (52, .ishr, 1, 0, 0, 0), (53, .iconst 1, 1, 0, 1, 0), (54, .iand, 1, 0, 0, 0), (55, .i2l, 1, 0, 0, 0), (56, .goto 4, 3, 60, 0, 0), (59, .lconst 0, 1, 0, 0, 0), (60, .invokevirtual 124, 3, 45, 0, 78), (63, .iload_n 2, 1, 2, 0, 0), (64, .ireturn, 1, 0, 0, 0)])
def mq_X9_trace : mz_I := (yX9_trace, cX9_trace, 3, (some .int), false, 7, 2, 3, 73, [(0, .aload_n 0, 1, 0, 0, 0), (1, .iload_n 1, 1, 1, 0, 0), (2, .invokevirtual 103, 3, 123, 0, 68), (5, .ifCond .eq 26, 3, 31, 0, 0), (8, .aload_n 0, 1, 0, 0, 0), (9, .getfield 20, 3, 449, 0, 69), (12, .iload_n 2, 1, 2, 0, 0), (13, .invokevirtual 137, 3, 11, 0, 83), (16, .ifCond .eq 15, 3, 31, 0, 0), (19, .aload_n 0, 1, 0, 0, 0), (20, .getfield 20, 3, 449, 0, 69), (23, .iload_n 1, 1, 1, 0, 0), (24, .iload_n 2, 1, 2, 0, 0), (25, .invokevirtual 140, 3, 12, 0, 84), (28, .goto 4, 3, 32, 0, 0), (31, .iconst (-1), 1, 0, (-1), 0), (32, .ireturn, 1, 0, 0, 0)])
def mq_X9_norm : mz_I := (yX9_norm, cX9_norm, 3, (some .int), false, 7, 2, 3, 73, [(0, .aload_n 0, 1, 0, 0, 0), (1, .iload_n 1, 1, 1, 0, 0), (2, .invokevirtual 103, 3, 123, 0, 68), (5, .ifCond .eq 26, 3, 31, 0, 0), (8, .aload_n 0, 1, 0, 0, 0), (9, .getfield 20, 3, 449, 0, 69), (12, .iload_n 2, 1, 2, 0, 0), (13, .invokevirtual 137, 3, 11, 0, 83), (16, .ifCond .eq 15, 3, 31, 0, 0), (19, .aload_n 0, 1, 0, 0, 0), (20, .getfield 20, 3, 449, 0, 69), (23, .iload_n 1, 1, 1, 0, 0), (24, .iload_n 2, 1, 2, 0, 0), (25, .invokevirtual 143, 3, 14, 0, 85), (28, .goto 4, 3, 32, 0, 0), (31, .iconst (-1), 1, 0, (-1), 0), (32, .ireturn, 1, 0, 0, 0)])
def mq_X9_root : mz_I := (yX9_root, cX9_root, 2, (some .int), false, 7, 1, 2, 47, [(0, .aload_n 0, 1, 0, 0, 0), (1, .iload_n 1, 1, 1, 0, 0), (2, .invokevirtual 103, 3, 123, 0, 68), (5, .ifCond .eq 23, 3, 28, 0, 0), (8, .aload_n 0, 1, 0, 0, 0), (9, .getfield 20, 3, 449, 0, 69), (12, .iload_n 1, 1, 1, 0, 0), (13, .aload_n 0, 1, 0, 0, 0), (14, .getfield 20, 3, 449, 0, 69), (17, .getfield 146, 3, 1, 0, 86), (20, .iconst 1, 1, 0, 1, 0), (21, .isub, 1, 0, 0, 0), (22, .invokevirtual 128, 3, 6, 0, 79), (25, .goto 4, 3, 29, 0, 0), (28, .iconst (-1), 1, 0, (-1), 0), (29, .ireturn, 1, 0, 0, 0)])
def mq_X9_solves : mz_I := (yX9_solves, cX9_solves, 3, (some .int), false, 7, 1, 1, 23, [(0, .aload_n 0, 1, 0, 0, 0), (1, .iload_n 1, 1, 1, 0, 0), (2, .invokevirtual 103, 3, 123, 0, 68), (5, .ifCond .ne 5, 3, 10, 0, 0), (8, .iconst (-1), 1, 0, (-1), 0), (9, .ireturn, 1, 0, 0, 0), (10, .iconst 0, 1, 0, 0, 0), (11, .istore_n 2, 1, 2, 0, 0), (12, .iload_n 2, 1, 2, 0, 0), (13, .aload_n 0, 1, 0, 0, 0), (14, .getfield 20, 3, 449, 0, 69), (17, .getfield 121, 3, 2, 0, 77), (20, .if_icmp .ge 44, 3, 64, 0, 0), (23, .aload_n 0, 1, 0, 0, 0), (24, .getfield 20, 3, 449, 0, 69), (27, .iload_n 2, 1, 2, 0, 0), (28, .iload_n 2, 1, 2, 0, 0), (29, .invokevirtual 106, 3, 3, 0, 70), (32, .iload_n 2, 1, 2, 0, 0), (33, .ixor, 1, 0, 0, 0), (34, .iload_n 1, 1, 1, 0, 0), (35, .if_icmp .ne 23, 3, 58, 0, 0), (38, .aload_n 0, 1, 0, 0, 0), (39, .getfield 53, 3, 455, 0, 75), (42, .invokevirtual 120, 3, 44, 0, 76), (45, .aload_n 0, 1, 0, 0, 0), (46, .getfield 53, 3, 455, 0, 75), (49, .iload_n 2, 1, 2, 0, 0), (50, .iconst 1, 1, 0, 1, 0), (51, .ixor, 1, 0, 0, 0), (52, .i2l, 1, 0, 0, 0), (53, .invokevirtual 124, 3, 45, 0, 78), (56, .iload_n 2, 1, 2, 0, 0), (57, .ireturn, 1, 0, 0, 0), (58, .iinc 2 1, 3, 2, 1, 0), (61, .goto (-49), 3, 12, 0, 0), (64, .bipush (-2), 2, 0, (-2), 0), (66, .ireturn, 1, 0, 0, 0)])
def mq_X9_log : mz_I := (yX9_log, cX9_log, 5, (some .int), false, 7, 2, 1, 23, [(0, .aload_n 0, 1, 0, 0, 0), (1, .iload_n 1, 1, 1, 0, 0), (2, .invokevirtual 103, 3, 123, 0, 68), (5, .ifCond .eq 11, 3, 16, 0, 0), (8, .aload_n 0, 1, 0, 0, 0), (9, .iload_n 2, 1, 2, 0, 0), (10, .invokevirtual 103, 3, 123, 0, 68), (13, .ifCond .ne 5, 3, 18, 0, 0), (16, .iconst (-1), 1, 0, (-1), 0), (17, .ireturn, 1, 0, 0, 0), (18, .iconst 1, 1, 0, 1, 0), (19, .istore_n 3, 1, 3, 0, 0), (20, .iconst 0, 1, 0, 0, 0), (21, .istore 4, 2, 4, 0, 0), (23, .iload 4, 2, 4, 0, 0), (25, .aload_n 0, 1, 0, 0, 0), (26, .getfield 20, 3, 449, 0, 69), (29, .getfield 121, 3, 2, 0, 77), (32, .if_icmp .ge 27, 3, 59, 0, 0), (35, .iload_n 3, 1, 3, 0, 0), (36, .iload_n 2, 1, 2, 0, 0), (37, .if_icmp .ne 6, 3, 43, 0, 0), (40, .iload 4, 2, 4, 0, 0), (42, .ireturn, 1, 0, 0, 0), (43, .aload_n 0, 1, 0, 0, 0), (44, .getfield 20, 3, 449, 0, 69), (47, .iload_n 3, 1, 3, 0, 0), (48, .iload_n 1, 1, 1, 0, 0), (49, .invokevirtual 106, 3, 3, 0, 70), (52, .istore_n 3, 1, 3, 0, 0), (53, .iinc 4 1, 3, 4, 1, 0), (56, .goto (-33), 3, 23, 0, 0), (59, .bipush (-2), 2, 0, (-2), 0), (61, .ireturn, 1, 0, 0, 0)])
def mq_X9_traced : mz_I := (yX9_traced, cX9_traced, 6, (some .int), false, 7, 2, 3, 73, [(0, .aload_n 0, 1, 0, 0, 0), (1, .getfield 20, 3, 449, 0, 69), (4, .iload_n 1, 1, 1, 0, 0), (5, .invokevirtual 137, 3, 11, 0, 83), (8, .ifCond .eq 11, 3, 19, 0, 0), (11, .aload_n 0, 1, 0, 0, 0), (12, .iload_n 2, 1, 2, 0, 0), (13, .invokevirtual 103, 3, 123, 0, 68), (16, .ifCond .ne 5, 3, 21, 0, 0), (19, .iconst (-1), 1, 0, (-1), 0), (20, .ireturn, 1, 0, 0, 0), (21, .iconst 0, 1, 0, 0, 0), (22, .istore_n 3, 1, 3, 0, 0), (23, .iconst (-1), 1, 0, (-1), 0), (24, .istore 4, 2, 4, 0, 0), (26, .iconst 0, 1, 0, 0, 0), (27, .istore 5, 2, 5, 0, 0), (29, .iload 5, 2, 5, 0, 0), (31, .aload_n 0, 1, 0, 0, 0), (32, .getfield 20, 3, 449, 0, 69), (35, .getfield 121, 3, 2, 0, 77), (38, .if_icmp .ge 41, 3, 79, 0, 0), (41, .aload_n 0, 1, 0, 0, 0), (42, .getfield 20, 3, 449, 0, 69), (45, .iload 5, 2, 5, 0, 0), (47, .iload_n 1, 1, 1, 0, 0), (48, .invokevirtual 140, 3, 12, 0, 84), (51, .iload_n 2, 1, 2, 0, 0), (52, .if_icmp .ne 21, 3, 73, 0, 0), (55, .iinc 3 1, 3, 3, 1, 0), (58, .iload 4, 2, 4, 0, 0), (60, .iconst (-1), 1, 0, (-1), 0), (61, .if_icmp .ne 8, 3, 69, 0, 0), (64, .iload 5, 2, 5, 0, 0), (66, .goto 5, 3, 71, 0, 0), (69, .iload 4, 2, 4, 0, 0), (71, .istore 4, 2, 4, 0, 0), (73, .iinc 5 1, 3, 5, 1, 0), (76, .goto (-47), 3, 29, 0, 0), (79, .aload_n 0, 1, 0, 0, 0), (80, .getfield 53, 3, 455, 0, 75), (83, .invokevirtual 120, 3, 44, 0, 76), (86, .aload_n 0, 1, 0, 0, 0), (87, .getfield 53, 3, 455, 0, 75), (90, .iload 4, 2, 4, 0, 0), (92, .i2l, 1, 0, 0, 0), (93, .invokevirtual 124, 3, 45, 0, 78), (96, .iload_n 3, 1, 3, 0, 0), (97, .ireturn, 1, 0, 0, 0)])
def mq_X9_factors : mz_I := (yX9_factors, cX9_factors, 7, (some .int), false, 7, 1, 2, 47, [(0, .iload_n 1, 1, 1, 0, 0), (1, .iconst 2, 1, 0, 2, 0), (2, .if_icmp .lt 10, 3, 12, 0, 0), (5, .iload_n 1, 1, 1, 0, 0), (6, .sipush 1023, 3, 0, 1023, 0), (9, .if_icmp .le 5, 3, 14, 0, 0), (12, .iconst (-1), 1, 0, (-1), 0), (13, .ireturn, 1, 0, 0, 0), (14, .aload_n 0, 1, 0, 0, 0), (15, .getfield 53, 3, 455, 0, 75), (18, .invokevirtual 120, 3, 44, 0, 76), (21, .iconst (-1), 1, 0, (-1), 0), (22, .istore_n 2, 1, 2, 0, 0), (23, .iload_n 1, 1, 1, 0, 0), (24, .istore_n 3, 1, 3, 0, 0), (25, .iconst 2, 1, 0, 2, 0), (26, .istore 4, 2, 4, 0, 0), (28, .iload 4, 2, 4, 0, 0), (30, .sipush 1023, 3, 0, 1023, 0), (33, .if_icmp .gt 95, 3, 128, 0, 0), (36, .iload_n 3, 1, 3, 0, 0), (37, .iconst 1, 1, 0, 1, 0), (38, .if_icmp .le 90, 3, 128, 0, 0), (41, .iconst 2, 1, 0, 2, 0), (42, .iload 4, 2, 4, 0, 0), (44, .invokestatic 100, 3, 37, 0, 67), (47, .imul, 1, 0, 0, 0), (48, .iload_n 3, 1, 3, 0, 0), (49, .invokestatic 100, 3, 37, 0, 67), (52, .if_icmp .le 7, 3, 59, 0, 0), (55, .iload_n 3, 1, 3, 0, 0), (56, .goto 5, 3, 61, 0, 0), (59, .iload 4, 2, 4, 0, 0), (61, .istore 5, 2, 5, 0, 0), (63, .iconst 0, 1, 0, 0, 0), (64, .istore 6, 2, 6, 0, 0), (66, .iload 6, 2, 6, 0, 0), (68, .bipush 10, 2, 0, 10, 0), (70, .if_icmp .ge 52, 3, 122, 0, 0), (73, .iload_n 3, 1, 3, 0, 0), (74, .iconst 1, 1, 0, 1, 0), (75, .if_icmp .le 47, 3, 122, 0, 0), (78, .iload_n 3, 1, 3, 0, 0), (79, .iload 5, 2, 5, 0, 0), (81, .invokestatic 149, 3, 38, 0, 87), (84, .ifCond .ne 38, 3, 122, 0, 0), (87, .aload_n 0, 1, 0, 0, 0), (88, .getfield 53, 3, 455, 0, 75), (91, .iload 5, 2, 5, 0, 0), (93, .i2l, 1, 0, 0, 0), (94, .invokevirtual 124, 3, 45, 0, 78), (97, .iload_n 2, 1, 2, 0, 0), (98, .iconst (-1), 1, 0, (-1), 0), (99, .if_icmp .ne 8, 3, 107, 0, 0), (102, .iload 5, 2, 5, 0, 0), (104, .goto 4, 3, 108, 0, 0), (107, .iload_n 2, 1, 2, 0, 0), (108, .istore_n 2, 1, 2, 0, 0), (109, .iload_n 3, 1, 3, 0, 0), (110, .iload 5, 2, 5, 0, 0), (112, .invokestatic 152, 3, 39, 0, 88), (115, .istore_n 3, 1, 3, 0, 0), (116, .iinc 6 1, 3, 6, 1, 0), (119, .goto (-53), 3, 66, 0, 0), (122, .iinc 4 1, 3, 4, 1, 0), (125, .goto (-97), 3, 28, 0, 0), (128, .iload_n 2, 1, 2, 0, 0), (129, .ireturn, 1, 0, 0, 0)])
def mq_X9_orders : mz_I := (yX9_orders, cX9_orders, 4, (some .int), false, 7, 0, 2, 49, [(0, .iconst 0, 1, 0, 0, 0), (1, .istore_n 1, 1, 1, 0, 0), (2, .aload_n 0, 1, 0, 0, 0), (3, .getfield 53, 3, 455, 0, 75), (6, .invokevirtual 120, 3, 44, 0, 76), (9, .iconst 1, 1, 0, 1, 0), (10, .istore_n 2, 1, 2, 0, 0), (11, .iload_n 2, 1, 2, 0, 0), (12, .aload_n 0, 1, 0, 0, 0), (13, .getfield 20, 3, 449, 0, 69), (16, .getfield 121, 3, 2, 0, 77), (19, .if_icmp .ge 43, 3, 62, 0, 0), (22, .aload_n 0, 1, 0, 0, 0), (23, .getfield 20, 3, 449, 0, 69), (26, .iload_n 2, 1, 2, 0, 0), (27, .invokevirtual 155, 3, 9, 0, 89), (30, .istore_n 3, 1, 3, 0, 0), (31, .iload_n 3, 1, 3, 0, 0), (32, .ifCond .le 24, 3, 56, 0, 0), (35, .iinc 1 1, 3, 1, 1, 0), (38, .aload_n 0, 1, 0, 0, 0), (39, .getfield 53, 3, 455, 0, 75), (42, .iload_n 2, 1, 2, 0, 0), (43, .i2l, 1, 0, 0, 0), (44, .invokevirtual 124, 3, 45, 0, 78), (47, .aload_n 0, 1, 0, 0, 0), (48, .getfield 53, 3, 455, 0, 75), (51, .iload_n 3, 1, 3, 0, 0), (52, .i2l, 1, 0, 0, 0), (53, .invokevirtual 124, 3, 45, 0, 78), (56, .iinc 2 1, 3, 2, 1, 0), (59, .goto (-48), 3, 11, 0, 0), (62, .iload_n 1, 1, 1, 0, 0), (63, .ireturn, 1, 0, 0, 0)])
def mq_X9_quadratic : mz_I := (yX9_quadratic, cX9_quadratic, 7, (some .int), false, 7, 3, 1, 23, [(0, .aload_n 0, 1, 0, 0, 0), (1, .iload_n 1, 1, 1, 0, 0), (2, .invokevirtual 103, 3, 123, 0, 68), (5, .ifCond .eq 19, 3, 24, 0, 0), (8, .aload_n 0, 1, 0, 0, 0), (9, .iload_n 2, 1, 2, 0, 0), (10, .invokevirtual 103, 3, 123, 0, 68), (13, .ifCond .eq 11, 3, 24, 0, 0), (16, .aload_n 0, 1, 0, 0, 0), (17, .iload_n 3, 1, 3, 0, 0), (18, .invokevirtual 103, 3, 123, 0, 68), (21, .ifCond .ne 5, 3, 26, 0, 0), (24, .iconst (-1), 1, 0, (-1), 0), (25, .ireturn, 1, 0, 0, 0), (26, .iconst 0, 1, 0, 0, 0), (27, .istore 4, 2, 4, 0, 0), (29, .aload_n 0, 1, 0, 0, 0), (30, .getfield 53, 3, 455, 0, 75), (33, .invokevirtual 120, 3, 44, 0, 76), (36, .iconst 0, 1, 0, 0, 0), (37, .istore 5, 2, 5, 0, 0), (39, .iload 5, 2, 5, 0, 0), (41, .aload_n 0, 1, 0, 0, 0), (42, .getfield 20, 3, 449, 0, 69), (45, .getfield 121, 3, 2, 0, 77), (48, .if_icmp .ge 58, 3, 106, 0, 0), (51, .aload_n 0, 1, 0, 0, 0), (52, .getfield 20, 3, 449, 0, 69), (55, .iload_n 1, 1, 1, 0, 0), (56, .iload 5, 2, 5, 0, 0), (58, .invokevirtual 106, 3, 3, 0, 70), (61, .iload_n 2, 1, 2, 0, 0), (62, .ixor, 1, 0, 0, 0), (63, .istore 6, 2, 6, 0, 0), (65, .aload_n 0, 1, 0, 0, 0), (66, .getfield 20, 3, 449, 0, 69), (69, .iload 6, 2, 6, 0, 0), (71, .iload 5, 2, 5, 0, 0), (73, .invokevirtual 106, 3, 3, 0, 70), (76, .iload_n 3, 1, 3, 0, 0), (77, .if_icmp .ne 23, 3, 100, 0, 0), (80, .iload 4, 2, 4, 0, 0), (82, .bipush 8, 2, 0, 8, 0), (84, .if_icmp .ge 13, 3, 97, 0, 0), (87, .aload_n 0, 1, 0, 0, 0), (88, .getfield 53, 3, 455, 0, 75), (91, .iload 5, 2, 5, 0, 0), (93, .i2l, 1, 0, 0, 0), (94, .invokevirtual 124, 3, 45, 0, 78), (97, .iinc 4 1, 3, 4, 1, 0), (100, .iinc 5 1, 3, 5, 1, 0), (103, .goto (-64), 3, 39, 0, 0), (106, .iload 4, 2, 4, 0, 0), (108, .ireturn, 1, 0, 0, 0)])
def mq_X9_classes : mz_I := (yX9_classes, cX9_classes, 5, (some .int), false, 7, 0, 2, 46, [(0, .iconst 0, 1, 0, 0, 0), (1, .istore_n 1, 1, 1, 0, 0), (2, .aload_n 0, 1, 0, 0, 0), (3, .getfield 53, 3, 455, 0, 75), (6, .invokevirtual 120, 3, 44, 0, 76), (9, .iconst 1, 1, 0, 1, 0), (10, .istore_n 2, 1, 2, 0, 0), (11, .iload_n 2, 1, 2, 0, 0), (12, .aload_n 0, 1, 0, 0, 0), (13, .getfield 20, 3, 449, 0, 69), (16, .getfield 146, 3, 1, 0, 86), (19, .if_icmp .gt 68, 3, 87, 0, 0), (22, .iconst 0, 1, 0, 0, 0), (23, .istore_n 3, 1, 3, 0, 0), (24, .iconst 0, 1, 0, 0, 0), (25, .istore 4, 2, 4, 0, 0), (27, .iload 4, 2, 4, 0, 0), (29, .aload_n 0, 1, 0, 0, 0), (30, .getfield 20, 3, 449, 0, 69), (33, .getfield 121, 3, 2, 0, 77), (36, .if_icmp .ge 30, 3, 66, 0, 0), (39, .iload_n 3, 1, 3, 0, 0), (40, .aload_n 0, 1, 0, 0, 0), (41, .getfield 20, 3, 449, 0, 69), (44, .iload 4, 2, 4, 0, 0), (46, .invokevirtual 131, 3, 10, 0, 80), (49, .iload_n 2, 1, 2, 0, 0), (50, .if_icmp .ne 7, 3, 57, 0, 0), (53, .iconst 1, 1, 0, 1, 0), (54, .goto 4, 3, 58, 0, 0), (57, .iconst 0, 1, 0, 0, 0), (58, .iadd, 1, 0, 0, 0), (59, .istore_n 3, 1, 3, 0, 0), (60, .iinc 4 1, 3, 4, 1, 0), (63, .goto (-36), 3, 27, 0, 0), (66, .aload_n 0, 1, 0, 0, 0), (67, .getfield 53, 3, 455, 0, 75), (70, .iload_n 3, 1, 3, 0, 0), (71, .i2l, 1, 0, 0, 0), (72, .invokevirtual 124, 3, 45, 0, 78), (75, .iload_n 1, 1, 1, 0, 0), (76, .iload_n 3, 1, 3, 0, 0), (77, .iload_n 2, 1, 2, 0, 0), (78, .idiv, 1, 0, 0, 0), (79, .iadd, 1, 0, 0, 0), (80, .istore_n 1, 1, 1, 0, 0), (81, .iinc 2 1, 3, 2, 1, 0), (84, .goto (-73), 3, 11, 0, 0), (87, .iload_n 1, 1, 1, 0, 0), (88, .ireturn, 1, 0, 0, 0)])
def mq_X9_generators : mz_I := (yX9_generators, cX9_generators, 4, (some .int), false, 7, 0, 2, 47, [(0, .iconst 0, 1, 0, 0, 0), (1, .istore_n 1, 1, 1, 0, 0), (2, .iconst (-1), 1, 0, (-1), 0), (3, .istore_n 2, 1, 2, 0, 0), (4, .iconst 1, 1, 0, 1, 0), (5, .istore_n 3, 1, 3, 0, 0), (6, .iload_n 3, 1, 3, 0, 0), (7, .aload_n 0, 1, 0, 0, 0), (8, .getfield 20, 3, 449, 0, 69), (11, .getfield 121, 3, 2, 0, 77), (14, .if_icmp .ge 34, 3, 48, 0, 0), (17, .aload_n 0, 1, 0, 0, 0), (18, .getfield 20, 3, 449, 0, 69), (21, .iload_n 3, 1, 3, 0, 0), (22, .invokevirtual 158, 3, 8, 0, 90), (25, .ifCond .eq 17, 3, 42, 0, 0), (28, .iinc 1 1, 3, 1, 1, 0), (31, .iload_n 2, 1, 2, 0, 0), (32, .iconst (-1), 1, 0, (-1), 0), (33, .if_icmp .ne 7, 3, 40, 0, 0), (36, .iload_n 3, 1, 3, 0, 0), (37, .goto 4, 3, 41, 0, 0), (40, .iload_n 2, 1, 2, 0, 0), (41, .istore_n 2, 1, 2, 0, 0), (42, .iinc 3 1, 3, 3, 1, 0), (45, .goto (-39), 3, 6, 0, 0), (48, .aload_n 0, 1, 0, 0, 0), (49, .getfield 53, 3, 455, 0, 75), (52, .invokevirtual 120, 3, 44, 0, 76), (55, .aload_n 0, 1, 0, 0, 0), (56, .getfield 53, 3, 455, 0, 75), (59, .iload_n 2, 1, 2, 0, 0), (60, .i2l, 1, 0, 0, 0), (61, .invokevirtual 124, 3, 45, 0, 78), (64, .iload_n 1, 1, 1, 0, 0), (65, .ireturn, 1, 0, 0, 0)])
def mq_X9_subfield : mz_I := (yX9_subfield, cX9_subfield, 2, (some .int), false, 7, 1, 3, 71, [(0, .aload_n 0, 1, 0, 0, 0), (1, .getfield 20, 3, 449, 0, 69), (4, .iload_n 1, 1, 1, 0, 0), (5, .invokevirtual 137, 3, 11, 0, 83), (8, .ifCond .ne 5, 3, 13, 0, 0), (11, .iconst (-1), 1, 0, (-1), 0), (12, .ireturn, 1, 0, 0, 0), (13, .aload_n 0, 1, 0, 0, 0), (14, .getfield 10, 3, 448, 0, 81), (17, .aload_n 0, 1, 0, 0, 0), (18, .getfield 61, 3, 457, 0, 91), (21, .iload_n 1, 1, 1, 0, 0), (22, .invokevirtual 161, 3, 29, 0, 92), (25, .aload_n 0, 1, 0, 0, 0), (26, .getfield 53, 3, 455, 0, 75), (29, .invokevirtual 120, 3, 44, 0, 76), (32, .aload_n 0, 1, 0, 0, 0), (33, .getfield 53, 3, 455, 0, 75), (36, .aload_n 0, 1, 0, 0, 0), (37, .getfield 61, 3, 457, 0, 91), (40, .iload_n 1, 1, 1, 0, 0), (41, .invokevirtual 165, 3, 46, 0, 93), (44, .iconst 1, 1, 0, 1, 0), (45, .iload_n 1, 1, 1, 0, 0), (46, .ishl, 1, 0, 0, 0), (47, .ireturn, 1, 0, 0, 0)])
def mq_X9_normal : mz_I := (yX9_normal, cX9_normal, 3, (some .int), false, 7, 1, 2, 47, [(0, .aload_n 0, 1, 0, 0, 0), (1, .iload_n 1, 1, 1, 0, 0), (2, .invokevirtual 103, 3, 123, 0, 68), (5, .ifCond .ne 5, 3, 10, 0, 0), (8, .iconst (-1), 1, 0, (-1), 0), (9, .ireturn, 1, 0, 0, 0), (10, .aload_n 0, 1, 0, 0, 0), (11, .getfield 20, 3, 449, 0, 69), (14, .aload_n 0, 1, 0, 0, 0), (15, .getfield 57, 3, 456, 0, 94), (18, .iload_n 1, 1, 1, 0, 0), (19, .invokevirtual 168, 3, 17, 0, 95), (22, .aload_n 0, 1, 0, 0, 0), (23, .getfield 25, 3, 450, 0, 96), (26, .aload_n 0, 1, 0, 0, 0), (27, .getfield 57, 3, 456, 0, 94), (30, .aload_n 0, 1, 0, 0, 0), (31, .getfield 20, 3, 449, 0, 69), (34, .getfield 146, 3, 1, 0, 86), (37, .invokevirtual 171, 3, 20, 0, 97), (40, .istore_n 2, 1, 2, 0, 0), (41, .aload_n 0, 1, 0, 0, 0), (42, .getfield 53, 3, 455, 0, 75), (45, .invokevirtual 120, 3, 44, 0, 76), (48, .aload_n 0, 1, 0, 0, 0), (49, .getfield 53, 3, 455, 0, 75), (52, .aload_n 0, 1, 0, 0, 0), (53, .getfield 25, 3, 450, 0, 96), (56, .getfield 177, 3, 66, 0, 98), (59, .i2l, 1, 0, 0, 0), (60, .invokevirtual 124, 3, 45, 0, 78), (63, .iload_n 2, 1, 2, 0, 0), (64, .ifCond .eq 7, 3, 71, 0, 0), (67, .iconst 1, 1, 0, 1, 0), (68, .goto 4, 3, 72, 0, 0), (71, .iconst 0, 1, 0, 0, 0), (72, .ireturn, 1, 0, 0, 0)])
def mq_X9_normals : mz_I := (yX9_normals, cX9_normals, 5, (some .int), false, 7, 0, 2, 47, [(0, .iconst 0, 1, 0, 0, 0), (1, .istore_n 1, 1, 1, 0, 0), (2, .iconst (-1), 1, 0, (-1), 0), (3, .istore_n 2, 1, 2, 0, 0), (4, .iconst (-1), 1, 0, (-1), 0), (5, .istore_n 3, 1, 3, 0, 0), (6, .iconst 1, 1, 0, 1, 0), (7, .istore 4, 2, 4, 0, 0), (9, .iload 4, 2, 4, 0, 0), (11, .aload_n 0, 1, 0, 0, 0), (12, .getfield 20, 3, 449, 0, 69), (15, .getfield 121, 3, 2, 0, 77), (18, .if_icmp .ge 82, 3, 100, 0, 0), (21, .aload_n 0, 1, 0, 0, 0), (22, .getfield 20, 3, 449, 0, 69), (25, .aload_n 0, 1, 0, 0, 0), (26, .getfield 57, 3, 456, 0, 94), (29, .iload 4, 2, 4, 0, 0), (31, .invokevirtual 168, 3, 17, 0, 95), (34, .aload_n 0, 1, 0, 0, 0), (35, .getfield 25, 3, 450, 0, 96), (38, .aload_n 0, 1, 0, 0, 0), (39, .getfield 57, 3, 456, 0, 94), (42, .aload_n 0, 1, 0, 0, 0), (43, .getfield 20, 3, 449, 0, 69), (46, .getfield 146, 3, 1, 0, 86), (49, .invokevirtual 171, 3, 20, 0, 97), (52, .ifCond .eq 42, 3, 94, 0, 0), (55, .iinc 1 1, 3, 1, 1, 0), (58, .iload_n 2, 1, 2, 0, 0), (59, .iconst (-1), 1, 0, (-1), 0), (60, .if_icmp .ne 8, 3, 68, 0, 0), (63, .iload 4, 2, 4, 0, 0), (65, .goto 4, 3, 69, 0, 0), (68, .iload_n 2, 1, 2, 0, 0), (69, .istore_n 2, 1, 2, 0, 0), (70, .iload_n 3, 1, 3, 0, 0), (71, .iconst (-1), 1, 0, (-1), 0), (72, .if_icmp .ne 20, 3, 92, 0, 0), (75, .aload_n 0, 1, 0, 0, 0), (76, .getfield 20, 3, 449, 0, 69), (79, .iload 4, 2, 4, 0, 0), (81, .invokevirtual 158, 3, 8, 0, 90), (84, .ifCond .eq 8, 3, 92, 0, 0), (87, .iload 4, 2, 4, 0, 0), (89, .goto 4, 3, 93, 0, 0), (92, .iload_n 3, 1, 3, 0, 0), (93, .istore_n 3, 1, 3, 0, 0), (94, .iinc 4 1, 3, 4, 1, 0), (97, .goto (-88), 3, 9, 0, 0), (100, .aload_n 0, 1, 0, 0, 0), (101, .getfield 53, 3, 455, 0, 75), (104, .invokevirtual 120, 3, 44, 0, 76), (107, .aload_n 0, 1, 0, 0, 0), (108, .getfield 53, 3, 455, 0, 75), (111, .iload_n 2, 1, 2, 0, 0), (112, .i2l, 1, 0, 0, 0), (113, .invokevirtual 124, 3, 45, 0, 78), (116, .aload_n 0, 1, 0, 0, 0), (117, .getfield 53, 3, 455, 0, 75), (120, .iload_n 3, 1, 3, 0, 0), (121, .i2l, 1, 0, 0, 0), (122, .invokevirtual 124, 3, 45, 0, 78), (125, .iload_n 1, 1, 1, 0, 0), (126, .ireturn, 1, 0, 0, 0)])
def mq_X9_complete : mz_I := (yX9_complete, cX9_complete, 4, (some .int), false, 7, 1, 3, 74, [(0, .aload_n 0, 1, 0, 0, 0), (1, .iload_n 1, 1, 1, 0, 0), (2, .invokevirtual 103, 3, 123, 0, 68), (5, .ifCond .ne 5, 3, 10, 0, 0), (8, .iconst (-1), 1, 0, (-1), 0), (9, .ireturn, 1, 0, 0, 0), (10, .iconst 0, 1, 0, 0, 0), (11, .istore_n 2, 1, 2, 0, 0), (12, .iconst 1, 1, 0, 1, 0), (13, .istore_n 3, 1, 3, 0, 0), (14, .iload_n 3, 1, 3, 0, 0), (15, .aload_n 0, 1, 0, 0, 0), (16, .getfield 20, 3, 449, 0, 69), (19, .getfield 146, 3, 1, 0, 86), (22, .if_icmp .ge 80, 3, 102, 0, 0), (25, .aload_n 0, 1, 0, 0, 0), (26, .getfield 20, 3, 449, 0, 69), (29, .iload_n 3, 1, 3, 0, 0), (30, .invokevirtual 137, 3, 11, 0, 83), (33, .ifCond .eq 63, 3, 96, 0, 0), (36, .aload_n 0, 1, 0, 0, 0), (37, .getfield 10, 3, 448, 0, 81), (40, .aload_n 0, 1, 0, 0, 0), (41, .getfield 61, 3, 457, 0, 91), (44, .iload_n 3, 1, 3, 0, 0), (45, .invokevirtual 161, 3, 29, 0, 92), (48, .aload_n 0, 1, 0, 0, 0), (49, .getfield 10, 3, 448, 0, 81), (52, .aload_n 0, 1, 0, 0, 0), (53, .getfield 57, 3, 456, 0, 94), (56, .aload_n 0, 1, 0, 0, 0), (57, .getfield 61, 3, 457, 0, 91), (60, .iload_n 3, 1, 3, 0, 0), (61, .iload_n 1, 1, 1, 0, 0), (62, .invokevirtual 180, 3, 30, 0, 99), (65, .iload_n 2, 1, 2, 0, 0), (66, .aload_n 0, 1, 0, 0, 0), (67, .getfield 25, 3, 450, 0, 96), (70, .aload_n 0, 1, 0, 0, 0), (71, .getfield 57, 3, 456, 0, 94), (74, .aload_n 0, 1, 0, 0, 0), (75, .getfield 20, 3, 449, 0, 69), (78, .getfield 146, 3, 1, 0, 86), (81, .invokevirtual 171, 3, 20, 0, 97), (84, .ifCond .eq 9, 3, 93, 0, 0), (87, .iconst 1, 1, 0, 1, 0), (88, .iload_n 3, 1, 3, 0, 0), (89, .ishl, 1, 0, 0, 0), (90, .goto 4, 3, 94, 0, 0), (93, .iconst 0, 1, 0, 0, 0), (94, .ior, 1, 0, 0, 0), (95, .istore_n 2, 1, 2, 0, 0), (96, .iinc 3 1, 3, 3, 1, 0), (99, .goto (-85), 3, 14, 0, 0), (102, .iload_n 2, 1, 2, 0, 0), (103, .ireturn, 1, 0, 0, 0)])
def mq_X9_leastNormal : mz_I := (yX9_leastNormal, cX9_leastNormal, 6, (some .int), false, 7, 0, 2, 47, [(0, .iconst 0, 1, 0, 0, 0), (1, .istore_n 1, 1, 1, 0, 0), (2, .iconst (-1), 1, 0, (-1), 0), (3, .istore_n 2, 1, 2, 0, 0), (4, .iconst 0, 1, 0, 0, 0), (5, .istore_n 3, 1, 3, 0, 0), (6, .iconst 1, 1, 0, 1, 0), (7, .istore 4, 2, 4, 0, 0), (9, .iload 4, 2, 4, 0, 0), (11, .aload_n 0, 1, 0, 0, 0), (12, .getfield 20, 3, 449, 0, 69), (15, .getfield 121, 3, 2, 0, 77), (18, .if_icmp .ge 89, 3, 107, 0, 0), (21, .aload_n 0, 1, 0, 0, 0), (22, .getfield 20, 3, 449, 0, 69), (25, .aload_n 0, 1, 0, 0, 0), (26, .getfield 57, 3, 456, 0, 94), (29, .iload 4, 2, 4, 0, 0), (31, .invokevirtual 168, 3, 17, 0, 95), (34, .aload_n 0, 1, 0, 0, 0), (35, .getfield 25, 3, 450, 0, 96), (38, .aload_n 0, 1, 0, 0, 0), (39, .getfield 57, 3, 456, 0, 94), (42, .aload_n 0, 1, 0, 0, 0), (43, .getfield 20, 3, 449, 0, 69), (46, .getfield 146, 3, 1, 0, 86), (49, .invokevirtual 171, 3, 20, 0, 97), (52, .ifCond .eq 49, 3, 101, 0, 0), (55, .aload_n 0, 1, 0, 0, 0), (56, .getfield 10, 3, 448, 0, 81), (59, .aload_n 0, 1, 0, 0, 0), (60, .getfield 57, 3, 456, 0, 94), (63, .invokevirtual 184, 3, 23, 0, 100), (66, .istore 5, 2, 5, 0, 0), (68, .iload_n 2, 1, 2, 0, 0), (69, .iconst (-1), 1, 0, (-1), 0), (70, .if_icmp .eq 9, 3, 79, 0, 0), (73, .iload 5, 2, 5, 0, 0), (75, .iload_n 1, 1, 1, 0, 0), (76, .if_icmp .ge 11, 3, 87, 0, 0), (79, .iload 5, 2, 5, 0, 0), (81, .istore_n 1, 1, 1, 0, 0), (82, .iload 4, 2, 4, 0, 0), (84, .istore_n 2, 1, 2, 0, 0), (85, .iconst 0, 1, 0, 0, 0), (86, .istore_n 3, 1, 3, 0, 0), (87, .iload_n 3, 1, 3, 0, 0), (88, .iload 5, 2, 5, 0, 0), (90, .iload_n 1, 1, 1, 0, 0), (91, .if_icmp .ne 7, 3, 98, 0, 0), (94, .iconst 1, 1, 0, 1, 0), (95, .goto 4, 3, 99, 0, 0), (98, .iconst 0, 1, 0, 0, 0), (99, .iadd, 1, 0, 0, 0), (100, .istore_n 3, 1, 3, 0, 0), (101, .iinc 4 1, 3, 4, 1, 0), (104, .goto (-95), 3, 9, 0, 0), (107, .aload_n 0, 1, 0, 0, 0), (108, .getfield 53, 3, 455, 0, 75), (111, .invokevirtual 120, 3, 44, 0, 76), (114, .aload_n 0, 1, 0, 0, 0), (115, .getfield 53, 3, 455, 0, 75), (118, .iload_n 2, 1, 2, 0, 0), (119, .i2l, 1, 0, 0, 0), (120, .invokevirtual 124, 3, 45, 0, 78), (123, .aload_n 0, 1, 0, 0, 0), (124, .getfield 53, 3, 455, 0, 75), (127, .iload_n 3, 1, 3, 0, 0), (128, .i2l, 1, 0, 0, 0), (129, .invokevirtual 124, 3, 45, 0, 78), (132, .iload_n 1, 1, 1, 0, 0), (133, .ireturn, 1, 0, 0, 0)])
def mq_X9_leastPowers : mz_I := (yX9_leastPowers, cX9_leastPowers, 6, (some .int), false, 7, 0, 2, 48, [(0, .iconst 0, 1, 0, 0, 0), (1, .istore_n 1, 1, 1, 0, 0), (2, .iconst (-1), 1, 0, (-1), 0), (3, .istore_n 2, 1, 2, 0, 0), (4, .iconst 0, 1, 0, 0, 0), (5, .istore_n 3, 1, 3, 0, 0), (6, .iconst 1, 1, 0, 1, 0), (7, .istore 4, 2, 4, 0, 0), (9, .iload 4, 2, 4, 0, 0), (11, .aload_n 0, 1, 0, 0, 0), (12, .getfield 20, 3, 449, 0, 69), (15, .getfield 121, 3, 2, 0, 77), (18, .if_icmp .ge 89, 3, 107, 0, 0), (21, .aload_n 0, 1, 0, 0, 0), (22, .getfield 20, 3, 449, 0, 69), (25, .aload_n 0, 1, 0, 0, 0), (26, .getfield 57, 3, 456, 0, 94), (29, .iload 4, 2, 4, 0, 0), (31, .invokevirtual 188, 3, 16, 0, 101), (34, .aload_n 0, 1, 0, 0, 0), (35, .getfield 25, 3, 450, 0, 96), (38, .aload_n 0, 1, 0, 0, 0), (39, .getfield 57, 3, 456, 0, 94), (42, .aload_n 0, 1, 0, 0, 0), (43, .getfield 20, 3, 449, 0, 69), (46, .getfield 146, 3, 1, 0, 86), (49, .invokevirtual 171, 3, 20, 0, 97), (52, .ifCond .eq 49, 3, 101, 0, 0), (55, .aload_n 0, 1, 0, 0, 0), (56, .getfield 10, 3, 448, 0, 81), (59, .aload_n 0, 1, 0, 0, 0), (60, .getfield 57, 3, 456, 0, 94), (63, .invokevirtual 191, 3, 24, 0, 102), (66, .istore 5, 2, 5, 0, 0), (68, .iload_n 2, 1, 2, 0, 0), (69, .iconst (-1), 1, 0, (-1), 0), (70, .if_icmp .eq 9, 3, 79, 0, 0), (73, .iload 5, 2, 5, 0, 0), (75, .iload_n 1, 1, 1, 0, 0), (76, .if_icmp .ge 11, 3, 87, 0, 0), (79, .iload 5, 2, 5, 0, 0), (81, .istore_n 1, 1, 1, 0, 0), (82, .iload 4, 2, 4, 0, 0), (84, .istore_n 2, 1, 2, 0, 0), (85, .iconst 0, 1, 0, 0, 0), (86, .istore_n 3, 1, 3, 0, 0), (87, .iload_n 3, 1, 3, 0, 0), (88, .iload 5, 2, 5, 0, 0), (90, .iload_n 1, 1, 1, 0, 0), (91, .if_icmp .ne 7, 3, 98, 0, 0), (94, .iconst 1, 1, 0, 1, 0), (95, .goto 4, 3, 99, 0, 0), (98, .iconst 0, 1, 0, 0, 0), (99, .iadd, 1, 0, 0, 0), (100, .istore_n 3, 1, 3, 0, 0), (101, .iinc 4 1, 3, 4, 1, 0), (104, .goto (-95), 3, 9, 0, 0), (107, .aload_n 0, 1, 0, 0, 0), (108, .getfield 53, 3, 455, 0, 75), (111, .invokevirtual 120, 3, 44, 0, 76), (114, .aload_n 0, 1, 0, 0, 0), (115, .getfield 53, 3, 455, 0, 75), (118, .iload_n 2, 1, 2, 0, 0), (119, .i2l, 1, 0, 0, 0), (120, .invokevirtual 124, 3, 45, 0, 78), (123, .aload_n 0, 1, 0, 0, 0), (124, .getfield 53, 3, 455, 0, 75), (127, .iload_n 3, 1, 3, 0, 0), (128, .i2l, 1, 0, 0, 0), (129, .invokevirtual 124, 3, 45, 0, 78), (132, .iload_n 1, 1, 1, 0, 0), (133, .ireturn, 1, 0, 0, 0)])
def mq_X9_types : mz_I := (yX9_types, cX9_types, 7, (some .int), false, 7, 1, 2, 44, [(0, .iload_n 1, 1, 1, 0, 0), (1, .iconst 2, 1, 0, 2, 0), (2, .if_icmp .lt 9, 3, 11, 0, 0), (5, .iload_n 1, 1, 1, 0, 0), (6, .bipush 100, 2, 0, 100, 0), (8, .if_icmp .le 5, 3, 13, 0, 0), (11, .iconst (-1), 1, 0, (-1), 0), (12, .ireturn, 1, 0, 0, 0), (13, .iload_n 1, 1, 1, 0, 0), (14, .iconst 1, 1, 0, 1, 0), (15, .iadd, 1, 0, 0, 0), (16, .istore_n 2, 1, 2, 0, 0), (17, .iconst 2, 1, 0, 2, 0), (18, .iload_n 1, 1, 1, 0, 0), (19, .imul, 1, 0, 0, 0), (20, .iconst 1, 1, 0, 1, 0), (21, .iadd, 1, 0, 0, 0), (22, .istore_n 3, 1, 3, 0, 0), (23, .iload_n 2, 1, 2, 0, 0), (24, .invokestatic 194, 3, 43, 0, 103), (27, .istore 4, 2, 4, 0, 0), (29, .iload_n 3, 1, 3, 0, 0), (30, .invokestatic 194, 3, 43, 0, 103), (33, .istore 5, 2, 5, 0, 0), (35, .iload 4, 2, 4, 0, 0), (37, .iload_n 1, 1, 1, 0, 0), (38, .if_icmp .ne 7, 3, 45, 0, 0), (41, .iconst 1, 1, 0, 1, 0), (42, .goto 4, 3, 46, 0, 0), (45, .iconst 0, 1, 0, 0, 0), (46, .istore 6, 2, 6, 0, 0), (48, .iload 5, 2, 5, 0, 0), (50, .iconst 2, 1, 0, 2, 0), (51, .iload_n 1, 1, 1, 0, 0), (52, .imul, 1, 0, 0, 0), (53, .if_icmp .eq 16, 3, 69, 0, 0), (56, .iload 5, 2, 5, 0, 0), (58, .iload_n 1, 1, 1, 0, 0), (59, .if_icmp .ne 16, 3, 75, 0, 0), (62, .iload_n 3, 1, 3, 0, 0), (63, .iconst 3, 1, 0, 3, 0), (64, .iand, 1, 0, 0, 0), (65, .iconst 3, 1, 0, 3, 0), (66, .if_icmp .ne 9, 3, 75, 0, 0), (69, .iload 6, 2, 6, 0, 0), (71, .iconst 2, 1, 0, 2, 0), (72, .ior, 1, 0, 0, 0), (73, .istore 6, 2, 6, 0, 0), (75, .aload_n 0, 1, 0, 0, 0), (76, .getfield 53, 3, 455, 0, 75), (79, .invokevirtual 120, 3, 44, 0, 76), (82, .aload_n 0, 1, 0, 0, 0), (83, .getfield 53, 3, 455, 0, 75), (86, .iload 4, 2, 4, 0, 0), (88, .i2l, 1, 0, 0, 0), (89, .invokevirtual 124, 3, 45, 0, 78), (92, .aload_n 0, 1, 0, 0, 0), (93, .getfield 53, 3, 455, 0, 75), (96, .iload 5, 2, 5, 0, 0), (98, .i2l, 1, 0, 0, 0), (99, .invokevirtual 124, 3, 45, 0, 78), (102, .iload 6, 2, 6, 0, 0), (104, .ireturn, 1, 0, 0, 0)])
def mq_X9_base : mz_I := (yX9_base, cX9_base, 5, (some .int), false, 7, 1, 5, 131, [(0, .aload_n 0, 1, 0, 0, 0), (1, .getfield 46, 3, 454, 0, 59), (4, .aload_n 0, 1, 0, 0, 0), (5, .getfield 57, 3, 456, 0, 94), (8, .aload_n 0, 1, 0, 0, 0), (9, .getfield 20, 3, 449, 0, 69), (12, .getfield 146, 3, 1, 0, 86), (15, .aload_n 0, 1, 0, 0, 0), (16, .getfield 20, 3, 449, 0, 69), (19, .getfield 121, 3, 2, 0, 77), (22, .invokevirtual 199, 3, 58, 0, 104), (25, .istore_n 2, 1, 2, 0, 0), (26, .aload_n 0, 1, 0, 0, 0), (27, .getfield 46, 3, 454, 0, 59), (30, .invokevirtual 88, 3, 54, 0, 64), (33, .iload_n 2, 1, 2, 0, 0), (34, .ifCond .ge 5, 3, 39, 0, 0), (37, .iload_n 2, 1, 2, 0, 0), (38, .ireturn, 1, 0, 0, 0), (39, .aload_n 0, 1, 0, 0, 0), (40, .iload_n 1, 1, 1, 0, 0), (41, .invokevirtual 203, 3, 124, 0, 105), (44, .ifCond .ne 5, 3, 49, 0, 0), (47, .iconst (-1), 1, 0, (-1), 0), (48, .ireturn, 1, 0, 0, 0), (49, .aload_n 0, 1, 0, 0, 0), (50, .getfield 25, 3, 450, 0, 96), (53, .aload_n 0, 1, 0, 0, 0), (54, .getfield 57, 3, 456, 0, 94), (57, .aload_n 0, 1, 0, 0, 0), (58, .getfield 20, 3, 449, 0, 69), (61, .getfield 146, 3, 1, 0, 86), (64, .invokevirtual 171, 3, 20, 0, 97), (67, .ifCond .ne 6, 3, 73, 0, 0), (70, .bipush (-2), 2, 0, (-2), 0), (72, .ireturn, 1, 0, 0, 0), (73, .aload_n 0, 1, 0, 0, 0), (74, .iload_n 1, 1, 1, 0, 0), (75, .aload_n 0, 1, 0, 0, 0), (76, .getfield 57, 3, 456, 0, 94), (79, .invokevirtual 206, 3, 127, 0, 106), (82, .pop, 1, 0, 0, 0), (83, .iconst 0, 1, 0, 0, 0), (84, .istore_n 3, 1, 3, 0, 0), (85, .iconst 0, 1, 0, 0, 0), (86, .istore 4, 2, 4, 0, 0), (88, .iload 4, 2, 4, 0, 0), (90, .aload_n 0, 1, 0, 0, 0), (91, .getfield 20, 3, 449, 0, 69), (94, .getfield 146, 3, 1, 0, 86), (97, .if_icmp .ge 22, 3, 119, 0, 0), (100, .iload_n 3, 1, 3, 0, 0), (101, .aload_n 0, 1, 0, 0, 0), (102, .getfield 57, 3, 456, 0, 94), (105, .iload 4, 2, 4, 0, 0), (107, .iaload, 1, 0, 0, 0), (108, .invokestatic 210, 3, 252, 0, 107), (111, .iadd, 1, 0, 0, 0), (112, .istore_n 3, 1, 3, 0, 0), (113, .iinc 4 1, 3, 4, 1, 0), (116, .goto (-28), 3, 88, 0, 0), (119, .iload_n 3, 1, 3, 0, 0), (120, .ireturn, 1, 0, 0, 0)])
def mq_X9_makes : mz_I := (yX9_makes, cX9_makes, 4, (some .int), false, 7, 3, 5, 131, [(0, .aload_n 0, 1, 0, 0, 0), (1, .iload_n 1, 1, 1, 0, 0), (2, .invokevirtual 203, 3, 124, 0, 105), (5, .ifCond .eq 20, 3, 25, 0, 0), (8, .aload_n 0, 1, 0, 0, 0), (9, .iload_n 2, 1, 2, 0, 0), (10, .invokevirtual 103, 3, 123, 0, 68), (13, .ifCond .eq 12, 3, 25, 0, 0), (16, .iload_n 3, 1, 3, 0, 0), (17, .ifCond .lt 8, 3, 25, 0, 0), (20, .iload_n 3, 1, 3, 0, 0), (21, .iconst 1, 1, 0, 1, 0), (22, .if_icmp .le 5, 3, 27, 0, 0), (25, .iconst (-1), 1, 0, (-1), 0), (26, .ireturn, 1, 0, 0, 0), (27, .iload_n 3, 1, 3, 0, 0), (28, .ifCond .ne 18, 3, 46, 0, 0), (31, .aload_n 0, 1, 0, 0, 0), (32, .getfield 20, 3, 449, 0, 69), (35, .aload_n 0, 1, 0, 0, 0), (36, .getfield 57, 3, 456, 0, 94), (39, .iload_n 2, 1, 2, 0, 0), (40, .invokevirtual 188, 3, 16, 0, 101), (43, .goto 15, 3, 58, 0, 0), (46, .aload_n 0, 1, 0, 0, 0), (47, .getfield 20, 3, 449, 0, 69), (50, .aload_n 0, 1, 0, 0, 0), (51, .getfield 57, 3, 456, 0, 94), (54, .iload_n 2, 1, 2, 0, 0), (55, .invokevirtual 168, 3, 17, 0, 95), (58, .aload_n 0, 1, 0, 0, 0), (59, .getfield 25, 3, 450, 0, 96), (62, .aload_n 0, 1, 0, 0, 0), (63, .getfield 57, 3, 456, 0, 94), (66, .aload_n 0, 1, 0, 0, 0), (67, .getfield 20, 3, 449, 0, 69), (70, .getfield 146, 3, 1, 0, 86), (73, .invokevirtual 171, 3, 20, 0, 97), (76, .ifCond .eq 15, 3, 91, 0, 0), (79, .aload_n 0, 1, 0, 0, 0), (80, .iload_n 1, 1, 1, 0, 0), (81, .aload_n 0, 1, 0, 0, 0), (82, .getfield 57, 3, 456, 0, 94), (85, .invokevirtual 206, 3, 127, 0, 106), (88, .goto 5, 3, 93, 0, 0), (91, .bipush (-2), 2, 0, (-2), 0), (93, .ireturn, 1, 0, 0, 0)])
def mq_X9_copies : mz_I := (yX9_copies, cX9_copies, 5, (some .int), false, 7, 2, 5, 131, [(0, .aload_n 0, 1, 0, 0, 0), (1, .iload_n 1, 1, 1, 0, 0), (2, .invokevirtual 203, 3, 124, 0, 105), (5, .ifCond .eq 11, 3, 16, 0, 0), (8, .aload_n 0, 1, 0, 0, 0), (9, .iload_n 2, 1, 2, 0, 0), (10, .invokevirtual 203, 3, 124, 0, 105), (13, .ifCond .ne 5, 3, 18, 0, 0), (16, .iconst (-1), 1, 0, (-1), 0), (17, .ireturn, 1, 0, 0, 0), (18, .iconst 0, 1, 0, 0, 0), (19, .istore_n 3, 1, 3, 0, 0), (20, .iconst 0, 1, 0, 0, 0), (21, .istore 4, 2, 4, 0, 0), (23, .iload 4, 2, 4, 0, 0), (25, .aload_n 0, 1, 0, 0, 0), (26, .getfield 20, 3, 449, 0, 69), (29, .getfield 146, 3, 1, 0, 86), (32, .if_icmp .ge 52, 3, 84, 0, 0), (35, .aload_n 0, 1, 0, 0, 0), (36, .getfield 57, 3, 456, 0, 94), (39, .iload 4, 2, 4, 0, 0), (41, .aload_n 0, 1, 0, 0, 0), (42, .getfield 29, 3, 451, 0, 108), (45, .getfield 215, 3, 321, 0, 109), (48, .iload_n 1, 1, 1, 0, 0), (49, .aaload, 1, 0, 0, 0), (50, .iload 4, 2, 4, 0, 0), (52, .iaload, 1, 0, 0, 0), (53, .iastore, 1, 0, 0, 0), (54, .aload_n 0, 1, 0, 0, 0), (55, .getfield 57, 3, 456, 0, 94), (58, .iload 4, 2, 4, 0, 0), (60, .iaload, 1, 0, 0, 0), (61, .aload_n 0, 1, 0, 0, 0), (62, .getfield 29, 3, 451, 0, 108), (65, .getfield 215, 3, 321, 0, 109), (68, .iload_n 2, 1, 2, 0, 0), (69, .aaload, 1, 0, 0, 0), (70, .iload 4, 2, 4, 0, 0), (72, .iaload, 1, 0, 0, 0), (73, .if_icmp .eq 5, 3, 78, 0, 0), (76, .iconst 1, 1, 0, 1, 0), (77, .istore_n 3, 1, 3, 0, 0), (78, .iinc 4 1, 3, 4, 1, 0), (81, .goto (-58), 3, 23, 0, 0), (84, .aload_n 0, 1, 0, 0, 0), (85, .iload_n 2, 1, 2, 0, 0), (86, .aload_n 0, 1, 0, 0, 0), (87, .getfield 57, 3, 456, 0, 94), (90, .invokevirtual 206, 3, 127, 0, 106), (93, .pop, 1, 0, 0, 0), (94, .iload_n 3, 1, 3, 0, 0), (95, .ireturn, 1, 0, 0, 0)])
def mq_X9_scales : mz_I := (yX9_scales, cX9_scales, 4, (some .int), false, 7, 2, 5, 131, [(0, .aload_n 0, 1, 0, 0, 0), (1, .iload_n 1, 1, 1, 0, 0), (2, .invokevirtual 203, 3, 124, 0, 105), (5, .ifCond .eq 11, 3, 16, 0, 0), (8, .aload_n 0, 1, 0, 0, 0), (9, .iload_n 2, 1, 2, 0, 0), (10, .invokevirtual 103, 3, 123, 0, 68), (13, .ifCond .ne 5, 3, 18, 0, 0), (16, .iconst (-1), 1, 0, (-1), 0), (17, .ireturn, 1, 0, 0, 0), (18, .iload_n 2, 1, 2, 0, 0), (19, .ifCond .ne 6, 3, 25, 0, 0), (22, .bipush (-2), 2, 0, (-2), 0), (24, .ireturn, 1, 0, 0, 0), (25, .iconst 0, 1, 0, 0, 0), (26, .istore_n 3, 1, 3, 0, 0), (27, .iload_n 3, 1, 3, 0, 0), (28, .aload_n 0, 1, 0, 0, 0), (29, .getfield 20, 3, 449, 0, 69), (32, .getfield 146, 3, 1, 0, 86), (35, .if_icmp .ge 34, 3, 69, 0, 0), (38, .aload_n 0, 1, 0, 0, 0), (39, .getfield 57, 3, 456, 0, 94), (42, .iload_n 3, 1, 3, 0, 0), (43, .aload_n 0, 1, 0, 0, 0), (44, .getfield 20, 3, 449, 0, 69), (47, .aload_n 0, 1, 0, 0, 0), (48, .getfield 29, 3, 451, 0, 108), (51, .getfield 215, 3, 321, 0, 109), (54, .iload_n 1, 1, 1, 0, 0), (55, .aaload, 1, 0, 0, 0), (56, .iload_n 3, 1, 3, 0, 0), (57, .iaload, 1, 0, 0, 0), (58, .iload_n 2, 1, 2, 0, 0), (59, .invokevirtual 106, 3, 3, 0, 70), (62, .iastore, 1, 0, 0, 0), (63, .iinc 3 1, 3, 3, 1, 0), (66, .goto (-39), 3, 27, 0, 0), (69, .aload_n 0, 1, 0, 0, 0), (70, .iload_n 1, 1, 1, 0, 0), (71, .aload_n 0, 1, 0, 0, 0), (72, .getfield 57, 3, 456, 0, 94), (75, .invokevirtual 206, 3, 127, 0, 106), (78, .ireturn, 1, 0, 0, 0)])
def mq_X9_moves : mz_I := (yX9_moves, cX9_moves, 4, (some .int), false, 7, 3, 5, 131, [(0, .aload_n 0, 1, 0, 0, 0), (1, .iload_n 1, 1, 1, 0, 0), (2, .invokevirtual 203, 3, 124, 0, 105), (5, .ifCond .eq 19, 3, 24, 0, 0), (8, .aload_n 0, 1, 0, 0, 0), (9, .iload_n 2, 1, 2, 0, 0), (10, .invokevirtual 219, 3, 125, 0, 110), (13, .ifCond .eq 11, 3, 24, 0, 0), (16, .aload_n 0, 1, 0, 0, 0), (17, .iload_n 3, 1, 3, 0, 0), (18, .invokevirtual 219, 3, 125, 0, 110), (21, .ifCond .ne 5, 3, 26, 0, 0), (24, .iconst (-1), 1, 0, (-1), 0), (25, .ireturn, 1, 0, 0, 0), (26, .iload_n 2, 1, 2, 0, 0), (27, .iload_n 3, 1, 3, 0, 0), (28, .if_icmp .ne 6, 3, 34, 0, 0), (31, .bipush (-2), 2, 0, (-2), 0), (33, .ireturn, 1, 0, 0, 0), (34, .aload_n 0, 1, 0, 0, 0), (35, .getfield 29, 3, 451, 0, 108), (38, .iload_n 1, 1, 1, 0, 0), (39, .aload_n 0, 1, 0, 0, 0), (40, .getfield 57, 3, 456, 0, 94), (43, .invokevirtual 222, 3, 50, 0, 111), (46, .aload_n 0, 1, 0, 0, 0), (47, .getfield 57, 3, 456, 0, 94), (50, .iload_n 2, 1, 2, 0, 0), (51, .aload_n 0, 1, 0, 0, 0), (52, .getfield 29, 3, 451, 0, 108), (55, .getfield 215, 3, 321, 0, 109), (58, .iload_n 1, 1, 1, 0, 0), (59, .aaload, 1, 0, 0, 0), (60, .iload_n 3, 1, 3, 0, 0), (61, .iaload, 1, 0, 0, 0), (62, .iastore, 1, 0, 0, 0), (63, .aload_n 0, 1, 0, 0, 0), (64, .getfield 57, 3, 456, 0, 94), (67, .iload_n 3, 1, 3, 0, 0), (68, .aload_n 0, 1, 0, 0, 0), (69, .getfield 29, 3, 451, 0, 108), (72, .getfield 215, 3, 321, 0, 109), (75, .iload_n 1, 1, 1, 0, 0), (76, .aaload, 1, 0, 0, 0), (77, .iload_n 2, 1, 2, 0, 0), (78, .iaload, 1, 0, 0, 0), (79, .iastore, 1, 0, 0, 0), (80, .aload_n 0, 1, 0, 0, 0), (81, .iload_n 1, 1, 1, 0, 0), (82, .aload_n 0, 1, 0, 0, 0), (83, .getfield 57, 3, 456, 0, 94), (86, .invokevirtual 206, 3, 127, 0, 106), (89, .ireturn, 1, 0, 0, 0)])
def mq_X9_adds : mz_I := (yX9_adds, cX9_adds, 4, (some .int), false, 7, 3, 5, 131, [(0, .aload_n 0, 1, 0, 0, 0), (1, .iload_n 1, 1, 1, 0, 0), (2, .invokevirtual 203, 3, 124, 0, 105), (5, .ifCond .eq 19, 3, 24, 0, 0), (8, .aload_n 0, 1, 0, 0, 0), (9, .iload_n 2, 1, 2, 0, 0), (10, .invokevirtual 219, 3, 125, 0, 110), (13, .ifCond .eq 11, 3, 24, 0, 0), (16, .aload_n 0, 1, 0, 0, 0), (17, .iload_n 3, 1, 3, 0, 0), (18, .invokevirtual 219, 3, 125, 0, 110), (21, .ifCond .ne 5, 3, 26, 0, 0), (24, .iconst (-1), 1, 0, (-1), 0), (25, .ireturn, 1, 0, 0, 0), (26, .iload_n 2, 1, 2, 0, 0), (27, .iload_n 3, 1, 3, 0, 0), (28, .if_icmp .ne 6, 3, 34, 0, 0), (31, .bipush (-2), 2, 0, (-2), 0), (33, .ireturn, 1, 0, 0, 0), (34, .aload_n 0, 1, 0, 0, 0), (35, .getfield 29, 3, 451, 0, 108), (38, .iload_n 1, 1, 1, 0, 0), (39, .aload_n 0, 1, 0, 0, 0), (40, .getfield 57, 3, 456, 0, 94), (43, .invokevirtual 222, 3, 50, 0, 111), (46, .aload_n 0, 1, 0, 0, 0), (47, .getfield 57, 3, 456, 0, 94), (50, .iload_n 2, 1, 2, 0, 0), (51, .dup2, 1, 0, 0, 0), (52, .iaload, 1, 0, 0, 0), (53, .aload_n 0, 1, 0, 0, 0), (54, .getfield 57, 3, 456, 0, 94), (57, .iload_n 3, 1, 3, 0, 0), (58, .iaload, 1, 0, 0, 0), (59, .ixor, 1, 0, 0, 0), (60, .iastore, 1, 0, 0, 0), (61, .aload_n 0, 1, 0, 0, 0), (62, .iload_n 1, 1, 1, 0, 0), (63, .aload_n 0, 1, 0, 0, 0), (64, .getfield 57, 3, 456, 0, 94), (67, .invokevirtual 206, 3, 127, 0, 106), (70, .ireturn, 1, 0, 0, 0)])
def mq_X9_at : mz_I := (yX9_at, cX9_at, 3, (some .int), false, 7, 2, 1, 21, [(0, .aload_n 0, 1, 0, 0, 0), (1, .iload_n 1, 1, 1, 0, 0), (2, .invokevirtual 203, 3, 124, 0, 105), (5, .ifCond .eq 25, 3, 30, 0, 0), (8, .aload_n 0, 1, 0, 0, 0), (9, .iload_n 2, 1, 2, 0, 0), (10, .invokevirtual 219, 3, 125, 0, 110), (13, .ifCond .eq 17, 3, 30, 0, 0), (16, .aload_n 0, 1, 0, 0, 0), (17, .getfield 29, 3, 451, 0, 108), (20, .getfield 215, 3, 321, 0, 109), (23, .iload_n 1, 1, 1, 0, 0), (24, .aaload, 1, 0, 0, 0), (25, .iload_n 2, 1, 2, 0, 0), (26, .iaload, 1, 0, 0, 0), (27, .goto 4, 3, 31, 0, 0), (30, .iconst (-1), 1, 0, (-1), 0), (31, .ireturn, 1, 0, 0, 0)])
def mq_X9_coordinates : mz_I := (yX9_coordinates, cX9_coordinates, 4, (some .int), false, 7, 2, 2, 47, [(0, .aload_n 0, 1, 0, 0, 0), (1, .iload_n 1, 1, 1, 0, 0), (2, .invokevirtual 203, 3, 124, 0, 105), (5, .ifCond .eq 11, 3, 16, 0, 0), (8, .aload_n 0, 1, 0, 0, 0), (9, .iload_n 2, 1, 2, 0, 0), (10, .invokevirtual 103, 3, 123, 0, 68), (13, .ifCond .ne 5, 3, 18, 0, 0), (16, .iconst (-1), 1, 0, (-1), 0), (17, .ireturn, 1, 0, 0, 0), (18, .aload_n 0, 1, 0, 0, 0), (19, .getfield 25, 3, 450, 0, 96), (22, .aload_n 0, 1, 0, 0, 0), (23, .getfield 29, 3, 451, 0, 108), (26, .getfield 215, 3, 321, 0, 109), (29, .iload_n 1, 1, 1, 0, 0), (30, .aaload, 1, 0, 0, 0), (31, .aload_n 0, 1, 0, 0, 0), (32, .getfield 20, 3, 449, 0, 69), (35, .getfield 146, 3, 1, 0, 86), (38, .invokevirtual 171, 3, 20, 0, 97), (41, .pop, 1, 0, 0, 0), (42, .aload_n 0, 1, 0, 0, 0), (43, .getfield 25, 3, 450, 0, 96), (46, .iload_n 2, 1, 2, 0, 0), (47, .invokevirtual 226, 3, 21, 0, 112), (50, .istore_n 3, 1, 3, 0, 0), (51, .aload_n 0, 1, 0, 0, 0), (52, .getfield 53, 3, 455, 0, 75), (55, .invokevirtual 120, 3, 44, 0, 76), (58, .aload_n 0, 1, 0, 0, 0), (59, .getfield 53, 3, 455, 0, 75), (62, .iload_n 3, 1, 3, 0, 0), (63, .invokestatic 210, 3, 252, 0, 107), (66, .i2l, 1, 0, 0, 0), (67, .invokevirtual 124, 3, 45, 0, 78), (70, .iload_n 3, 1, 3, 0, 0), (71, .ireturn, 1, 0, 0, 0)])
def mq_X9_made : mz_I := (yX9_made, cX9_made, 3, (some .int), false, 7, 2, 1, 24, [(0, .aload_n 0, 1, 0, 0, 0), (1, .iload_n 1, 1, 1, 0, 0), (2, .invokevirtual 203, 3, 124, 0, 105), (5, .ifCond .eq 31, 3, 36, 0, 0), (8, .aload_n 0, 1, 0, 0, 0), (9, .iload_n 2, 1, 2, 0, 0), (10, .invokevirtual 103, 3, 123, 0, 68), (13, .ifCond .eq 23, 3, 36, 0, 0), (16, .aload_n 0, 1, 0, 0, 0), (17, .getfield 10, 3, 448, 0, 81), (20, .aload_n 0, 1, 0, 0, 0), (21, .getfield 29, 3, 451, 0, 108), (24, .getfield 215, 3, 321, 0, 109), (27, .iload_n 1, 1, 1, 0, 0), (28, .aaload, 1, 0, 0, 0), (29, .iload_n 2, 1, 2, 0, 0), (30, .invokevirtual 229, 3, 26, 0, 113), (33, .goto 4, 3, 37, 0, 0), (36, .iconst (-1), 1, 0, (-1), 0), (37, .ireturn, 1, 0, 0, 0)])
def mq_X9_change : mz_I := (yX9_change, cX9_change, 3, (some .int), false, 7, 2, 2, 48, [(0, .aload_n 0, 1, 0, 0, 0), (1, .iload_n 1, 1, 1, 0, 0), (2, .invokevirtual 203, 3, 124, 0, 105), (5, .ifCond .eq 11, 3, 16, 0, 0), (8, .aload_n 0, 1, 0, 0, 0), (9, .iload_n 2, 1, 2, 0, 0), (10, .invokevirtual 203, 3, 124, 0, 105), (13, .ifCond .ne 5, 3, 18, 0, 0), (16, .iconst (-1), 1, 0, (-1), 0), (17, .ireturn, 1, 0, 0, 0), (18, .aload_n 0, 1, 0, 0, 0), (19, .getfield 25, 3, 450, 0, 96), (22, .aload_n 0, 1, 0, 0, 0), (23, .getfield 29, 3, 451, 0, 108), (26, .getfield 215, 3, 321, 0, 109), (29, .iload_n 2, 1, 2, 0, 0), (30, .aaload, 1, 0, 0, 0), (31, .aload_n 0, 1, 0, 0, 0), (32, .getfield 20, 3, 449, 0, 69), (35, .getfield 146, 3, 1, 0, 86), (38, .invokevirtual 171, 3, 20, 0, 97), (41, .pop, 1, 0, 0, 0), (42, .aload_n 0, 1, 0, 0, 0), (43, .aload_n 0, 1, 0, 0, 0), (44, .getfield 29, 3, 451, 0, 108), (47, .getfield 215, 3, 321, 0, 109), (50, .iload_n 1, 1, 1, 0, 0), (51, .aaload, 1, 0, 0, 0), (52, .invokevirtual 233, 3, 129, 0, 114), (55, .ireturn, 1, 0, 0, 0)])
def mq_X9_table : mz_I := (yX9_table, cX9_table, 4, (some .int), false, 7, 3, 2, 47, [(0, .aload_n 0, 1, 0, 0, 0), (1, .iload_n 1, 1, 1, 0, 0), (2, .invokevirtual 203, 3, 124, 0, 105), (5, .ifCond .eq 19, 3, 24, 0, 0), (8, .aload_n 0, 1, 0, 0, 0), (9, .iload_n 2, 1, 2, 0, 0), (10, .invokevirtual 219, 3, 125, 0, 110), (13, .ifCond .eq 11, 3, 24, 0, 0), (16, .aload_n 0, 1, 0, 0, 0), (17, .iload_n 3, 1, 3, 0, 0), (18, .invokevirtual 219, 3, 125, 0, 110), (21, .ifCond .ne 5, 3, 26, 0, 0), (24, .iconst (-1), 1, 0, (-1), 0), (25, .ireturn, 1, 0, 0, 0), (26, .aload_n 0, 1, 0, 0, 0), (27, .getfield 25, 3, 450, 0, 96), (30, .aload_n 0, 1, 0, 0, 0), (31, .getfield 29, 3, 451, 0, 108), (34, .getfield 215, 3, 321, 0, 109), (37, .iload_n 1, 1, 1, 0, 0), (38, .aaload, 1, 0, 0, 0), (39, .aload_n 0, 1, 0, 0, 0), (40, .getfield 20, 3, 449, 0, 69), (43, .getfield 146, 3, 1, 0, 86), (46, .invokevirtual 171, 3, 20, 0, 97), (49, .pop, 1, 0, 0, 0), (50, .aload_n 0, 1, 0, 0, 0), (51, .getfield 25, 3, 450, 0, 96), (54, .aload_n 0, 1, 0, 0, 0), (55, .getfield 20, 3, 449, 0, 69), (58, .aload_n 0, 1, 0, 0, 0), (59, .getfield 29, 3, 451, 0, 108), (62, .getfield 215, 3, 321, 0, 109), (65, .iload_n 1, 1, 1, 0, 0), (66, .aaload, 1, 0, 0, 0), (67, .iload_n 2, 1, 2, 0, 0), (68, .iaload, 1, 0, 0, 0), (69, .aload_n 0, 1, 0, 0, 0), (70, .getfield 29, 3, 451, 0, 108), (73, .getfield 215, 3, 321, 0, 109), (76, .iload_n 1, 1, 1, 0, 0), (77, .aaload, 1, 0, 0, 0), (78, .iload_n 3, 1, 3, 0, 0), (79, .iaload, 1, 0, 0, 0), (80, .invokevirtual 106, 3, 3, 0, 70), (83, .invokevirtual 226, 3, 21, 0, 112), (86, .ireturn, 1, 0, 0, 0)])
def mq_X9_complexity : mz_I := (yX9_complexity, cX9_complexity, 5, (some .int), false, 7, 1, 2, 48, [(0, .aload_n 0, 1, 0, 0, 0), (1, .iload_n 1, 1, 1, 0, 0), (2, .invokevirtual 203, 3, 124, 0, 105), (5, .ifCond .ne 5, 3, 10, 0, 0), (8, .iconst (-1), 1, 0, (-1), 0), (9, .ireturn, 1, 0, 0, 0), (10, .aload_n 0, 1, 0, 0, 0), (11, .getfield 29, 3, 451, 0, 108), (14, .getfield 215, 3, 321, 0, 109), (17, .iload_n 1, 1, 1, 0, 0), (18, .aaload, 1, 0, 0, 0), (19, .astore_n 2, 1, 2, 0, 0), (20, .aload_n 0, 1, 0, 0, 0), (21, .getfield 25, 3, 450, 0, 96), (24, .aload_n 2, 1, 2, 0, 0), (25, .aload_n 0, 1, 0, 0, 0), (26, .getfield 20, 3, 449, 0, 69), (29, .getfield 146, 3, 1, 0, 86), (32, .invokevirtual 171, 3, 20, 0, 97), (35, .pop, 1, 0, 0, 0), (36, .aload_n 0, 1, 0, 0, 0), (37, .getfield 10, 3, 448, 0, 81), (40, .aload_n 2, 1, 2, 0, 0), (41, .invokevirtual 184, 3, 23, 0, 100), (44, .istore_n 3, 1, 3, 0, 0), (45, .aload_n 0, 1, 0, 0, 0), (46, .getfield 10, 3, 448, 0, 81), (49, .aload_n 2, 1, 2, 0, 0), (50, .invokevirtual 236, 3, 25, 0, 115), (53, .istore 4, 2, 4, 0, 0), (55, .aload_n 0, 1, 0, 0, 0), (56, .getfield 53, 3, 455, 0, 75), (59, .invokevirtual 120, 3, 44, 0, 76), (62, .aload_n 0, 1, 0, 0, 0), (63, .getfield 53, 3, 455, 0, 75), (66, .aload_n 0, 1, 0, 0, 0), (67, .getfield 10, 3, 448, 0, 81), (70, .aload_n 2, 1, 2, 0, 0), (71, .invokevirtual 191, 3, 24, 0, 102), (74, .i2l, 1, 0, 0, 0), (75, .invokevirtual 124, 3, 45, 0, 78), (78, .aload_n 0, 1, 0, 0, 0), (79, .getfield 53, 3, 455, 0, 75), (82, .iload 4, 2, 4, 0, 0), (84, .iconst (-1), 1, 0, (-1), 0), (85, .if_icmp .eq 22, 3, 107, 0, 0), (88, .iload_n 3, 1, 3, 0, 0), (89, .iconst 2, 1, 0, 2, 0), (90, .aload_n 0, 1, 0, 0, 0), (91, .getfield 20, 3, 449, 0, 69), (94, .getfield 146, 3, 1, 0, 86), (97, .imul, 1, 0, 0, 0), (98, .iconst 1, 1, 0, 1, 0), (99, .isub, 1, 0, 0, 0), (100, .if_icmp .ne 7, 3, 107, 0, 0), (103, .lconst 1, 1, 0, 1, 0), (104, .goto 4, 3, 108, 0, 0), (107, .lconst 0, 1, 0, 0, 0), (108, .invokevirtual 124, 3, 45, 0, 78), (111, .aload_n 0, 1, 0, 0, 0), (112, .getfield 53, 3, 455, 0, 75), (115, .iload 4, 2, 4, 0, 0), (117, .i2l, 1, 0, 0, 0), (118, .invokevirtual 124, 3, 45, 0, 78), (121, .iload_n 3, 1, 3, 0, 0), (122, .ireturn, 1, 0, 0, 0)])
def mq_X9_by : mz_I := (yX9_by, cX9_by, 5, (some .int), false, 7, 2, 2, 48, [(0, .aload_n 0, 1, 0, 0, 0), (1, .iload_n 1, 1, 1, 0, 0), (2, .invokevirtual 203, 3, 124, 0, 105), (5, .ifCond .eq 11, 3, 16, 0, 0), (8, .aload_n 0, 1, 0, 0, 0), (9, .iload_n 2, 1, 2, 0, 0), (10, .invokevirtual 103, 3, 123, 0, 68), (13, .ifCond .ne 5, 3, 18, 0, 0), (16, .iconst (-1), 1, 0, (-1), 0), (17, .ireturn, 1, 0, 0, 0), (18, .aload_n 0, 1, 0, 0, 0), (19, .getfield 25, 3, 450, 0, 96), (22, .aload_n 0, 1, 0, 0, 0), (23, .getfield 29, 3, 451, 0, 108), (26, .getfield 215, 3, 321, 0, 109), (29, .iload_n 1, 1, 1, 0, 0), (30, .aaload, 1, 0, 0, 0), (31, .aload_n 0, 1, 0, 0, 0), (32, .getfield 20, 3, 449, 0, 69), (35, .getfield 146, 3, 1, 0, 86), (38, .invokevirtual 171, 3, 20, 0, 97), (41, .pop, 1, 0, 0, 0), (42, .iconst 0, 1, 0, 0, 0), (43, .istore_n 3, 1, 3, 0, 0), (44, .iconst 0, 1, 0, 0, 0), (45, .istore 4, 2, 4, 0, 0), (47, .iload 4, 2, 4, 0, 0), (49, .aload_n 0, 1, 0, 0, 0), (50, .getfield 20, 3, 449, 0, 69), (53, .getfield 146, 3, 1, 0, 86), (56, .if_icmp .ge 58, 3, 114, 0, 0), (59, .aload_n 0, 1, 0, 0, 0), (60, .getfield 57, 3, 456, 0, 94), (63, .iload 4, 2, 4, 0, 0), (65, .aload_n 0, 1, 0, 0, 0), (66, .getfield 20, 3, 449, 0, 69), (69, .iload_n 2, 1, 2, 0, 0), (70, .aload_n 0, 1, 0, 0, 0), (71, .getfield 29, 3, 451, 0, 108), (74, .getfield 215, 3, 321, 0, 109), (77, .iload_n 1, 1, 1, 0, 0), (78, .aaload, 1, 0, 0, 0), (79, .iload 4, 2, 4, 0, 0), (81, .iaload, 1, 0, 0, 0), (82, .invokevirtual 106, 3, 3, 0, 70), (85, .iastore, 1, 0, 0, 0), (86, .iload_n 3, 1, 3, 0, 0), (87, .aload_n 0, 1, 0, 0, 0), (88, .getfield 25, 3, 450, 0, 96), (91, .aload_n 0, 1, 0, 0, 0), (92, .getfield 57, 3, 456, 0, 94), (95, .iload 4, 2, 4, 0, 0), (97, .iaload, 1, 0, 0, 0), (98, .invokevirtual 226, 3, 21, 0, 112), (101, .iload 4, 2, 4, 0, 0), (103, .ishr, 1, 0, 0, 0), (104, .iconst 1, 1, 0, 1, 0), (105, .iand, 1, 0, 0, 0), (106, .iadd, 1, 0, 0, 0), (107, .istore_n 3, 1, 3, 0, 0), (108, .iinc 4 1, 3, 4, 1, 0), (111, .goto (-64), 3, 47, 0, 0), (114, .aload_n 0, 1, 0, 0, 0), (115, .aload_n 0, 1, 0, 0, 0), (116, .getfield 57, 3, 456, 0, 94), (119, .invokevirtual 233, 3, 129, 0, 114), (122, .istore 4, 2, 4, 0, 0), (124, .aload_n 0, 1, 0, 0, 0), (125, .getfield 53, 3, 455, 0, 75), (128, .iload_n 3, 1, 3, 0, 0), (129, .i2l, 1, 0, 0, 0), (130, .invokevirtual 124, 3, 45, 0, 78), (133, .iload 4, 2, 4, 0, 0), (135, .ireturn, 1, 0, 0, 0)])
def mq_X9_squares : mz_I := (yX9_squares, cX9_squares, 3, (some .int), false, 7, 1, 2, 48, [(0, .aload_n 0, 1, 0, 0, 0), (1, .iload_n 1, 1, 1, 0, 0), (2, .invokevirtual 203, 3, 124, 0, 105), (5, .ifCond .ne 5, 3, 10, 0, 0), (8, .iconst (-1), 1, 0, (-1), 0), (9, .ireturn, 1, 0, 0, 0), (10, .aload_n 0, 1, 0, 0, 0), (11, .getfield 25, 3, 450, 0, 96), (14, .aload_n 0, 1, 0, 0, 0), (15, .getfield 29, 3, 451, 0, 108), (18, .getfield 215, 3, 321, 0, 109), (21, .iload_n 1, 1, 1, 0, 0), (22, .aaload, 1, 0, 0, 0), (23, .aload_n 0, 1, 0, 0, 0), (24, .getfield 20, 3, 449, 0, 69), (27, .getfield 146, 3, 1, 0, 86), (30, .invokevirtual 171, 3, 20, 0, 97), (33, .pop, 1, 0, 0, 0), (34, .iconst 0, 1, 0, 0, 0), (35, .istore_n 2, 1, 2, 0, 0), (36, .iload_n 2, 1, 2, 0, 0), (37, .aload_n 0, 1, 0, 0, 0), (38, .getfield 20, 3, 449, 0, 69), (41, .getfield 146, 3, 1, 0, 86), (44, .if_icmp .ge 44, 3, 88, 0, 0), (47, .aload_n 0, 1, 0, 0, 0), (48, .getfield 57, 3, 456, 0, 94), (51, .iload_n 2, 1, 2, 0, 0), (52, .aload_n 0, 1, 0, 0, 0), (53, .getfield 20, 3, 449, 0, 69), (56, .aload_n 0, 1, 0, 0, 0), (57, .getfield 29, 3, 451, 0, 108), (60, .getfield 215, 3, 321, 0, 109), (63, .iload_n 1, 1, 1, 0, 0), (64, .aaload, 1, 0, 0, 0), (65, .iload_n 2, 1, 2, 0, 0), (66, .iaload, 1, 0, 0, 0), (67, .aload_n 0, 1, 0, 0, 0), (68, .getfield 29, 3, 451, 0, 108), (71, .getfield 215, 3, 321, 0, 109), (74, .iload_n 1, 1, 1, 0, 0), (75, .aaload, 1, 0, 0, 0), (76, .iload_n 2, 1, 2, 0, 0), (77, .iaload, 1, 0, 0, 0), (78, .invokevirtual 106, 3, 3, 0, 70), (81, .iastore, 1, 0, 0, 0), (82, .iinc 2 1, 3, 2, 1, 0), (85, .goto (-49), 3, 36, 0, 0), (88, .aload_n 0, 1, 0, 0, 0), (89, .aload_n 0, 1, 0, 0, 0), (90, .getfield 57, 3, 456, 0, 94), (93, .invokevirtual 233, 3, 129, 0, 114), (96, .ireturn, 1, 0, 0, 0)])
def mq_X9_productIn : mz_I := (yX9_productIn, cX9_productIn, 5, (some .int), false, 7, 3, 2, 47, [(0, .aload_n 0, 1, 0, 0, 0), (1, .iload_n 1, 1, 1, 0, 0), (2, .invokevirtual 203, 3, 124, 0, 105), (5, .ifCond .eq 19, 3, 24, 0, 0), (8, .aload_n 0, 1, 0, 0, 0), (9, .iload_n 2, 1, 2, 0, 0), (10, .invokevirtual 103, 3, 123, 0, 68), (13, .ifCond .eq 11, 3, 24, 0, 0), (16, .aload_n 0, 1, 0, 0, 0), (17, .iload_n 3, 1, 3, 0, 0), (18, .invokevirtual 103, 3, 123, 0, 68), (21, .ifCond .ne 5, 3, 26, 0, 0), (24, .iconst (-1), 1, 0, (-1), 0), (25, .ireturn, 1, 0, 0, 0), (26, .aload_n 0, 1, 0, 0, 0), (27, .getfield 29, 3, 451, 0, 108), (30, .getfield 215, 3, 321, 0, 109), (33, .iload_n 1, 1, 1, 0, 0), (34, .aaload, 1, 0, 0, 0), (35, .astore 4, 2, 4, 0, 0), (37, .aload_n 0, 1, 0, 0, 0), (38, .getfield 25, 3, 450, 0, 96), (41, .aload 4, 2, 4, 0, 0), (43, .aload_n 0, 1, 0, 0, 0), (44, .getfield 20, 3, 449, 0, 69), (47, .getfield 146, 3, 1, 0, 86), (50, .invokevirtual 171, 3, 20, 0, 97), (53, .pop, 1, 0, 0, 0), (54, .aload_n 0, 1, 0, 0, 0), (55, .getfield 25, 3, 450, 0, 96), (58, .aload_n 0, 1, 0, 0, 0), (59, .getfield 20, 3, 449, 0, 69), (62, .aload_n 0, 1, 0, 0, 0), (63, .getfield 10, 3, 448, 0, 81), (66, .aload 4, 2, 4, 0, 0), (68, .iload_n 2, 1, 2, 0, 0), (69, .invokevirtual 229, 3, 26, 0, 113), (72, .aload_n 0, 1, 0, 0, 0), (73, .getfield 10, 3, 448, 0, 81), (76, .aload 4, 2, 4, 0, 0), (78, .iload_n 3, 1, 3, 0, 0), (79, .invokevirtual 229, 3, 26, 0, 113), (82, .invokevirtual 106, 3, 3, 0, 70), (85, .invokevirtual 226, 3, 21, 0, 112), (88, .ireturn, 1, 0, 0, 0)])
def mq_X9_far : mz_I := (yX9_far, cX9_far, 6, (some .int), false, 7, 3, 2, 47, [(0, .aload_n 0, 1, 0, 0, 0), (1, .iload_n 1, 1, 1, 0, 0), (2, .invokevirtual 203, 3, 124, 0, 105), (5, .ifCond .eq 19, 3, 24, 0, 0), (8, .aload_n 0, 1, 0, 0, 0), (9, .iload_n 2, 1, 2, 0, 0), (10, .invokevirtual 103, 3, 123, 0, 68), (13, .ifCond .eq 11, 3, 24, 0, 0), (16, .aload_n 0, 1, 0, 0, 0), (17, .iload_n 3, 1, 3, 0, 0), (18, .invokevirtual 103, 3, 123, 0, 68), (21, .ifCond .ne 5, 3, 26, 0, 0), (24, .iconst (-1), 1, 0, (-1), 0), (25, .ireturn, 1, 0, 0, 0), (26, .aload_n 0, 1, 0, 0, 0), (27, .getfield 25, 3, 450, 0, 96), (30, .aload_n 0, 1, 0, 0, 0), (31, .getfield 29, 3, 451, 0, 108), (34, .getfield 215, 3, 321, 0, 109), (37, .iload_n 1, 1, 1, 0, 0), (38, .aaload, 1, 0, 0, 0), (39, .aload_n 0, 1, 0, 0, 0), (40, .getfield 20, 3, 449, 0, 69), (43, .getfield 146, 3, 1, 0, 86), (46, .invokevirtual 171, 3, 20, 0, 97), (49, .pop, 1, 0, 0, 0), (50, .aload_n 0, 1, 0, 0, 0), (51, .getfield 25, 3, 450, 0, 96), (54, .iload_n 2, 1, 2, 0, 0), (55, .invokevirtual 226, 3, 21, 0, 112), (58, .istore 4, 2, 4, 0, 0), (60, .aload_n 0, 1, 0, 0, 0), (61, .getfield 25, 3, 450, 0, 96), (64, .iload_n 3, 1, 3, 0, 0), (65, .invokevirtual 226, 3, 21, 0, 112), (68, .istore 5, 2, 5, 0, 0), (70, .aload_n 0, 1, 0, 0, 0), (71, .getfield 53, 3, 455, 0, 75), (74, .invokevirtual 120, 3, 44, 0, 76), (77, .aload_n 0, 1, 0, 0, 0), (78, .getfield 53, 3, 455, 0, 75), (81, .iload 4, 2, 4, 0, 0), (83, .iload 5, 2, 5, 0, 0), (85, .ixor, 1, 0, 0, 0), (86, .i2l, 1, 0, 0, 0), (87, .invokevirtual 124, 3, 45, 0, 78), (90, .aload_n 0, 1, 0, 0, 0), (91, .getfield 53, 3, 455, 0, 75), (94, .iload 4, 2, 4, 0, 0), (96, .iload 5, 2, 5, 0, 0), (98, .iand, 1, 0, 0, 0), (99, .i2l, 1, 0, 0, 0), (100, .invokevirtual 124, 3, 45, 0, 78), (103, .iload 4, 2, 4, 0, 0), (105, .iload 5, 2, 5, 0, 0), (107, .ixor, 1, 0, 0, 0), (108, .invokestatic 210, 3, 252, 0, 107), (111, .ireturn, 1, 0, 0, 0)])
def mq_X9_steady : mz_I := (yX9_steady, cX9_steady, 6, (some .int), false, 7, 1, 2, 47, [(0, .aload_n 0, 1, 0, 0, 0), (1, .iload_n 1, 1, 1, 0, 0), (2, .invokevirtual 203, 3, 124, 0, 105), (5, .ifCond .ne 5, 3, 10, 0, 0), (8, .iconst (-1), 1, 0, (-1), 0), (9, .ireturn, 1, 0, 0, 0), (10, .aload_n 0, 1, 0, 0, 0), (11, .getfield 25, 3, 450, 0, 96), (14, .aload_n 0, 1, 0, 0, 0), (15, .getfield 29, 3, 451, 0, 108), (18, .getfield 215, 3, 321, 0, 109), (21, .iload_n 1, 1, 1, 0, 0), (22, .aaload, 1, 0, 0, 0), (23, .aload_n 0, 1, 0, 0, 0), (24, .getfield 20, 3, 449, 0, 69), (27, .getfield 146, 3, 1, 0, 86), (30, .invokevirtual 171, 3, 20, 0, 97), (33, .pop, 1, 0, 0, 0), (34, .iconst 0, 1, 0, 0, 0), (35, .istore_n 2, 1, 2, 0, 0), (36, .iconst (-1), 1, 0, (-1), 0), (37, .istore_n 3, 1, 3, 0, 0), (38, .iconst 0, 1, 0, 0, 0), (39, .istore 4, 2, 4, 0, 0), (41, .iload 4, 2, 4, 0, 0), (43, .aload_n 0, 1, 0, 0, 0), (44, .getfield 20, 3, 449, 0, 69), (47, .getfield 121, 3, 2, 0, 77), (50, .if_icmp .ge 63, 3, 113, 0, 0), (53, .aload_n 0, 1, 0, 0, 0), (54, .getfield 25, 3, 450, 0, 96), (57, .iload 4, 2, 4, 0, 0), (59, .invokevirtual 226, 3, 21, 0, 112), (62, .invokestatic 210, 3, 252, 0, 107), (65, .istore 5, 2, 5, 0, 0), (67, .iload 5, 2, 5, 0, 0), (69, .aload_n 0, 1, 0, 0, 0), (70, .getfield 25, 3, 450, 0, 96), (73, .aload_n 0, 1, 0, 0, 0), (74, .getfield 20, 3, 449, 0, 69), (77, .iload 4, 2, 4, 0, 0), (79, .iload 4, 2, 4, 0, 0), (81, .invokevirtual 106, 3, 3, 0, 70), (84, .invokevirtual 226, 3, 21, 0, 112), (87, .invokestatic 210, 3, 252, 0, 107), (90, .if_icmp .ne 9, 3, 99, 0, 0), (93, .iinc 2 1, 3, 2, 1, 0), (96, .goto 11, 3, 107, 0, 0), (99, .iload_n 3, 1, 3, 0, 0), (100, .iconst (-1), 1, 0, (-1), 0), (101, .if_icmp .ne 6, 3, 107, 0, 0), (104, .iload 4, 2, 4, 0, 0), (106, .istore_n 3, 1, 3, 0, 0), (107, .iinc 4 1, 3, 4, 1, 0), (110, .goto (-69), 3, 41, 0, 0), (113, .aload_n 0, 1, 0, 0, 0), (114, .getfield 53, 3, 455, 0, 75), (117, .invokevirtual 120, 3, 44, 0, 76), (120, .aload_n 0, 1, 0, 0, 0), (121, .getfield 53, 3, 455, 0, 75), (124, .iload_n 3, 1, 3, 0, 0), (125, .i2l, 1, 0, 0, 0), (126, .invokevirtual 124, 3, 45, 0, 78), (129, .iload_n 2, 1, 2, 0, 0), (130, .ireturn, 1, 0, 0, 0)])
def mq_X9_bestScale : mz_I := (yX9_bestScale, cX9_bestScale, 6, (some .int), false, 7, 1, 3, 68, [(0, .aload_n 0, 1, 0, 0, 0), (1, .iload_n 1, 1, 1, 0, 0), (2, .invokevirtual 203, 3, 124, 0, 105), (5, .ifCond .ne 5, 3, 10, 0, 0), (8, .iconst (-1), 1, 0, (-1), 0), (9, .ireturn, 1, 0, 0, 0), (10, .iconst 0, 1, 0, 0, 0), (11, .istore_n 2, 1, 2, 0, 0), (12, .iconst (-1), 1, 0, (-1), 0), (13, .istore_n 3, 1, 3, 0, 0), (14, .iconst 1, 1, 0, 1, 0), (15, .istore 4, 2, 4, 0, 0), (17, .iload 4, 2, 4, 0, 0), (19, .aload_n 0, 1, 0, 0, 0), (20, .getfield 20, 3, 449, 0, 69), (23, .getfield 121, 3, 2, 0, 77), (26, .if_icmp .ge 88, 3, 114, 0, 0), (29, .iconst 0, 1, 0, 0, 0), (30, .istore 5, 2, 5, 0, 0), (32, .iload 5, 2, 5, 0, 0), (34, .aload_n 0, 1, 0, 0, 0), (35, .getfield 20, 3, 449, 0, 69), (38, .getfield 146, 3, 1, 0, 86), (41, .if_icmp .ge 37, 3, 78, 0, 0), (44, .aload_n 0, 1, 0, 0, 0), (45, .getfield 57, 3, 456, 0, 94), (48, .iload 5, 2, 5, 0, 0), (50, .aload_n 0, 1, 0, 0, 0), (51, .getfield 20, 3, 449, 0, 69), (54, .aload_n 0, 1, 0, 0, 0), (55, .getfield 29, 3, 451, 0, 108), (58, .getfield 215, 3, 321, 0, 109), (61, .iload_n 1, 1, 1, 0, 0), (62, .aaload, 1, 0, 0, 0), (63, .iload 5, 2, 5, 0, 0), (65, .iaload, 1, 0, 0, 0), (66, .iload 4, 2, 4, 0, 0), (68, .invokevirtual 106, 3, 3, 0, 70), (71, .iastore, 1, 0, 0, 0), (72, .iinc 5 1, 3, 5, 1, 0), (75, .goto (-43), 3, 32, 0, 0), (78, .aload_n 0, 1, 0, 0, 0), (79, .getfield 10, 3, 448, 0, 81), (82, .aload_n 0, 1, 0, 0, 0), (83, .getfield 57, 3, 456, 0, 94), (86, .invokevirtual 239, 3, 22, 0, 116), (89, .istore 5, 2, 5, 0, 0), (91, .iload_n 3, 1, 3, 0, 0), (92, .iconst (-1), 1, 0, (-1), 0), (93, .if_icmp .eq 9, 3, 102, 0, 0), (96, .iload 5, 2, 5, 0, 0), (98, .iload_n 2, 1, 2, 0, 0), (99, .if_icmp .ge 9, 3, 108, 0, 0), (102, .iload 5, 2, 5, 0, 0), (104, .istore_n 2, 1, 2, 0, 0), (105, .iload 4, 2, 4, 0, 0), (107, .istore_n 3, 1, 3, 0, 0), (108, .iinc 4 1, 3, 4, 1, 0), (111, .goto (-94), 3, 17, 0, 0), (114, .aload_n 0, 1, 0, 0, 0), (115, .getfield 53, 3, 455, 0, 75), (118, .invokevirtual 120, 3, 44, 0, 76), (121, .aload_n 0, 1, 0, 0, 0), (122, .getfield 53, 3, 455, 0, 75), (125, .iload_n 2, 1, 2, 0, 0), (126, .i2l, 1, 0, 0, 0), (127, .invokevirtual 124, 3, 45, 0, 78), (130, .iload_n 3, 1, 3, 0, 0), (131, .ireturn, 1, 0, 0, 0)])
def mq_X9_same : mz_I := (yX9_same, cX9_same, 7, (some .int), false, 7, 2, 1, 23, [(0, .aload_n 0, 1, 0, 0, 0), (1, .iload_n 1, 1, 1, 0, 0), (2, .invokevirtual 203, 3, 124, 0, 105), (5, .ifCond .eq 11, 3, 16, 0, 0), (8, .aload_n 0, 1, 0, 0, 0), (9, .iload_n 2, 1, 2, 0, 0), (10, .invokevirtual 203, 3, 124, 0, 105), (13, .ifCond .ne 5, 3, 18, 0, 0), (16, .iconst (-1), 1, 0, (-1), 0), (17, .ireturn, 1, 0, 0, 0), (18, .iconst 0, 1, 0, 0, 0), (19, .istore_n 3, 1, 3, 0, 0), (20, .iconst 0, 1, 0, 0, 0), (21, .istore 4, 2, 4, 0, 0), (23, .iconst 0, 1, 0, 0, 0), (24, .istore 5, 2, 5, 0, 0), (26, .iload 5, 2, 5, 0, 0), (28, .aload_n 0, 1, 0, 0, 0), (29, .getfield 20, 3, 449, 0, 69), (32, .getfield 146, 3, 1, 0, 86), (35, .if_icmp .ge 80, 3, 115, 0, 0), (38, .aload_n 0, 1, 0, 0, 0), (39, .getfield 29, 3, 451, 0, 108), (42, .getfield 215, 3, 321, 0, 109), (45, .iload_n 1, 1, 1, 0, 0), (46, .aaload, 1, 0, 0, 0), (47, .iload 5, 2, 5, 0, 0), (49, .iaload, 1, 0, 0, 0), (50, .istore 6, 2, 6, 0, 0), (52, .iload_n 3, 1, 3, 0, 0), (53, .aload_n 0, 1, 0, 0, 0), (54, .getfield 10, 3, 448, 0, 81), (57, .aload_n 0, 1, 0, 0, 0), (58, .getfield 29, 3, 451, 0, 108), (61, .getfield 215, 3, 321, 0, 109), (64, .iload_n 2, 1, 2, 0, 0), (65, .aaload, 1, 0, 0, 0), (66, .iload 6, 2, 6, 0, 0), (68, .invokevirtual 242, 3, 27, 0, 117), (71, .iconst (-1), 1, 0, (-1), 0), (72, .if_icmp .ne 7, 3, 79, 0, 0), (75, .iconst 0, 1, 0, 0, 0), (76, .goto 4, 3, 80, 0, 0), (79, .iconst 1, 1, 0, 1, 0), (80, .iadd, 1, 0, 0, 0), (81, .istore_n 3, 1, 3, 0, 0), (82, .iload 4, 2, 4, 0, 0), (84, .aload_n 0, 1, 0, 0, 0), (85, .getfield 29, 3, 451, 0, 108), (88, .getfield 215, 3, 321, 0, 109), (91, .iload_n 2, 1, 2, 0, 0), (92, .aaload, 1, 0, 0, 0), (93, .iload 5, 2, 5, 0, 0), (95, .iaload, 1, 0, 0, 0), (96, .iload 6, 2, 6, 0, 0), (98, .if_icmp .ne 7, 3, 105, 0, 0), (101, .iconst 1, 1, 0, 1, 0), (102, .goto 4, 3, 106, 0, 0), (105, .iconst 0, 1, 0, 0, 0), (106, .iadd, 1, 0, 0, 0), (107, .istore 4, 2, 4, 0, 0), (109, .iinc 5 1, 3, 5, 1, 0), (112, .goto (-86), 3, 26, 0, 0), (115, .aload_n 0, 1, 0, 0, 0), (116, .getfield 53, 3, 455, 0, 75), (119, .invokevirtual 120, 3, 44, 0, 76), (122, .aload_n 0, 1, 0, 0, 0), (123, .getfield 53, 3, 455, 0, 75), (126, .iload_n 3, 1, 3, 0, 0), (127, .i2l, 1, 0, 0, 0), (128, .invokevirtual 124, 3, 45, 0, 78), (131, .aload_n 0, 1, 0, 0, 0), (132, .getfield 53, 3, 455, 0, 75), (135, .iload 4, 2, 4, 0, 0), (137, .i2l, 1, 0, 0, 0), (138, .invokevirtual 124, 3, 45, 0, 78), (141, .iload_n 3, 1, 3, 0, 0), (142, .aload_n 0, 1, 0, 0, 0), (143, .getfield 20, 3, 449, 0, 69), (146, .getfield 146, 3, 1, 0, 86), (149, .if_icmp .ne 7, 3, 156, 0, 0), (152, .iconst 1, 1, 0, 1, 0), (153, .goto 4, 3, 157, 0, 0), (156, .iconst 0, 1, 0, 0, 0), (157, .ireturn, 1, 0, 0, 0)])
def mq_X9_dual : mz_I := (yX9_dual, cX9_dual, 4, (some .int), false, 7, 2, 5, 131, [(0, .aload_n 0, 1, 0, 0, 0), (1, .iload_n 1, 1, 1, 0, 0), (2, .invokevirtual 203, 3, 124, 0, 105), (5, .ifCond .eq 11, 3, 16, 0, 0), (8, .aload_n 0, 1, 0, 0, 0), (9, .iload_n 2, 1, 2, 0, 0), (10, .invokevirtual 203, 3, 124, 0, 105), (13, .ifCond .ne 5, 3, 18, 0, 0), (16, .iconst (-1), 1, 0, (-1), 0), (17, .ireturn, 1, 0, 0, 0), (18, .aload_n 0, 1, 0, 0, 0), (19, .getfield 10, 3, 448, 0, 81), (22, .aload_n 0, 1, 0, 0, 0), (23, .getfield 57, 3, 456, 0, 94), (26, .aload_n 0, 1, 0, 0, 0), (27, .getfield 29, 3, 451, 0, 108), (30, .getfield 215, 3, 321, 0, 109), (33, .iload_n 1, 1, 1, 0, 0), (34, .aaload, 1, 0, 0, 0), (35, .invokevirtual 245, 3, 33, 0, 118), (38, .aload_n 0, 1, 0, 0, 0), (39, .iload_n 2, 1, 2, 0, 0), (40, .aload_n 0, 1, 0, 0, 0), (41, .getfield 57, 3, 456, 0, 94), (44, .invokevirtual 206, 3, 127, 0, 106), (47, .istore_n 3, 1, 3, 0, 0), (48, .aload_n 0, 1, 0, 0, 0), (49, .getfield 53, 3, 455, 0, 75), (52, .invokevirtual 120, 3, 44, 0, 76), (55, .aload_n 0, 1, 0, 0, 0), (56, .getfield 53, 3, 455, 0, 75), (59, .aload_n 0, 1, 0, 0, 0), (60, .getfield 57, 3, 456, 0, 94), (63, .aload_n 0, 1, 0, 0, 0), (64, .getfield 20, 3, 449, 0, 69), (67, .getfield 146, 3, 1, 0, 86), (70, .invokevirtual 165, 3, 46, 0, 93), (73, .iload_n 3, 1, 3, 0, 0), (74, .ireturn, 1, 0, 0, 0)])
def mq_X9_weakly : mz_I := (yX9_weakly, cX9_weakly, 3, (some .int), false, 7, 1, 4, 90, [(0, .aload_n 0, 1, 0, 0, 0), (1, .iload_n 1, 1, 1, 0, 0), (2, .invokevirtual 203, 3, 124, 0, 105), (5, .ifCond .ne 5, 3, 10, 0, 0), (8, .iconst (-1), 1, 0, (-1), 0), (9, .ireturn, 1, 0, 0, 0), (10, .aload_n 0, 1, 0, 0, 0), (11, .getfield 10, 3, 448, 0, 81), (14, .aload_n 0, 1, 0, 0, 0), (15, .getfield 57, 3, 456, 0, 94), (18, .aload_n 0, 1, 0, 0, 0), (19, .getfield 29, 3, 451, 0, 108), (22, .getfield 215, 3, 321, 0, 109), (25, .iload_n 1, 1, 1, 0, 0), (26, .aaload, 1, 0, 0, 0), (27, .invokevirtual 245, 3, 33, 0, 118), (30, .iconst 1, 1, 0, 1, 0), (31, .istore_n 2, 1, 2, 0, 0), (32, .iload_n 2, 1, 2, 0, 0), (33, .aload_n 0, 1, 0, 0, 0), (34, .getfield 20, 3, 449, 0, 69), (37, .getfield 121, 3, 2, 0, 77), (40, .if_icmp .ge 64, 3, 104, 0, 0), (43, .aload_n 0, 1, 0, 0, 0), (44, .getfield 10, 3, 448, 0, 81), (47, .aload_n 0, 1, 0, 0, 0), (48, .getfield 61, 3, 457, 0, 91), (51, .aload_n 0, 1, 0, 0, 0), (52, .getfield 57, 3, 456, 0, 94), (55, .iload_n 2, 1, 2, 0, 0), (56, .aload_n 0, 1, 0, 0, 0), (57, .getfield 29, 3, 451, 0, 108), (60, .getfield 215, 3, 321, 0, 109), (63, .iload_n 1, 1, 1, 0, 0), (64, .aaload, 1, 0, 0, 0), (65, .invokevirtual 249, 3, 34, 0, 119), (68, .ifCond .eq 30, 3, 98, 0, 0), (71, .aload_n 0, 1, 0, 0, 0), (72, .getfield 53, 3, 455, 0, 75), (75, .invokevirtual 120, 3, 44, 0, 76), (78, .aload_n 0, 1, 0, 0, 0), (79, .getfield 53, 3, 455, 0, 75), (82, .aload_n 0, 1, 0, 0, 0), (83, .getfield 61, 3, 457, 0, 91), (86, .aload_n 0, 1, 0, 0, 0), (87, .getfield 20, 3, 449, 0, 69), (90, .getfield 146, 3, 1, 0, 86), (93, .invokevirtual 165, 3, 46, 0, 93), (96, .iload_n 2, 1, 2, 0, 0), (97, .ireturn, 1, 0, 0, 0), (98, .iinc 2 1, 3, 2, 1, 0), (101, .goto (-69), 3, 32, 0, 0), (104, .bipush (-2), 2, 0, (-2), 0), (106, .ireturn, 1, 0, 0, 0)])
def mq_X9_traces : mz_I := (yX9_traces, cX9_traces, 5, (some .int), false, 7, 1, 3, 65, [(0, .aload_n 0, 1, 0, 0, 0), (1, .iload_n 1, 1, 1, 0, 0), (2, .invokevirtual 203, 3, 124, 0, 105), (5, .ifCond .ne 5, 3, 10, 0, 0), (8, .iconst (-1), 1, 0, (-1), 0), (9, .ireturn, 1, 0, 0, 0), (10, .iconst 1, 1, 0, 1, 0), (11, .istore_n 2, 1, 2, 0, 0), (12, .aload_n 0, 1, 0, 0, 0), (13, .getfield 53, 3, 455, 0, 75), (16, .invokevirtual 120, 3, 44, 0, 76), (19, .iconst 0, 1, 0, 0, 0), (20, .istore_n 3, 1, 3, 0, 0), (21, .iload_n 3, 1, 3, 0, 0), (22, .aload_n 0, 1, 0, 0, 0), (23, .getfield 20, 3, 449, 0, 69), (26, .getfield 146, 3, 1, 0, 86), (29, .if_icmp .ge 58, 3, 87, 0, 0), (32, .aload_n 0, 1, 0, 0, 0), (33, .getfield 10, 3, 448, 0, 81), (36, .aload_n 0, 1, 0, 0, 0), (37, .getfield 29, 3, 451, 0, 108), (40, .getfield 215, 3, 321, 0, 109), (43, .iload_n 1, 1, 1, 0, 0), (44, .aaload, 1, 0, 0, 0), (45, .aload_n 0, 1, 0, 0, 0), (46, .getfield 29, 3, 451, 0, 108), (49, .getfield 215, 3, 321, 0, 109), (52, .iload_n 1, 1, 1, 0, 0), (53, .aaload, 1, 0, 0, 0), (54, .iload_n 3, 1, 3, 0, 0), (55, .iaload, 1, 0, 0, 0), (56, .invokevirtual 253, 3, 32, 0, 120), (59, .istore 4, 2, 4, 0, 0), (61, .aload_n 0, 1, 0, 0, 0), (62, .getfield 53, 3, 455, 0, 75), (65, .iload 4, 2, 4, 0, 0), (67, .i2l, 1, 0, 0, 0), (68, .invokevirtual 124, 3, 45, 0, 78), (71, .iload 4, 2, 4, 0, 0), (73, .iconst 1, 1, 0, 1, 0), (74, .iload_n 3, 1, 3, 0, 0), (75, .ishl, 1, 0, 0, 0), (76, .if_icmp .eq 5, 3, 81, 0, 0), (79, .iconst 0, 1, 0, 0, 0), (80, .istore_n 2, 1, 2, 0, 0), (81, .iinc 3 1, 3, 3, 1, 0), (84, .goto (-63), 3, 21, 0, 0), (87, .iload_n 2, 1, 2, 0, 0), (88, .ireturn, 1, 0, 0, 0)])
def mq_X9_tower : mz_I := (yX9_tower, cX9_tower, 4, (some .int), false, 7, 3, 5, 131, [(0, .aload_n 0, 1, 0, 0, 0), (1, .iload_n 1, 1, 1, 0, 0), (2, .invokevirtual 203, 3, 124, 0, 105), (5, .ifCond .eq 22, 3, 27, 0, 0), (8, .aload_n 0, 1, 0, 0, 0), (9, .getfield 20, 3, 449, 0, 69), (12, .iload_n 2, 1, 2, 0, 0), (13, .invokevirtual 137, 3, 11, 0, 83), (16, .ifCond .eq 11, 3, 27, 0, 0), (19, .aload_n 0, 1, 0, 0, 0), (20, .iload_n 3, 1, 3, 0, 0), (21, .invokevirtual 103, 3, 123, 0, 68), (24, .ifCond .ne 5, 3, 29, 0, 0), (27, .iconst (-1), 1, 0, (-1), 0), (28, .ireturn, 1, 0, 0, 0), (29, .aload_n 0, 1, 0, 0, 0), (30, .getfield 10, 3, 448, 0, 81), (33, .aload_n 0, 1, 0, 0, 0), (34, .getfield 61, 3, 457, 0, 91), (37, .iload_n 2, 1, 2, 0, 0), (38, .invokevirtual 161, 3, 29, 0, 92), (41, .aload_n 0, 1, 0, 0, 0), (42, .getfield 10, 3, 448, 0, 81), (45, .aload_n 0, 1, 0, 0, 0), (46, .getfield 57, 3, 456, 0, 94), (49, .aload_n 0, 1, 0, 0, 0), (50, .getfield 61, 3, 457, 0, 91), (53, .iload_n 2, 1, 2, 0, 0), (54, .iload_n 3, 1, 3, 0, 0), (55, .invokevirtual 256, 3, 31, 0, 121), (58, .aload_n 0, 1, 0, 0, 0), (59, .getfield 25, 3, 450, 0, 96), (62, .aload_n 0, 1, 0, 0, 0), (63, .getfield 57, 3, 456, 0, 94), (66, .aload_n 0, 1, 0, 0, 0), (67, .getfield 20, 3, 449, 0, 69), (70, .getfield 146, 3, 1, 0, 86), (73, .invokevirtual 171, 3, 20, 0, 97), (76, .ifCond .eq 15, 3, 91, 0, 0), (79, .aload_n 0, 1, 0, 0, 0), (80, .iload_n 1, 1, 1, 0, 0), (81, .aload_n 0, 1, 0, 0, 0), (82, .getfield 57, 3, 456, 0, 94), (85, .invokevirtual 206, 3, 127, 0, 106), (88, .goto 5, 3, 93, 0, 0), (91, .bipush (-2), 2, 0, (-2), 0), (93, .ireturn, 1, 0, 0, 0)])
def mq_X9_fits : mz_I := (yX9_fits, cX9_fits, 4, (some .int), false, 7, 1, 3, 68, [(0, .aload_n 0, 1, 0, 0, 0), (1, .getfield 20, 3, 449, 0, 69), (4, .iload_n 1, 1, 1, 0, 0), (5, .invokestatic 100, 3, 37, 0, 67), (8, .invokevirtual 137, 3, 11, 0, 83), (11, .ifCond .ne 5, 3, 16, 0, 0), (14, .iconst (-1), 1, 0, (-1), 0), (15, .ireturn, 1, 0, 0, 0), (16, .iload_n 1, 1, 1, 0, 0), (17, .invokestatic 91, 3, 40, 0, 65), (20, .ifCond .ne 6, 3, 26, 0, 0), (23, .bipush (-2), 2, 0, (-2), 0), (25, .ireturn, 1, 0, 0, 0), (26, .iconst 0, 1, 0, 0, 0), (27, .istore_n 2, 1, 2, 0, 0), (28, .aload_n 0, 1, 0, 0, 0), (29, .getfield 53, 3, 455, 0, 75), (32, .invokevirtual 120, 3, 44, 0, 76), (35, .iconst 0, 1, 0, 0, 0), (36, .istore_n 3, 1, 3, 0, 0), (37, .iload_n 3, 1, 3, 0, 0), (38, .aload_n 0, 1, 0, 0, 0), (39, .getfield 20, 3, 449, 0, 69), (42, .getfield 121, 3, 2, 0, 77), (45, .if_icmp .ge 33, 3, 78, 0, 0), (48, .aload_n 0, 1, 0, 0, 0), (49, .getfield 20, 3, 449, 0, 69), (52, .iload_n 1, 1, 1, 0, 0), (53, .iload_n 3, 1, 3, 0, 0), (54, .invokevirtual 259, 3, 15, 0, 122), (57, .ifCond .ne 15, 3, 72, 0, 0), (60, .aload_n 0, 1, 0, 0, 0), (61, .getfield 53, 3, 455, 0, 75), (64, .iload_n 3, 1, 3, 0, 0), (65, .i2l, 1, 0, 0, 0), (66, .invokevirtual 124, 3, 45, 0, 78), (69, .iinc 2 1, 3, 2, 1, 0), (72, .iinc 3 1, 3, 3, 1, 0), (75, .goto (-38), 3, 37, 0, 0), (78, .iload_n 2, 1, 2, 0, 0), (79, .ireturn, 1, 0, 0, 0)])
def mq_X9_maps : mz_I := (yX9_maps, cX9_maps, 5, (some .int), false, 7, 3, 3, 68, [(0, .iload_n 1, 1, 1, 0, 0), (1, .invokestatic 100, 3, 37, 0, 67), (4, .istore 4, 2, 4, 0, 0), (6, .aload_n 0, 1, 0, 0, 0), (7, .getfield 20, 3, 449, 0, 69), (10, .iload 4, 2, 4, 0, 0), (12, .invokevirtual 137, 3, 11, 0, 83), (15, .ifCond .eq 10, 3, 25, 0, 0), (18, .iload_n 1, 1, 1, 0, 0), (19, .invokestatic 91, 3, 40, 0, 65), (22, .ifCond .ne 5, 3, 27, 0, 0), (25, .iconst (-1), 1, 0, (-1), 0), (26, .ireturn, 1, 0, 0, 0), (27, .aload_n 0, 1, 0, 0, 0), (28, .iload_n 2, 1, 2, 0, 0), (29, .invokevirtual 103, 3, 123, 0, 68), (32, .ifCond .eq 15, 3, 47, 0, 0), (35, .iload_n 3, 1, 3, 0, 0), (36, .ifCond .lt 11, 3, 47, 0, 0), (39, .iload_n 3, 1, 3, 0, 0), (40, .iconst 1, 1, 0, 1, 0), (41, .iload 4, 2, 4, 0, 0), (43, .ishl, 1, 0, 0, 0), (44, .if_icmp .lt 5, 3, 49, 0, 0), (47, .iconst (-1), 1, 0, (-1), 0), (48, .ireturn, 1, 0, 0, 0), (49, .aload_n 0, 1, 0, 0, 0), (50, .getfield 20, 3, 449, 0, 69), (53, .iload_n 1, 1, 1, 0, 0), (54, .iload_n 2, 1, 2, 0, 0), (55, .invokevirtual 259, 3, 15, 0, 122), (58, .ifCond .ne 15, 3, 73, 0, 0), (61, .aload_n 0, 1, 0, 0, 0), (62, .getfield 20, 3, 449, 0, 69), (65, .iload_n 3, 1, 3, 0, 0), (66, .iload_n 2, 1, 2, 0, 0), (67, .invokevirtual 259, 3, 15, 0, 122), (70, .goto 5, 3, 75, 0, 0), (73, .bipush (-2), 2, 0, (-2), 0), (75, .ireturn, 1, 0, 0, 0)])
def mq_X9_irreducibles : mz_I := (yX9_irreducibles, cX9_irreducibles, 6, (some .int), false, 7, 1, 3, 70, [(0, .iload_n 1, 1, 1, 0, 0), (1, .iconst 1, 1, 0, 1, 0), (2, .if_icmp .lt 9, 3, 11, 0, 0), (5, .iload_n 1, 1, 1, 0, 0), (6, .bipush 8, 2, 0, 8, 0), (8, .if_icmp .le 5, 3, 13, 0, 0), (11, .iconst (-1), 1, 0, (-1), 0), (12, .ireturn, 1, 0, 0, 0), (13, .iconst 0, 1, 0, 0, 0), (14, .istore_n 2, 1, 2, 0, 0), (15, .iconst (-1), 1, 0, (-1), 0), (16, .istore_n 3, 1, 3, 0, 0), (17, .iconst 0, 1, 0, 0, 0), (18, .istore 4, 2, 4, 0, 0), (20, .iconst 1, 1, 0, 1, 0), (21, .iload_n 1, 1, 1, 0, 0), (22, .ishl, 1, 0, 0, 0), (23, .istore 5, 2, 5, 0, 0), (25, .iload 5, 2, 5, 0, 0), (27, .iconst 2, 1, 0, 2, 0), (28, .iload_n 1, 1, 1, 0, 0), (29, .ishl, 1, 0, 0, 0), (30, .if_icmp .ge 55, 3, 85, 0, 0), (33, .iload 5, 2, 5, 0, 0), (35, .invokestatic 91, 3, 40, 0, 65), (38, .ifCond .eq 41, 3, 79, 0, 0), (41, .iinc 2 1, 3, 2, 1, 0), (44, .iload_n 3, 1, 3, 0, 0), (45, .iconst (-1), 1, 0, (-1), 0), (46, .if_icmp .ne 8, 3, 54, 0, 0), (49, .iload 5, 2, 5, 0, 0), (51, .goto 4, 3, 55, 0, 0), (54, .iload_n 3, 1, 3, 0, 0), (55, .istore_n 3, 1, 3, 0, 0), (56, .iload 4, 2, 4, 0, 0), (58, .iload_n 1, 1, 1, 0, 0), (59, .iconst 1, 1, 0, 1, 0), (60, .if_icmp .le 15, 3, 75, 0, 0), (63, .iload 5, 2, 5, 0, 0), (65, .invokestatic 262, 3, 41, 0, 123), (68, .ifCond .eq 7, 3, 75, 0, 0), (71, .iconst 1, 1, 0, 1, 0), (72, .goto 4, 3, 76, 0, 0), (75, .iconst 0, 1, 0, 0, 0), (76, .iadd, 1, 0, 0, 0), (77, .istore 4, 2, 4, 0, 0), (79, .iinc 5 1, 3, 5, 1, 0), (82, .goto (-57), 3, 25, 0, 0), (85, .aload_n 0, 1, 0, 0, 0), (86, .getfield 53, 3, 455, 0, 75), (89, .invokevirtual 120, 3, 44, 0, 76), (92, .aload_n 0, 1, 0, 0, 0), (93, .getfield 53, 3, 455, 0, 75), (96, .iload_n 3, 1, 3, 0, 0), (97, .i2l, 1, 0, 0, 0), (98, .invokevirtual 124, 3, 45, 0, 78), (101, .aload_n 0, 1, 0, 0, 0), (102, .getfield 53, 3, 455, 0, 75), (105, .iload 4, 2, 4, 0, 0), (107, .i2l, 1, 0, 0, 0), (108, .invokevirtual 124, 3, 45, 0, 78), (111, .iload_n 2, 1, 2, 0, 0), (112, .ireturn, 1, 0, 0, 0)])
def mq_X9_undo : mz_I := (yX9_undo, cX9_undo, 1, (some .int), false, 7, 0, 6, 136, [(0, .aload_n 0, 1, 0, 0, 0), (1, .getfield 39, 3, 453, 0, 124), (4, .aload_n 0, 1, 0, 0, 0), (5, .getfield 29, 3, 451, 0, 108), (8, .invokevirtual 265, 3, 36, 0, 125), (11, .ifCond .ne 6, 3, 17, 0, 0), (14, .bipush (-2), 2, 0, (-2), 0), (16, .ireturn, 1, 0, 0, 0), (17, .aload_n 0, 1, 0, 0, 0), (18, .invokevirtual 269, 3, 128, 0, 126), (21, .aload_n 0, 1, 0, 0, 0), (22, .getfield 39, 3, 453, 0, 124), (25, .getfield 272, 3, 194, 0, 127), (28, .ireturn, 1, 0, 0, 0)])
def mq_X9_keeps : mz_I := (yX9_keeps, cX9_keeps, 1, (some .int), false, 7, 0, 3, 88, [(0, .aload_n 0, 1, 0, 0, 0), (1, .getfield 33, 3, 452, 0, 128), (4, .aload_n 0, 1, 0, 0, 0), (5, .getfield 29, 3, 451, 0, 108), (8, .invokevirtual 275, 3, 48, 0, 129), (11, .aload_n 0, 1, 0, 0, 0), (12, .iconst 1, 1, 0, 1, 0), (13, .putfield 279, 3, 458, 1, 130), (16, .aload_n 0, 1, 0, 0, 0), (17, .getfield 20, 3, 449, 0, 69), (20, .getfield 146, 3, 1, 0, 86), (23, .ireturn, 1, 0, 0, 0)])
def mq_X9_back : mz_I := (yX9_back, cX9_back, 1, (some .int), false, 7, 0, 6, 136, [(0, .aload_n 0, 1, 0, 0, 0), (1, .getfield 279, 3, 458, 0, 130), (4, .ifCond .ne 6, 3, 10, 0, 0), (7, .bipush (-2), 2, 0, (-2), 0), (9, .ireturn, 1, 0, 0, 0), (10, .aload_n 0, 1, 0, 0, 0), (11, .getfield 39, 3, 453, 0, 124), (14, .aload_n 0, 1, 0, 0, 0), (15, .getfield 29, 3, 451, 0, 108), (18, .invokevirtual 283, 3, 35, 0, 131), (21, .aload_n 0, 1, 0, 0, 0), (22, .getfield 29, 3, 451, 0, 108), (25, .aload_n 0, 1, 0, 0, 0), (26, .getfield 33, 3, 452, 0, 128), (29, .invokevirtual 275, 3, 48, 0, 129), (32, .aload_n 0, 1, 0, 0, 0), (33, .invokevirtual 269, 3, 128, 0, 126), (36, .aload_n 0, 1, 0, 0, 0), (37, .getfield 20, 3, 449, 0, 69), (40, .getfield 146, 3, 1, 0, 86), (43, .ireturn, 1, 0, 0, 0)])
def mq_X9_written : mz_I := (yX9_written, cX9_written, 2, (some .int), false, 7, 1, 2, 46, [(0, .aload_n 0, 1, 0, 0, 0), (1, .getfield 46, 3, 454, 0, 59), (4, .aload_n 0, 1, 0, 0, 0), (5, .getfield 29, 3, 451, 0, 108), (8, .getfield 286, 3, 320, 0, 132), (11, .iload_n 1, 1, 1, 0, 0), (12, .invokevirtual 289, 3, 61, 0, 133), (15, .ireturn, 1, 0, 0, 0)])
def mq_X9_count : mz_I := (yX9_count, cX9_count, 2, (some .int), false, 7, 1, 3, 67, [(0, .iload_n 1, 1, 1, 0, 0), (1, .tableswitch 93 0 6 #[43, 51, 59, 67, 75, 83, 88], 43, 94, 0, 0), (44, .aload_n 0, 1, 0, 0, 0), (45, .getfield 20, 3, 449, 0, 69), (48, .getfield 146, 3, 1, 0, 86), (51, .ireturn, 1, 0, 0, 0), (52, .aload_n 0, 1, 0, 0, 0), (53, .getfield 29, 3, 451, 0, 108), (56, .getfield 286, 3, 320, 0, 132), (59, .ireturn, 1, 0, 0, 0), (60, .aload_n 0, 1, 0, 0, 0), (61, .getfield 39, 3, 453, 0, 124), (64, .getfield 272, 3, 194, 0, 127), (67, .ireturn, 1, 0, 0, 0), (68, .aload_n 0, 1, 0, 0, 0), (69, .getfield 53, 3, 455, 0, 75), (72, .getfield 292, 3, 257, 0, 134), (75, .ireturn, 1, 0, 0, 0), (76, .aload_n 0, 1, 0, 0, 0), (77, .getfield 46, 3, 454, 0, 59), (80, .getfield 77, 3, 386, 0, 61), (83, .ireturn, 1, 0, 0, 0), (84, .aload_n 0, 1, 0, 0, 0), (85, .invokevirtual 293, 3, 130, 0, 135), (88, .ireturn, 1, 0, 0, 0), (89, .aload_n 0, 1, 0, 0, 0), (90, .invokevirtual 296, 3, 131, 0, 136), (93, .ireturn, 1, 0, 0, 0), (94, .iconst (-1), 1, 0, (-1), 0), (95, .ireturn, 1, 0, 0, 0)])
def mq_X9_isElement : mz_I := (yX9_isElement, cX9_isElement, 2, (some .boolean), false, 7, 1, 0, 0, [(0, .iload_n 1, 1, 1, 0, 0), (1, .ifCond .lt 18, 3, 19, 0, 0), (4, .iload_n 1, 1, 1, 0, 0), (5, .aload_n 0, 1, 0, 0, 0), (6, .getfield 20, 3, 449, 0, 69), (9, .getfield 121, 3, 2, 0, 77), (12, .if_icmp .ge 7, 3, 19, 0, 0), (15, .iconst 1, 1, 0, 1, 0), (16, .goto 4, 3, 20, 0, 0), (19, .iconst 0, 1, 0, 0, 0), (20, .ireturn, 1, 0, 0, 0)])
def mq_X9_isSlot : mz_I := (yX9_isSlot, cX9_isSlot, 2, (some .boolean), false, 7, 1, 0, 0, [(0, .iload_n 1, 1, 1, 0, 0), (1, .ifCond .lt 12, 3, 13, 0, 0), (4, .iload_n 1, 1, 1, 0, 0), (5, .iconst 4, 1, 0, 4, 0), (6, .if_icmp .ge 7, 3, 13, 0, 0), (9, .iconst 1, 1, 0, 1, 0), (10, .goto 4, 3, 14, 0, 0), (13, .iconst 0, 1, 0, 0, 0), (14, .ireturn, 1, 0, 0, 0)])
def mq_X9_isPlace : mz_I := (yX9_isPlace, cX9_isPlace, 2, (some .boolean), false, 7, 1, 0, 0, [(0, .iload_n 1, 1, 1, 0, 0), (1, .ifCond .lt 18, 3, 19, 0, 0), (4, .iload_n 1, 1, 1, 0, 0), (5, .aload_n 0, 1, 0, 0, 0), (6, .getfield 20, 3, 449, 0, 69), (9, .getfield 146, 3, 1, 0, 86), (12, .if_icmp .ge 7, 3, 19, 0, 0), (15, .iconst 1, 1, 0, 1, 0), (16, .goto 4, 3, 20, 0, 0), (19, .iconst 0, 1, 0, 0, 0), (20, .ireturn, 1, 0, 0, 0)])
def mq_X9_tellsField : mz_I := (yX9_tellsField, cX9_tellsField, 2, (some .int), false, 7, 1, 5, 116, [(0, .aload_n 0, 1, 0, 0, 0), (1, .getfield 39, 3, 453, 0, 124), (4, .aload_n 0, 1, 0, 0, 0), (5, .getfield 29, 3, 451, 0, 108), (8, .invokevirtual 283, 3, 35, 0, 131), (11, .aload_n 0, 1, 0, 0, 0), (12, .getfield 29, 3, 451, 0, 108), (15, .iload_n 1, 1, 1, 0, 0), (16, .invokevirtual 70, 3, 47, 0, 137), (19, .aload_n 0, 1, 0, 0, 0), (20, .getfield 20, 3, 449, 0, 69), (23, .iload_n 1, 1, 1, 0, 0), (24, .invokevirtual 64, 3, 0, 0, 138), (27, .aload_n 0, 1, 0, 0, 0), (28, .getfield 20, 3, 449, 0, 69), (31, .getfield 146, 3, 1, 0, 86), (34, .ireturn, 1, 0, 0, 0)])
def mq_X9_setsSlot : mz_I := (yX9_setsSlot, cX9_setsSlot, 3, (some .int), false, 7, 2, 4, 109, [(0, .aload_n 0, 1, 0, 0, 0), (1, .getfield 39, 3, 453, 0, 124), (4, .aload_n 0, 1, 0, 0, 0), (5, .getfield 29, 3, 451, 0, 108), (8, .invokevirtual 283, 3, 35, 0, 131), (11, .aload_n 0, 1, 0, 0, 0), (12, .getfield 29, 3, 451, 0, 108), (15, .iload_n 1, 1, 1, 0, 0), (16, .aload_n 2, 1, 2, 0, 0), (17, .invokevirtual 305, 3, 49, 0, 139), (20, .aload_n 0, 1, 0, 0, 0), (21, .getfield 10, 3, 448, 0, 81), (24, .aload_n 2, 1, 2, 0, 0), (25, .invokevirtual 239, 3, 22, 0, 116), (28, .ireturn, 1, 0, 0, 0)])
def mq_X9_followsState : mz_I := (yX9_followsState, cX9_followsState, 1, none, false, 7, 0, 5, 116, [(0, .aload_n 0, 1, 0, 0, 0), (1, .getfield 20, 3, 449, 0, 69), (4, .getfield 307, 3, 0, 0, 140), (7, .aload_n 0, 1, 0, 0, 0), (8, .getfield 29, 3, 451, 0, 108), (11, .getfield 286, 3, 320, 0, 132), (14, .if_icmp .eq 17, 3, 31, 0, 0), (17, .aload_n 0, 1, 0, 0, 0), (18, .getfield 20, 3, 449, 0, 69), (21, .aload_n 0, 1, 0, 0, 0), (22, .getfield 29, 3, 451, 0, 108), (25, .getfield 286, 3, 320, 0, 132), (28, .invokevirtual 64, 3, 0, 0, 138), (31, .return_, 1, 0, 0, 0)])
def mq_X9_tellsLocated : mz_I := (yX9_tellsLocated, cX9_tellsLocated, 5, (some .int), false, 7, 1, 1, 24, [(0, .iconst 0, 1, 0, 0, 0), (1, .istore_n 2, 1, 2, 0, 0), (2, .aload_n 0, 1, 0, 0, 0), (3, .getfield 53, 3, 455, 0, 75), (6, .invokevirtual 120, 3, 44, 0, 76), (9, .iconst 0, 1, 0, 0, 0), (10, .istore_n 3, 1, 3, 0, 0), (11, .iload_n 3, 1, 3, 0, 0), (12, .aload_n 0, 1, 0, 0, 0), (13, .getfield 20, 3, 449, 0, 69), (16, .getfield 146, 3, 1, 0, 86), (19, .if_icmp .ge 39, 3, 58, 0, 0), (22, .aload_n 0, 1, 0, 0, 0), (23, .getfield 25, 3, 450, 0, 96), (26, .aload_n 1, 1, 1, 0, 0), (27, .iload_n 3, 1, 3, 0, 0), (28, .iaload, 1, 0, 0, 0), (29, .invokevirtual 226, 3, 21, 0, 112), (32, .istore 4, 2, 4, 0, 0), (34, .aload_n 0, 1, 0, 0, 0), (35, .getfield 53, 3, 455, 0, 75), (38, .iload 4, 2, 4, 0, 0), (40, .i2l, 1, 0, 0, 0), (41, .invokevirtual 124, 3, 45, 0, 78), (44, .iload_n 2, 1, 2, 0, 0), (45, .iload 4, 2, 4, 0, 0), (47, .invokestatic 210, 3, 252, 0, 107), (50, .iadd, 1, 0, 0, 0), (51, .istore_n 2, 1, 2, 0, 0), (52, .iinc 3 1, 3, 3, 1, 0), (55, .goto (-44), 3, 11, 0, 0), (58, .iload_n 2, 1, 2, 0, 0), (59, .ireturn, 1, 0, 0, 0)])
def mq_X9_normalSlots : mz_I := (yX9_normalSlots, cX9_normalSlots, 3, (some .int), false, 7, 0, 2, 45, [(0, .iconst 0, 1, 0, 0, 0), (1, .istore_n 1, 1, 1, 0, 0), (2, .iconst 0, 1, 0, 0, 0), (3, .istore_n 2, 1, 2, 0, 0), (4, .iload_n 2, 1, 2, 0, 0), (5, .iconst 4, 1, 0, 4, 0), (6, .if_icmp .ge 39, 3, 45, 0, 0), (9, .iload_n 1, 1, 1, 0, 0), (10, .aload_n 0, 1, 0, 0, 0), (11, .getfield 10, 3, 448, 0, 81), (14, .aload_n 0, 1, 0, 0, 0), (15, .getfield 29, 3, 451, 0, 108), (18, .getfield 215, 3, 321, 0, 109), (21, .iload_n 2, 1, 2, 0, 0), (22, .aaload, 1, 0, 0, 0), (23, .invokevirtual 236, 3, 25, 0, 115), (26, .iconst (-1), 1, 0, (-1), 0), (27, .if_icmp .ne 7, 3, 34, 0, 0), (30, .iconst 0, 1, 0, 0, 0), (31, .goto 6, 3, 37, 0, 0), (34, .iconst 1, 1, 0, 1, 0), (35, .iload_n 2, 1, 2, 0, 0), (36, .ishl, 1, 0, 0, 0), (37, .ior, 1, 0, 0, 0), (38, .istore_n 1, 1, 1, 0, 0), (39, .iinc 2 1, 3, 2, 1, 0), (42, .goto (-38), 3, 4, 0, 0), (45, .iload_n 1, 1, 1, 0, 0), (46, .ireturn, 1, 0, 0, 0)])
def mq_X9_plainSlots : mz_I := (yX9_plainSlots, cX9_plainSlots, 3, (some .int), false, 7, 0, 1, 23, [(0, .iconst 0, 1, 0, 0, 0), (1, .istore_n 1, 1, 1, 0, 0), (2, .iconst 0, 1, 0, 0, 0), (3, .istore_n 2, 1, 2, 0, 0), (4, .iload_n 2, 1, 2, 0, 0), (5, .iconst 4, 1, 0, 4, 0), (6, .if_icmp .ge 37, 3, 43, 0, 0), (9, .iload_n 1, 1, 1, 0, 0), (10, .aload_n 0, 1, 0, 0, 0), (11, .getfield 29, 3, 451, 0, 108), (14, .iload_n 2, 1, 2, 0, 0), (15, .aload_n 0, 1, 0, 0, 0), (16, .getfield 20, 3, 449, 0, 69), (19, .getfield 146, 3, 1, 0, 86), (22, .invokevirtual 308, 3, 51, 0, 141), (25, .ifCond .eq 9, 3, 34, 0, 0), (28, .iconst 1, 1, 0, 1, 0), (29, .iload_n 2, 1, 2, 0, 0), (30, .ishl, 1, 0, 0, 0), (31, .goto 4, 3, 35, 0, 0), (34, .iconst 0, 1, 0, 0, 0), (35, .ior, 1, 0, 0, 0), (36, .istore_n 1, 1, 1, 0, 0), (37, .iinc 2 1, 3, 2, 1, 0), (40, .goto (-36), 3, 4, 0, 0), (43, .iload_n 1, 1, 1, 0, 0), (44, .ireturn, 1, 0, 0, 0)])
def mq_X10_thrown : mz_I := (yX10_thrown, cX10_thrown, 1, (some .int), false, 8, 0, 0, 0, [(0, .aload_n 0, 1, 0, 0, 0), (1, .getfield 55, 3, 522, 0, 142), (4, .ireturn, 1, 0, 0, 0)])
def mq_X10_in : mz_I := (yX10_in, cX10_in, 6, (some .boolean), true, 8, 3, 0, 0, [(0, .lload_n 0, 1, 0, 0, 0), (1, .lload_n 2, 1, 2, 0, 0), (2, .lcmp, 1, 0, 0, 0), (3, .ifCond .lt 14, 3, 17, 0, 0), (6, .lload_n 0, 1, 0, 0, 0), (7, .lload 4, 2, 4, 0, 0), (9, .lcmp, 1, 0, 0, 0), (10, .ifCond .gt 7, 3, 17, 0, 0), (13, .iconst 1, 1, 0, 1, 0), (14, .goto 4, 3, 18, 0, 0), (17, .iconst 0, 1, 0, 0, 0), (18, .ireturn, 1, 0, 0, 0)])
def mq_X10_lost : mz_I := (yX10_lost, cX10_lost, 1, (some .int), false, 8, 0, 0, 0, [(0, .aload_n 0, 1, 0, 0, 0), (1, .iconst 1, 1, 0, 1, 0), (2, .putfield 55, 3, 522, 0, 142), (5, .iconst 0, 1, 0, 0, 0), (6, .ireturn, 1, 0, 0, 0)])
def mq_X10_tell : mz_I := (yX10_tell, cX10_tell, 3, none, false, 8, 1, 0, 0, [(0, .aload_n 0, 1, 0, 0, 0), (1, .getfield 26, 3, 520, 0, 143), (4, .aload_n 0, 1, 0, 0, 0), (5, .getfield 59, 3, 521, 0, 144), (8, .lload_n 1, 1, 1, 0, 0), (9, .lastore, 1, 0, 0, 0), (10, .aload_n 0, 1, 0, 0, 0), (11, .dup, 1, 0, 0, 0), (12, .getfield 59, 3, 521, 0, 144), (15, .iconst 1, 1, 0, 1, 0), (16, .iadd, 1, 0, 0, 0), (17, .putfield 59, 3, 521, 0, 144), (20, .return_, 1, 0, 0, 0)])
def mq_X10_bits : mz_I := (yX10_bits, cX10_bits, 3, (some .int), true, 8, 1, 0, 0, [(0, .iconst 0, 1, 0, 0, 0), (1, .istore_n 1, 1, 1, 0, 0), (2, .iload_n 0, 1, 0, 0, 0), (3, .istore_n 2, 1, 2, 0, 0), (4, .iload_n 2, 1, 2, 0, 0), (5, .ifCond .eq 15, 3, 20, 0, 0), (8, .iinc 1 1, 3, 1, 1, 0), (11, .iload_n 2, 1, 2, 0, 0), (12, .iload_n 2, 1, 2, 0, 0), (13, .iconst 1, 1, 0, 1, 0), (14, .isub, 1, 0, 0, 0), (15, .iand, 1, 0, 0, 0), (16, .istore_n 2, 1, 2, 0, 0), (17, .goto (-13), 3, 4, 0, 0), (20, .iload_n 1, 1, 1, 0, 0), (21, .ireturn, 1, 0, 0, 0)])
def mq_X10_sign : mz_I := (yX10_sign, cX10_sign, 3, (some .int), false, 8, 1, 0, 0, [(0, .aload_n 0, 1, 0, 0, 0), (1, .iconst 0, 1, 0, 0, 0), (2, .putfield 55, 3, 522, 0, 142), (5, .aload_n 0, 1, 0, 0, 0), (6, .getfield 62, 3, 519, 0, 145), (9, .iconst 4, 1, 0, 4, 0), (10, .iadd, 1, 0, 0, 0), (11, .bipush 100, 2, 0, 100, 0), (13, .if_icmp .le 5, 3, 18, 0, 0), (16, .iconst (-1), 1, 0, (-1), 0), (17, .ireturn, 1, 0, 0, 0), (18, .iconst 3, 1, 0, 3, 0), (19, .istore_n 2, 1, 2, 0, 0), (20, .iload_n 2, 1, 2, 0, 0), (21, .ifCond .lt 32, 3, 53, 0, 0), (24, .aload_n 0, 1, 0, 0, 0), (25, .getfield 22, 3, 518, 0, 146), (28, .aload_n 0, 1, 0, 0, 0), (29, .dup, 1, 0, 0, 0), (30, .getfield 62, 3, 519, 0, 145), (33, .dup_x1, 1, 0, 0, 0), (34, .iconst 1, 1, 0, 1, 0), (35, .iadd, 1, 0, 0, 0), (36, .putfield 62, 3, 519, 0, 145), (39, .iload_n 1, 1, 1, 0, 0), (40, .bipush 8, 2, 0, 8, 0), (42, .iload_n 2, 1, 2, 0, 0), (43, .imul, 1, 0, 0, 0), (44, .ishr, 1, 0, 0, 0), (45, .i2b, 1, 0, 0, 0), (46, .bastore, 1, 0, 0, 0), (47, .iinc 2 (-1), 3, 2, (-1), 0), (50, .goto (-30), 3, 20, 0, 0), (53, .aload_n 0, 1, 0, 0, 0), (54, .getfield 62, 3, 519, 0, 145), (57, .ireturn, 1, 0, 0, 0)])
def mq_X10_end : mz_I := (yX10_end, cX10_end, 2, (some .boolean), false, 8, 1, 1, 25, [(0, .aload_n 0, 1, 0, 0, 0), (1, .iconst 0, 1, 0, 0, 0), (2, .putfield 55, 3, 522, 0, 142), (5, .iload_n 1, 1, 1, 0, 0), (6, .i2l, 1, 0, 0, 0), (7, .lconst 0, 1, 0, 0, 0), (8, .aload_n 0, 1, 0, 0, 0), (9, .getfield 62, 3, 519, 0, 145), (12, .i2l, 1, 0, 0, 0), (13, .invokestatic 65, 3, 133, 0, 147), (16, .ifCond .ne 5, 3, 21, 0, 0), (19, .iconst 0, 1, 0, 0, 0), (20, .ireturn, 1, 0, 0, 0), (21, .aload_n 0, 1, 0, 0, 0), (22, .iload_n 1, 1, 1, 0, 0), (23, .putfield 62, 3, 519, 0, 145), (26, .iconst 1, 1, 0, 1, 0), (27, .ireturn, 1, 0, 0, 0)])
def mq_X10_degree : mz_I := (yX10_degree, cX10_degree, 3, (some .int), true, 8, 1, 0, 0, [(0, .iconst (-1), 1, 0, (-1), 0), (1, .istore_n 1, 1, 1, 0, 0), (2, .iload_n 0, 1, 0, 0, 0), (3, .istore_n 2, 1, 2, 0, 0), (4, .iload_n 2, 1, 2, 0, 0), (5, .ifCond .le 13, 3, 18, 0, 0), (8, .iinc 1 1, 3, 1, 1, 0), (11, .iload_n 2, 1, 2, 0, 0), (12, .iconst 1, 1, 0, 1, 0), (13, .ishr, 1, 0, 0, 0), (14, .istore_n 2, 1, 2, 0, 0), (15, .goto (-11), 3, 4, 0, 0), (18, .iload_n 1, 1, 1, 0, 0), (19, .ireturn, 1, 0, 0, 0)])
def mq_X10_modulo : mz_I := (yX10_modulo, cX10_modulo, 5, (some .int), true, 8, 2, 1, 22, [(0, .iload_n 0, 1, 0, 0, 0), (1, .istore_n 2, 1, 2, 0, 0), (2, .iload_n 1, 1, 1, 0, 0), (3, .invokestatic 69, 3, 139, 0, 148), (6, .istore_n 3, 1, 3, 0, 0), (7, .iload_n 2, 1, 2, 0, 0), (8, .invokestatic 69, 3, 139, 0, 148), (11, .istore 4, 2, 4, 0, 0), (13, .iload 4, 2, 4, 0, 0), (15, .iload_n 3, 1, 3, 0, 0), (16, .if_icmp .lt 21, 3, 37, 0, 0), (19, .iload_n 2, 1, 2, 0, 0), (20, .iload_n 1, 1, 1, 0, 0), (21, .iload 4, 2, 4, 0, 0), (23, .iload_n 3, 1, 3, 0, 0), (24, .isub, 1, 0, 0, 0), (25, .ishl, 1, 0, 0, 0), (26, .ixor, 1, 0, 0, 0), (27, .istore_n 2, 1, 2, 0, 0), (28, .iload_n 2, 1, 2, 0, 0), (29, .invokestatic 69, 3, 139, 0, 148), (32, .istore 4, 2, 4, 0, 0), (34, .goto (-21), 3, 13, 0, 0), (37, .iload_n 2, 1, 2, 0, 0), (38, .ireturn, 1, 0, 0, 0)])
def mq_X10_timesPoly : mz_I := (yX10_timesPoly, cX10_timesPoly, 4, (some .int), true, 8, 2, 0, 0, [(0, .iconst 0, 1, 0, 0, 0), (1, .istore_n 2, 1, 2, 0, 0), (2, .iconst 0, 1, 0, 0, 0), (3, .istore_n 3, 1, 3, 0, 0), (4, .iload_n 3, 1, 3, 0, 0), (5, .bipush 16, 2, 0, 16, 0), (7, .if_icmp .ge 28, 3, 35, 0, 0), (10, .iload_n 2, 1, 2, 0, 0), (11, .iload_n 1, 1, 1, 0, 0), (12, .iload_n 3, 1, 3, 0, 0), (13, .ishr, 1, 0, 0, 0), (14, .iconst 1, 1, 0, 1, 0), (15, .iand, 1, 0, 0, 0), (16, .iconst 1, 1, 0, 1, 0), (17, .if_icmp .ne 9, 3, 26, 0, 0), (20, .iload_n 0, 1, 0, 0, 0), (21, .iload_n 3, 1, 3, 0, 0), (22, .ishl, 1, 0, 0, 0), (23, .goto 4, 3, 27, 0, 0), (26, .iconst 0, 1, 0, 0, 0), (27, .ixor, 1, 0, 0, 0), (28, .istore_n 2, 1, 2, 0, 0), (29, .iinc 3 1, 3, 3, 1, 0), (32, .goto (-28), 3, 4, 0, 0), (35, .iload_n 2, 1, 2, 0, 0), (36, .ireturn, 1, 0, 0, 0)])
def mq_X10_quotient : mz_I := (yX10_quotient, cX10_quotient, 6, (some .int), true, 8, 2, 1, 22, [(0, .iload_n 0, 1, 0, 0, 0), (1, .istore_n 2, 1, 2, 0, 0), (2, .iconst 0, 1, 0, 0, 0), (3, .istore_n 3, 1, 3, 0, 0), (4, .iload_n 1, 1, 1, 0, 0), (5, .invokestatic 69, 3, 139, 0, 148), (8, .istore 4, 2, 4, 0, 0), (10, .iload_n 2, 1, 2, 0, 0), (11, .invokestatic 69, 3, 139, 0, 148), (14, .istore 5, 2, 5, 0, 0), (16, .iload 5, 2, 5, 0, 0), (18, .iload 4, 2, 4, 0, 0), (20, .if_icmp .lt 32, 3, 52, 0, 0), (23, .iload_n 2, 1, 2, 0, 0), (24, .iload_n 1, 1, 1, 0, 0), (25, .iload 5, 2, 5, 0, 0), (27, .iload 4, 2, 4, 0, 0), (29, .isub, 1, 0, 0, 0), (30, .ishl, 1, 0, 0, 0), (31, .ixor, 1, 0, 0, 0), (32, .istore_n 2, 1, 2, 0, 0), (33, .iload_n 3, 1, 3, 0, 0), (34, .iconst 1, 1, 0, 1, 0), (35, .iload 5, 2, 5, 0, 0), (37, .iload 4, 2, 4, 0, 0), (39, .isub, 1, 0, 0, 0), (40, .ishl, 1, 0, 0, 0), (41, .ior, 1, 0, 0, 0), (42, .istore_n 3, 1, 3, 0, 0), (43, .iload_n 2, 1, 2, 0, 0), (44, .invokestatic 69, 3, 139, 0, 148), (47, .istore 5, 2, 5, 0, 0), (49, .goto (-33), 3, 16, 0, 0), (52, .iload_n 3, 1, 3, 0, 0), (53, .ireturn, 1, 0, 0, 0)])
def mq_X10_leastFactor : mz_I := (yX10_leastFactor, cX10_leastFactor, 2, (some .int), true, 8, 1, 2, 46, [(0, .iconst 2, 1, 0, 2, 0), (1, .istore_n 1, 1, 1, 0, 0), (2, .iload_n 1, 1, 1, 0, 0), (3, .iload_n 0, 1, 0, 0, 0), (4, .if_icmp .ge 19, 3, 23, 0, 0), (7, .iload_n 0, 1, 0, 0, 0), (8, .iload_n 1, 1, 1, 0, 0), (9, .invokestatic 73, 3, 140, 0, 149), (12, .ifCond .ne 5, 3, 17, 0, 0), (15, .iload_n 1, 1, 1, 0, 0), (16, .ireturn, 1, 0, 0, 0), (17, .iinc 1 1, 3, 1, 1, 0), (20, .goto (-18), 3, 2, 0, 0), (23, .iload_n 0, 1, 0, 0, 0), (24, .ireturn, 1, 0, 0, 0)])
def mq_X10_isIrreducible : mz_I := (yX10_isIrreducible, cX10_isIrreducible, 1, (some .boolean), true, 8, 1, 3, 67, [(0, .iload_n 0, 1, 0, 0, 0), (1, .iconst 1, 1, 0, 1, 0), (2, .if_icmp .le 15, 3, 17, 0, 0), (5, .iload_n 0, 1, 0, 0, 0), (6, .invokestatic 77, 3, 143, 0, 150), (9, .iload_n 0, 1, 0, 0, 0), (10, .if_icmp .ne 7, 3, 17, 0, 0), (13, .iconst 1, 1, 0, 1, 0), (14, .goto 4, 3, 18, 0, 0), (17, .iconst 0, 1, 0, 0, 0), (18, .ireturn, 1, 0, 0, 0)])
def mq_X10_lays : mz_I := (yX10_lays, cX10_lays, 1, none, false, 8, 0, 1, 22, [(0, .aload_n 0, 1, 0, 0, 0), (1, .aload_n 0, 1, 0, 0, 0), (2, .getfield 7, 3, 512, 0, 151), (5, .iconst 0, 1, 0, 0, 0), (6, .iaload, 1, 0, 0, 0), (7, .invokestatic 69, 3, 139, 0, 148), (10, .putfield 80, 3, 523, 0, 152), (13, .aload_n 0, 1, 0, 0, 0), (14, .iconst 1, 1, 0, 1, 0), (15, .aload_n 0, 1, 0, 0, 0), (16, .getfield 80, 3, 523, 0, 152), (19, .ishl, 1, 0, 0, 0), (20, .putfield 83, 3, 524, 0, 153), (23, .return_, 1, 0, 0, 0)])
def mq_X10_fields : mz_I := (yX10_fields, cX10_fields, 4, none, false, 8, 1, 2, 42, [(0, .aload_n 0, 1, 0, 0, 0), (1, .getfield 7, 3, 512, 0, 151), (4, .iconst 0, 1, 0, 0, 0), (5, .iload_n 1, 1, 1, 0, 0), (6, .iastore, 1, 0, 0, 0), (7, .iconst 0, 1, 0, 0, 0), (8, .istore_n 2, 1, 2, 0, 0), (9, .iload_n 2, 1, 2, 0, 0), (10, .iconst 4, 1, 0, 4, 0), (11, .if_icmp .ge 51, 3, 62, 0, 0), (14, .iconst 0, 1, 0, 0, 0), (15, .istore_n 3, 1, 3, 0, 0), (16, .iload_n 3, 1, 3, 0, 0), (17, .bipush 8, 2, 0, 8, 0), (19, .if_icmp .ge 37, 3, 56, 0, 0), (22, .aload_n 0, 1, 0, 0, 0), (23, .getfield 7, 3, 512, 0, 151), (26, .iconst 1, 1, 0, 1, 0), (27, .bipush 8, 2, 0, 8, 0), (29, .iload_n 2, 1, 2, 0, 0), (30, .imul, 1, 0, 0, 0), (31, .iadd, 1, 0, 0, 0), (32, .iload_n 3, 1, 3, 0, 0), (33, .iadd, 1, 0, 0, 0), (34, .iload_n 3, 1, 3, 0, 0), (35, .iload_n 1, 1, 1, 0, 0), (36, .invokestatic 69, 3, 139, 0, 148), (39, .if_icmp .ge 9, 3, 48, 0, 0), (42, .iconst 1, 1, 0, 1, 0), (43, .iload_n 3, 1, 3, 0, 0), (44, .ishl, 1, 0, 0, 0), (45, .goto 4, 3, 49, 0, 0), (48, .iconst 0, 1, 0, 0, 0), (49, .iastore, 1, 0, 0, 0), (50, .iinc 3 1, 3, 3, 1, 0), (53, .goto (-37), 3, 16, 0, 0), (56, .iinc 2 1, 3, 2, 1, 0), (59, .goto (-50), 3, 9, 0, 0), (62, .aload_n 0, 1, 0, 0, 0), (63, .invokevirtual 86, 3, 145, 0, 154), (66, .return_, 1, 0, 0, 0)])
def mq_X10_times : mz_I := (yX10_times, cX10_times, 3, (some .int), false, 8, 2, 2, 46, [(0, .iload_n 1, 1, 1, 0, 0), (1, .iload_n 2, 1, 2, 0, 0), (2, .invokestatic 89, 3, 141, 0, 155), (5, .aload_n 0, 1, 0, 0, 0), (6, .getfield 7, 3, 512, 0, 151), (9, .iconst 0, 1, 0, 0, 0), (10, .iaload, 1, 0, 0, 0), (11, .invokestatic 73, 3, 140, 0, 149), (14, .ireturn, 1, 0, 0, 0)])
def mq_X10_conj : mz_I := (yX10_conj, cX10_conj, 5, (some .int), false, 8, 2, 3, 68, [(0, .iload_n 1, 1, 1, 0, 0), (1, .istore_n 3, 1, 3, 0, 0), (2, .iconst 0, 1, 0, 0, 0), (3, .istore 4, 2, 4, 0, 0), (5, .iload 4, 2, 4, 0, 0), (7, .iload_n 2, 1, 2, 0, 0), (8, .if_icmp .ge 16, 3, 24, 0, 0), (11, .aload_n 0, 1, 0, 0, 0), (12, .iload_n 3, 1, 3, 0, 0), (13, .iload_n 3, 1, 3, 0, 0), (14, .invokevirtual 92, 3, 147, 0, 156), (17, .istore_n 3, 1, 3, 0, 0), (18, .iinc 4 1, 3, 4, 1, 0), (21, .goto (-16), 3, 5, 0, 0), (24, .iload_n 3, 1, 3, 0, 0), (25, .ireturn, 1, 0, 0, 0)])
def mq_X10_powered : mz_I := (yX10_powered, cX10_powered, 6, (some .int), false, 8, 2, 3, 68, [(0, .iconst 1, 1, 0, 1, 0), (1, .istore_n 3, 1, 3, 0, 0), (2, .iload_n 1, 1, 1, 0, 0), (3, .istore 4, 2, 4, 0, 0), (5, .iload_n 2, 1, 2, 0, 0), (6, .istore 5, 2, 5, 0, 0), (8, .iload 5, 2, 5, 0, 0), (10, .ifCond .le 42, 3, 52, 0, 0), (13, .iload 5, 2, 5, 0, 0), (15, .iconst 1, 1, 0, 1, 0), (16, .iand, 1, 0, 0, 0), (17, .iconst 1, 1, 0, 1, 0), (18, .if_icmp .ne 13, 3, 31, 0, 0), (21, .aload_n 0, 1, 0, 0, 0), (22, .iload_n 3, 1, 3, 0, 0), (23, .iload 4, 2, 4, 0, 0), (25, .invokevirtual 92, 3, 147, 0, 156), (28, .goto 4, 3, 32, 0, 0), (31, .iload_n 3, 1, 3, 0, 0), (32, .istore_n 3, 1, 3, 0, 0), (33, .aload_n 0, 1, 0, 0, 0), (34, .iload 4, 2, 4, 0, 0), (36, .iload 4, 2, 4, 0, 0), (38, .invokevirtual 92, 3, 147, 0, 156), (41, .istore 4, 2, 4, 0, 0), (43, .iload 5, 2, 5, 0, 0), (45, .iconst 1, 1, 0, 1, 0), (46, .ishr, 1, 0, 0, 0), (47, .istore 5, 2, 5, 0, 0), (49, .goto (-41), 3, 8, 0, 0), (52, .iload_n 3, 1, 3, 0, 0), (53, .ireturn, 1, 0, 0, 0)])
def mq_X10_inverseOf : mz_I := (yX10_inverseOf, cX10_inverseOf, 2, (some .int), false, 8, 1, 4, 93, [(0, .aload_n 0, 1, 0, 0, 0), (1, .iload_n 1, 1, 1, 0, 0), (2, .aload_n 0, 1, 0, 0, 0), (3, .getfield 83, 3, 524, 0, 153), (6, .iconst 2, 1, 0, 2, 0), (7, .isub, 1, 0, 0, 0), (8, .invokevirtual 95, 3, 149, 0, 157), (11, .ireturn, 1, 0, 0, 0)])
def mq_X10_sizeOf : mz_I := (yX10_sizeOf, cX10_sizeOf, 3, (some .int), false, 8, 1, 4, 92, [(0, .iconst 1, 1, 0, 1, 0), (1, .istore_n 2, 1, 2, 0, 0), (2, .aload_n 0, 1, 0, 0, 0), (3, .iload_n 1, 1, 1, 0, 0), (4, .iload_n 2, 1, 2, 0, 0), (5, .invokevirtual 98, 3, 148, 0, 158), (8, .iload_n 1, 1, 1, 0, 0), (9, .if_icmp .eq 9, 3, 18, 0, 0), (12, .iinc 2 1, 3, 2, 1, 0), (15, .goto (-13), 3, 2, 0, 0), (18, .iload_n 2, 1, 2, 0, 0), (19, .ireturn, 1, 0, 0, 0)])
def mq_X10_orderOf : mz_I := (yX10_orderOf, cX10_orderOf, 4, (some .int), false, 8, 1, 3, 68, [(0, .iconst 1, 1, 0, 1, 0), (1, .istore_n 2, 1, 2, 0, 0), (2, .iload_n 1, 1, 1, 0, 0), (3, .istore_n 3, 1, 3, 0, 0), (4, .iload_n 3, 1, 3, 0, 0), (5, .iconst 1, 1, 0, 1, 0), (6, .if_icmp .eq 16, 3, 22, 0, 0), (9, .iinc 2 1, 3, 2, 1, 0), (12, .aload_n 0, 1, 0, 0, 0), (13, .iload_n 3, 1, 3, 0, 0), (14, .iload_n 1, 1, 1, 0, 0), (15, .invokevirtual 92, 3, 147, 0, 156), (18, .istore_n 3, 1, 3, 0, 0), (19, .goto (-15), 3, 4, 0, 0), (22, .iload_n 2, 1, 2, 0, 0), (23, .ireturn, 1, 0, 0, 0)])
def mq_X10_isGenerator : mz_I := (yX10_isGenerator, cX10_isGenerator, 2, (some .boolean), false, 8, 1, 4, 91, [(0, .iload_n 1, 1, 1, 0, 0), (1, .ifCond .le 21, 3, 22, 0, 0), (4, .aload_n 0, 1, 0, 0, 0), (5, .iload_n 1, 1, 1, 0, 0), (6, .invokevirtual 101, 3, 152, 0, 159), (9, .aload_n 0, 1, 0, 0, 0), (10, .getfield 83, 3, 524, 0, 153), (13, .iconst 1, 1, 0, 1, 0), (14, .isub, 1, 0, 0, 0), (15, .if_icmp .ne 7, 3, 22, 0, 0), (18, .iconst 1, 1, 0, 1, 0), (19, .goto 4, 3, 23, 0, 0), (22, .iconst 0, 1, 0, 0, 0), (23, .ireturn, 1, 0, 0, 0)])
def mq_X10_traceTo : mz_I := (yX10_traceTo, cX10_traceTo, 5, (some .int), false, 8, 2, 4, 92, [(0, .iconst 0, 1, 0, 0, 0), (1, .istore_n 3, 1, 3, 0, 0), (2, .iconst 0, 1, 0, 0, 0), (3, .istore 4, 2, 4, 0, 0), (5, .iload 4, 2, 4, 0, 0), (7, .aload_n 0, 1, 0, 0, 0), (8, .getfield 80, 3, 523, 0, 152), (11, .if_icmp .ge 22, 3, 33, 0, 0), (14, .iload_n 3, 1, 3, 0, 0), (15, .aload_n 0, 1, 0, 0, 0), (16, .iload_n 1, 1, 1, 0, 0), (17, .iload 4, 2, 4, 0, 0), (19, .invokevirtual 98, 3, 148, 0, 158), (22, .ixor, 1, 0, 0, 0), (23, .istore_n 3, 1, 3, 0, 0), (24, .iload 4, 2, 4, 0, 0), (26, .iload_n 2, 1, 2, 0, 0), (27, .iadd, 1, 0, 0, 0), (28, .istore 4, 2, 4, 0, 0), (30, .goto (-25), 3, 5, 0, 0), (33, .iload_n 3, 1, 3, 0, 0), (34, .ireturn, 1, 0, 0, 0)])
def mq_X10_normTo : mz_I := (yX10_normTo, cX10_normTo, 5, (some .int), false, 8, 2, 4, 92, [(0, .iconst 1, 1, 0, 1, 0), (1, .istore_n 3, 1, 3, 0, 0), (2, .iconst 0, 1, 0, 0, 0), (3, .istore 4, 2, 4, 0, 0), (5, .iload 4, 2, 4, 0, 0), (7, .aload_n 0, 1, 0, 0, 0), (8, .getfield 80, 3, 523, 0, 152), (11, .if_icmp .ge 25, 3, 36, 0, 0), (14, .aload_n 0, 1, 0, 0, 0), (15, .iload_n 3, 1, 3, 0, 0), (16, .aload_n 0, 1, 0, 0, 0), (17, .iload_n 1, 1, 1, 0, 0), (18, .iload 4, 2, 4, 0, 0), (20, .invokevirtual 98, 3, 148, 0, 158), (23, .invokevirtual 92, 3, 147, 0, 156), (26, .istore_n 3, 1, 3, 0, 0), (27, .iload 4, 2, 4, 0, 0), (29, .iload_n 2, 1, 2, 0, 0), (30, .iadd, 1, 0, 0, 0), (31, .istore 4, 2, 4, 0, 0), (33, .goto (-28), 3, 5, 0, 0), (36, .iload_n 3, 1, 3, 0, 0), (37, .ireturn, 1, 0, 0, 0)])
def mq_X10_isElement : mz_I := (yX10_isElement, cX10_isElement, 2, (some .boolean), false, 8, 1, 1, 25, [(0, .iload_n 1, 1, 1, 0, 0), (1, .i2l, 1, 0, 0, 0), (2, .lconst 0, 1, 0, 0, 0), (3, .aload_n 0, 1, 0, 0, 0), (4, .getfield 83, 3, 524, 0, 153), (7, .iconst 1, 1, 0, 1, 0), (8, .isub, 1, 0, 0, 0), (9, .i2l, 1, 0, 0, 0), (10, .invokestatic 65, 3, 133, 0, 147), (13, .ireturn, 1, 0, 0, 0)])
def mq_X10_isPart : mz_I := (yX10_isPart, cX10_isPart, 2, (some .boolean), false, 8, 1, 0, 0, [(0, .iload_n 1, 1, 1, 0, 0), (1, .ifCond .le 24, 3, 25, 0, 0), (4, .iload_n 1, 1, 1, 0, 0), (5, .aload_n 0, 1, 0, 0, 0), (6, .getfield 80, 3, 523, 0, 152), (9, .if_icmp .gt 16, 3, 25, 0, 0), (12, .aload_n 0, 1, 0, 0, 0), (13, .getfield 80, 3, 523, 0, 152), (16, .iload_n 1, 1, 1, 0, 0), (17, .irem, 1, 0, 0, 0), (18, .ifCond .ne 7, 3, 25, 0, 0), (21, .iconst 1, 1, 0, 1, 0), (22, .goto 4, 3, 26, 0, 0), (25, .iconst 0, 1, 0, 0, 0), (26, .ireturn, 1, 0, 0, 0)])
def mq_X10_isSlot : mz_I := (yX10_isSlot, cX10_isSlot, 1, (some .boolean), true, 8, 1, 1, 25, [(0, .iload_n 0, 1, 0, 0, 0), (1, .i2l, 1, 0, 0, 0), (2, .lconst 0, 1, 0, 0, 0), (3, .ldc2_w 104, 3, 0, 3, 160), (6, .invokestatic 65, 3, 133, 0, 147), (9, .ireturn, 1, 0, 0, 0)])
def mq_X10_isPlace : mz_I := (yX10_isPlace, cX10_isPlace, 2, (some .boolean), false, 8, 1, 1, 25, [(0, .iload_n 1, 1, 1, 0, 0), (1, .i2l, 1, 0, 0, 0), (2, .lconst 0, 1, 0, 0, 0), (3, .aload_n 0, 1, 0, 0, 0), (4, .getfield 80, 3, 523, 0, 152), (7, .iconst 1, 1, 0, 1, 0), (8, .isub, 1, 0, 0, 0), (9, .i2l, 1, 0, 0, 0), (10, .invokestatic 65, 3, 133, 0, 147), (13, .ireturn, 1, 0, 0, 0)])
def mq_X10_rank : mz_I := (yX10_rank, cX10_rank, 6, (some .int), false, 8, 1, 1, 21, [(0, .iconst 0, 1, 0, 0, 0), (1, .istore_n 2, 1, 2, 0, 0), (2, .iconst 0, 1, 0, 0, 0), (3, .istore_n 3, 1, 3, 0, 0), (4, .iload_n 3, 1, 3, 0, 0), (5, .iload_n 1, 1, 1, 0, 0), (6, .if_icmp .ge 68, 3, 74, 0, 0), (9, .aload_n 0, 1, 0, 0, 0), (10, .getfield 30, 3, 525, 0, 161), (13, .iload_n 3, 1, 3, 0, 0), (14, .iaload, 1, 0, 0, 0), (15, .istore 4, 2, 4, 0, 0), (17, .iconst 0, 1, 0, 0, 0), (18, .istore 5, 2, 5, 0, 0), (20, .iload 5, 2, 5, 0, 0), (22, .iload_n 2, 1, 2, 0, 0), (23, .if_icmp .ge 26, 3, 49, 0, 0), (26, .iload 4, 2, 4, 0, 0), (28, .iload 4, 2, 4, 0, 0), (30, .aload_n 0, 1, 0, 0, 0), (31, .getfield 33, 3, 526, 0, 162), (34, .iload 5, 2, 5, 0, 0), (36, .iaload, 1, 0, 0, 0), (37, .ixor, 1, 0, 0, 0), (38, .invokestatic 106, 3, 253, 0, 163), (41, .istore 4, 2, 4, 0, 0), (43, .iinc 5 1, 3, 5, 1, 0), (46, .goto (-26), 3, 20, 0, 0), (49, .iload 4, 2, 4, 0, 0), (51, .ifCond .ne 6, 3, 57, 0, 0), (54, .goto 14, 3, 68, 0, 0), (57, .aload_n 0, 1, 0, 0, 0), (58, .getfield 33, 3, 526, 0, 162), (61, .iload_n 2, 1, 2, 0, 0), (62, .iload 4, 2, 4, 0, 0), (64, .iastore, 1, 0, 0, 0), (65, .iinc 2 1, 3, 2, 1, 0), (68, .iinc 3 1, 3, 3, 1, 0), (71, .goto (-67), 3, 4, 0, 0), (74, .iload_n 2, 1, 2, 0, 0), (75, .ireturn, 1, 0, 0, 0)])
def mq_X10_takesConjugates : mz_I := (yX10_takesConjugates, cX10_takesConjugates, 3, none, false, 8, 1, 4, 92, [(0, .iconst 0, 1, 0, 0, 0), (1, .istore_n 2, 1, 2, 0, 0), (2, .iload_n 2, 1, 2, 0, 0), (3, .aload_n 0, 1, 0, 0, 0), (4, .getfield 80, 3, 523, 0, 152), (7, .if_icmp .ge 21, 3, 28, 0, 0), (10, .aload_n 0, 1, 0, 0, 0), (11, .getfield 30, 3, 525, 0, 161), (14, .iload_n 2, 1, 2, 0, 0), (15, .aload_n 0, 1, 0, 0, 0), (16, .iload_n 1, 1, 1, 0, 0), (17, .iload_n 2, 1, 2, 0, 0), (18, .invokevirtual 98, 3, 148, 0, 158), (21, .iastore, 1, 0, 0, 0), (22, .iinc 2 1, 3, 2, 1, 0), (25, .goto (-23), 3, 2, 0, 0), (28, .return_, 1, 0, 0, 0)])
def mq_X10_isNormal : mz_I := (yX10_isNormal, cX10_isNormal, 2, (some .boolean), false, 8, 1, 5, 114, [(0, .aload_n 0, 1, 0, 0, 0), (1, .iload_n 1, 1, 1, 0, 0), (2, .invokevirtual 111, 3, 161, 0, 164), (5, .aload_n 0, 1, 0, 0, 0), (6, .aload_n 0, 1, 0, 0, 0), (7, .getfield 80, 3, 523, 0, 152), (10, .invokevirtual 114, 3, 160, 0, 165), (13, .aload_n 0, 1, 0, 0, 0), (14, .getfield 80, 3, 523, 0, 152), (17, .if_icmp .ne 7, 3, 24, 0, 0), (20, .iconst 1, 1, 0, 1, 0), (21, .goto 4, 3, 25, 0, 0), (24, .iconst 0, 1, 0, 0, 0), (25, .ireturn, 1, 0, 0, 0)])
def mq_X10_takesSubbase : mz_I := (yX10_takesSubbase, cX10_takesSubbase, 5, none, false, 8, 1, 4, 92, [(0, .iconst 0, 1, 0, 0, 0), (1, .istore_n 2, 1, 2, 0, 0), (2, .iconst 1, 1, 0, 1, 0), (3, .istore_n 3, 1, 3, 0, 0), (4, .iload_n 3, 1, 3, 0, 0), (5, .aload_n 0, 1, 0, 0, 0), (6, .getfield 83, 3, 524, 0, 153), (9, .if_icmp .ge 87, 3, 96, 0, 0), (12, .iload_n 2, 1, 2, 0, 0), (13, .iload_n 1, 1, 1, 0, 0), (14, .if_icmp .ge 82, 3, 96, 0, 0), (17, .aload_n 0, 1, 0, 0, 0), (18, .iload_n 3, 1, 3, 0, 0), (19, .iload_n 1, 1, 1, 0, 0), (20, .invokevirtual 98, 3, 148, 0, 158), (23, .iload_n 3, 1, 3, 0, 0), (24, .if_icmp .eq 6, 3, 30, 0, 0), (27, .goto 63, 3, 90, 0, 0), (30, .iconst 0, 1, 0, 0, 0), (31, .istore 4, 2, 4, 0, 0), (33, .iload 4, 2, 4, 0, 0), (35, .iload_n 2, 1, 2, 0, 0), (36, .if_icmp .ge 23, 3, 59, 0, 0), (39, .aload_n 0, 1, 0, 0, 0), (40, .getfield 30, 3, 525, 0, 161), (43, .iload 4, 2, 4, 0, 0), (45, .aload_n 0, 1, 0, 0, 0), (46, .getfield 36, 3, 527, 0, 166), (49, .iload 4, 2, 4, 0, 0), (51, .iaload, 1, 0, 0, 0), (52, .iastore, 1, 0, 0, 0), (53, .iinc 4 1, 3, 4, 1, 0), (56, .goto (-23), 3, 33, 0, 0), (59, .aload_n 0, 1, 0, 0, 0), (60, .getfield 30, 3, 525, 0, 161), (63, .iload_n 2, 1, 2, 0, 0), (64, .iload_n 3, 1, 3, 0, 0), (65, .iastore, 1, 0, 0, 0), (66, .aload_n 0, 1, 0, 0, 0), (67, .iload_n 2, 1, 2, 0, 0), (68, .iconst 1, 1, 0, 1, 0), (69, .iadd, 1, 0, 0, 0), (70, .invokevirtual 114, 3, 160, 0, 165), (73, .iload_n 2, 1, 2, 0, 0), (74, .if_icmp .gt 6, 3, 80, 0, 0), (77, .goto 13, 3, 90, 0, 0), (80, .aload_n 0, 1, 0, 0, 0), (81, .getfield 36, 3, 527, 0, 166), (84, .iload_n 2, 1, 2, 0, 0), (85, .iload_n 3, 1, 3, 0, 0), (86, .iastore, 1, 0, 0, 0), (87, .iinc 2 1, 3, 2, 1, 0), (90, .iinc 3 1, 3, 3, 1, 0), (93, .goto (-89), 3, 4, 0, 0), (96, .return_, 1, 0, 0, 0)])
def mq_X10_isNormalOver : mz_I := (yX10_isNormalOver, cX10_isNormalOver, 6, (some .boolean), false, 8, 2, 5, 116, [(0, .aload_n 0, 1, 0, 0, 0), (1, .iload_n 2, 1, 2, 0, 0), (2, .invokevirtual 117, 3, 163, 0, 167), (5, .iconst 0, 1, 0, 0, 0), (6, .istore_n 3, 1, 3, 0, 0), (7, .iconst 0, 1, 0, 0, 0), (8, .istore 4, 2, 4, 0, 0), (10, .iload 4, 2, 4, 0, 0), (12, .aload_n 0, 1, 0, 0, 0), (13, .getfield 80, 3, 523, 0, 152), (16, .if_icmp .ge 54, 3, 70, 0, 0), (19, .iconst 0, 1, 0, 0, 0), (20, .istore 5, 2, 5, 0, 0), (22, .iload 5, 2, 5, 0, 0), (24, .iload_n 2, 1, 2, 0, 0), (25, .if_icmp .ge 36, 3, 61, 0, 0), (28, .aload_n 0, 1, 0, 0, 0), (29, .getfield 30, 3, 525, 0, 161), (32, .iload_n 3, 1, 3, 0, 0), (33, .aload_n 0, 1, 0, 0, 0), (34, .aload_n 0, 1, 0, 0, 0), (35, .getfield 36, 3, 527, 0, 166), (38, .iload 5, 2, 5, 0, 0), (40, .iaload, 1, 0, 0, 0), (41, .aload_n 0, 1, 0, 0, 0), (42, .iload_n 1, 1, 1, 0, 0), (43, .iload 4, 2, 4, 0, 0), (45, .invokevirtual 98, 3, 148, 0, 158), (48, .invokevirtual 92, 3, 147, 0, 156), (51, .iastore, 1, 0, 0, 0), (52, .iinc 3 1, 3, 3, 1, 0), (55, .iinc 5 1, 3, 5, 1, 0), (58, .goto (-36), 3, 22, 0, 0), (61, .iload 4, 2, 4, 0, 0), (63, .iload_n 2, 1, 2, 0, 0), (64, .iadd, 1, 0, 0, 0), (65, .istore 4, 2, 4, 0, 0), (67, .goto (-57), 3, 10, 0, 0), (70, .aload_n 0, 1, 0, 0, 0), (71, .aload_n 0, 1, 0, 0, 0), (72, .getfield 80, 3, 523, 0, 152), (75, .invokevirtual 114, 3, 160, 0, 165), (78, .aload_n 0, 1, 0, 0, 0), (79, .getfield 80, 3, 523, 0, 152), (82, .if_icmp .ne 7, 3, 89, 0, 0), (85, .iconst 1, 1, 0, 1, 0), (86, .goto 4, 3, 90, 0, 0), (89, .iconst 0, 1, 0, 0, 0), (90, .ireturn, 1, 0, 0, 0)])
def mq_X10_madeOf : mz_I := (yX10_madeOf, cX10_madeOf, 4, (some .int), false, 8, 1, 0, 0, [(0, .iconst 0, 1, 0, 0, 0), (1, .istore_n 2, 1, 2, 0, 0), (2, .iconst 0, 1, 0, 0, 0), (3, .istore_n 3, 1, 3, 0, 0), (4, .iload_n 3, 1, 3, 0, 0), (5, .aload_n 0, 1, 0, 0, 0), (6, .getfield 80, 3, 523, 0, 152), (9, .if_icmp .ge 31, 3, 40, 0, 0), (12, .iload_n 2, 1, 2, 0, 0), (13, .iload_n 1, 1, 1, 0, 0), (14, .iload_n 3, 1, 3, 0, 0), (15, .ishr, 1, 0, 0, 0), (16, .iconst 1, 1, 0, 1, 0), (17, .iand, 1, 0, 0, 0), (18, .iconst 1, 1, 0, 1, 0), (19, .if_icmp .ne 12, 3, 31, 0, 0), (22, .aload_n 0, 1, 0, 0, 0), (23, .getfield 39, 3, 528, 0, 168), (26, .iload_n 3, 1, 3, 0, 0), (27, .iaload, 1, 0, 0, 0), (28, .goto 4, 3, 32, 0, 0), (31, .iconst 0, 1, 0, 0, 0), (32, .ixor, 1, 0, 0, 0), (33, .istore_n 2, 1, 2, 0, 0), (34, .iinc 3 1, 3, 3, 1, 0), (37, .goto (-33), 3, 4, 0, 0), (40, .iload_n 2, 1, 2, 0, 0), (41, .ireturn, 1, 0, 0, 0)])
def mq_X10_laysCoordinates : mz_I := (yX10_laysCoordinates, cX10_laysCoordinates, 2, none, false, 8, 0, 1, 23, [(0, .iconst 0, 1, 0, 0, 0), (1, .istore_n 1, 1, 1, 0, 0), (2, .iload_n 1, 1, 1, 0, 0), (3, .aload_n 0, 1, 0, 0, 0), (4, .getfield 83, 3, 524, 0, 153), (7, .if_icmp .ge 20, 3, 27, 0, 0), (10, .aload_n 0, 1, 0, 0, 0), (11, .getfield 42, 3, 529, 0, 169), (14, .aload_n 0, 1, 0, 0, 0), (15, .iload_n 1, 1, 1, 0, 0), (16, .invokevirtual 120, 3, 165, 0, 170), (19, .iload_n 1, 1, 1, 0, 0), (20, .iastore, 1, 0, 0, 0), (21, .iinc 1 1, 3, 1, 1, 0), (24, .goto (-22), 3, 2, 0, 0), (27, .return_, 1, 0, 0, 0)])
def mq_X10_baseAt : mz_I := (yX10_baseAt, cX10_baseAt, 3, (some .int), false, 8, 2, 0, 0, [(0, .aload_n 0, 1, 0, 0, 0), (1, .getfield 7, 3, 512, 0, 151), (4, .iconst 1, 1, 0, 1, 0), (5, .bipush 8, 2, 0, 8, 0), (7, .iload_n 1, 1, 1, 0, 0), (8, .imul, 1, 0, 0, 0), (9, .iadd, 1, 0, 0, 0), (10, .iload_n 2, 1, 2, 0, 0), (11, .iadd, 1, 0, 0, 0), (12, .iaload, 1, 0, 0, 0), (13, .ireturn, 1, 0, 0, 0)])
def mq_X10_looksAt : mz_I := (yX10_looksAt, cX10_looksAt, 3, none, false, 8, 1, 2, 44, [(0, .iconst 0, 1, 0, 0, 0), (1, .istore_n 2, 1, 2, 0, 0), (2, .iload_n 2, 1, 2, 0, 0), (3, .aload_n 0, 1, 0, 0, 0), (4, .getfield 80, 3, 523, 0, 152), (7, .if_icmp .ge 21, 3, 28, 0, 0), (10, .aload_n 0, 1, 0, 0, 0), (11, .getfield 39, 3, 528, 0, 168), (14, .iload_n 2, 1, 2, 0, 0), (15, .aload_n 0, 1, 0, 0, 0), (16, .iload_n 1, 1, 1, 0, 0), (17, .iload_n 2, 1, 2, 0, 0), (18, .invokevirtual 123, 3, 167, 0, 171), (21, .iastore, 1, 0, 0, 0), (22, .iinc 2 1, 3, 2, 1, 0), (25, .goto (-23), 3, 2, 0, 0), (28, .aload_n 0, 1, 0, 0, 0), (29, .invokevirtual 126, 3, 166, 0, 172), (32, .return_, 1, 0, 0, 0)])
def mq_X10_complexityNow : mz_I := (yX10_complexityNow, cX10_complexityNow, 3, (some .int), false, 8, 0, 3, 68, [(0, .iconst 0, 1, 0, 0, 0), (1, .istore_n 1, 1, 1, 0, 0), (2, .iconst 0, 1, 0, 0, 0), (3, .istore_n 2, 1, 2, 0, 0), (4, .iload_n 2, 1, 2, 0, 0), (5, .aload_n 0, 1, 0, 0, 0), (6, .getfield 80, 3, 523, 0, 152), (9, .if_icmp .ge 36, 3, 45, 0, 0), (12, .iload_n 1, 1, 1, 0, 0), (13, .aload_n 0, 1, 0, 0, 0), (14, .getfield 42, 3, 529, 0, 169), (17, .aload_n 0, 1, 0, 0, 0), (18, .aload_n 0, 1, 0, 0, 0), (19, .getfield 39, 3, 528, 0, 168), (22, .iconst 0, 1, 0, 0, 0), (23, .iaload, 1, 0, 0, 0), (24, .aload_n 0, 1, 0, 0, 0), (25, .getfield 39, 3, 528, 0, 168), (28, .iload_n 2, 1, 2, 0, 0), (29, .iaload, 1, 0, 0, 0), (30, .invokevirtual 92, 3, 147, 0, 156), (33, .iaload, 1, 0, 0, 0), (34, .invokestatic 129, 3, 136, 0, 173), (37, .iadd, 1, 0, 0, 0), (38, .istore_n 1, 1, 1, 0, 0), (39, .iinc 2 1, 3, 2, 1, 0), (42, .goto (-38), 3, 4, 0, 0), (45, .iload_n 1, 1, 1, 0, 0), (46, .ireturn, 1, 0, 0, 0)])
def mq_X10_weightNow : mz_I := (yX10_weightNow, cX10_weightNow, 4, (some .int), false, 8, 0, 3, 68, [(0, .iconst 0, 1, 0, 0, 0), (1, .istore_n 1, 1, 1, 0, 0), (2, .iconst 0, 1, 0, 0, 0), (3, .istore_n 2, 1, 2, 0, 0), (4, .iload_n 2, 1, 2, 0, 0), (5, .aload_n 0, 1, 0, 0, 0), (6, .getfield 80, 3, 523, 0, 152), (9, .if_icmp .ge 52, 3, 61, 0, 0), (12, .iload_n 2, 1, 2, 0, 0), (13, .istore_n 3, 1, 3, 0, 0), (14, .iload_n 3, 1, 3, 0, 0), (15, .aload_n 0, 1, 0, 0, 0), (16, .getfield 80, 3, 523, 0, 152), (19, .if_icmp .ge 36, 3, 55, 0, 0), (22, .iload_n 1, 1, 1, 0, 0), (23, .aload_n 0, 1, 0, 0, 0), (24, .getfield 42, 3, 529, 0, 169), (27, .aload_n 0, 1, 0, 0, 0), (28, .aload_n 0, 1, 0, 0, 0), (29, .getfield 39, 3, 528, 0, 168), (32, .iload_n 2, 1, 2, 0, 0), (33, .iaload, 1, 0, 0, 0), (34, .aload_n 0, 1, 0, 0, 0), (35, .getfield 39, 3, 528, 0, 168), (38, .iload_n 3, 1, 3, 0, 0), (39, .iaload, 1, 0, 0, 0), (40, .invokevirtual 92, 3, 147, 0, 156), (43, .iaload, 1, 0, 0, 0), (44, .invokestatic 129, 3, 136, 0, 173), (47, .iadd, 1, 0, 0, 0), (48, .istore_n 1, 1, 1, 0, 0), (49, .iinc 3 1, 3, 3, 1, 0), (52, .goto (-38), 3, 14, 0, 0), (55, .iinc 2 1, 3, 2, 1, 0), (58, .goto (-54), 3, 4, 0, 0), (61, .iload_n 1, 1, 1, 0, 0), (62, .ireturn, 1, 0, 0, 0)])
def mq_X10_isNormalBase : mz_I := (yX10_isNormalBase, cX10_isNormalBase, 2, (some .boolean), false, 8, 0, 6, 135, [(0, .iconst 1, 1, 0, 1, 0), (1, .istore_n 1, 1, 1, 0, 0), (2, .iload_n 1, 1, 1, 0, 0), (3, .aload_n 0, 1, 0, 0, 0), (4, .getfield 80, 3, 523, 0, 152), (7, .if_icmp .ge 40, 3, 47, 0, 0), (10, .aload_n 0, 1, 0, 0, 0), (11, .getfield 39, 3, 528, 0, 168), (14, .iload_n 1, 1, 1, 0, 0), (15, .iaload, 1, 0, 0, 0), (16, .aload_n 0, 1, 0, 0, 0), (17, .aload_n 0, 1, 0, 0, 0), (18, .getfield 39, 3, 528, 0, 168), (21, .iload_n 1, 1, 1, 0, 0), (22, .iconst 1, 1, 0, 1, 0), (23, .isub, 1, 0, 0, 0), (24, .iaload, 1, 0, 0, 0), (25, .aload_n 0, 1, 0, 0, 0), (26, .getfield 39, 3, 528, 0, 168), (29, .iload_n 1, 1, 1, 0, 0), (30, .iconst 1, 1, 0, 1, 0), (31, .isub, 1, 0, 0, 0), (32, .iaload, 1, 0, 0, 0), (33, .invokevirtual 92, 3, 147, 0, 156), (36, .if_icmp .eq 5, 3, 41, 0, 0), (39, .iconst 0, 1, 0, 0, 0), (40, .ireturn, 1, 0, 0, 0), (41, .iinc 1 1, 3, 1, 1, 0), (44, .goto (-42), 3, 2, 0, 0), (47, .aload_n 0, 1, 0, 0, 0), (48, .aload_n 0, 1, 0, 0, 0), (49, .getfield 39, 3, 528, 0, 168), (52, .iconst 0, 1, 0, 0, 0), (53, .iaload, 1, 0, 0, 0), (54, .invokevirtual 132, 3, 162, 0, 174), (57, .ireturn, 1, 0, 0, 0)])
def mq_X10_someIsBase : mz_I := (yX10_someIsBase, cX10_someIsBase, 2, none, false, 8, 0, 2, 44, [(0, .iconst 0, 1, 0, 0, 0), (1, .istore_n 1, 1, 1, 0, 0), (2, .iload_n 1, 1, 1, 0, 0), (3, .aload_n 0, 1, 0, 0, 0), (4, .getfield 80, 3, 523, 0, 152), (7, .if_icmp .ge 21, 3, 28, 0, 0), (10, .aload_n 0, 1, 0, 0, 0), (11, .getfield 39, 3, 528, 0, 168), (14, .iload_n 1, 1, 1, 0, 0), (15, .aload_n 0, 1, 0, 0, 0), (16, .getfield 30, 3, 525, 0, 161), (19, .iload_n 1, 1, 1, 0, 0), (20, .iaload, 1, 0, 0, 0), (21, .iastore, 1, 0, 0, 0), (22, .iinc 1 1, 3, 1, 1, 0), (25, .goto (-23), 3, 2, 0, 0), (28, .aload_n 0, 1, 0, 0, 0), (29, .invokevirtual 126, 3, 166, 0, 172), (32, .return_, 1, 0, 0, 0)])
def mq_X10_does : mz_I := (yX10_does, cX10_does, 2, none, false, 8, 0, 0, 0, [(0, .aload_n 0, 1, 0, 0, 0), (1, .getfield 136, 3, 517, 0, 175), (4, .bipush 8, 2, 0, 8, 0), (6, .if_icmp .ne 44, 3, 50, 0, 0), (9, .bipush 33, 2, 0, 33, 0), (11, .istore_n 1, 1, 1, 0, 0), (12, .iload_n 1, 1, 1, 0, 0), (13, .sipush 264, 3, 0, 264, 0), (16, .if_icmp .ge 24, 3, 40, 0, 0), (19, .aload_n 0, 1, 0, 0, 0), (20, .getfield 19, 3, 516, 0, 176), (23, .iload_n 1, 1, 1, 0, 0), (24, .bipush 33, 2, 0, 33, 0), (26, .isub, 1, 0, 0, 0), (27, .aload_n 0, 1, 0, 0, 0), (28, .getfield 19, 3, 516, 0, 176), (31, .iload_n 1, 1, 1, 0, 0), (32, .iaload, 1, 0, 0, 0), (33, .iastore, 1, 0, 0, 0), (34, .iinc 1 1, 3, 1, 1, 0), (37, .goto (-25), 3, 12, 0, 0), (40, .aload_n 0, 1, 0, 0, 0), (41, .dup, 1, 0, 0, 0), (42, .getfield 136, 3, 517, 0, 175), (45, .iconst 1, 1, 0, 1, 0), (46, .isub, 1, 0, 0, 0), (47, .putfield 136, 3, 517, 0, 175), (50, .iconst 0, 1, 0, 0, 0), (51, .istore_n 1, 1, 1, 0, 0), (52, .iload_n 1, 1, 1, 0, 0), (53, .bipush 33, 2, 0, 33, 0), (55, .if_icmp .ge 29, 3, 84, 0, 0), (58, .aload_n 0, 1, 0, 0, 0), (59, .getfield 19, 3, 516, 0, 176), (62, .bipush 33, 2, 0, 33, 0), (64, .aload_n 0, 1, 0, 0, 0), (65, .getfield 136, 3, 517, 0, 175), (68, .imul, 1, 0, 0, 0), (69, .iload_n 1, 1, 1, 0, 0), (70, .iadd, 1, 0, 0, 0), (71, .aload_n 0, 1, 0, 0, 0), (72, .getfield 7, 3, 512, 0, 151), (75, .iload_n 1, 1, 1, 0, 0), (76, .iaload, 1, 0, 0, 0), (77, .iastore, 1, 0, 0, 0), (78, .iinc 1 1, 3, 1, 1, 0), (81, .goto (-29), 3, 52, 0, 0), (84, .aload_n 0, 1, 0, 0, 0), (85, .dup, 1, 0, 0, 0), (86, .getfield 136, 3, 517, 0, 175), (89, .iconst 1, 1, 0, 1, 0), (90, .iadd, 1, 0, 0, 0), (91, .putfield 136, 3, 517, 0, 175), (94, .return_, 1, 0, 0, 0)])
def mq_X10_holds : mz_I := (yX10_holds, cX10_holds, 3, (some .int), false, 8, 1, 4, 90, [(0, .aload_n 0, 1, 0, 0, 0), (1, .invokevirtual 139, 3, 173, 0, 177), (4, .iconst 0, 1, 0, 0, 0), (5, .istore_n 2, 1, 2, 0, 0), (6, .iload_n 2, 1, 2, 0, 0), (7, .aload_n 0, 1, 0, 0, 0), (8, .getfield 80, 3, 523, 0, 152), (11, .if_icmp .ge 28, 3, 39, 0, 0), (14, .aload_n 0, 1, 0, 0, 0), (15, .getfield 7, 3, 512, 0, 151), (18, .iconst 1, 1, 0, 1, 0), (19, .bipush 8, 2, 0, 8, 0), (21, .iload_n 1, 1, 1, 0, 0), (22, .imul, 1, 0, 0, 0), (23, .iadd, 1, 0, 0, 0), (24, .iload_n 2, 1, 2, 0, 0), (25, .iadd, 1, 0, 0, 0), (26, .aload_n 0, 1, 0, 0, 0), (27, .getfield 39, 3, 528, 0, 168), (30, .iload_n 2, 1, 2, 0, 0), (31, .iaload, 1, 0, 0, 0), (32, .iastore, 1, 0, 0, 0), (33, .iinc 2 1, 3, 2, 1, 0), (36, .goto (-30), 3, 6, 0, 0), (39, .aload_n 0, 1, 0, 0, 0), (40, .invokevirtual 142, 3, 169, 0, 178), (43, .ireturn, 1, 0, 0, 0)])
def mq_X10_begin : mz_I := (yX10_begin, cX10_begin, 1, none, false, 8, 0, 0, 0, [(0, .aload_n 0, 1, 0, 0, 0), (1, .aload_n 0, 1, 0, 0, 0), (2, .getfield 62, 3, 519, 0, 145), (5, .putfield 146, 3, 530, 0, 179), (8, .aload_n 0, 1, 0, 0, 0), (9, .iconst 0, 1, 0, 0, 0), (10, .putfield 62, 3, 519, 0, 145), (13, .aload_n 0, 1, 0, 0, 0), (14, .iconst 0, 1, 0, 0, 0), (15, .putfield 149, 3, 531, 0, 180), (18, .aload_n 0, 1, 0, 0, 0), (19, .iconst (-1), 1, 0, (-1), 0), (20, .putfield 152, 3, 532, 0, 181), (23, .return_, 1, 0, 0, 0)])
def mq_X10_sees : mz_I := (yX10_sees, cX10_sees, 1, (some .int), false, 8, 0, 0, 0, [(0, .aload_n 0, 1, 0, 0, 0), (1, .getfield 149, 3, 531, 0, 180), (4, .aload_n 0, 1, 0, 0, 0), (5, .getfield 146, 3, 530, 0, 179), (8, .if_icmp .ge 19, 3, 27, 0, 0), (11, .aload_n 0, 1, 0, 0, 0), (12, .getfield 22, 3, 518, 0, 146), (15, .aload_n 0, 1, 0, 0, 0), (16, .getfield 149, 3, 531, 0, 180), (19, .baload, 1, 0, 0, 0), (20, .sipush 255, 3, 0, 255, 0), (23, .iand, 1, 0, 0, 0), (24, .goto 4, 3, 28, 0, 0), (27, .iconst (-1), 1, 0, (-1), 0), (28, .ireturn, 1, 0, 0, 0)])
def mq_X10_fault : mz_I := (yX10_fault, cX10_fault, 2, none, false, 8, 1, 0, 0, [(0, .aload_n 0, 1, 0, 0, 0), (1, .getfield 152, 3, 532, 0, 181), (4, .iconst (-1), 1, 0, (-1), 0), (5, .if_icmp .ne 8, 3, 13, 0, 0), (8, .aload_n 0, 1, 0, 0, 0), (9, .iload_n 1, 1, 1, 0, 0), (10, .putfield 152, 3, 532, 0, 181), (13, .return_, 1, 0, 0, 0)])
def mq_X10_readsPower : mz_I := (yX10_readsPower, cX10_readsPower, 2, (some .int), false, 8, 1, 1, 25, [(0, .aload_n 0, 1, 0, 0, 0), (1, .invokevirtual 155, 3, 176, 0, 182), (4, .bipush 49, 2, 0, 49, 0), (6, .if_icmp .ne 25, 3, 31, 0, 0), (9, .iload_n 1, 1, 1, 0, 0), (10, .bipush 9, 2, 0, 9, 0), (12, .if_icmp .ge 19, 3, 31, 0, 0), (15, .iload_n 1, 1, 1, 0, 0), (16, .ifCond .le 15, 3, 31, 0, 0), (19, .aload_n 0, 1, 0, 0, 0), (20, .dup, 1, 0, 0, 0), (21, .getfield 149, 3, 531, 0, 180), (24, .iconst 1, 1, 0, 1, 0), (25, .iadd, 1, 0, 0, 0), (26, .putfield 149, 3, 531, 0, 180), (29, .iconst 0, 1, 0, 0, 0), (30, .ireturn, 1, 0, 0, 0), (31, .aload_n 0, 1, 0, 0, 0), (32, .invokevirtual 155, 3, 176, 0, 182), (35, .bipush 120, 2, 0, 120, 0), (37, .if_icmp .ne 8, 3, 45, 0, 0), (40, .iload_n 1, 1, 1, 0, 0), (41, .iconst 2, 1, 0, 2, 0), (42, .if_icmp .ge 13, 3, 55, 0, 0), (45, .aload_n 0, 1, 0, 0, 0), (46, .aload_n 0, 1, 0, 0, 0), (47, .getfield 149, 3, 531, 0, 180), (50, .invokevirtual 158, 3, 177, 0, 183), (53, .iconst 0, 1, 0, 0, 0), (54, .ireturn, 1, 0, 0, 0), (55, .aload_n 0, 1, 0, 0, 0), (56, .dup, 1, 0, 0, 0), (57, .getfield 149, 3, 531, 0, 180), (60, .iconst 1, 1, 0, 1, 0), (61, .iadd, 1, 0, 0, 0), (62, .putfield 149, 3, 531, 0, 180), (65, .iload_n 1, 1, 1, 0, 0), (66, .bipush 9, 2, 0, 9, 0), (68, .if_icmp .ge 22, 3, 90, 0, 0), (71, .aload_n 0, 1, 0, 0, 0), (72, .invokevirtual 155, 3, 176, 0, 182), (75, .i2l, 1, 0, 0, 0), (76, .ldc2_w 161, 3, 0, 48, 184), (79, .ldc2_w 163, 3, 0, 57, 185), (82, .invokestatic 65, 3, 133, 0, 147), (85, .ifCond .ne 5, 3, 90, 0, 0), (88, .iconst 1, 1, 0, 1, 0), (89, .ireturn, 1, 0, 0, 0), (90, .aload_n 0, 1, 0, 0, 0), (91, .invokevirtual 155, 3, 176, 0, 182), (94, .i2l, 1, 0, 0, 0), (95, .ldc2_w 165, 3, 0, 50, 186), (98, .bipush 48, 2, 0, 48, 0), (100, .iload_n 1, 1, 1, 0, 0), (101, .iadd, 1, 0, 0, 0), (102, .iconst 1, 1, 0, 1, 0), (103, .isub, 1, 0, 0, 0), (104, .i2l, 1, 0, 0, 0), (105, .invokestatic 65, 3, 133, 0, 147), (108, .ifCond .ne 13, 3, 121, 0, 0), (111, .aload_n 0, 1, 0, 0, 0), (112, .aload_n 0, 1, 0, 0, 0), (113, .getfield 149, 3, 531, 0, 180), (116, .invokevirtual 158, 3, 177, 0, 183), (119, .iconst 0, 1, 0, 0, 0), (120, .ireturn, 1, 0, 0, 0), (121, .aload_n 0, 1, 0, 0, 0), (122, .dup, 1, 0, 0, 0), (123, .getfield 149, 3, 531, 0, 180), (126, .iconst 1, 1, 0, 1, 0), (127, .iadd, 1, 0, 0, 0), (128, .putfield 149, 3, 531, 0, 180), (131, .aload_n 0, 1, 0, 0, 0), (132, .getfield 22, 3, 518, 0, 146), (135, .aload_n 0, 1, 0, 0, 0), (136, .getfield 149, 3, 531, 0, 180), (139, .iconst 1, 1, 0, 1, 0), (140, .isub, 1, 0, 0, 0), (141, .baload, 1, 0, 0, 0), (142, .bipush 48, 2, 0, 48, 0), (144, .isub, 1, 0, 0, 0), (145, .ireturn, 1, 0, 0, 0)])
def mq_X10_readsPoly : mz_I := (yX10_readsPoly, cX10_readsPoly, 4, (some .int), false, 8, 0, 2, 46, [(0, .iconst 0, 1, 0, 0, 0), (1, .istore_n 1, 1, 1, 0, 0), (2, .bipush 9, 2, 0, 9, 0), (4, .istore_n 2, 1, 2, 0, 0), (5, .iconst 1, 1, 0, 1, 0), (6, .istore_n 3, 1, 3, 0, 0), (7, .iload_n 3, 1, 3, 0, 0), (8, .ifCond .eq 67, 3, 75, 0, 0), (11, .aload_n 0, 1, 0, 0, 0), (12, .getfield 152, 3, 532, 0, 181), (15, .iconst (-1), 1, 0, (-1), 0), (16, .if_icmp .ne 59, 3, 75, 0, 0), (19, .aload_n 0, 1, 0, 0, 0), (20, .iload_n 2, 1, 2, 0, 0), (21, .invokevirtual 167, 3, 178, 0, 187), (24, .istore_n 2, 1, 2, 0, 0), (25, .iload_n 1, 1, 1, 0, 0), (26, .iconst 1, 1, 0, 1, 0), (27, .iload_n 2, 1, 2, 0, 0), (28, .ishl, 1, 0, 0, 0), (29, .ior, 1, 0, 0, 0), (30, .istore_n 1, 1, 1, 0, 0), (31, .aload_n 0, 1, 0, 0, 0), (32, .getfield 152, 3, 532, 0, 181), (35, .iconst (-1), 1, 0, (-1), 0), (36, .if_icmp .ne 20, 3, 56, 0, 0), (39, .iload_n 2, 1, 2, 0, 0), (40, .ifCond .le 16, 3, 56, 0, 0), (43, .aload_n 0, 1, 0, 0, 0), (44, .invokevirtual 155, 3, 176, 0, 182), (47, .bipush 43, 2, 0, 43, 0), (49, .if_icmp .ne 7, 3, 56, 0, 0), (52, .iconst 1, 1, 0, 1, 0), (53, .goto 4, 3, 57, 0, 0), (56, .iconst 0, 1, 0, 0, 0), (57, .istore_n 3, 1, 3, 0, 0), (58, .iload_n 3, 1, 3, 0, 0), (59, .ifCond .eq (-52), 3, 7, 0, 0), (62, .aload_n 0, 1, 0, 0, 0), (63, .dup, 1, 0, 0, 0), (64, .getfield 149, 3, 531, 0, 180), (67, .iconst 1, 1, 0, 1, 0), (68, .iadd, 1, 0, 0, 0), (69, .putfield 149, 3, 531, 0, 180), (72, .goto (-65), 3, 7, 0, 0), (75, .aload_n 0, 1, 0, 0, 0), (76, .getfield 152, 3, 532, 0, 181), (79, .iconst (-1), 1, 0, (-1), 0), (80, .if_icmp .ne 22, 3, 102, 0, 0), (83, .aload_n 0, 1, 0, 0, 0), (84, .getfield 149, 3, 531, 0, 180), (87, .aload_n 0, 1, 0, 0, 0), (88, .getfield 146, 3, 530, 0, 179), (91, .if_icmp .ge 11, 3, 102, 0, 0), (94, .aload_n 0, 1, 0, 0, 0), (95, .aload_n 0, 1, 0, 0, 0), (96, .getfield 149, 3, 531, 0, 180), (99, .invokevirtual 158, 3, 177, 0, 183), (102, .iload_n 1, 1, 1, 0, 0), (103, .ireturn, 1, 0, 0, 0)])
def mq_X10_field : mz_I := (yX10_field, cX10_field, 2, (some .int), false, 8, 0, 4, 87, [(0, .aload_n 0, 1, 0, 0, 0), (1, .iconst 0, 1, 0, 0, 0), (2, .putfield 55, 3, 522, 0, 142), (5, .aload_n 0, 1, 0, 0, 0), (6, .invokevirtual 170, 3, 175, 0, 188), (9, .aload_n 0, 1, 0, 0, 0), (10, .invokevirtual 173, 3, 179, 0, 189), (13, .istore_n 1, 1, 1, 0, 0), (14, .aload_n 0, 1, 0, 0, 0), (15, .getfield 152, 3, 532, 0, 181), (18, .iconst (-1), 1, 0, (-1), 0), (19, .if_icmp .eq 11, 3, 30, 0, 0), (22, .bipush (-21), 2, 0, (-21), 0), (24, .aload_n 0, 1, 0, 0, 0), (25, .getfield 152, 3, 532, 0, 181), (28, .isub, 1, 0, 0, 0), (29, .ireturn, 1, 0, 0, 0), (30, .iload_n 1, 1, 1, 0, 0), (31, .invokestatic 176, 3, 144, 0, 190), (34, .ifCond .ne 6, 3, 40, 0, 0), (37, .bipush (-2), 2, 0, (-2), 0), (39, .ireturn, 1, 0, 0, 0), (40, .aload_n 0, 1, 0, 0, 0), (41, .invokevirtual 139, 3, 173, 0, 177), (44, .aload_n 0, 1, 0, 0, 0), (45, .iload_n 1, 1, 1, 0, 0), (46, .invokevirtual 51, 3, 146, 0, 191), (49, .aload_n 0, 1, 0, 0, 0), (50, .getfield 80, 3, 523, 0, 152), (53, .ireturn, 1, 0, 0, 0)])
def mq_X10_poly : mz_I := (yX10_poly, cX10_poly, 2, (some .int), false, 8, 1, 4, 87, [(0, .aload_n 0, 1, 0, 0, 0), (1, .iconst 0, 1, 0, 0, 0), (2, .putfield 55, 3, 522, 0, 142), (5, .iload_n 1, 1, 1, 0, 0), (6, .i2l, 1, 0, 0, 0), (7, .ldc2_w 179, 3, 0, 4, 192), (10, .ldc2_w 181, 3, 0, 511, 193), (13, .invokestatic 65, 3, 133, 0, 147), (16, .ifCond .ne 5, 3, 21, 0, 0), (19, .iconst (-1), 1, 0, (-1), 0), (20, .ireturn, 1, 0, 0, 0), (21, .iload_n 1, 1, 1, 0, 0), (22, .invokestatic 176, 3, 144, 0, 190), (25, .ifCond .ne 6, 3, 31, 0, 0), (28, .bipush (-2), 2, 0, (-2), 0), (30, .ireturn, 1, 0, 0, 0), (31, .aload_n 0, 1, 0, 0, 0), (32, .invokevirtual 139, 3, 173, 0, 177), (35, .aload_n 0, 1, 0, 0, 0), (36, .iload_n 1, 1, 1, 0, 0), (37, .invokevirtual 51, 3, 146, 0, 191), (40, .aload_n 0, 1, 0, 0, 0), (41, .getfield 80, 3, 523, 0, 152), (44, .ireturn, 1, 0, 0, 0)])
def mq_X10_product : mz_I := (yX10_product, cX10_product, 3, (some .int), false, 8, 2, 3, 68, [(0, .aload_n 0, 1, 0, 0, 0), (1, .iconst 0, 1, 0, 0, 0), (2, .putfield 55, 3, 522, 0, 142), (5, .aload_n 0, 1, 0, 0, 0), (6, .iload_n 1, 1, 1, 0, 0), (7, .invokevirtual 183, 3, 156, 0, 194), (10, .ifCond .eq 20, 3, 30, 0, 0), (13, .aload_n 0, 1, 0, 0, 0), (14, .iload_n 2, 1, 2, 0, 0), (15, .invokevirtual 183, 3, 156, 0, 194), (18, .ifCond .eq 12, 3, 30, 0, 0), (21, .aload_n 0, 1, 0, 0, 0), (22, .iload_n 1, 1, 1, 0, 0), (23, .iload_n 2, 1, 2, 0, 0), (24, .invokevirtual 92, 3, 147, 0, 156), (27, .goto 4, 3, 31, 0, 0), (30, .iconst (-1), 1, 0, (-1), 0), (31, .ireturn, 1, 0, 0, 0)])
def mq_X10_inverse : mz_I := (yX10_inverse, cX10_inverse, 2, (some .int), false, 8, 1, 5, 114, [(0, .aload_n 0, 1, 0, 0, 0), (1, .iconst 0, 1, 0, 0, 0), (2, .putfield 55, 3, 522, 0, 142), (5, .aload_n 0, 1, 0, 0, 0), (6, .iload_n 1, 1, 1, 0, 0), (7, .invokevirtual 183, 3, 156, 0, 194), (10, .ifCond .ne 5, 3, 15, 0, 0), (13, .iconst (-1), 1, 0, (-1), 0), (14, .ireturn, 1, 0, 0, 0), (15, .iload_n 1, 1, 1, 0, 0), (16, .ifCond .ne 8, 3, 24, 0, 0), (19, .bipush (-2), 2, 0, (-2), 0), (21, .goto 8, 3, 29, 0, 0), (24, .aload_n 0, 1, 0, 0, 0), (25, .iload_n 1, 1, 1, 0, 0), (26, .invokevirtual 186, 3, 150, 0, 195), (29, .ireturn, 1, 0, 0, 0)])
def mq_X10_power : mz_I := (yX10_power, cX10_power, 3, (some .int), false, 8, 2, 4, 93, [(0, .aload_n 0, 1, 0, 0, 0), (1, .iconst 0, 1, 0, 0, 0), (2, .putfield 55, 3, 522, 0, 142), (5, .aload_n 0, 1, 0, 0, 0), (6, .iload_n 1, 1, 1, 0, 0), (7, .invokevirtual 183, 3, 156, 0, 194), (10, .ifCond .eq 24, 3, 34, 0, 0), (13, .iload_n 2, 1, 2, 0, 0), (14, .i2l, 1, 0, 0, 0), (15, .lconst 0, 1, 0, 0, 0), (16, .ldc2_w 189, 3, 0, 1000000000, 196), (19, .invokestatic 65, 3, 133, 0, 147), (22, .ifCond .eq 12, 3, 34, 0, 0), (25, .aload_n 0, 1, 0, 0, 0), (26, .iload_n 1, 1, 1, 0, 0), (27, .iload_n 2, 1, 2, 0, 0), (28, .invokevirtual 95, 3, 149, 0, 157), (31, .goto 4, 3, 35, 0, 0), (34, .iconst (-1), 1, 0, (-1), 0), (35, .ireturn, 1, 0, 0, 0)])
def mq_X10_order : mz_I := (yX10_order, cX10_order, 2, (some .int), false, 8, 1, 5, 112, [(0, .aload_n 0, 1, 0, 0, 0), (1, .iconst 0, 1, 0, 0, 0), (2, .putfield 55, 3, 522, 0, 142), (5, .aload_n 0, 1, 0, 0, 0), (6, .iload_n 1, 1, 1, 0, 0), (7, .invokevirtual 183, 3, 156, 0, 194), (10, .ifCond .ne 5, 3, 15, 0, 0), (13, .iconst (-1), 1, 0, (-1), 0), (14, .ireturn, 1, 0, 0, 0), (15, .iload_n 1, 1, 1, 0, 0), (16, .ifCond .ne 6, 3, 22, 0, 0), (19, .bipush (-2), 2, 0, (-2), 0), (21, .ireturn, 1, 0, 0, 0), (22, .aload_n 0, 1, 0, 0, 0), (23, .iconst 0, 1, 0, 0, 0), (24, .putfield 59, 3, 521, 0, 144), (27, .aload_n 0, 1, 0, 0, 0), (28, .aload_n 0, 1, 0, 0, 0), (29, .iload_n 1, 1, 1, 0, 0), (30, .invokevirtual 191, 3, 153, 0, 197), (33, .ifCond .eq 7, 3, 40, 0, 0), (36, .lconst 1, 1, 0, 1, 0), (37, .goto 4, 3, 41, 0, 0), (40, .lconst 0, 1, 0, 0, 0), (41, .invokevirtual 194, 3, 135, 0, 198), (44, .aload_n 0, 1, 0, 0, 0), (45, .iload_n 1, 1, 1, 0, 0), (46, .invokevirtual 101, 3, 152, 0, 159), (49, .ireturn, 1, 0, 0, 0)])
def mq_X10_conjugate : mz_I := (yX10_conjugate, cX10_conjugate, 3, (some .int), false, 8, 2, 4, 92, [(0, .aload_n 0, 1, 0, 0, 0), (1, .iconst 0, 1, 0, 0, 0), (2, .putfield 55, 3, 522, 0, 142), (5, .aload_n 0, 1, 0, 0, 0), (6, .iload_n 1, 1, 1, 0, 0), (7, .invokevirtual 183, 3, 156, 0, 194), (10, .ifCond .eq 24, 3, 34, 0, 0), (13, .iload_n 2, 1, 2, 0, 0), (14, .i2l, 1, 0, 0, 0), (15, .lconst 0, 1, 0, 0, 0), (16, .ldc2_w 198, 3, 0, 100, 199), (19, .invokestatic 65, 3, 133, 0, 147), (22, .ifCond .eq 12, 3, 34, 0, 0), (25, .aload_n 0, 1, 0, 0, 0), (26, .iload_n 1, 1, 1, 0, 0), (27, .iload_n 2, 1, 2, 0, 0), (28, .invokevirtual 98, 3, 148, 0, 158), (31, .goto 4, 3, 35, 0, 0), (34, .iconst (-1), 1, 0, (-1), 0), (35, .ireturn, 1, 0, 0, 0)])
def mq_X10_conjugates : mz_I := (yX10_conjugates, cX10_conjugates, 4, (some .int), false, 8, 1, 5, 114, [(0, .aload_n 0, 1, 0, 0, 0), (1, .iconst 0, 1, 0, 0, 0), (2, .putfield 55, 3, 522, 0, 142), (5, .aload_n 0, 1, 0, 0, 0), (6, .iload_n 1, 1, 1, 0, 0), (7, .invokevirtual 183, 3, 156, 0, 194), (10, .ifCond .ne 5, 3, 15, 0, 0), (13, .iconst (-1), 1, 0, (-1), 0), (14, .ireturn, 1, 0, 0, 0), (15, .aload_n 0, 1, 0, 0, 0), (16, .iload_n 1, 1, 1, 0, 0), (17, .invokevirtual 200, 3, 151, 0, 200), (20, .istore_n 2, 1, 2, 0, 0), (21, .aload_n 0, 1, 0, 0, 0), (22, .iconst 0, 1, 0, 0, 0), (23, .putfield 59, 3, 521, 0, 144), (26, .iconst 0, 1, 0, 0, 0), (27, .istore_n 3, 1, 3, 0, 0), (28, .iload_n 3, 1, 3, 0, 0), (29, .iload_n 2, 1, 2, 0, 0), (30, .if_icmp .ge 20, 3, 50, 0, 0), (33, .aload_n 0, 1, 0, 0, 0), (34, .aload_n 0, 1, 0, 0, 0), (35, .iload_n 1, 1, 1, 0, 0), (36, .iload_n 3, 1, 3, 0, 0), (37, .invokevirtual 98, 3, 148, 0, 158), (40, .i2l, 1, 0, 0, 0), (41, .invokevirtual 194, 3, 135, 0, 198), (44, .iinc 3 1, 3, 3, 1, 0), (47, .goto (-19), 3, 28, 0, 0), (50, .iload_n 2, 1, 2, 0, 0), (51, .ireturn, 1, 0, 0, 0)])
def mq_X10_rooted : mz_I := (yX10_rooted, cX10_rooted, 5, (some .int), false, 8, 2, 3, 68, [(0, .iconst 0, 1, 0, 0, 0), (1, .istore_n 3, 1, 3, 0, 0), (2, .iload_n 1, 1, 1, 0, 0), (3, .invokestatic 69, 3, 139, 0, 148), (6, .istore 4, 2, 4, 0, 0), (8, .iload 4, 2, 4, 0, 0), (10, .ifCond .lt 23, 3, 33, 0, 0), (13, .aload_n 0, 1, 0, 0, 0), (14, .iload_n 3, 1, 3, 0, 0), (15, .iload_n 2, 1, 2, 0, 0), (16, .invokevirtual 92, 3, 147, 0, 156), (19, .iload_n 1, 1, 1, 0, 0), (20, .iload 4, 2, 4, 0, 0), (22, .ishr, 1, 0, 0, 0), (23, .iconst 1, 1, 0, 1, 0), (24, .iand, 1, 0, 0, 0), (25, .ixor, 1, 0, 0, 0), (26, .istore_n 3, 1, 3, 0, 0), (27, .iinc 4 (-1), 3, 4, (-1), 0), (30, .goto (-22), 3, 8, 0, 0), (33, .iload_n 3, 1, 3, 0, 0), (34, .ireturn, 1, 0, 0, 0)])
def mq_X10_least : mz_I := (yX10_least, cX10_least, 4, (some .int), false, 8, 1, 4, 92, [(0, .aload_n 0, 1, 0, 0, 0), (1, .iconst 0, 1, 0, 0, 0), (2, .putfield 55, 3, 522, 0, 142), (5, .aload_n 0, 1, 0, 0, 0), (6, .iload_n 1, 1, 1, 0, 0), (7, .invokevirtual 183, 3, 156, 0, 194), (10, .ifCond .ne 5, 3, 15, 0, 0), (13, .iconst (-1), 1, 0, (-1), 0), (14, .ireturn, 1, 0, 0, 0), (15, .iconst 2, 1, 0, 2, 0), (16, .istore_n 2, 1, 2, 0, 0), (17, .aload_n 0, 1, 0, 0, 0), (18, .iload_n 2, 1, 2, 0, 0), (19, .iload_n 1, 1, 1, 0, 0), (20, .invokevirtual 203, 3, 188, 0, 201), (23, .ifCond .eq 9, 3, 32, 0, 0), (26, .iinc 2 1, 3, 2, 1, 0), (29, .goto (-12), 3, 17, 0, 0), (32, .iload_n 2, 1, 2, 0, 0), (33, .invokestatic 69, 3, 139, 0, 148), (36, .istore_n 3, 1, 3, 0, 0), (37, .aload_n 0, 1, 0, 0, 0), (38, .iconst 0, 1, 0, 0, 0), (39, .putfield 59, 3, 521, 0, 144), (42, .aload_n 0, 1, 0, 0, 0), (43, .iload_n 3, 1, 3, 0, 0), (44, .i2l, 1, 0, 0, 0), (45, .invokevirtual 194, 3, 135, 0, 198), (48, .aload_n 0, 1, 0, 0, 0), (49, .iload_n 2, 1, 2, 0, 0), (50, .iload_n 3, 1, 3, 0, 0), (51, .iconst 1, 1, 0, 1, 0), (52, .isub, 1, 0, 0, 0), (53, .ishr, 1, 0, 0, 0), (54, .iconst 1, 1, 0, 1, 0), (55, .iand, 1, 0, 0, 0), (56, .i2l, 1, 0, 0, 0), (57, .invokevirtual 194, 3, 135, 0, 198), (60, .iload_n 2, 1, 2, 0, 0), (61, .ireturn, 1, 0, 0, 0)])
def mq_X10_trace : mz_I := (yX10_trace, cX10_trace, 3, (some .int), false, 8, 2, 5, 116, [(0, .aload_n 0, 1, 0, 0, 0), (1, .iconst 0, 1, 0, 0, 0), (2, .putfield 55, 3, 522, 0, 142), (5, .aload_n 0, 1, 0, 0, 0), (6, .iload_n 1, 1, 1, 0, 0), (7, .invokevirtual 183, 3, 156, 0, 194), (10, .ifCond .eq 20, 3, 30, 0, 0), (13, .aload_n 0, 1, 0, 0, 0), (14, .iload_n 2, 1, 2, 0, 0), (15, .invokevirtual 206, 3, 157, 0, 202), (18, .ifCond .eq 12, 3, 30, 0, 0), (21, .aload_n 0, 1, 0, 0, 0), (22, .iload_n 1, 1, 1, 0, 0), (23, .iload_n 2, 1, 2, 0, 0), (24, .invokevirtual 209, 3, 154, 0, 203), (27, .goto 4, 3, 31, 0, 0), (30, .iconst (-1), 1, 0, (-1), 0), (31, .ireturn, 1, 0, 0, 0)])
def mq_X10_norm : mz_I := (yX10_norm, cX10_norm, 3, (some .int), false, 8, 2, 5, 116, [(0, .aload_n 0, 1, 0, 0, 0), (1, .iconst 0, 1, 0, 0, 0), (2, .putfield 55, 3, 522, 0, 142), (5, .aload_n 0, 1, 0, 0, 0), (6, .iload_n 1, 1, 1, 0, 0), (7, .invokevirtual 183, 3, 156, 0, 194), (10, .ifCond .eq 20, 3, 30, 0, 0), (13, .aload_n 0, 1, 0, 0, 0), (14, .iload_n 2, 1, 2, 0, 0), (15, .invokevirtual 206, 3, 157, 0, 202), (18, .ifCond .eq 12, 3, 30, 0, 0), (21, .aload_n 0, 1, 0, 0, 0), (22, .iload_n 1, 1, 1, 0, 0), (23, .iload_n 2, 1, 2, 0, 0), (24, .invokevirtual 212, 3, 155, 0, 204), (27, .goto 4, 3, 31, 0, 0), (30, .iconst (-1), 1, 0, (-1), 0), (31, .ireturn, 1, 0, 0, 0)])
def mq_X10_root : mz_I := (yX10_root, cX10_root, 2, (some .int), false, 8, 1, 4, 92, [(0, .aload_n 0, 1, 0, 0, 0), (1, .iconst 0, 1, 0, 0, 0), (2, .putfield 55, 3, 522, 0, 142), (5, .aload_n 0, 1, 0, 0, 0), (6, .iload_n 1, 1, 1, 0, 0), (7, .invokevirtual 183, 3, 156, 0, 194), (10, .ifCond .eq 17, 3, 27, 0, 0), (13, .aload_n 0, 1, 0, 0, 0), (14, .iload_n 1, 1, 1, 0, 0), (15, .aload_n 0, 1, 0, 0, 0), (16, .getfield 80, 3, 523, 0, 152), (19, .iconst 1, 1, 0, 1, 0), (20, .isub, 1, 0, 0, 0), (21, .invokevirtual 98, 3, 148, 0, 158), (24, .goto 4, 3, 28, 0, 0), (27, .iconst (-1), 1, 0, (-1), 0), (28, .ireturn, 1, 0, 0, 0)])
def mq_X10_solves : mz_I := (yX10_solves, cX10_solves, 3, (some .int), false, 8, 1, 3, 68, [(0, .aload_n 0, 1, 0, 0, 0), (1, .iconst 0, 1, 0, 0, 0), (2, .putfield 55, 3, 522, 0, 142), (5, .aload_n 0, 1, 0, 0, 0), (6, .iload_n 1, 1, 1, 0, 0), (7, .invokevirtual 183, 3, 156, 0, 194), (10, .ifCond .ne 5, 3, 15, 0, 0), (13, .iconst (-1), 1, 0, (-1), 0), (14, .ireturn, 1, 0, 0, 0), (15, .iconst 0, 1, 0, 0, 0), (16, .istore_n 2, 1, 2, 0, 0), (17, .iload_n 2, 1, 2, 0, 0), (18, .aload_n 0, 1, 0, 0, 0), (19, .getfield 83, 3, 524, 0, 153), (22, .if_icmp .ge 39, 3, 61, 0, 0), (25, .aload_n 0, 1, 0, 0, 0), (26, .iload_n 2, 1, 2, 0, 0), (27, .iload_n 2, 1, 2, 0, 0), (28, .invokevirtual 92, 3, 147, 0, 156), (31, .iload_n 2, 1, 2, 0, 0), (32, .ixor, 1, 0, 0, 0), (33, .iload_n 1, 1, 1, 0, 0), (34, .if_icmp .eq 6, 3, 40, 0, 0), (37, .goto 18, 3, 55, 0, 0), (40, .aload_n 0, 1, 0, 0, 0), (41, .iconst 0, 1, 0, 0, 0), (42, .putfield 59, 3, 521, 0, 144), (45, .aload_n 0, 1, 0, 0, 0), (46, .iload_n 2, 1, 2, 0, 0), (47, .iconst 1, 1, 0, 1, 0), (48, .ixor, 1, 0, 0, 0), (49, .i2l, 1, 0, 0, 0), (50, .invokevirtual 194, 3, 135, 0, 198), (53, .iload_n 2, 1, 2, 0, 0), (54, .ireturn, 1, 0, 0, 0), (55, .iinc 2 1, 3, 2, 1, 0), (58, .goto (-41), 3, 17, 0, 0), (61, .bipush (-2), 2, 0, (-2), 0), (63, .ireturn, 1, 0, 0, 0)])
def mq_X10_log : mz_I := (yX10_log, cX10_log, 5, (some .int), false, 8, 2, 3, 68, [(0, .aload_n 0, 1, 0, 0, 0), (1, .iconst 0, 1, 0, 0, 0), (2, .putfield 55, 3, 522, 0, 142), (5, .aload_n 0, 1, 0, 0, 0), (6, .iload_n 1, 1, 1, 0, 0), (7, .invokevirtual 183, 3, 156, 0, 194), (10, .ifCond .eq 11, 3, 21, 0, 0), (13, .aload_n 0, 1, 0, 0, 0), (14, .iload_n 2, 1, 2, 0, 0), (15, .invokevirtual 183, 3, 156, 0, 194), (18, .ifCond .ne 5, 3, 23, 0, 0), (21, .iconst (-1), 1, 0, (-1), 0), (22, .ireturn, 1, 0, 0, 0), (23, .iconst 1, 1, 0, 1, 0), (24, .istore_n 3, 1, 3, 0, 0), (25, .iconst 0, 1, 0, 0, 0), (26, .istore 4, 2, 4, 0, 0), (28, .iload 4, 2, 4, 0, 0), (30, .aload_n 0, 1, 0, 0, 0), (31, .getfield 83, 3, 524, 0, 153), (34, .if_icmp .ge 24, 3, 58, 0, 0), (37, .iload_n 3, 1, 3, 0, 0), (38, .iload_n 2, 1, 2, 0, 0), (39, .if_icmp .ne 6, 3, 45, 0, 0), (42, .iload 4, 2, 4, 0, 0), (44, .ireturn, 1, 0, 0, 0), (45, .aload_n 0, 1, 0, 0, 0), (46, .iload_n 3, 1, 3, 0, 0), (47, .iload_n 1, 1, 1, 0, 0), (48, .invokevirtual 92, 3, 147, 0, 156), (51, .istore_n 3, 1, 3, 0, 0), (52, .iinc 4 1, 3, 4, 1, 0), (55, .goto (-27), 3, 28, 0, 0), (58, .bipush (-2), 2, 0, (-2), 0), (60, .ireturn, 1, 0, 0, 0)])
def mq_X10_traced : mz_I := (yX10_traced, cX10_traced, 6, (some .int), false, 8, 2, 5, 116, [(0, .aload_n 0, 1, 0, 0, 0), (1, .iconst 0, 1, 0, 0, 0), (2, .putfield 55, 3, 522, 0, 142), (5, .aload_n 0, 1, 0, 0, 0), (6, .iload_n 1, 1, 1, 0, 0), (7, .invokevirtual 206, 3, 157, 0, 202), (10, .ifCond .eq 11, 3, 21, 0, 0), (13, .aload_n 0, 1, 0, 0, 0), (14, .iload_n 2, 1, 2, 0, 0), (15, .invokevirtual 183, 3, 156, 0, 194), (18, .ifCond .ne 5, 3, 23, 0, 0), (21, .iconst (-1), 1, 0, (-1), 0), (22, .ireturn, 1, 0, 0, 0), (23, .iconst 0, 1, 0, 0, 0), (24, .istore_n 3, 1, 3, 0, 0), (25, .iconst (-1), 1, 0, (-1), 0), (26, .istore 4, 2, 4, 0, 0), (28, .aload_n 0, 1, 0, 0, 0), (29, .getfield 83, 3, 524, 0, 153), (32, .iconst 1, 1, 0, 1, 0), (33, .isub, 1, 0, 0, 0), (34, .istore 5, 2, 5, 0, 0), (36, .iload 5, 2, 5, 0, 0), (38, .ifCond .lt 30, 3, 68, 0, 0), (41, .aload_n 0, 1, 0, 0, 0), (42, .iload 5, 2, 5, 0, 0), (44, .iload_n 1, 1, 1, 0, 0), (45, .invokevirtual 209, 3, 154, 0, 203), (48, .iload_n 2, 1, 2, 0, 0), (49, .if_icmp .eq 6, 3, 55, 0, 0), (52, .goto 10, 3, 62, 0, 0), (55, .iinc 3 1, 3, 3, 1, 0), (58, .iload 5, 2, 5, 0, 0), (60, .istore 4, 2, 4, 0, 0), (62, .iinc 5 (-1), 3, 5, (-1), 0), (65, .goto (-29), 3, 36, 0, 0), (68, .aload_n 0, 1, 0, 0, 0), (69, .iconst 0, 1, 0, 0, 0), (70, .putfield 59, 3, 521, 0, 144), (73, .aload_n 0, 1, 0, 0, 0), (74, .iload 4, 2, 4, 0, 0), (76, .i2l, 1, 0, 0, 0), (77, .invokevirtual 194, 3, 135, 0, 198), (80, .iload_n 3, 1, 3, 0, 0), (81, .ireturn, 1, 0, 0, 0)])
def mq_X10_factors : mz_I := (yX10_factors, cX10_factors, 3, (some .int), false, 8, 1, 3, 67, [(0, .aload_n 0, 1, 0, 0, 0), (1, .iconst 0, 1, 0, 0, 0), (2, .putfield 55, 3, 522, 0, 142), (5, .iload_n 1, 1, 1, 0, 0), (6, .i2l, 1, 0, 0, 0), (7, .ldc2_w 215, 3, 0, 2, 205), (10, .ldc2_w 217, 3, 0, 1023, 206), (13, .invokestatic 65, 3, 133, 0, 147), (16, .ifCond .ne 5, 3, 21, 0, 0), (19, .iconst (-1), 1, 0, (-1), 0), (20, .ireturn, 1, 0, 0, 0), (21, .aload_n 0, 1, 0, 0, 0), (22, .iconst 0, 1, 0, 0, 0), (23, .putfield 59, 3, 521, 0, 144), (26, .iload_n 1, 1, 1, 0, 0), (27, .istore_n 2, 1, 2, 0, 0), (28, .iload_n 2, 1, 2, 0, 0), (29, .iconst 1, 1, 0, 1, 0), (30, .if_icmp .le 24, 3, 54, 0, 0), (33, .aload_n 0, 1, 0, 0, 0), (34, .iload_n 2, 1, 2, 0, 0), (35, .invokestatic 77, 3, 143, 0, 150), (38, .i2l, 1, 0, 0, 0), (39, .invokevirtual 194, 3, 135, 0, 198), (42, .iload_n 2, 1, 2, 0, 0), (43, .iload_n 2, 1, 2, 0, 0), (44, .invokestatic 77, 3, 143, 0, 150), (47, .invokestatic 219, 3, 142, 0, 207), (50, .istore_n 2, 1, 2, 0, 0), (51, .goto (-23), 3, 28, 0, 0), (54, .aload_n 0, 1, 0, 0, 0), (55, .getfield 26, 3, 520, 0, 143), (58, .iconst 0, 1, 0, 0, 0), (59, .laload, 1, 0, 0, 0), (60, .l2i, 1, 0, 0, 0), (61, .ireturn, 1, 0, 0, 0)])
def mq_X10_classes : mz_I := (yX10_classes, cX10_classes, 6, (some .int), false, 8, 0, 5, 114, [(0, .aload_n 0, 1, 0, 0, 0), (1, .iconst 0, 1, 0, 0, 0), (2, .putfield 55, 3, 522, 0, 142), (5, .iconst 0, 1, 0, 0, 0), (6, .istore_n 1, 1, 1, 0, 0), (7, .aload_n 0, 1, 0, 0, 0), (8, .aload_n 0, 1, 0, 0, 0), (9, .getfield 80, 3, 523, 0, 152), (12, .putfield 59, 3, 521, 0, 144), (15, .iconst 0, 1, 0, 0, 0), (16, .istore_n 2, 1, 2, 0, 0), (17, .iload_n 2, 1, 2, 0, 0), (18, .aload_n 0, 1, 0, 0, 0), (19, .getfield 80, 3, 523, 0, 152), (22, .if_icmp .ge 16, 3, 38, 0, 0), (25, .aload_n 0, 1, 0, 0, 0), (26, .getfield 26, 3, 520, 0, 143), (29, .iload_n 2, 1, 2, 0, 0), (30, .lconst 0, 1, 0, 0, 0), (31, .lastore, 1, 0, 0, 0), (32, .iinc 2 1, 3, 2, 1, 0), (35, .goto (-18), 3, 17, 0, 0), (38, .iconst 0, 1, 0, 0, 0), (39, .istore_n 2, 1, 2, 0, 0), (40, .iload_n 2, 1, 2, 0, 0), (41, .aload_n 0, 1, 0, 0, 0), (42, .getfield 83, 3, 524, 0, 153), (45, .if_icmp .ge 81, 3, 126, 0, 0), (48, .aload_n 0, 1, 0, 0, 0), (49, .iload_n 2, 1, 2, 0, 0), (50, .invokevirtual 200, 3, 151, 0, 200), (53, .istore_n 3, 1, 3, 0, 0), (54, .aload_n 0, 1, 0, 0, 0), (55, .getfield 26, 3, 520, 0, 143), (58, .iload_n 3, 1, 3, 0, 0), (59, .iconst 1, 1, 0, 1, 0), (60, .isub, 1, 0, 0, 0), (61, .dup2, 1, 0, 0, 0), (62, .laload, 1, 0, 0, 0), (63, .lconst 1, 1, 0, 1, 0), (64, .ladd, 1, 0, 0, 0), (65, .lastore, 1, 0, 0, 0), (66, .iconst 1, 1, 0, 1, 0), (67, .istore 4, 2, 4, 0, 0), (69, .iconst 1, 1, 0, 1, 0), (70, .istore 5, 2, 5, 0, 0), (72, .iload 5, 2, 5, 0, 0), (74, .iload_n 3, 1, 3, 0, 0), (75, .if_icmp .ge 32, 3, 107, 0, 0), (78, .iload 4, 2, 4, 0, 0), (80, .ifCond .eq 18, 3, 98, 0, 0), (83, .aload_n 0, 1, 0, 0, 0), (84, .iload_n 2, 1, 2, 0, 0), (85, .iload 5, 2, 5, 0, 0), (87, .invokevirtual 98, 3, 148, 0, 158), (90, .iload_n 2, 1, 2, 0, 0), (91, .if_icmp .le 7, 3, 98, 0, 0), (94, .iconst 1, 1, 0, 1, 0), (95, .goto 4, 3, 99, 0, 0), (98, .iconst 0, 1, 0, 0, 0), (99, .istore 4, 2, 4, 0, 0), (101, .iinc 5 1, 3, 5, 1, 0), (104, .goto (-32), 3, 72, 0, 0), (107, .iload_n 1, 1, 1, 0, 0), (108, .iload 4, 2, 4, 0, 0), (110, .ifCond .eq 7, 3, 117, 0, 0), (113, .iconst 1, 1, 0, 1, 0), (114, .goto 4, 3, 118, 0, 0), (117, .iconst 0, 1, 0, 0, 0), (118, .iadd, 1, 0, 0, 0), (119, .istore_n 1, 1, 1, 0, 0), (120, .iinc 2 1, 3, 2, 1, 0), (123, .goto (-83), 3, 40, 0, 0), (126, .iload_n 1, 1, 1, 0, 0), (127, .ireturn, 1, 0, 0, 0)])
def mq_X10_generators : mz_I := (yX10_generators, cX10_generators, 4, (some .int), false, 8, 0, 5, 112, [(0, .aload_n 0, 1, 0, 0, 0), (1, .iconst 0, 1, 0, 0, 0), (2, .putfield 55, 3, 522, 0, 142), (5, .iconst 0, 1, 0, 0, 0), (6, .istore_n 1, 1, 1, 0, 0), (7, .iconst 0, 1, 0, 0, 0), (8, .istore_n 2, 1, 2, 0, 0), (9, .aload_n 0, 1, 0, 0, 0), (10, .getfield 83, 3, 524, 0, 153), (13, .iconst 1, 1, 0, 1, 0), (14, .isub, 1, 0, 0, 0), (15, .istore_n 3, 1, 3, 0, 0), (16, .iload_n 3, 1, 3, 0, 0), (17, .ifCond .le 25, 3, 42, 0, 0), (20, .aload_n 0, 1, 0, 0, 0), (21, .iload_n 3, 1, 3, 0, 0), (22, .invokevirtual 191, 3, 153, 0, 197), (25, .ifCond .ne 6, 3, 31, 0, 0), (28, .goto 8, 3, 36, 0, 0), (31, .iinc 1 1, 3, 1, 1, 0), (34, .iload_n 3, 1, 3, 0, 0), (35, .istore_n 2, 1, 2, 0, 0), (36, .iinc 3 (-1), 3, 3, (-1), 0), (39, .goto (-23), 3, 16, 0, 0), (42, .aload_n 0, 1, 0, 0, 0), (43, .iconst 0, 1, 0, 0, 0), (44, .putfield 59, 3, 521, 0, 144), (47, .aload_n 0, 1, 0, 0, 0), (48, .iload_n 2, 1, 2, 0, 0), (49, .i2l, 1, 0, 0, 0), (50, .invokevirtual 194, 3, 135, 0, 198), (53, .iload_n 1, 1, 1, 0, 0), (54, .ireturn, 1, 0, 0, 0)])
def mq_X10_orders : mz_I := (yX10_orders, cX10_orders, 5, (some .int), false, 8, 0, 4, 91, [(0, .aload_n 0, 1, 0, 0, 0), (1, .iconst 0, 1, 0, 0, 0), (2, .putfield 55, 3, 522, 0, 142), (5, .aload_n 0, 1, 0, 0, 0), (6, .iconst 0, 1, 0, 0, 0), (7, .putfield 59, 3, 521, 0, 144), (10, .iconst 0, 1, 0, 0, 0), (11, .istore_n 1, 1, 1, 0, 0), (12, .iconst 1, 1, 0, 1, 0), (13, .istore_n 2, 1, 2, 0, 0), (14, .iload_n 2, 1, 2, 0, 0), (15, .aload_n 0, 1, 0, 0, 0), (16, .getfield 83, 3, 524, 0, 153), (19, .if_icmp .ge 69, 3, 88, 0, 0), (22, .iconst 0, 1, 0, 0, 0), (23, .istore_n 3, 1, 3, 0, 0), (24, .iconst 1, 1, 0, 1, 0), (25, .istore 4, 2, 4, 0, 0), (27, .iload 4, 2, 4, 0, 0), (29, .aload_n 0, 1, 0, 0, 0), (30, .getfield 83, 3, 524, 0, 153), (33, .if_icmp .ge 27, 3, 60, 0, 0), (36, .iload_n 3, 1, 3, 0, 0), (37, .aload_n 0, 1, 0, 0, 0), (38, .iload 4, 2, 4, 0, 0), (40, .invokevirtual 101, 3, 152, 0, 159), (43, .iload_n 2, 1, 2, 0, 0), (44, .if_icmp .ne 7, 3, 51, 0, 0), (47, .iconst 1, 1, 0, 1, 0), (48, .goto 4, 3, 52, 0, 0), (51, .iconst 0, 1, 0, 0, 0), (52, .iadd, 1, 0, 0, 0), (53, .istore_n 3, 1, 3, 0, 0), (54, .iinc 4 1, 3, 4, 1, 0), (57, .goto (-30), 3, 27, 0, 0), (60, .iload_n 3, 1, 3, 0, 0), (61, .ifCond .ne 6, 3, 67, 0, 0), (64, .goto 18, 3, 82, 0, 0), (67, .aload_n 0, 1, 0, 0, 0), (68, .iload_n 2, 1, 2, 0, 0), (69, .i2l, 1, 0, 0, 0), (70, .invokevirtual 194, 3, 135, 0, 198), (73, .aload_n 0, 1, 0, 0, 0), (74, .iload_n 3, 1, 3, 0, 0), (75, .i2l, 1, 0, 0, 0), (76, .invokevirtual 194, 3, 135, 0, 198), (79, .iinc 1 1, 3, 1, 1, 0), (82, .iinc 2 1, 3, 2, 1, 0), (85, .goto (-71), 3, 14, 0, 0), (88, .iload_n 1, 1, 1, 0, 0), (89, .ireturn, 1, 0, 0, 0)])
def mq_X10_quadratic : mz_I := (yX10_quadratic, cX10_quadratic, 6, (some .int), false, 8, 3, 3, 68, [(0, .aload_n 0, 1, 0, 0, 0), (1, .iconst 0, 1, 0, 0, 0), (2, .putfield 55, 3, 522, 0, 142), (5, .aload_n 0, 1, 0, 0, 0), (6, .iload_n 1, 1, 1, 0, 0), (7, .invokevirtual 183, 3, 156, 0, 194), (10, .ifCond .eq 19, 3, 29, 0, 0), (13, .aload_n 0, 1, 0, 0, 0), (14, .iload_n 2, 1, 2, 0, 0), (15, .invokevirtual 183, 3, 156, 0, 194), (18, .ifCond .eq 11, 3, 29, 0, 0), (21, .aload_n 0, 1, 0, 0, 0), (22, .iload_n 3, 1, 3, 0, 0), (23, .invokevirtual 183, 3, 156, 0, 194), (26, .ifCond .ne 5, 3, 31, 0, 0), (29, .iconst (-1), 1, 0, (-1), 0), (30, .ireturn, 1, 0, 0, 0), (31, .iconst 0, 1, 0, 0, 0), (32, .istore 4, 2, 4, 0, 0), (34, .aload_n 0, 1, 0, 0, 0), (35, .iconst 0, 1, 0, 0, 0), (36, .putfield 59, 3, 521, 0, 144), (39, .iconst 0, 1, 0, 0, 0), (40, .istore 5, 2, 5, 0, 0), (42, .iload 5, 2, 5, 0, 0), (44, .aload_n 0, 1, 0, 0, 0), (45, .getfield 83, 3, 524, 0, 153), (48, .if_icmp .ge 54, 3, 102, 0, 0), (51, .aload_n 0, 1, 0, 0, 0), (52, .iload_n 1, 1, 1, 0, 0), (53, .aload_n 0, 1, 0, 0, 0), (54, .iload 5, 2, 5, 0, 0), (56, .iload 5, 2, 5, 0, 0), (58, .invokevirtual 92, 3, 147, 0, 156), (61, .invokevirtual 92, 3, 147, 0, 156), (64, .aload_n 0, 1, 0, 0, 0), (65, .iload_n 2, 1, 2, 0, 0), (66, .iload 5, 2, 5, 0, 0), (68, .invokevirtual 92, 3, 147, 0, 156), (71, .ixor, 1, 0, 0, 0), (72, .iload_n 3, 1, 3, 0, 0), (73, .if_icmp .eq 6, 3, 79, 0, 0), (76, .goto 20, 3, 96, 0, 0), (79, .iload 4, 2, 4, 0, 0), (81, .bipush 8, 2, 0, 8, 0), (83, .if_icmp .ge 10, 3, 93, 0, 0), (86, .aload_n 0, 1, 0, 0, 0), (87, .iload 5, 2, 5, 0, 0), (89, .i2l, 1, 0, 0, 0), (90, .invokevirtual 194, 3, 135, 0, 198), (93, .iinc 4 1, 3, 4, 1, 0), (96, .iinc 5 1, 3, 5, 1, 0), (99, .goto (-57), 3, 42, 0, 0), (102, .iload 4, 2, 4, 0, 0), (104, .ireturn, 1, 0, 0, 0)])
def mq_X10_subfield : mz_I := (yX10_subfield, cX10_subfield, 3, (some .int), false, 8, 1, 5, 116, [(0, .aload_n 0, 1, 0, 0, 0), (1, .iconst 0, 1, 0, 0, 0), (2, .putfield 55, 3, 522, 0, 142), (5, .aload_n 0, 1, 0, 0, 0), (6, .iload_n 1, 1, 1, 0, 0), (7, .invokevirtual 206, 3, 157, 0, 202), (10, .ifCond .ne 5, 3, 15, 0, 0), (13, .iconst (-1), 1, 0, (-1), 0), (14, .ireturn, 1, 0, 0, 0), (15, .aload_n 0, 1, 0, 0, 0), (16, .iload_n 1, 1, 1, 0, 0), (17, .invokevirtual 117, 3, 163, 0, 167), (20, .aload_n 0, 1, 0, 0, 0), (21, .iconst 0, 1, 0, 0, 0), (22, .putfield 59, 3, 521, 0, 144), (25, .iconst 0, 1, 0, 0, 0), (26, .istore_n 2, 1, 2, 0, 0), (27, .iload_n 2, 1, 2, 0, 0), (28, .iload_n 1, 1, 1, 0, 0), (29, .if_icmp .ge 20, 3, 49, 0, 0), (32, .aload_n 0, 1, 0, 0, 0), (33, .aload_n 0, 1, 0, 0, 0), (34, .getfield 36, 3, 527, 0, 166), (37, .iload_n 2, 1, 2, 0, 0), (38, .iaload, 1, 0, 0, 0), (39, .i2l, 1, 0, 0, 0), (40, .invokevirtual 194, 3, 135, 0, 198), (43, .iinc 2 1, 3, 2, 1, 0), (46, .goto (-19), 3, 27, 0, 0), (49, .iconst 1, 1, 0, 1, 0), (50, .iload_n 1, 1, 1, 0, 0), (51, .ishl, 1, 0, 0, 0), (52, .ireturn, 1, 0, 0, 0)])
def mq_X10_normal : mz_I := (yX10_normal, cX10_normal, 3, (some .int), false, 8, 1, 5, 114, [(0, .aload_n 0, 1, 0, 0, 0), (1, .iconst 0, 1, 0, 0, 0), (2, .putfield 55, 3, 522, 0, 142), (5, .aload_n 0, 1, 0, 0, 0), (6, .iload_n 1, 1, 1, 0, 0), (7, .invokevirtual 183, 3, 156, 0, 194), (10, .ifCond .ne 5, 3, 15, 0, 0), (13, .iconst (-1), 1, 0, (-1), 0), (14, .ireturn, 1, 0, 0, 0), (15, .aload_n 0, 1, 0, 0, 0), (16, .iload_n 1, 1, 1, 0, 0), (17, .invokevirtual 111, 3, 161, 0, 164), (20, .aload_n 0, 1, 0, 0, 0), (21, .aload_n 0, 1, 0, 0, 0), (22, .getfield 80, 3, 523, 0, 152), (25, .invokevirtual 114, 3, 160, 0, 165), (28, .istore_n 2, 1, 2, 0, 0), (29, .aload_n 0, 1, 0, 0, 0), (30, .iconst 0, 1, 0, 0, 0), (31, .putfield 59, 3, 521, 0, 144), (34, .aload_n 0, 1, 0, 0, 0), (35, .iload_n 2, 1, 2, 0, 0), (36, .i2l, 1, 0, 0, 0), (37, .invokevirtual 194, 3, 135, 0, 198), (40, .iload_n 2, 1, 2, 0, 0), (41, .aload_n 0, 1, 0, 0, 0), (42, .getfield 80, 3, 523, 0, 152), (45, .if_icmp .ne 7, 3, 52, 0, 0), (48, .iconst 1, 1, 0, 1, 0), (49, .goto 4, 3, 53, 0, 0), (52, .iconst 0, 1, 0, 0, 0), (53, .ireturn, 1, 0, 0, 0)])
def mq_X10_normals : mz_I := (yX10_normals, cX10_normals, 5, (some .int), false, 8, 0, 6, 135, [(0, .aload_n 0, 1, 0, 0, 0), (1, .iconst 0, 1, 0, 0, 0), (2, .putfield 55, 3, 522, 0, 142), (5, .iconst 0, 1, 0, 0, 0), (6, .istore_n 1, 1, 1, 0, 0), (7, .iconst (-1), 1, 0, (-1), 0), (8, .istore_n 2, 1, 2, 0, 0), (9, .iconst (-1), 1, 0, (-1), 0), (10, .istore_n 3, 1, 3, 0, 0), (11, .aload_n 0, 1, 0, 0, 0), (12, .getfield 83, 3, 524, 0, 153), (15, .iconst 1, 1, 0, 1, 0), (16, .isub, 1, 0, 0, 0), (17, .istore 4, 2, 4, 0, 0), (19, .iload 4, 2, 4, 0, 0), (21, .ifCond .le 43, 3, 64, 0, 0), (24, .aload_n 0, 1, 0, 0, 0), (25, .iload 4, 2, 4, 0, 0), (27, .invokevirtual 132, 3, 162, 0, 174), (30, .ifCond .ne 6, 3, 36, 0, 0), (33, .goto 25, 3, 58, 0, 0), (36, .iinc 1 1, 3, 1, 1, 0), (39, .iload 4, 2, 4, 0, 0), (41, .istore_n 2, 1, 2, 0, 0), (42, .aload_n 0, 1, 0, 0, 0), (43, .iload 4, 2, 4, 0, 0), (45, .invokevirtual 191, 3, 153, 0, 197), (48, .ifCond .eq 8, 3, 56, 0, 0), (51, .iload 4, 2, 4, 0, 0), (53, .goto 4, 3, 57, 0, 0), (56, .iload_n 3, 1, 3, 0, 0), (57, .istore_n 3, 1, 3, 0, 0), (58, .iinc 4 (-1), 3, 4, (-1), 0), (61, .goto (-42), 3, 19, 0, 0), (64, .aload_n 0, 1, 0, 0, 0), (65, .iconst 0, 1, 0, 0, 0), (66, .putfield 59, 3, 521, 0, 144), (69, .aload_n 0, 1, 0, 0, 0), (70, .iload_n 2, 1, 2, 0, 0), (71, .i2l, 1, 0, 0, 0), (72, .invokevirtual 194, 3, 135, 0, 198), (75, .aload_n 0, 1, 0, 0, 0), (76, .iload_n 3, 1, 3, 0, 0), (77, .i2l, 1, 0, 0, 0), (78, .invokevirtual 194, 3, 135, 0, 198), (81, .iload_n 1, 1, 1, 0, 0), (82, .ireturn, 1, 0, 0, 0)])
def mq_X10_complete : mz_I := (yX10_complete, cX10_complete, 4, (some .int), false, 8, 1, 6, 141, [(0, .aload_n 0, 1, 0, 0, 0), (1, .iconst 0, 1, 0, 0, 0), (2, .putfield 55, 3, 522, 0, 142), (5, .aload_n 0, 1, 0, 0, 0), (6, .iload_n 1, 1, 1, 0, 0), (7, .invokevirtual 183, 3, 156, 0, 194), (10, .ifCond .ne 5, 3, 15, 0, 0), (13, .iconst (-1), 1, 0, (-1), 0), (14, .ireturn, 1, 0, 0, 0), (15, .iconst 0, 1, 0, 0, 0), (16, .istore_n 2, 1, 2, 0, 0), (17, .iconst 1, 1, 0, 1, 0), (18, .istore_n 3, 1, 3, 0, 0), (19, .iload_n 3, 1, 3, 0, 0), (20, .aload_n 0, 1, 0, 0, 0), (21, .getfield 80, 3, 523, 0, 152), (24, .if_icmp .ge 36, 3, 60, 0, 0), (27, .iload_n 2, 1, 2, 0, 0), (28, .aload_n 0, 1, 0, 0, 0), (29, .iload_n 3, 1, 3, 0, 0), (30, .invokevirtual 206, 3, 157, 0, 202), (33, .ifCond .eq 18, 3, 51, 0, 0), (36, .aload_n 0, 1, 0, 0, 0), (37, .iload_n 1, 1, 1, 0, 0), (38, .iload_n 3, 1, 3, 0, 0), (39, .invokevirtual 222, 3, 164, 0, 208), (42, .ifCond .eq 9, 3, 51, 0, 0), (45, .iconst 1, 1, 0, 1, 0), (46, .iload_n 3, 1, 3, 0, 0), (47, .ishl, 1, 0, 0, 0), (48, .goto 4, 3, 52, 0, 0), (51, .iconst 0, 1, 0, 0, 0), (52, .ior, 1, 0, 0, 0), (53, .istore_n 2, 1, 2, 0, 0), (54, .iinc 3 1, 3, 3, 1, 0), (57, .goto (-38), 3, 19, 0, 0), (60, .iload_n 2, 1, 2, 0, 0), (61, .ireturn, 1, 0, 0, 0)])
def mq_X10_leastNormal : mz_I := (yX10_leastNormal, cX10_leastNormal, 6, (some .int), false, 8, 0, 6, 135, [(0, .aload_n 0, 1, 0, 0, 0), (1, .iconst 0, 1, 0, 0, 0), (2, .putfield 55, 3, 522, 0, 142), (5, .iconst 0, 1, 0, 0, 0), (6, .istore_n 1, 1, 1, 0, 0), (7, .iconst (-1), 1, 0, (-1), 0), (8, .istore_n 2, 1, 2, 0, 0), (9, .iconst 0, 1, 0, 0, 0), (10, .istore_n 3, 1, 3, 0, 0), (11, .iconst 1, 1, 0, 1, 0), (12, .istore 4, 2, 4, 0, 0), (14, .iload 4, 2, 4, 0, 0), (16, .aload_n 0, 1, 0, 0, 0), (17, .getfield 83, 3, 524, 0, 153), (20, .if_icmp .ge 64, 3, 84, 0, 0), (23, .aload_n 0, 1, 0, 0, 0), (24, .iload 4, 2, 4, 0, 0), (26, .invokevirtual 132, 3, 162, 0, 174), (29, .ifCond .ne 6, 3, 35, 0, 0), (32, .goto 46, 3, 78, 0, 0), (35, .aload_n 0, 1, 0, 0, 0), (36, .invokevirtual 226, 3, 172, 0, 209), (39, .aload_n 0, 1, 0, 0, 0), (40, .invokevirtual 142, 3, 169, 0, 178), (43, .istore 5, 2, 5, 0, 0), (45, .iload_n 2, 1, 2, 0, 0), (46, .iconst (-1), 1, 0, (-1), 0), (47, .if_icmp .eq 9, 3, 56, 0, 0), (50, .iload 5, 2, 5, 0, 0), (52, .iload_n 1, 1, 1, 0, 0), (53, .if_icmp .ge 11, 3, 64, 0, 0), (56, .iload 5, 2, 5, 0, 0), (58, .istore_n 1, 1, 1, 0, 0), (59, .iload 4, 2, 4, 0, 0), (61, .istore_n 2, 1, 2, 0, 0), (62, .iconst 0, 1, 0, 0, 0), (63, .istore_n 3, 1, 3, 0, 0), (64, .iload_n 3, 1, 3, 0, 0), (65, .iload 5, 2, 5, 0, 0), (67, .iload_n 1, 1, 1, 0, 0), (68, .if_icmp .ne 7, 3, 75, 0, 0), (71, .iconst 1, 1, 0, 1, 0), (72, .goto 4, 3, 76, 0, 0), (75, .iconst 0, 1, 0, 0, 0), (76, .iadd, 1, 0, 0, 0), (77, .istore_n 3, 1, 3, 0, 0), (78, .iinc 4 1, 3, 4, 1, 0), (81, .goto (-67), 3, 14, 0, 0), (84, .aload_n 0, 1, 0, 0, 0), (85, .iconst 0, 1, 0, 0, 0), (86, .putfield 59, 3, 521, 0, 144), (89, .aload_n 0, 1, 0, 0, 0), (90, .iload_n 2, 1, 2, 0, 0), (91, .i2l, 1, 0, 0, 0), (92, .invokevirtual 194, 3, 135, 0, 198), (95, .aload_n 0, 1, 0, 0, 0), (96, .iload_n 3, 1, 3, 0, 0), (97, .i2l, 1, 0, 0, 0), (98, .invokevirtual 194, 3, 135, 0, 198), (101, .iload_n 1, 1, 1, 0, 0), (102, .ireturn, 1, 0, 0, 0)])
def mq_X10_takesPowers : mz_I := (yX10_takesPowers, cX10_takesPowers, 3, (some .boolean), false, 8, 1, 4, 93, [(0, .iconst 0, 1, 0, 0, 0), (1, .istore_n 2, 1, 2, 0, 0), (2, .iload_n 2, 1, 2, 0, 0), (3, .aload_n 0, 1, 0, 0, 0), (4, .getfield 80, 3, 523, 0, 152), (7, .if_icmp .ge 21, 3, 28, 0, 0), (10, .aload_n 0, 1, 0, 0, 0), (11, .getfield 30, 3, 525, 0, 161), (14, .iload_n 2, 1, 2, 0, 0), (15, .aload_n 0, 1, 0, 0, 0), (16, .iload_n 1, 1, 1, 0, 0), (17, .iload_n 2, 1, 2, 0, 0), (18, .invokevirtual 95, 3, 149, 0, 157), (21, .iastore, 1, 0, 0, 0), (22, .iinc 2 1, 3, 2, 1, 0), (25, .goto (-23), 3, 2, 0, 0), (28, .aload_n 0, 1, 0, 0, 0), (29, .aload_n 0, 1, 0, 0, 0), (30, .getfield 80, 3, 523, 0, 152), (33, .invokevirtual 114, 3, 160, 0, 165), (36, .aload_n 0, 1, 0, 0, 0), (37, .getfield 80, 3, 523, 0, 152), (40, .if_icmp .ne 7, 3, 47, 0, 0), (43, .iconst 1, 1, 0, 1, 0), (44, .goto 4, 3, 48, 0, 0), (47, .iconst 0, 1, 0, 0, 0), (48, .ireturn, 1, 0, 0, 0)])
def mq_X10_leastPowers : mz_I := (yX10_leastPowers, cX10_leastPowers, 6, (some .int), false, 8, 0, 5, 115, [(0, .aload_n 0, 1, 0, 0, 0), (1, .iconst 0, 1, 0, 0, 0), (2, .putfield 55, 3, 522, 0, 142), (5, .iconst 0, 1, 0, 0, 0), (6, .istore_n 1, 1, 1, 0, 0), (7, .iconst (-1), 1, 0, (-1), 0), (8, .istore_n 2, 1, 2, 0, 0), (9, .iconst 0, 1, 0, 0, 0), (10, .istore_n 3, 1, 3, 0, 0), (11, .iconst 1, 1, 0, 1, 0), (12, .istore 4, 2, 4, 0, 0), (14, .iload 4, 2, 4, 0, 0), (16, .aload_n 0, 1, 0, 0, 0), (17, .getfield 83, 3, 524, 0, 153), (20, .if_icmp .ge 64, 3, 84, 0, 0), (23, .aload_n 0, 1, 0, 0, 0), (24, .iload 4, 2, 4, 0, 0), (26, .invokevirtual 229, 3, 206, 0, 210), (29, .ifCond .ne 6, 3, 35, 0, 0), (32, .goto 46, 3, 78, 0, 0), (35, .aload_n 0, 1, 0, 0, 0), (36, .invokevirtual 226, 3, 172, 0, 209), (39, .aload_n 0, 1, 0, 0, 0), (40, .invokevirtual 232, 3, 170, 0, 211), (43, .istore 5, 2, 5, 0, 0), (45, .iload_n 2, 1, 2, 0, 0), (46, .iconst (-1), 1, 0, (-1), 0), (47, .if_icmp .eq 9, 3, 56, 0, 0), (50, .iload 5, 2, 5, 0, 0), (52, .iload_n 1, 1, 1, 0, 0), (53, .if_icmp .ge 11, 3, 64, 0, 0), (56, .iload 5, 2, 5, 0, 0), (58, .istore_n 1, 1, 1, 0, 0), (59, .iload 4, 2, 4, 0, 0), (61, .istore_n 2, 1, 2, 0, 0), (62, .iconst 0, 1, 0, 0, 0), (63, .istore_n 3, 1, 3, 0, 0), (64, .iload_n 3, 1, 3, 0, 0), (65, .iload 5, 2, 5, 0, 0), (67, .iload_n 1, 1, 1, 0, 0), (68, .if_icmp .ne 7, 3, 75, 0, 0), (71, .iconst 1, 1, 0, 1, 0), (72, .goto 4, 3, 76, 0, 0), (75, .iconst 0, 1, 0, 0, 0), (76, .iadd, 1, 0, 0, 0), (77, .istore_n 3, 1, 3, 0, 0), (78, .iinc 4 1, 3, 4, 1, 0), (81, .goto (-67), 3, 14, 0, 0), (84, .aload_n 0, 1, 0, 0, 0), (85, .iconst 0, 1, 0, 0, 0), (86, .putfield 59, 3, 521, 0, 144), (89, .aload_n 0, 1, 0, 0, 0), (90, .iload_n 2, 1, 2, 0, 0), (91, .i2l, 1, 0, 0, 0), (92, .invokevirtual 194, 3, 135, 0, 198), (95, .aload_n 0, 1, 0, 0, 0), (96, .iload_n 3, 1, 3, 0, 0), (97, .i2l, 1, 0, 0, 0), (98, .invokevirtual 194, 3, 135, 0, 198), (101, .iload_n 1, 1, 1, 0, 0), (102, .ireturn, 1, 0, 0, 0)])
def mq_X10_isPrime : mz_I := (yX10_isPrime, cX10_isPrime, 2, (some .boolean), true, 8, 1, 0, 0, [(0, .iconst 2, 1, 0, 2, 0), (1, .istore_n 1, 1, 1, 0, 0), (2, .iload_n 1, 1, 1, 0, 0), (3, .iload_n 1, 1, 1, 0, 0), (4, .imul, 1, 0, 0, 0), (5, .iload_n 0, 1, 0, 0, 0), (6, .if_icmp .gt 17, 3, 23, 0, 0), (9, .iload_n 0, 1, 0, 0, 0), (10, .iload_n 1, 1, 1, 0, 0), (11, .irem, 1, 0, 0, 0), (12, .ifCond .ne 5, 3, 17, 0, 0), (15, .iconst 0, 1, 0, 0, 0), (16, .ireturn, 1, 0, 0, 0), (17, .iinc 1 1, 3, 1, 1, 0), (20, .goto (-18), 3, 2, 0, 0), (23, .iload_n 0, 1, 0, 0, 0), (24, .iconst 1, 1, 0, 1, 0), (25, .if_icmp .le 7, 3, 32, 0, 0), (28, .iconst 1, 1, 0, 1, 0), (29, .goto 4, 3, 33, 0, 0), (32, .iconst 0, 1, 0, 0, 0), (33, .ireturn, 1, 0, 0, 0)])
def mq_X10_powersOfTwo : mz_I := (yX10_powersOfTwo, cX10_powersOfTwo, 3, (some .int), true, 8, 1, 1, 21, [(0, .iload_n 0, 1, 0, 0, 0), (1, .invokestatic 235, 3, 208, 0, 212), (4, .ifCond .ne 5, 3, 9, 0, 0), (7, .iconst 0, 1, 0, 0, 0), (8, .ireturn, 1, 0, 0, 0), (9, .iconst 1, 1, 0, 1, 0), (10, .istore_n 1, 1, 1, 0, 0), (11, .iconst 2, 1, 0, 2, 0), (12, .iload_n 0, 1, 0, 0, 0), (13, .irem, 1, 0, 0, 0), (14, .istore_n 2, 1, 2, 0, 0), (15, .iload_n 2, 1, 2, 0, 0), (16, .iconst 1, 1, 0, 1, 0), (17, .if_icmp .eq 15, 3, 32, 0, 0), (20, .iinc 1 1, 3, 1, 1, 0), (23, .iconst 2, 1, 0, 2, 0), (24, .iload_n 2, 1, 2, 0, 0), (25, .imul, 1, 0, 0, 0), (26, .iload_n 0, 1, 0, 0, 0), (27, .irem, 1, 0, 0, 0), (28, .istore_n 2, 1, 2, 0, 0), (29, .goto (-14), 3, 15, 0, 0), (32, .iload_n 1, 1, 1, 0, 0), (33, .ireturn, 1, 0, 0, 0)])
def mq_X10_types : mz_I := (yX10_types, cX10_types, 4, (some .int), false, 8, 1, 2, 43, [(0, .aload_n 0, 1, 0, 0, 0), (1, .iconst 0, 1, 0, 0, 0), (2, .putfield 55, 3, 522, 0, 142), (5, .iload_n 1, 1, 1, 0, 0), (6, .i2l, 1, 0, 0, 0), (7, .ldc2_w 215, 3, 0, 2, 205), (10, .ldc2_w 198, 3, 0, 100, 199), (13, .invokestatic 65, 3, 133, 0, 147), (16, .ifCond .ne 5, 3, 21, 0, 0), (19, .iconst (-1), 1, 0, (-1), 0), (20, .ireturn, 1, 0, 0, 0), (21, .iload_n 1, 1, 1, 0, 0), (22, .iconst 1, 1, 0, 1, 0), (23, .iadd, 1, 0, 0, 0), (24, .invokestatic 238, 3, 209, 0, 213), (27, .istore_n 2, 1, 2, 0, 0), (28, .iconst 2, 1, 0, 2, 0), (29, .iload_n 1, 1, 1, 0, 0), (30, .imul, 1, 0, 0, 0), (31, .iconst 1, 1, 0, 1, 0), (32, .iadd, 1, 0, 0, 0), (33, .invokestatic 238, 3, 209, 0, 213), (36, .istore_n 3, 1, 3, 0, 0), (37, .aload_n 0, 1, 0, 0, 0), (38, .iconst 0, 1, 0, 0, 0), (39, .putfield 59, 3, 521, 0, 144), (42, .aload_n 0, 1, 0, 0, 0), (43, .iload_n 2, 1, 2, 0, 0), (44, .i2l, 1, 0, 0, 0), (45, .invokevirtual 194, 3, 135, 0, 198), (48, .aload_n 0, 1, 0, 0, 0), (49, .iload_n 3, 1, 3, 0, 0), (50, .i2l, 1, 0, 0, 0), (51, .invokevirtual 194, 3, 135, 0, 198), (54, .iload_n 2, 1, 2, 0, 0), (55, .iload_n 1, 1, 1, 0, 0), (56, .if_icmp .ne 7, 3, 63, 0, 0), (59, .iconst 1, 1, 0, 1, 0), (60, .goto 4, 3, 64, 0, 0), (63, .iconst 0, 1, 0, 0, 0), (64, .iload_n 3, 1, 3, 0, 0), (65, .iconst 2, 1, 0, 2, 0), (66, .iload_n 1, 1, 1, 0, 0), (67, .imul, 1, 0, 0, 0), (68, .if_icmp .eq 19, 3, 87, 0, 0), (71, .iload_n 3, 1, 3, 0, 0), (72, .iload_n 1, 1, 1, 0, 0), (73, .if_icmp .ne 18, 3, 91, 0, 0), (76, .iconst 2, 1, 0, 2, 0), (77, .iload_n 1, 1, 1, 0, 0), (78, .imul, 1, 0, 0, 0), (79, .iconst 1, 1, 0, 1, 0), (80, .iadd, 1, 0, 0, 0), (81, .iconst 4, 1, 0, 4, 0), (82, .irem, 1, 0, 0, 0), (83, .iconst 3, 1, 0, 3, 0), (84, .if_icmp .ne 7, 3, 91, 0, 0), (87, .iconst 2, 1, 0, 2, 0), (88, .goto 4, 3, 92, 0, 0), (91, .iconst 0, 1, 0, 0, 0), (92, .ior, 1, 0, 0, 0), (93, .ireturn, 1, 0, 0, 0)])
def mq_X10_readsElement : mz_I := (yX10_readsElement, cX10_readsElement, 3, (some .int), false, 8, 0, 2, 46, [(0, .iconst 0, 1, 0, 0, 0), (1, .istore_n 1, 1, 1, 0, 0), (2, .iconst 0, 1, 0, 0, 0), (3, .istore_n 2, 1, 2, 0, 0), (4, .iload_n 2, 1, 2, 0, 0), (5, .iconst 3, 1, 0, 3, 0), (6, .if_icmp .ge 57, 3, 63, 0, 0), (9, .iload_n 2, 1, 2, 0, 0), (10, .ifCond .eq 7, 3, 17, 0, 0), (13, .iload_n 1, 1, 1, 0, 0), (14, .ifCond .le 49, 3, 63, 0, 0), (17, .aload_n 0, 1, 0, 0, 0), (18, .invokevirtual 155, 3, 176, 0, 182), (21, .i2l, 1, 0, 0, 0), (22, .ldc2_w 161, 3, 0, 48, 184), (25, .ldc2_w 163, 3, 0, 57, 185), (28, .invokestatic 65, 3, 133, 0, 147), (31, .ifCond .eq 32, 3, 63, 0, 0), (34, .bipush 10, 2, 0, 10, 0), (36, .iload_n 1, 1, 1, 0, 0), (37, .imul, 1, 0, 0, 0), (38, .aload_n 0, 1, 0, 0, 0), (39, .invokevirtual 155, 3, 176, 0, 182), (42, .iadd, 1, 0, 0, 0), (43, .bipush 48, 2, 0, 48, 0), (45, .isub, 1, 0, 0, 0), (46, .istore_n 1, 1, 1, 0, 0), (47, .aload_n 0, 1, 0, 0, 0), (48, .dup, 1, 0, 0, 0), (49, .getfield 149, 3, 531, 0, 180), (52, .iconst 1, 1, 0, 1, 0), (53, .iadd, 1, 0, 0, 0), (54, .putfield 149, 3, 531, 0, 180), (57, .iinc 2 1, 3, 2, 1, 0), (60, .goto (-56), 3, 4, 0, 0), (63, .iload_n 2, 1, 2, 0, 0), (64, .ifCond .ne 14, 3, 78, 0, 0), (67, .aload_n 0, 1, 0, 0, 0), (68, .aload_n 0, 1, 0, 0, 0), (69, .getfield 149, 3, 531, 0, 180), (72, .invokevirtual 158, 3, 177, 0, 183), (75, .goto 21, 3, 96, 0, 0), (78, .aload_n 0, 1, 0, 0, 0), (79, .iload_n 1, 1, 1, 0, 0), (80, .invokevirtual 183, 3, 156, 0, 194), (83, .ifCond .ne 13, 3, 96, 0, 0), (86, .aload_n 0, 1, 0, 0, 0), (87, .aload_n 0, 1, 0, 0, 0), (88, .getfield 149, 3, 531, 0, 180), (91, .iconst 1, 1, 0, 1, 0), (92, .isub, 1, 0, 0, 0), (93, .invokevirtual 158, 3, 177, 0, 183), (96, .iload_n 1, 1, 1, 0, 0), (97, .ireturn, 1, 0, 0, 0)])
def mq_X10_base : mz_I := (yX10_base, cX10_base, 4, (some .int), false, 8, 1, 5, 112, [(0, .aload_n 0, 1, 0, 0, 0), (1, .iconst 0, 1, 0, 0, 0), (2, .putfield 55, 3, 522, 0, 142), (5, .aload_n 0, 1, 0, 0, 0), (6, .invokevirtual 170, 3, 175, 0, 188), (9, .iconst 0, 1, 0, 0, 0), (10, .istore_n 2, 1, 2, 0, 0), (11, .iconst 0, 1, 0, 0, 0), (12, .istore_n 3, 1, 3, 0, 0), (13, .iload_n 3, 1, 3, 0, 0), (14, .aload_n 0, 1, 0, 0, 0), (15, .getfield 80, 3, 523, 0, 152), (18, .if_icmp .ge 85, 3, 103, 0, 0), (21, .aload_n 0, 1, 0, 0, 0), (22, .getfield 152, 3, 532, 0, 181), (25, .iconst (-1), 1, 0, (-1), 0), (26, .if_icmp .ne 77, 3, 103, 0, 0), (29, .iload_n 3, 1, 3, 0, 0), (30, .ifCond .le 20, 3, 50, 0, 0), (33, .aload_n 0, 1, 0, 0, 0), (34, .invokevirtual 155, 3, 176, 0, 182), (37, .bipush 44, 2, 0, 44, 0), (39, .if_icmp .eq 11, 3, 50, 0, 0), (42, .aload_n 0, 1, 0, 0, 0), (43, .aload_n 0, 1, 0, 0, 0), (44, .getfield 149, 3, 531, 0, 180), (47, .invokevirtual 158, 3, 177, 0, 183), (50, .aload_n 0, 1, 0, 0, 0), (51, .getfield 152, 3, 532, 0, 181), (54, .iconst (-1), 1, 0, (-1), 0), (55, .if_icmp .eq 6, 3, 61, 0, 0), (58, .goto 45, 3, 103, 0, 0), (61, .iload_n 3, 1, 3, 0, 0), (62, .ifCond .le 13, 3, 75, 0, 0), (65, .aload_n 0, 1, 0, 0, 0), (66, .dup, 1, 0, 0, 0), (67, .getfield 149, 3, 531, 0, 180), (70, .iconst 1, 1, 0, 1, 0), (71, .iadd, 1, 0, 0, 0), (72, .putfield 149, 3, 531, 0, 180), (75, .aload_n 0, 1, 0, 0, 0), (76, .getfield 30, 3, 525, 0, 161), (79, .iload_n 3, 1, 3, 0, 0), (80, .aload_n 0, 1, 0, 0, 0), (81, .invokevirtual 241, 3, 211, 0, 214), (84, .iastore, 1, 0, 0, 0), (85, .iload_n 2, 1, 2, 0, 0), (86, .aload_n 0, 1, 0, 0, 0), (87, .getfield 30, 3, 525, 0, 161), (90, .iload_n 3, 1, 3, 0, 0), (91, .iaload, 1, 0, 0, 0), (92, .invokestatic 129, 3, 136, 0, 173), (95, .iadd, 1, 0, 0, 0), (96, .istore_n 2, 1, 2, 0, 0), (97, .iinc 3 1, 3, 3, 1, 0), (100, .goto (-87), 3, 13, 0, 0), (103, .aload_n 0, 1, 0, 0, 0), (104, .getfield 152, 3, 532, 0, 181), (107, .iconst (-1), 1, 0, (-1), 0), (108, .if_icmp .ne 22, 3, 130, 0, 0), (111, .aload_n 0, 1, 0, 0, 0), (112, .getfield 149, 3, 531, 0, 180), (115, .aload_n 0, 1, 0, 0, 0), (116, .getfield 146, 3, 530, 0, 179), (119, .if_icmp .ge 11, 3, 130, 0, 0), (122, .aload_n 0, 1, 0, 0, 0), (123, .aload_n 0, 1, 0, 0, 0), (124, .getfield 149, 3, 531, 0, 180), (127, .invokevirtual 158, 3, 177, 0, 183), (130, .aload_n 0, 1, 0, 0, 0), (131, .getfield 152, 3, 532, 0, 181), (134, .iconst (-1), 1, 0, (-1), 0), (135, .if_icmp .eq 11, 3, 146, 0, 0), (138, .bipush (-21), 2, 0, (-21), 0), (140, .aload_n 0, 1, 0, 0, 0), (141, .getfield 152, 3, 532, 0, 181), (144, .isub, 1, 0, 0, 0), (145, .ireturn, 1, 0, 0, 0), (146, .iload_n 1, 1, 1, 0, 0), (147, .invokestatic 244, 3, 158, 0, 215), (150, .ifCond .ne 5, 3, 155, 0, 0), (153, .iconst (-1), 1, 0, (-1), 0), (154, .ireturn, 1, 0, 0, 0), (155, .aload_n 0, 1, 0, 0, 0), (156, .aload_n 0, 1, 0, 0, 0), (157, .getfield 80, 3, 523, 0, 152), (160, .invokevirtual 114, 3, 160, 0, 165), (163, .aload_n 0, 1, 0, 0, 0), (164, .getfield 80, 3, 523, 0, 152), (167, .if_icmp .ge 6, 3, 173, 0, 0), (170, .bipush (-2), 2, 0, (-2), 0), (172, .ireturn, 1, 0, 0, 0), (173, .aload_n 0, 1, 0, 0, 0), (174, .invokevirtual 226, 3, 172, 0, 209), (177, .aload_n 0, 1, 0, 0, 0), (178, .iload_n 1, 1, 1, 0, 0), (179, .invokevirtual 247, 3, 174, 0, 216), (182, .istore_n 3, 1, 3, 0, 0), (183, .iload_n 3, 1, 3, 0, 0), (184, .ifCond .ge 7, 3, 191, 0, 0), (187, .iload_n 3, 1, 3, 0, 0), (188, .goto 4, 3, 192, 0, 0), (191, .iload_n 2, 1, 2, 0, 0), (192, .ireturn, 1, 0, 0, 0)])
def mq_X10_makes : mz_I := (yX10_makes, cX10_makes, 4, (some .int), false, 8, 3, 6, 135, [(0, .aload_n 0, 1, 0, 0, 0), (1, .iconst 0, 1, 0, 0, 0), (2, .putfield 55, 3, 522, 0, 142), (5, .iload_n 1, 1, 1, 0, 0), (6, .invokestatic 244, 3, 158, 0, 215), (9, .ifCond .eq 21, 3, 30, 0, 0), (12, .aload_n 0, 1, 0, 0, 0), (13, .iload_n 2, 1, 2, 0, 0), (14, .invokevirtual 183, 3, 156, 0, 194), (17, .ifCond .eq 13, 3, 30, 0, 0), (20, .iload_n 3, 1, 3, 0, 0), (21, .i2l, 1, 0, 0, 0), (22, .lconst 0, 1, 0, 0, 0), (23, .lconst 1, 1, 0, 1, 0), (24, .invokestatic 65, 3, 133, 0, 147), (27, .ifCond .ne 5, 3, 32, 0, 0), (30, .iconst (-1), 1, 0, (-1), 0), (31, .ireturn, 1, 0, 0, 0), (32, .iload_n 3, 1, 3, 0, 0), (33, .ifCond .ne 14, 3, 47, 0, 0), (36, .aload_n 0, 1, 0, 0, 0), (37, .iload_n 2, 1, 2, 0, 0), (38, .invokevirtual 229, 3, 206, 0, 210), (41, .ifCond .eq 14, 3, 55, 0, 0), (44, .goto 14, 3, 58, 0, 0), (47, .aload_n 0, 1, 0, 0, 0), (48, .iload_n 2, 1, 2, 0, 0), (49, .invokevirtual 132, 3, 162, 0, 174), (52, .ifCond .ne 6, 3, 58, 0, 0), (55, .bipush (-2), 2, 0, (-2), 0), (57, .ireturn, 1, 0, 0, 0), (58, .aload_n 0, 1, 0, 0, 0), (59, .invokevirtual 226, 3, 172, 0, 209), (62, .aload_n 0, 1, 0, 0, 0), (63, .iload_n 1, 1, 1, 0, 0), (64, .invokevirtual 247, 3, 174, 0, 216), (67, .ireturn, 1, 0, 0, 0)])
def mq_X10_copies : mz_I := (yX10_copies, cX10_copies, 5, (some .int), false, 8, 2, 5, 112, [(0, .aload_n 0, 1, 0, 0, 0), (1, .iconst 0, 1, 0, 0, 0), (2, .putfield 55, 3, 522, 0, 142), (5, .iload_n 1, 1, 1, 0, 0), (6, .invokestatic 244, 3, 158, 0, 215), (9, .ifCond .eq 10, 3, 19, 0, 0), (12, .iload_n 2, 1, 2, 0, 0), (13, .invokestatic 244, 3, 158, 0, 215), (16, .ifCond .ne 5, 3, 21, 0, 0), (19, .iconst (-1), 1, 0, (-1), 0), (20, .ireturn, 1, 0, 0, 0), (21, .iconst 0, 1, 0, 0, 0), (22, .istore_n 3, 1, 3, 0, 0), (23, .iconst 0, 1, 0, 0, 0), (24, .istore 4, 2, 4, 0, 0), (26, .iload 4, 2, 4, 0, 0), (28, .aload_n 0, 1, 0, 0, 0), (29, .getfield 80, 3, 523, 0, 152), (32, .if_icmp .ge 36, 3, 68, 0, 0), (35, .iload_n 3, 1, 3, 0, 0), (36, .ifCond .ne 20, 3, 56, 0, 0), (39, .aload_n 0, 1, 0, 0, 0), (40, .iload_n 1, 1, 1, 0, 0), (41, .iload 4, 2, 4, 0, 0), (43, .invokevirtual 123, 3, 167, 0, 171), (46, .aload_n 0, 1, 0, 0, 0), (47, .iload_n 2, 1, 2, 0, 0), (48, .iload 4, 2, 4, 0, 0), (50, .invokevirtual 123, 3, 167, 0, 171), (53, .if_icmp .eq 7, 3, 60, 0, 0), (56, .iconst 1, 1, 0, 1, 0), (57, .goto 4, 3, 61, 0, 0), (60, .iconst 0, 1, 0, 0, 0), (61, .istore_n 3, 1, 3, 0, 0), (62, .iinc 4 1, 3, 4, 1, 0), (65, .goto (-39), 3, 26, 0, 0), (68, .aload_n 0, 1, 0, 0, 0), (69, .iload_n 1, 1, 1, 0, 0), (70, .invokevirtual 250, 3, 168, 0, 217), (73, .aload_n 0, 1, 0, 0, 0), (74, .iload_n 2, 1, 2, 0, 0), (75, .invokevirtual 247, 3, 174, 0, 216), (78, .istore 4, 2, 4, 0, 0), (80, .iload_n 3, 1, 3, 0, 0), (81, .ifCond .eq 12, 3, 93, 0, 0), (84, .iload 4, 2, 4, 0, 0), (86, .ifCond .lt 7, 3, 93, 0, 0), (89, .iconst 1, 1, 0, 1, 0), (90, .goto 4, 3, 94, 0, 0), (93, .iconst 0, 1, 0, 0, 0), (94, .ireturn, 1, 0, 0, 0)])
def mq_X10_scales : mz_I := (yX10_scales, cX10_scales, 4, (some .int), false, 8, 2, 5, 112, [(0, .aload_n 0, 1, 0, 0, 0), (1, .iconst 0, 1, 0, 0, 0), (2, .putfield 55, 3, 522, 0, 142), (5, .iload_n 1, 1, 1, 0, 0), (6, .invokestatic 244, 3, 158, 0, 215), (9, .ifCond .eq 11, 3, 20, 0, 0), (12, .aload_n 0, 1, 0, 0, 0), (13, .iload_n 2, 1, 2, 0, 0), (14, .invokevirtual 183, 3, 156, 0, 194), (17, .ifCond .ne 5, 3, 22, 0, 0), (20, .iconst (-1), 1, 0, (-1), 0), (21, .ireturn, 1, 0, 0, 0), (22, .iload_n 2, 1, 2, 0, 0), (23, .ifCond .ne 6, 3, 29, 0, 0), (26, .bipush (-2), 2, 0, (-2), 0), (28, .ireturn, 1, 0, 0, 0), (29, .iconst 0, 1, 0, 0, 0), (30, .istore_n 3, 1, 3, 0, 0), (31, .iload_n 3, 1, 3, 0, 0), (32, .aload_n 0, 1, 0, 0, 0), (33, .getfield 80, 3, 523, 0, 152), (36, .if_icmp .ge 26, 3, 62, 0, 0), (39, .aload_n 0, 1, 0, 0, 0), (40, .getfield 30, 3, 525, 0, 161), (43, .iload_n 3, 1, 3, 0, 0), (44, .aload_n 0, 1, 0, 0, 0), (45, .iload_n 2, 1, 2, 0, 0), (46, .aload_n 0, 1, 0, 0, 0), (47, .iload_n 1, 1, 1, 0, 0), (48, .iload_n 3, 1, 3, 0, 0), (49, .invokevirtual 123, 3, 167, 0, 171), (52, .invokevirtual 92, 3, 147, 0, 156), (55, .iastore, 1, 0, 0, 0), (56, .iinc 3 1, 3, 3, 1, 0), (59, .goto (-28), 3, 31, 0, 0), (62, .aload_n 0, 1, 0, 0, 0), (63, .invokevirtual 226, 3, 172, 0, 209), (66, .aload_n 0, 1, 0, 0, 0), (67, .iload_n 1, 1, 1, 0, 0), (68, .invokevirtual 247, 3, 174, 0, 216), (71, .ireturn, 1, 0, 0, 0)])
def mq_X10_takesBase : mz_I := (yX10_takesBase, cX10_takesBase, 3, none, false, 8, 1, 1, 22, [(0, .iconst 0, 1, 0, 0, 0), (1, .istore_n 2, 1, 2, 0, 0), (2, .iload_n 2, 1, 2, 0, 0), (3, .aload_n 0, 1, 0, 0, 0), (4, .getfield 80, 3, 523, 0, 152), (7, .if_icmp .ge 21, 3, 28, 0, 0), (10, .aload_n 0, 1, 0, 0, 0), (11, .getfield 30, 3, 525, 0, 161), (14, .iload_n 2, 1, 2, 0, 0), (15, .aload_n 0, 1, 0, 0, 0), (16, .iload_n 1, 1, 1, 0, 0), (17, .iload_n 2, 1, 2, 0, 0), (18, .invokevirtual 123, 3, 167, 0, 171), (21, .iastore, 1, 0, 0, 0), (22, .iinc 2 1, 3, 2, 1, 0), (25, .goto (-23), 3, 2, 0, 0), (28, .return_, 1, 0, 0, 0)])
def mq_X10_moves : mz_I := (yX10_moves, cX10_moves, 4, (some .int), false, 8, 3, 5, 112, [(0, .aload_n 0, 1, 0, 0, 0), (1, .iconst 0, 1, 0, 0, 0), (2, .putfield 55, 3, 522, 0, 142), (5, .iload_n 1, 1, 1, 0, 0), (6, .invokestatic 244, 3, 158, 0, 215), (9, .ifCond .eq 19, 3, 28, 0, 0), (12, .aload_n 0, 1, 0, 0, 0), (13, .iload_n 2, 1, 2, 0, 0), (14, .invokevirtual 253, 3, 159, 0, 218), (17, .ifCond .eq 11, 3, 28, 0, 0), (20, .aload_n 0, 1, 0, 0, 0), (21, .iload_n 3, 1, 3, 0, 0), (22, .invokevirtual 253, 3, 159, 0, 218), (25, .ifCond .ne 5, 3, 30, 0, 0), (28, .iconst (-1), 1, 0, (-1), 0), (29, .ireturn, 1, 0, 0, 0), (30, .iload_n 2, 1, 2, 0, 0), (31, .iload_n 3, 1, 3, 0, 0), (32, .if_icmp .ne 6, 3, 38, 0, 0), (35, .bipush (-2), 2, 0, (-2), 0), (37, .ireturn, 1, 0, 0, 0), (38, .aload_n 0, 1, 0, 0, 0), (39, .iload_n 1, 1, 1, 0, 0), (40, .invokevirtual 256, 3, 216, 0, 219), (43, .aload_n 0, 1, 0, 0, 0), (44, .getfield 30, 3, 525, 0, 161), (47, .iload_n 2, 1, 2, 0, 0), (48, .aload_n 0, 1, 0, 0, 0), (49, .iload_n 1, 1, 1, 0, 0), (50, .iload_n 3, 1, 3, 0, 0), (51, .invokevirtual 123, 3, 167, 0, 171), (54, .iastore, 1, 0, 0, 0), (55, .aload_n 0, 1, 0, 0, 0), (56, .getfield 30, 3, 525, 0, 161), (59, .iload_n 3, 1, 3, 0, 0), (60, .aload_n 0, 1, 0, 0, 0), (61, .iload_n 1, 1, 1, 0, 0), (62, .iload_n 2, 1, 2, 0, 0), (63, .invokevirtual 123, 3, 167, 0, 171), (66, .iastore, 1, 0, 0, 0), (67, .aload_n 0, 1, 0, 0, 0), (68, .invokevirtual 226, 3, 172, 0, 209), (71, .aload_n 0, 1, 0, 0, 0), (72, .iload_n 1, 1, 1, 0, 0), (73, .invokevirtual 247, 3, 174, 0, 216), (76, .ireturn, 1, 0, 0, 0)])
def mq_X10_adds : mz_I := (yX10_adds, cX10_adds, 4, (some .int), false, 8, 3, 5, 112, [(0, .aload_n 0, 1, 0, 0, 0), (1, .iconst 0, 1, 0, 0, 0), (2, .putfield 55, 3, 522, 0, 142), (5, .iload_n 1, 1, 1, 0, 0), (6, .invokestatic 244, 3, 158, 0, 215), (9, .ifCond .eq 19, 3, 28, 0, 0), (12, .aload_n 0, 1, 0, 0, 0), (13, .iload_n 2, 1, 2, 0, 0), (14, .invokevirtual 253, 3, 159, 0, 218), (17, .ifCond .eq 11, 3, 28, 0, 0), (20, .aload_n 0, 1, 0, 0, 0), (21, .iload_n 3, 1, 3, 0, 0), (22, .invokevirtual 253, 3, 159, 0, 218), (25, .ifCond .ne 5, 3, 30, 0, 0), (28, .iconst (-1), 1, 0, (-1), 0), (29, .ireturn, 1, 0, 0, 0), (30, .iload_n 2, 1, 2, 0, 0), (31, .iload_n 3, 1, 3, 0, 0), (32, .if_icmp .ne 6, 3, 38, 0, 0), (35, .bipush (-2), 2, 0, (-2), 0), (37, .ireturn, 1, 0, 0, 0), (38, .aload_n 0, 1, 0, 0, 0), (39, .iload_n 1, 1, 1, 0, 0), (40, .invokevirtual 256, 3, 216, 0, 219), (43, .aload_n 0, 1, 0, 0, 0), (44, .getfield 30, 3, 525, 0, 161), (47, .iload_n 2, 1, 2, 0, 0), (48, .dup2, 1, 0, 0, 0), (49, .iaload, 1, 0, 0, 0), (50, .aload_n 0, 1, 0, 0, 0), (51, .getfield 30, 3, 525, 0, 161), (54, .iload_n 3, 1, 3, 0, 0), (55, .iaload, 1, 0, 0, 0), (56, .ixor, 1, 0, 0, 0), (57, .iastore, 1, 0, 0, 0), (58, .aload_n 0, 1, 0, 0, 0), (59, .invokevirtual 226, 3, 172, 0, 209), (62, .aload_n 0, 1, 0, 0, 0), (63, .iload_n 1, 1, 1, 0, 0), (64, .invokevirtual 247, 3, 174, 0, 216), (67, .ireturn, 1, 0, 0, 0)])
def mq_X10_at : mz_I := (yX10_at, cX10_at, 3, (some .int), false, 8, 2, 2, 46, [(0, .aload_n 0, 1, 0, 0, 0), (1, .iconst 0, 1, 0, 0, 0), (2, .putfield 55, 3, 522, 0, 142), (5, .iload_n 1, 1, 1, 0, 0), (6, .invokestatic 244, 3, 158, 0, 215), (9, .ifCond .eq 20, 3, 29, 0, 0), (12, .aload_n 0, 1, 0, 0, 0), (13, .iload_n 2, 1, 2, 0, 0), (14, .invokevirtual 253, 3, 159, 0, 218), (17, .ifCond .eq 12, 3, 29, 0, 0), (20, .aload_n 0, 1, 0, 0, 0), (21, .iload_n 1, 1, 1, 0, 0), (22, .iload_n 2, 1, 2, 0, 0), (23, .invokevirtual 123, 3, 167, 0, 171), (26, .goto 4, 3, 30, 0, 0), (29, .iconst (-1), 1, 0, (-1), 0), (30, .ireturn, 1, 0, 0, 0)])
def mq_X10_coordinates : mz_I := (yX10_coordinates, cX10_coordinates, 3, (some .int), false, 8, 2, 3, 66, [(0, .aload_n 0, 1, 0, 0, 0), (1, .iconst 0, 1, 0, 0, 0), (2, .putfield 55, 3, 522, 0, 142), (5, .iload_n 1, 1, 1, 0, 0), (6, .invokestatic 244, 3, 158, 0, 215), (9, .ifCond .eq 11, 3, 20, 0, 0), (12, .aload_n 0, 1, 0, 0, 0), (13, .iload_n 2, 1, 2, 0, 0), (14, .invokevirtual 183, 3, 156, 0, 194), (17, .ifCond .ne 5, 3, 22, 0, 0), (20, .iconst (-1), 1, 0, (-1), 0), (21, .ireturn, 1, 0, 0, 0), (22, .aload_n 0, 1, 0, 0, 0), (23, .iload_n 1, 1, 1, 0, 0), (24, .invokevirtual 250, 3, 168, 0, 217), (27, .aload_n 0, 1, 0, 0, 0), (28, .iconst 0, 1, 0, 0, 0), (29, .putfield 59, 3, 521, 0, 144), (32, .aload_n 0, 1, 0, 0, 0), (33, .aload_n 0, 1, 0, 0, 0), (34, .getfield 42, 3, 529, 0, 169), (37, .iload_n 2, 1, 2, 0, 0), (38, .iaload, 1, 0, 0, 0), (39, .invokestatic 129, 3, 136, 0, 173), (42, .i2l, 1, 0, 0, 0), (43, .invokevirtual 194, 3, 135, 0, 198), (46, .aload_n 0, 1, 0, 0, 0), (47, .getfield 42, 3, 529, 0, 169), (50, .iload_n 2, 1, 2, 0, 0), (51, .iaload, 1, 0, 0, 0), (52, .ireturn, 1, 0, 0, 0)])
def mq_X10_made : mz_I := (yX10_made, cX10_made, 3, (some .int), false, 8, 2, 3, 66, [(0, .aload_n 0, 1, 0, 0, 0), (1, .iconst 0, 1, 0, 0, 0), (2, .putfield 55, 3, 522, 0, 142), (5, .iload_n 1, 1, 1, 0, 0), (6, .invokestatic 244, 3, 158, 0, 215), (9, .ifCond .eq 11, 3, 20, 0, 0), (12, .aload_n 0, 1, 0, 0, 0), (13, .iload_n 2, 1, 2, 0, 0), (14, .invokevirtual 183, 3, 156, 0, 194), (17, .ifCond .ne 5, 3, 22, 0, 0), (20, .iconst (-1), 1, 0, (-1), 0), (21, .ireturn, 1, 0, 0, 0), (22, .aload_n 0, 1, 0, 0, 0), (23, .iload_n 1, 1, 1, 0, 0), (24, .invokevirtual 250, 3, 168, 0, 217), (27, .aload_n 0, 1, 0, 0, 0), (28, .iload_n 2, 1, 2, 0, 0), (29, .invokevirtual 120, 3, 165, 0, 170), (32, .ireturn, 1, 0, 0, 0)])
def mq_X10_tellsCoordinates : mz_I := (yX10_tellsCoordinates, cX10_tellsCoordinates, 2, (some .int), false, 8, 1, 1, 22, [(0, .aload_n 0, 1, 0, 0, 0), (1, .aload_n 0, 1, 0, 0, 0), (2, .getfield 42, 3, 529, 0, 169), (5, .iload_n 1, 1, 1, 0, 0), (6, .iaload, 1, 0, 0, 0), (7, .i2l, 1, 0, 0, 0), (8, .invokevirtual 194, 3, 135, 0, 198), (11, .aload_n 0, 1, 0, 0, 0), (12, .getfield 42, 3, 529, 0, 169), (15, .iload_n 1, 1, 1, 0, 0), (16, .iaload, 1, 0, 0, 0), (17, .invokestatic 129, 3, 136, 0, 173), (20, .ireturn, 1, 0, 0, 0)])
def mq_X10_change : mz_I := (yX10_change, cX10_change, 5, (some .int), false, 8, 2, 3, 66, [(0, .aload_n 0, 1, 0, 0, 0), (1, .iconst 0, 1, 0, 0, 0), (2, .putfield 55, 3, 522, 0, 142), (5, .iload_n 1, 1, 1, 0, 0), (6, .invokestatic 244, 3, 158, 0, 215), (9, .ifCond .eq 10, 3, 19, 0, 0), (12, .iload_n 2, 1, 2, 0, 0), (13, .invokestatic 244, 3, 158, 0, 215), (16, .ifCond .ne 5, 3, 21, 0, 0), (19, .iconst (-1), 1, 0, (-1), 0), (20, .ireturn, 1, 0, 0, 0), (21, .aload_n 0, 1, 0, 0, 0), (22, .iload_n 2, 1, 2, 0, 0), (23, .invokevirtual 250, 3, 168, 0, 217), (26, .iconst 0, 1, 0, 0, 0), (27, .istore_n 3, 1, 3, 0, 0), (28, .aload_n 0, 1, 0, 0, 0), (29, .iconst 0, 1, 0, 0, 0), (30, .putfield 59, 3, 521, 0, 144), (33, .iconst 0, 1, 0, 0, 0), (34, .istore 4, 2, 4, 0, 0), (36, .iload 4, 2, 4, 0, 0), (38, .aload_n 0, 1, 0, 0, 0), (39, .getfield 80, 3, 523, 0, 152), (42, .if_icmp .ge 23, 3, 65, 0, 0), (45, .iload_n 3, 1, 3, 0, 0), (46, .aload_n 0, 1, 0, 0, 0), (47, .aload_n 0, 1, 0, 0, 0), (48, .iload_n 1, 1, 1, 0, 0), (49, .iload 4, 2, 4, 0, 0), (51, .invokevirtual 123, 3, 167, 0, 171), (54, .invokevirtual 259, 3, 222, 0, 220), (57, .iadd, 1, 0, 0, 0), (58, .istore_n 3, 1, 3, 0, 0), (59, .iinc 4 1, 3, 4, 1, 0), (62, .goto (-26), 3, 36, 0, 0), (65, .iload_n 3, 1, 3, 0, 0), (66, .ireturn, 1, 0, 0, 0)])
def mq_X10_table : mz_I := (yX10_table, cX10_table, 4, (some .int), false, 8, 3, 3, 68, [(0, .aload_n 0, 1, 0, 0, 0), (1, .iconst 0, 1, 0, 0, 0), (2, .putfield 55, 3, 522, 0, 142), (5, .iload_n 1, 1, 1, 0, 0), (6, .invokestatic 244, 3, 158, 0, 215), (9, .ifCond .eq 19, 3, 28, 0, 0), (12, .aload_n 0, 1, 0, 0, 0), (13, .iload_n 2, 1, 2, 0, 0), (14, .invokevirtual 253, 3, 159, 0, 218), (17, .ifCond .eq 11, 3, 28, 0, 0), (20, .aload_n 0, 1, 0, 0, 0), (21, .iload_n 3, 1, 3, 0, 0), (22, .invokevirtual 253, 3, 159, 0, 218), (25, .ifCond .ne 5, 3, 30, 0, 0), (28, .iconst (-1), 1, 0, (-1), 0), (29, .ireturn, 1, 0, 0, 0), (30, .aload_n 0, 1, 0, 0, 0), (31, .iload_n 1, 1, 1, 0, 0), (32, .invokevirtual 250, 3, 168, 0, 217), (35, .aload_n 0, 1, 0, 0, 0), (36, .getfield 42, 3, 529, 0, 169), (39, .aload_n 0, 1, 0, 0, 0), (40, .aload_n 0, 1, 0, 0, 0), (41, .getfield 39, 3, 528, 0, 168), (44, .iload_n 2, 1, 2, 0, 0), (45, .iaload, 1, 0, 0, 0), (46, .aload_n 0, 1, 0, 0, 0), (47, .getfield 39, 3, 528, 0, 168), (50, .iload_n 3, 1, 3, 0, 0), (51, .iaload, 1, 0, 0, 0), (52, .invokevirtual 92, 3, 147, 0, 156), (55, .iaload, 1, 0, 0, 0), (56, .ireturn, 1, 0, 0, 0)])
def mq_X10_complexity : mz_I := (yX10_complexity, cX10_complexity, 4, (some .int), false, 8, 1, 7, 156, [(0, .aload_n 0, 1, 0, 0, 0), (1, .iconst 0, 1, 0, 0, 0), (2, .putfield 55, 3, 522, 0, 142), (5, .iload_n 1, 1, 1, 0, 0), (6, .invokestatic 244, 3, 158, 0, 215), (9, .ifCond .ne 5, 3, 14, 0, 0), (12, .iconst (-1), 1, 0, (-1), 0), (13, .ireturn, 1, 0, 0, 0), (14, .aload_n 0, 1, 0, 0, 0), (15, .iload_n 1, 1, 1, 0, 0), (16, .invokevirtual 250, 3, 168, 0, 217), (19, .aload_n 0, 1, 0, 0, 0), (20, .invokevirtual 142, 3, 169, 0, 178), (23, .istore_n 2, 1, 2, 0, 0), (24, .aload_n 0, 1, 0, 0, 0), (25, .invokevirtual 262, 3, 171, 0, 221), (28, .istore_n 3, 1, 3, 0, 0), (29, .aload_n 0, 1, 0, 0, 0), (30, .iconst 0, 1, 0, 0, 0), (31, .putfield 59, 3, 521, 0, 144), (34, .aload_n 0, 1, 0, 0, 0), (35, .aload_n 0, 1, 0, 0, 0), (36, .invokevirtual 232, 3, 170, 0, 211), (39, .i2l, 1, 0, 0, 0), (40, .invokevirtual 194, 3, 135, 0, 198), (43, .aload_n 0, 1, 0, 0, 0), (44, .iload_n 3, 1, 3, 0, 0), (45, .ifCond .eq 19, 3, 64, 0, 0), (48, .iload_n 2, 1, 2, 0, 0), (49, .iconst 2, 1, 0, 2, 0), (50, .aload_n 0, 1, 0, 0, 0), (51, .getfield 80, 3, 523, 0, 152), (54, .imul, 1, 0, 0, 0), (55, .iconst 1, 1, 0, 1, 0), (56, .isub, 1, 0, 0, 0), (57, .if_icmp .ne 7, 3, 64, 0, 0), (60, .lconst 1, 1, 0, 1, 0), (61, .goto 4, 3, 65, 0, 0), (64, .lconst 0, 1, 0, 0, 0), (65, .invokevirtual 194, 3, 135, 0, 198), (68, .aload_n 0, 1, 0, 0, 0), (69, .iload_n 3, 1, 3, 0, 0), (70, .ifCond .eq 13, 3, 83, 0, 0), (73, .aload_n 0, 1, 0, 0, 0), (74, .getfield 39, 3, 528, 0, 168), (77, .iconst 0, 1, 0, 0, 0), (78, .iaload, 1, 0, 0, 0), (79, .i2l, 1, 0, 0, 0), (80, .goto 6, 3, 86, 0, 0), (83, .ldc2_w 266, 3, 0, (-1), 222), (86, .invokevirtual 194, 3, 135, 0, 198), (89, .iload_n 2, 1, 2, 0, 0), (90, .ireturn, 1, 0, 0, 0)])
def mq_X10_by : mz_I := (yX10_by, cX10_by, 7, (some .int), false, 8, 2, 3, 68, [(0, .aload_n 0, 1, 0, 0, 0), (1, .iconst 0, 1, 0, 0, 0), (2, .putfield 55, 3, 522, 0, 142), (5, .iload_n 1, 1, 1, 0, 0), (6, .invokestatic 244, 3, 158, 0, 215), (9, .ifCond .eq 11, 3, 20, 0, 0), (12, .aload_n 0, 1, 0, 0, 0), (13, .iload_n 2, 1, 2, 0, 0), (14, .invokevirtual 183, 3, 156, 0, 194), (17, .ifCond .ne 5, 3, 22, 0, 0), (20, .iconst (-1), 1, 0, (-1), 0), (21, .ireturn, 1, 0, 0, 0), (22, .aload_n 0, 1, 0, 0, 0), (23, .iload_n 1, 1, 1, 0, 0), (24, .invokevirtual 250, 3, 168, 0, 217), (27, .iconst 0, 1, 0, 0, 0), (28, .istore_n 3, 1, 3, 0, 0), (29, .iconst 0, 1, 0, 0, 0), (30, .istore 4, 2, 4, 0, 0), (32, .aload_n 0, 1, 0, 0, 0), (33, .iconst 0, 1, 0, 0, 0), (34, .putfield 59, 3, 521, 0, 144), (37, .iconst 0, 1, 0, 0, 0), (38, .istore 5, 2, 5, 0, 0), (40, .iload 5, 2, 5, 0, 0), (42, .aload_n 0, 1, 0, 0, 0), (43, .getfield 80, 3, 523, 0, 152), (46, .if_icmp .ge 49, 3, 95, 0, 0), (49, .aload_n 0, 1, 0, 0, 0), (50, .iload_n 2, 1, 2, 0, 0), (51, .aload_n 0, 1, 0, 0, 0), (52, .getfield 39, 3, 528, 0, 168), (55, .iload 5, 2, 5, 0, 0), (57, .iaload, 1, 0, 0, 0), (58, .invokevirtual 92, 3, 147, 0, 156), (61, .istore 6, 2, 6, 0, 0), (63, .iload_n 3, 1, 3, 0, 0), (64, .aload_n 0, 1, 0, 0, 0), (65, .iload 6, 2, 6, 0, 0), (67, .invokevirtual 259, 3, 222, 0, 220), (70, .iadd, 1, 0, 0, 0), (71, .istore_n 3, 1, 3, 0, 0), (72, .iload 4, 2, 4, 0, 0), (74, .aload_n 0, 1, 0, 0, 0), (75, .getfield 42, 3, 529, 0, 169), (78, .iload 6, 2, 6, 0, 0), (80, .iaload, 1, 0, 0, 0), (81, .iload 5, 2, 5, 0, 0), (83, .ishr, 1, 0, 0, 0), (84, .iconst 1, 1, 0, 1, 0), (85, .iand, 1, 0, 0, 0), (86, .iadd, 1, 0, 0, 0), (87, .istore 4, 2, 4, 0, 0), (89, .iinc 5 1, 3, 5, 1, 0), (92, .goto (-52), 3, 40, 0, 0), (95, .aload_n 0, 1, 0, 0, 0), (96, .iload 4, 2, 4, 0, 0), (98, .i2l, 1, 0, 0, 0), (99, .invokevirtual 194, 3, 135, 0, 198), (102, .iload_n 3, 1, 3, 0, 0), (103, .ireturn, 1, 0, 0, 0)])
def mq_X10_squares : mz_I := (yX10_squares, cX10_squares, 4, (some .int), false, 8, 1, 3, 68, [(0, .aload_n 0, 1, 0, 0, 0), (1, .iconst 0, 1, 0, 0, 0), (2, .putfield 55, 3, 522, 0, 142), (5, .iload_n 1, 1, 1, 0, 0), (6, .invokestatic 244, 3, 158, 0, 215), (9, .ifCond .ne 5, 3, 14, 0, 0), (12, .iconst (-1), 1, 0, (-1), 0), (13, .ireturn, 1, 0, 0, 0), (14, .aload_n 0, 1, 0, 0, 0), (15, .iload_n 1, 1, 1, 0, 0), (16, .invokevirtual 250, 3, 168, 0, 217), (19, .iconst 0, 1, 0, 0, 0), (20, .istore_n 2, 1, 2, 0, 0), (21, .aload_n 0, 1, 0, 0, 0), (22, .iconst 0, 1, 0, 0, 0), (23, .putfield 59, 3, 521, 0, 144), (26, .iconst 0, 1, 0, 0, 0), (27, .istore_n 3, 1, 3, 0, 0), (28, .iload_n 3, 1, 3, 0, 0), (29, .aload_n 0, 1, 0, 0, 0), (30, .getfield 80, 3, 523, 0, 152), (33, .if_icmp .ge 32, 3, 65, 0, 0), (36, .iload_n 2, 1, 2, 0, 0), (37, .aload_n 0, 1, 0, 0, 0), (38, .aload_n 0, 1, 0, 0, 0), (39, .aload_n 0, 1, 0, 0, 0), (40, .getfield 39, 3, 528, 0, 168), (43, .iload_n 3, 1, 3, 0, 0), (44, .iaload, 1, 0, 0, 0), (45, .aload_n 0, 1, 0, 0, 0), (46, .getfield 39, 3, 528, 0, 168), (49, .iload_n 3, 1, 3, 0, 0), (50, .iaload, 1, 0, 0, 0), (51, .invokevirtual 92, 3, 147, 0, 156), (54, .invokevirtual 259, 3, 222, 0, 220), (57, .iadd, 1, 0, 0, 0), (58, .istore_n 2, 1, 2, 0, 0), (59, .iinc 3 1, 3, 3, 1, 0), (62, .goto (-34), 3, 28, 0, 0), (65, .iload_n 2, 1, 2, 0, 0), (66, .ireturn, 1, 0, 0, 0)])
def mq_X10_productIn : mz_I := (yX10_productIn, cX10_productIn, 4, (some .int), false, 8, 3, 3, 68, [(0, .aload_n 0, 1, 0, 0, 0), (1, .iconst 0, 1, 0, 0, 0), (2, .putfield 55, 3, 522, 0, 142), (5, .iload_n 1, 1, 1, 0, 0), (6, .invokestatic 244, 3, 158, 0, 215), (9, .ifCond .eq 19, 3, 28, 0, 0), (12, .aload_n 0, 1, 0, 0, 0), (13, .iload_n 2, 1, 2, 0, 0), (14, .invokevirtual 183, 3, 156, 0, 194), (17, .ifCond .eq 11, 3, 28, 0, 0), (20, .aload_n 0, 1, 0, 0, 0), (21, .iload_n 3, 1, 3, 0, 0), (22, .invokevirtual 183, 3, 156, 0, 194), (25, .ifCond .ne 5, 3, 30, 0, 0), (28, .iconst (-1), 1, 0, (-1), 0), (29, .ireturn, 1, 0, 0, 0), (30, .aload_n 0, 1, 0, 0, 0), (31, .iload_n 1, 1, 1, 0, 0), (32, .invokevirtual 250, 3, 168, 0, 217), (35, .aload_n 0, 1, 0, 0, 0), (36, .getfield 42, 3, 529, 0, 169), (39, .aload_n 0, 1, 0, 0, 0), (40, .aload_n 0, 1, 0, 0, 0), (41, .iload_n 2, 1, 2, 0, 0), (42, .invokevirtual 120, 3, 165, 0, 170), (45, .aload_n 0, 1, 0, 0, 0), (46, .iload_n 3, 1, 3, 0, 0), (47, .invokevirtual 120, 3, 165, 0, 170), (50, .invokevirtual 92, 3, 147, 0, 156), (53, .iaload, 1, 0, 0, 0), (54, .ireturn, 1, 0, 0, 0)])
def mq_X10_far : mz_I := (yX10_far, cX10_far, 4, (some .int), false, 8, 3, 3, 66, [(0, .aload_n 0, 1, 0, 0, 0), (1, .iconst 0, 1, 0, 0, 0), (2, .putfield 55, 3, 522, 0, 142), (5, .iload_n 1, 1, 1, 0, 0), (6, .invokestatic 244, 3, 158, 0, 215), (9, .ifCond .eq 19, 3, 28, 0, 0), (12, .aload_n 0, 1, 0, 0, 0), (13, .iload_n 2, 1, 2, 0, 0), (14, .invokevirtual 183, 3, 156, 0, 194), (17, .ifCond .eq 11, 3, 28, 0, 0), (20, .aload_n 0, 1, 0, 0, 0), (21, .iload_n 3, 1, 3, 0, 0), (22, .invokevirtual 183, 3, 156, 0, 194), (25, .ifCond .ne 5, 3, 30, 0, 0), (28, .iconst (-1), 1, 0, (-1), 0), (29, .ireturn, 1, 0, 0, 0), (30, .aload_n 0, 1, 0, 0, 0), (31, .iload_n 1, 1, 1, 0, 0), (32, .invokevirtual 250, 3, 168, 0, 217), (35, .aload_n 0, 1, 0, 0, 0), (36, .iconst 0, 1, 0, 0, 0), (37, .putfield 59, 3, 521, 0, 144), (40, .aload_n 0, 1, 0, 0, 0), (41, .aload_n 0, 1, 0, 0, 0), (42, .getfield 42, 3, 529, 0, 169), (45, .iload_n 2, 1, 2, 0, 0), (46, .iaload, 1, 0, 0, 0), (47, .aload_n 0, 1, 0, 0, 0), (48, .getfield 42, 3, 529, 0, 169), (51, .iload_n 3, 1, 3, 0, 0), (52, .iaload, 1, 0, 0, 0), (53, .ixor, 1, 0, 0, 0), (54, .i2l, 1, 0, 0, 0), (55, .invokevirtual 194, 3, 135, 0, 198), (58, .aload_n 0, 1, 0, 0, 0), (59, .aload_n 0, 1, 0, 0, 0), (60, .getfield 42, 3, 529, 0, 169), (63, .iload_n 2, 1, 2, 0, 0), (64, .iaload, 1, 0, 0, 0), (65, .aload_n 0, 1, 0, 0, 0), (66, .getfield 42, 3, 529, 0, 169), (69, .iload_n 3, 1, 3, 0, 0), (70, .iaload, 1, 0, 0, 0), (71, .iand, 1, 0, 0, 0), (72, .i2l, 1, 0, 0, 0), (73, .invokevirtual 194, 3, 135, 0, 198), (76, .aload_n 0, 1, 0, 0, 0), (77, .getfield 42, 3, 529, 0, 169), (80, .iload_n 2, 1, 2, 0, 0), (81, .iaload, 1, 0, 0, 0), (82, .aload_n 0, 1, 0, 0, 0), (83, .getfield 42, 3, 529, 0, 169), (86, .iload_n 3, 1, 3, 0, 0), (87, .iaload, 1, 0, 0, 0), (88, .ixor, 1, 0, 0, 0), (89, .invokestatic 129, 3, 136, 0, 173), (92, .ireturn, 1, 0, 0, 0)])
def mq_X10_steady : mz_I := (yX10_steady, cX10_steady, 5, (some .int), false, 8, 1, 3, 68, [(0, .aload_n 0, 1, 0, 0, 0), (1, .iconst 0, 1, 0, 0, 0), (2, .putfield 55, 3, 522, 0, 142), (5, .iload_n 1, 1, 1, 0, 0), (6, .invokestatic 244, 3, 158, 0, 215), (9, .ifCond .ne 5, 3, 14, 0, 0), (12, .iconst (-1), 1, 0, (-1), 0), (13, .ireturn, 1, 0, 0, 0), (14, .aload_n 0, 1, 0, 0, 0), (15, .iload_n 1, 1, 1, 0, 0), (16, .invokevirtual 250, 3, 168, 0, 217), (19, .iconst 0, 1, 0, 0, 0), (20, .istore_n 2, 1, 2, 0, 0), (21, .iconst (-1), 1, 0, (-1), 0), (22, .istore_n 3, 1, 3, 0, 0), (23, .aload_n 0, 1, 0, 0, 0), (24, .getfield 83, 3, 524, 0, 153), (27, .iconst 1, 1, 0, 1, 0), (28, .isub, 1, 0, 0, 0), (29, .istore 4, 2, 4, 0, 0), (31, .iload 4, 2, 4, 0, 0), (33, .ifCond .lt 47, 3, 80, 0, 0), (36, .aload_n 0, 1, 0, 0, 0), (37, .getfield 42, 3, 529, 0, 169), (40, .iload 4, 2, 4, 0, 0), (42, .iaload, 1, 0, 0, 0), (43, .invokestatic 129, 3, 136, 0, 173), (46, .aload_n 0, 1, 0, 0, 0), (47, .getfield 42, 3, 529, 0, 169), (50, .aload_n 0, 1, 0, 0, 0), (51, .iload 4, 2, 4, 0, 0), (53, .iload 4, 2, 4, 0, 0), (55, .invokevirtual 92, 3, 147, 0, 156), (58, .iaload, 1, 0, 0, 0), (59, .invokestatic 129, 3, 136, 0, 173), (62, .if_icmp .ne 9, 3, 71, 0, 0), (65, .iinc 2 1, 3, 2, 1, 0), (68, .goto 6, 3, 74, 0, 0), (71, .iload 4, 2, 4, 0, 0), (73, .istore_n 3, 1, 3, 0, 0), (74, .iinc 4 (-1), 3, 4, (-1), 0), (77, .goto (-46), 3, 31, 0, 0), (80, .aload_n 0, 1, 0, 0, 0), (81, .iconst 0, 1, 0, 0, 0), (82, .putfield 59, 3, 521, 0, 144), (85, .aload_n 0, 1, 0, 0, 0), (86, .iload_n 3, 1, 3, 0, 0), (87, .i2l, 1, 0, 0, 0), (88, .invokevirtual 194, 3, 135, 0, 198), (91, .iload_n 2, 1, 2, 0, 0), (92, .ireturn, 1, 0, 0, 0)])
def mq_X10_bestScale : mz_I := (yX10_bestScale, cX10_bestScale, 6, (some .int), false, 8, 1, 4, 90, [(0, .aload_n 0, 1, 0, 0, 0), (1, .iconst 0, 1, 0, 0, 0), (2, .putfield 55, 3, 522, 0, 142), (5, .iload_n 1, 1, 1, 0, 0), (6, .invokestatic 244, 3, 158, 0, 215), (9, .ifCond .ne 5, 3, 14, 0, 0), (12, .iconst (-1), 1, 0, (-1), 0), (13, .ireturn, 1, 0, 0, 0), (14, .iconst (-1), 1, 0, (-1), 0), (15, .istore_n 2, 1, 2, 0, 0), (16, .iconst 0, 1, 0, 0, 0), (17, .istore_n 3, 1, 3, 0, 0), (18, .iconst 1, 1, 0, 1, 0), (19, .istore 4, 2, 4, 0, 0), (21, .iload 4, 2, 4, 0, 0), (23, .aload_n 0, 1, 0, 0, 0), (24, .getfield 83, 3, 524, 0, 153), (27, .if_icmp .ge 77, 3, 104, 0, 0), (30, .iconst 0, 1, 0, 0, 0), (31, .istore 5, 2, 5, 0, 0), (33, .iload 5, 2, 5, 0, 0), (35, .aload_n 0, 1, 0, 0, 0), (36, .getfield 80, 3, 523, 0, 152), (39, .if_icmp .ge 29, 3, 68, 0, 0), (42, .aload_n 0, 1, 0, 0, 0), (43, .getfield 30, 3, 525, 0, 161), (46, .iload 5, 2, 5, 0, 0), (48, .aload_n 0, 1, 0, 0, 0), (49, .iload 4, 2, 4, 0, 0), (51, .aload_n 0, 1, 0, 0, 0), (52, .iload_n 1, 1, 1, 0, 0), (53, .iload 5, 2, 5, 0, 0), (55, .invokevirtual 123, 3, 167, 0, 171), (58, .invokevirtual 92, 3, 147, 0, 156), (61, .iastore, 1, 0, 0, 0), (62, .iinc 5 1, 3, 5, 1, 0), (65, .goto (-32), 3, 33, 0, 0), (68, .aload_n 0, 1, 0, 0, 0), (69, .invokevirtual 226, 3, 172, 0, 209), (72, .aload_n 0, 1, 0, 0, 0), (73, .invokevirtual 142, 3, 169, 0, 178), (76, .istore 5, 2, 5, 0, 0), (78, .iload_n 2, 1, 2, 0, 0), (79, .iconst (-1), 1, 0, (-1), 0), (80, .if_icmp .eq 12, 3, 92, 0, 0), (83, .iload 5, 2, 5, 0, 0), (85, .iload_n 3, 1, 3, 0, 0), (86, .if_icmp .lt 6, 3, 92, 0, 0), (89, .goto 9, 3, 98, 0, 0), (92, .iload 4, 2, 4, 0, 0), (94, .istore_n 2, 1, 2, 0, 0), (95, .iload 5, 2, 5, 0, 0), (97, .istore_n 3, 1, 3, 0, 0), (98, .iinc 4 1, 3, 4, 1, 0), (101, .goto (-80), 3, 21, 0, 0), (104, .aload_n 0, 1, 0, 0, 0), (105, .iconst 0, 1, 0, 0, 0), (106, .putfield 59, 3, 521, 0, 144), (109, .aload_n 0, 1, 0, 0, 0), (110, .iload_n 3, 1, 3, 0, 0), (111, .i2l, 1, 0, 0, 0), (112, .invokevirtual 194, 3, 135, 0, 198), (115, .iload_n 2, 1, 2, 0, 0), (116, .ireturn, 1, 0, 0, 0)])
def mq_X10_same : mz_I := (yX10_same, cX10_same, 7, (some .int), false, 8, 2, 2, 45, [(0, .aload_n 0, 1, 0, 0, 0), (1, .iconst 0, 1, 0, 0, 0), (2, .putfield 55, 3, 522, 0, 142), (5, .iload_n 1, 1, 1, 0, 0), (6, .invokestatic 244, 3, 158, 0, 215), (9, .ifCond .eq 10, 3, 19, 0, 0), (12, .iload_n 2, 1, 2, 0, 0), (13, .invokestatic 244, 3, 158, 0, 215), (16, .ifCond .ne 5, 3, 21, 0, 0), (19, .iconst (-1), 1, 0, (-1), 0), (20, .ireturn, 1, 0, 0, 0), (21, .iconst 0, 1, 0, 0, 0), (22, .istore_n 3, 1, 3, 0, 0), (23, .iconst 0, 1, 0, 0, 0), (24, .istore 4, 2, 4, 0, 0), (26, .iconst 0, 1, 0, 0, 0), (27, .istore 5, 2, 5, 0, 0), (29, .iload 5, 2, 5, 0, 0), (31, .aload_n 0, 1, 0, 0, 0), (32, .getfield 80, 3, 523, 0, 152), (35, .if_icmp .ge 79, 3, 114, 0, 0), (38, .iconst 0, 1, 0, 0, 0), (39, .istore 6, 2, 6, 0, 0), (41, .iload 6, 2, 6, 0, 0), (43, .aload_n 0, 1, 0, 0, 0), (44, .getfield 80, 3, 523, 0, 152), (47, .if_icmp .ge 34, 3, 81, 0, 0), (50, .iload_n 3, 1, 3, 0, 0), (51, .aload_n 0, 1, 0, 0, 0), (52, .iload_n 1, 1, 1, 0, 0), (53, .iload 5, 2, 5, 0, 0), (55, .invokevirtual 123, 3, 167, 0, 171), (58, .aload_n 0, 1, 0, 0, 0), (59, .iload_n 2, 1, 2, 0, 0), (60, .iload 6, 2, 6, 0, 0), (62, .invokevirtual 123, 3, 167, 0, 171), (65, .if_icmp .ne 7, 3, 72, 0, 0), (68, .iconst 1, 1, 0, 1, 0), (69, .goto 4, 3, 73, 0, 0), (72, .iconst 0, 1, 0, 0, 0), (73, .iadd, 1, 0, 0, 0), (74, .istore_n 3, 1, 3, 0, 0), (75, .iinc 6 1, 3, 6, 1, 0), (78, .goto (-37), 3, 41, 0, 0), (81, .iload 4, 2, 4, 0, 0), (83, .aload_n 0, 1, 0, 0, 0), (84, .iload_n 1, 1, 1, 0, 0), (85, .iload 5, 2, 5, 0, 0), (87, .invokevirtual 123, 3, 167, 0, 171), (90, .aload_n 0, 1, 0, 0, 0), (91, .iload_n 2, 1, 2, 0, 0), (92, .iload 5, 2, 5, 0, 0), (94, .invokevirtual 123, 3, 167, 0, 171), (97, .if_icmp .ne 7, 3, 104, 0, 0), (100, .iconst 1, 1, 0, 1, 0), (101, .goto 4, 3, 105, 0, 0), (104, .iconst 0, 1, 0, 0, 0), (105, .iadd, 1, 0, 0, 0), (106, .istore 4, 2, 4, 0, 0), (108, .iinc 5 1, 3, 5, 1, 0), (111, .goto (-82), 3, 29, 0, 0), (114, .aload_n 0, 1, 0, 0, 0), (115, .iconst 0, 1, 0, 0, 0), (116, .putfield 59, 3, 521, 0, 144), (119, .aload_n 0, 1, 0, 0, 0), (120, .iload_n 3, 1, 3, 0, 0), (121, .i2l, 1, 0, 0, 0), (122, .invokevirtual 194, 3, 135, 0, 198), (125, .aload_n 0, 1, 0, 0, 0), (126, .iload 4, 2, 4, 0, 0), (128, .i2l, 1, 0, 0, 0), (129, .invokevirtual 194, 3, 135, 0, 198), (132, .iload_n 3, 1, 3, 0, 0), (133, .aload_n 0, 1, 0, 0, 0), (134, .getfield 80, 3, 523, 0, 152), (137, .if_icmp .ne 7, 3, 144, 0, 0), (140, .iconst 1, 1, 0, 1, 0), (141, .goto 4, 3, 145, 0, 0), (144, .iconst 0, 1, 0, 0, 0), (145, .ireturn, 1, 0, 0, 0)])
def mq_X10_dualAt : mz_I := (yX10_dualAt, cX10_dualAt, 6, (some .int), false, 8, 2, 5, 116, [(0, .iconst 1, 1, 0, 1, 0), (1, .istore_n 3, 1, 3, 0, 0), (2, .iload_n 3, 1, 3, 0, 0), (3, .aload_n 0, 1, 0, 0, 0), (4, .getfield 83, 3, 524, 0, 153), (7, .if_icmp .ge 80, 3, 87, 0, 0), (10, .iconst 1, 1, 0, 1, 0), (11, .istore 4, 2, 4, 0, 0), (13, .iconst 0, 1, 0, 0, 0), (14, .istore 5, 2, 5, 0, 0), (16, .iload 5, 2, 5, 0, 0), (18, .aload_n 0, 1, 0, 0, 0), (19, .getfield 80, 3, 523, 0, 152), (22, .if_icmp .ge 52, 3, 74, 0, 0), (25, .iload 4, 2, 4, 0, 0), (27, .ifCond .eq 47, 3, 74, 0, 0), (30, .aload_n 0, 1, 0, 0, 0), (31, .aload_n 0, 1, 0, 0, 0), (32, .aload_n 0, 1, 0, 0, 0), (33, .iload_n 1, 1, 1, 0, 0), (34, .iload 5, 2, 5, 0, 0), (36, .invokevirtual 123, 3, 167, 0, 171), (39, .iload_n 3, 1, 3, 0, 0), (40, .invokevirtual 92, 3, 147, 0, 156), (43, .iconst 1, 1, 0, 1, 0), (44, .invokevirtual 209, 3, 154, 0, 203), (47, .iload 5, 2, 5, 0, 0), (49, .iload_n 2, 1, 2, 0, 0), (50, .if_icmp .ne 7, 3, 57, 0, 0), (53, .iconst 1, 1, 0, 1, 0), (54, .goto 4, 3, 58, 0, 0), (57, .iconst 0, 1, 0, 0, 0), (58, .if_icmp .ne 7, 3, 65, 0, 0), (61, .iconst 1, 1, 0, 1, 0), (62, .goto 4, 3, 66, 0, 0), (65, .iconst 0, 1, 0, 0, 0), (66, .istore 4, 2, 4, 0, 0), (68, .iinc 5 1, 3, 5, 1, 0), (71, .goto (-55), 3, 16, 0, 0), (74, .iload 4, 2, 4, 0, 0), (76, .ifCond .eq 5, 3, 81, 0, 0), (79, .iload_n 3, 1, 3, 0, 0), (80, .ireturn, 1, 0, 0, 0), (81, .iinc 3 1, 3, 3, 1, 0), (84, .goto (-82), 3, 2, 0, 0), (87, .iconst 0, 1, 0, 0, 0), (88, .ireturn, 1, 0, 0, 0)])
def mq_X10_takesDual : mz_I := (yX10_takesDual, cX10_takesDual, 3, none, false, 8, 1, 6, 141, [(0, .iconst 0, 1, 0, 0, 0), (1, .istore_n 2, 1, 2, 0, 0), (2, .iload_n 2, 1, 2, 0, 0), (3, .aload_n 0, 1, 0, 0, 0), (4, .getfield 80, 3, 523, 0, 152), (7, .if_icmp .ge 21, 3, 28, 0, 0), (10, .aload_n 0, 1, 0, 0, 0), (11, .getfield 45, 3, 533, 0, 223), (14, .iload_n 2, 1, 2, 0, 0), (15, .aload_n 0, 1, 0, 0, 0), (16, .iload_n 1, 1, 1, 0, 0), (17, .iload_n 2, 1, 2, 0, 0), (18, .invokevirtual 268, 3, 233, 0, 224), (21, .iastore, 1, 0, 0, 0), (22, .iinc 2 1, 3, 2, 1, 0), (25, .goto (-23), 3, 2, 0, 0), (28, .return_, 1, 0, 0, 0)])
def mq_X10_dual : mz_I := (yX10_dual, cX10_dual, 4, (some .int), false, 8, 2, 7, 163, [(0, .aload_n 0, 1, 0, 0, 0), (1, .iconst 0, 1, 0, 0, 0), (2, .putfield 55, 3, 522, 0, 142), (5, .iload_n 1, 1, 1, 0, 0), (6, .invokestatic 244, 3, 158, 0, 215), (9, .ifCond .eq 10, 3, 19, 0, 0), (12, .iload_n 2, 1, 2, 0, 0), (13, .invokestatic 244, 3, 158, 0, 215), (16, .ifCond .ne 5, 3, 21, 0, 0), (19, .iconst (-1), 1, 0, (-1), 0), (20, .ireturn, 1, 0, 0, 0), (21, .aload_n 0, 1, 0, 0, 0), (22, .iload_n 1, 1, 1, 0, 0), (23, .invokevirtual 271, 3, 234, 0, 225), (26, .aload_n 0, 1, 0, 0, 0), (27, .iconst 0, 1, 0, 0, 0), (28, .putfield 59, 3, 521, 0, 144), (31, .iconst 0, 1, 0, 0, 0), (32, .istore_n 3, 1, 3, 0, 0), (33, .iload_n 3, 1, 3, 0, 0), (34, .aload_n 0, 1, 0, 0, 0), (35, .getfield 80, 3, 523, 0, 152), (38, .if_icmp .ge 32, 3, 70, 0, 0), (41, .aload_n 0, 1, 0, 0, 0), (42, .getfield 30, 3, 525, 0, 161), (45, .iload_n 3, 1, 3, 0, 0), (46, .aload_n 0, 1, 0, 0, 0), (47, .getfield 45, 3, 533, 0, 223), (50, .iload_n 3, 1, 3, 0, 0), (51, .iaload, 1, 0, 0, 0), (52, .iastore, 1, 0, 0, 0), (53, .aload_n 0, 1, 0, 0, 0), (54, .aload_n 0, 1, 0, 0, 0), (55, .getfield 45, 3, 533, 0, 223), (58, .iload_n 3, 1, 3, 0, 0), (59, .iaload, 1, 0, 0, 0), (60, .i2l, 1, 0, 0, 0), (61, .invokevirtual 194, 3, 135, 0, 198), (64, .iinc 3 1, 3, 3, 1, 0), (67, .goto (-34), 3, 33, 0, 0), (70, .aload_n 0, 1, 0, 0, 0), (71, .invokevirtual 226, 3, 172, 0, 209), (74, .aload_n 0, 1, 0, 0, 0), (75, .iload_n 2, 1, 2, 0, 0), (76, .invokevirtual 247, 3, 174, 0, 216), (79, .ireturn, 1, 0, 0, 0)])
def mq_X10_placeOf : mz_I := (yX10_placeOf, cX10_placeOf, 4, (some .int), false, 8, 2, 1, 22, [(0, .iconst 0, 1, 0, 0, 0), (1, .istore_n 3, 1, 3, 0, 0), (2, .iload_n 3, 1, 3, 0, 0), (3, .aload_n 0, 1, 0, 0, 0), (4, .getfield 80, 3, 523, 0, 152), (7, .if_icmp .ge 21, 3, 28, 0, 0), (10, .aload_n 0, 1, 0, 0, 0), (11, .iload_n 1, 1, 1, 0, 0), (12, .iload_n 3, 1, 3, 0, 0), (13, .invokevirtual 123, 3, 167, 0, 171), (16, .iload_n 2, 1, 2, 0, 0), (17, .if_icmp .ne 5, 3, 22, 0, 0), (20, .iload_n 3, 1, 3, 0, 0), (21, .ireturn, 1, 0, 0, 0), (22, .iinc 3 1, 3, 3, 1, 0), (25, .goto (-23), 3, 2, 0, 0), (28, .iconst (-1), 1, 0, (-1), 0), (29, .ireturn, 1, 0, 0, 0)])
def mq_X10_weakly : mz_I := (yX10_weakly, cX10_weakly, 5, (some .int), false, 8, 1, 7, 163, [(0, .aload_n 0, 1, 0, 0, 0), (1, .iconst 0, 1, 0, 0, 0), (2, .putfield 55, 3, 522, 0, 142), (5, .iload_n 1, 1, 1, 0, 0), (6, .invokestatic 244, 3, 158, 0, 215), (9, .ifCond .ne 5, 3, 14, 0, 0), (12, .iconst (-1), 1, 0, (-1), 0), (13, .ireturn, 1, 0, 0, 0), (14, .aload_n 0, 1, 0, 0, 0), (15, .iload_n 1, 1, 1, 0, 0), (16, .invokevirtual 271, 3, 234, 0, 225), (19, .iconst 1, 1, 0, 1, 0), (20, .istore_n 2, 1, 2, 0, 0), (21, .iload_n 2, 1, 2, 0, 0), (22, .aload_n 0, 1, 0, 0, 0), (23, .getfield 83, 3, 524, 0, 153), (26, .if_icmp .ge 114, 3, 140, 0, 0), (29, .iconst 1, 1, 0, 1, 0), (30, .istore_n 3, 1, 3, 0, 0), (31, .iconst 0, 1, 0, 0, 0), (32, .istore 4, 2, 4, 0, 0), (34, .iload 4, 2, 4, 0, 0), (36, .aload_n 0, 1, 0, 0, 0), (37, .getfield 80, 3, 523, 0, 152), (40, .if_icmp .ge 40, 3, 80, 0, 0), (43, .iload_n 3, 1, 3, 0, 0), (44, .ifCond .eq 28, 3, 72, 0, 0), (47, .aload_n 0, 1, 0, 0, 0), (48, .iload_n 1, 1, 1, 0, 0), (49, .aload_n 0, 1, 0, 0, 0), (50, .iload_n 2, 1, 2, 0, 0), (51, .aload_n 0, 1, 0, 0, 0), (52, .getfield 45, 3, 533, 0, 223), (55, .iload 4, 2, 4, 0, 0), (57, .iaload, 1, 0, 0, 0), (58, .invokevirtual 92, 3, 147, 0, 156), (61, .invokevirtual 274, 3, 236, 0, 226), (64, .iconst (-1), 1, 0, (-1), 0), (65, .if_icmp .eq 7, 3, 72, 0, 0), (68, .iconst 1, 1, 0, 1, 0), (69, .goto 4, 3, 73, 0, 0), (72, .iconst 0, 1, 0, 0, 0), (73, .istore_n 3, 1, 3, 0, 0), (74, .iinc 4 1, 3, 4, 1, 0), (77, .goto (-43), 3, 34, 0, 0), (80, .iload_n 3, 1, 3, 0, 0), (81, .ifCond .ne 6, 3, 87, 0, 0), (84, .goto 50, 3, 134, 0, 0), (87, .aload_n 0, 1, 0, 0, 0), (88, .iconst 0, 1, 0, 0, 0), (89, .putfield 59, 3, 521, 0, 144), (92, .iconst 0, 1, 0, 0, 0), (93, .istore 4, 2, 4, 0, 0), (95, .iload 4, 2, 4, 0, 0), (97, .aload_n 0, 1, 0, 0, 0), (98, .getfield 80, 3, 523, 0, 152), (101, .if_icmp .ge 31, 3, 132, 0, 0), (104, .aload_n 0, 1, 0, 0, 0), (105, .aload_n 0, 1, 0, 0, 0), (106, .iload_n 1, 1, 1, 0, 0), (107, .aload_n 0, 1, 0, 0, 0), (108, .iload_n 2, 1, 2, 0, 0), (109, .aload_n 0, 1, 0, 0, 0), (110, .getfield 45, 3, 533, 0, 223), (113, .iload 4, 2, 4, 0, 0), (115, .iaload, 1, 0, 0, 0), (116, .invokevirtual 92, 3, 147, 0, 156), (119, .invokevirtual 274, 3, 236, 0, 226), (122, .i2l, 1, 0, 0, 0), (123, .invokevirtual 194, 3, 135, 0, 198), (126, .iinc 4 1, 3, 4, 1, 0), (129, .goto (-34), 3, 95, 0, 0), (132, .iload_n 2, 1, 2, 0, 0), (133, .ireturn, 1, 0, 0, 0), (134, .iinc 2 1, 3, 2, 1, 0), (137, .goto (-116), 3, 21, 0, 0), (140, .bipush (-2), 2, 0, (-2), 0), (142, .ireturn, 1, 0, 0, 0)])
def mq_X10_traces : mz_I := (yX10_traces, cX10_traces, 6, (some .int), false, 8, 1, 5, 116, [(0, .aload_n 0, 1, 0, 0, 0), (1, .iconst 0, 1, 0, 0, 0), (2, .putfield 55, 3, 522, 0, 142), (5, .iload_n 1, 1, 1, 0, 0), (6, .invokestatic 244, 3, 158, 0, 215), (9, .ifCond .ne 5, 3, 14, 0, 0), (12, .iconst (-1), 1, 0, (-1), 0), (13, .ireturn, 1, 0, 0, 0), (14, .iconst 1, 1, 0, 1, 0), (15, .istore_n 2, 1, 2, 0, 0), (16, .aload_n 0, 1, 0, 0, 0), (17, .iconst 0, 1, 0, 0, 0), (18, .putfield 59, 3, 521, 0, 144), (21, .iconst 0, 1, 0, 0, 0), (22, .istore_n 3, 1, 3, 0, 0), (23, .iload_n 3, 1, 3, 0, 0), (24, .aload_n 0, 1, 0, 0, 0), (25, .getfield 80, 3, 523, 0, 152), (28, .if_icmp .ge 85, 3, 113, 0, 0), (31, .iconst 0, 1, 0, 0, 0), (32, .istore 4, 2, 4, 0, 0), (34, .iconst 0, 1, 0, 0, 0), (35, .istore 5, 2, 5, 0, 0), (37, .iload 5, 2, 5, 0, 0), (39, .aload_n 0, 1, 0, 0, 0), (40, .getfield 80, 3, 523, 0, 152), (43, .if_icmp .ge 39, 3, 82, 0, 0), (46, .iload 4, 2, 4, 0, 0), (48, .aload_n 0, 1, 0, 0, 0), (49, .aload_n 0, 1, 0, 0, 0), (50, .aload_n 0, 1, 0, 0, 0), (51, .iload_n 1, 1, 1, 0, 0), (52, .iload_n 3, 1, 3, 0, 0), (53, .invokevirtual 123, 3, 167, 0, 171), (56, .aload_n 0, 1, 0, 0, 0), (57, .iload_n 1, 1, 1, 0, 0), (58, .iload 5, 2, 5, 0, 0), (60, .invokevirtual 123, 3, 167, 0, 171), (63, .invokevirtual 92, 3, 147, 0, 156), (66, .iconst 1, 1, 0, 1, 0), (67, .invokevirtual 209, 3, 154, 0, 203), (70, .iload 5, 2, 5, 0, 0), (72, .ishl, 1, 0, 0, 0), (73, .ior, 1, 0, 0, 0), (74, .istore 4, 2, 4, 0, 0), (76, .iinc 5 1, 3, 5, 1, 0), (79, .goto (-42), 3, 37, 0, 0), (82, .iload_n 2, 1, 2, 0, 0), (83, .ifCond .eq 15, 3, 98, 0, 0), (86, .iload 4, 2, 4, 0, 0), (88, .iconst 1, 1, 0, 1, 0), (89, .iload_n 3, 1, 3, 0, 0), (90, .ishl, 1, 0, 0, 0), (91, .if_icmp .ne 7, 3, 98, 0, 0), (94, .iconst 1, 1, 0, 1, 0), (95, .goto 4, 3, 99, 0, 0), (98, .iconst 0, 1, 0, 0, 0), (99, .istore_n 2, 1, 2, 0, 0), (100, .aload_n 0, 1, 0, 0, 0), (101, .iload 4, 2, 4, 0, 0), (103, .i2l, 1, 0, 0, 0), (104, .invokevirtual 194, 3, 135, 0, 198), (107, .iinc 3 1, 3, 3, 1, 0), (110, .goto (-87), 3, 23, 0, 0), (113, .iload_n 2, 1, 2, 0, 0), (114, .ifCond .eq 7, 3, 121, 0, 0), (117, .iconst 1, 1, 0, 1, 0), (118, .goto 4, 3, 122, 0, 0), (121, .iconst 0, 1, 0, 0, 0), (122, .ireturn, 1, 0, 0, 0)])
def mq_X10_tower : mz_I := (yX10_tower, cX10_tower, 7, (some .int), false, 8, 3, 5, 116, [(0, .aload_n 0, 1, 0, 0, 0), (1, .iconst 0, 1, 0, 0, 0), (2, .putfield 55, 3, 522, 0, 142), (5, .iload_n 1, 1, 1, 0, 0), (6, .invokestatic 244, 3, 158, 0, 215), (9, .ifCond .eq 19, 3, 28, 0, 0), (12, .aload_n 0, 1, 0, 0, 0), (13, .iload_n 2, 1, 2, 0, 0), (14, .invokevirtual 206, 3, 157, 0, 202), (17, .ifCond .eq 11, 3, 28, 0, 0), (20, .aload_n 0, 1, 0, 0, 0), (21, .iload_n 3, 1, 3, 0, 0), (22, .invokevirtual 183, 3, 156, 0, 194), (25, .ifCond .ne 5, 3, 30, 0, 0), (28, .iconst (-1), 1, 0, (-1), 0), (29, .ireturn, 1, 0, 0, 0), (30, .aload_n 0, 1, 0, 0, 0), (31, .iload_n 2, 1, 2, 0, 0), (32, .invokevirtual 117, 3, 163, 0, 167), (35, .iconst 0, 1, 0, 0, 0), (36, .istore 4, 2, 4, 0, 0), (38, .iconst 0, 1, 0, 0, 0), (39, .istore 5, 2, 5, 0, 0), (41, .iload 5, 2, 5, 0, 0), (43, .aload_n 0, 1, 0, 0, 0), (44, .getfield 80, 3, 523, 0, 152), (47, .iload_n 2, 1, 2, 0, 0), (48, .idiv, 1, 0, 0, 0), (49, .if_icmp .ge 52, 3, 101, 0, 0), (52, .iconst 0, 1, 0, 0, 0), (53, .istore 6, 2, 6, 0, 0), (55, .iload 6, 2, 6, 0, 0), (57, .iload_n 2, 1, 2, 0, 0), (58, .if_icmp .ge 37, 3, 95, 0, 0), (61, .aload_n 0, 1, 0, 0, 0), (62, .getfield 30, 3, 525, 0, 161), (65, .iload 4, 2, 4, 0, 0), (67, .aload_n 0, 1, 0, 0, 0), (68, .aload_n 0, 1, 0, 0, 0), (69, .getfield 36, 3, 527, 0, 166), (72, .iload 6, 2, 6, 0, 0), (74, .iaload, 1, 0, 0, 0), (75, .aload_n 0, 1, 0, 0, 0), (76, .iload_n 3, 1, 3, 0, 0), (77, .iload 5, 2, 5, 0, 0), (79, .invokevirtual 95, 3, 149, 0, 157), (82, .invokevirtual 92, 3, 147, 0, 156), (85, .iastore, 1, 0, 0, 0), (86, .iinc 4 1, 3, 4, 1, 0), (89, .iinc 6 1, 3, 6, 1, 0), (92, .goto (-37), 3, 55, 0, 0), (95, .iinc 5 1, 3, 5, 1, 0), (98, .goto (-57), 3, 41, 0, 0), (101, .aload_n 0, 1, 0, 0, 0), (102, .aload_n 0, 1, 0, 0, 0), (103, .getfield 80, 3, 523, 0, 152), (106, .invokevirtual 114, 3, 160, 0, 165), (109, .aload_n 0, 1, 0, 0, 0), (110, .getfield 80, 3, 523, 0, 152), (113, .if_icmp .ge 6, 3, 119, 0, 0), (116, .bipush (-2), 2, 0, (-2), 0), (118, .ireturn, 1, 0, 0, 0), (119, .aload_n 0, 1, 0, 0, 0), (120, .invokevirtual 226, 3, 172, 0, 209), (123, .aload_n 0, 1, 0, 0, 0), (124, .iload_n 1, 1, 1, 0, 0), (125, .invokevirtual 247, 3, 174, 0, 216), (128, .ireturn, 1, 0, 0, 0)])
def mq_X10_isUnder : mz_I := (yX10_isUnder, cX10_isUnder, 2, (some .boolean), false, 8, 1, 1, 22, [(0, .iload_n 1, 1, 1, 0, 0), (1, .iconst 1, 1, 0, 1, 0), (2, .if_icmp .le 25, 3, 27, 0, 0), (5, .iload_n 1, 1, 1, 0, 0), (6, .sipush 512, 3, 0, 512, 0), (9, .if_icmp .ge 18, 3, 27, 0, 0), (12, .aload_n 0, 1, 0, 0, 0), (13, .iload_n 1, 1, 1, 0, 0), (14, .invokestatic 69, 3, 139, 0, 148), (17, .invokevirtual 206, 3, 157, 0, 202), (20, .ifCond .eq 7, 3, 27, 0, 0), (23, .iconst 1, 1, 0, 1, 0), (24, .goto 4, 3, 28, 0, 0), (27, .iconst 0, 1, 0, 0, 0), (28, .ireturn, 1, 0, 0, 0)])
def mq_X10_fits : mz_I := (yX10_fits, cX10_fits, 3, (some .int), false, 8, 1, 4, 92, [(0, .aload_n 0, 1, 0, 0, 0), (1, .iconst 0, 1, 0, 0, 0), (2, .putfield 55, 3, 522, 0, 142), (5, .aload_n 0, 1, 0, 0, 0), (6, .iload_n 1, 1, 1, 0, 0), (7, .invokevirtual 277, 3, 240, 0, 227), (10, .ifCond .ne 5, 3, 15, 0, 0), (13, .iconst (-1), 1, 0, (-1), 0), (14, .ireturn, 1, 0, 0, 0), (15, .iload_n 1, 1, 1, 0, 0), (16, .invokestatic 176, 3, 144, 0, 190), (19, .ifCond .ne 6, 3, 25, 0, 0), (22, .bipush (-2), 2, 0, (-2), 0), (24, .ireturn, 1, 0, 0, 0), (25, .aload_n 0, 1, 0, 0, 0), (26, .iconst 0, 1, 0, 0, 0), (27, .putfield 59, 3, 521, 0, 144), (30, .iconst 0, 1, 0, 0, 0), (31, .istore_n 2, 1, 2, 0, 0), (32, .iload_n 2, 1, 2, 0, 0), (33, .aload_n 0, 1, 0, 0, 0), (34, .getfield 83, 3, 524, 0, 153), (37, .if_icmp .ge 24, 3, 61, 0, 0), (40, .aload_n 0, 1, 0, 0, 0), (41, .iload_n 1, 1, 1, 0, 0), (42, .iload_n 2, 1, 2, 0, 0), (43, .invokevirtual 203, 3, 188, 0, 201), (46, .ifCond .ne 9, 3, 55, 0, 0), (49, .aload_n 0, 1, 0, 0, 0), (50, .iload_n 2, 1, 2, 0, 0), (51, .i2l, 1, 0, 0, 0), (52, .invokevirtual 194, 3, 135, 0, 198), (55, .iinc 2 1, 3, 2, 1, 0), (58, .goto (-26), 3, 32, 0, 0), (61, .aload_n 0, 1, 0, 0, 0), (62, .getfield 59, 3, 521, 0, 144), (65, .ireturn, 1, 0, 0, 0)])
def mq_X10_maps : mz_I := (yX10_maps, cX10_maps, 4, (some .int), false, 8, 3, 4, 92, [(0, .aload_n 0, 1, 0, 0, 0), (1, .iconst 0, 1, 0, 0, 0), (2, .putfield 55, 3, 522, 0, 142), (5, .aload_n 0, 1, 0, 0, 0), (6, .iload_n 1, 1, 1, 0, 0), (7, .invokevirtual 277, 3, 240, 0, 227), (10, .ifCond .eq 36, 3, 46, 0, 0), (13, .iload_n 1, 1, 1, 0, 0), (14, .invokestatic 176, 3, 144, 0, 190), (17, .ifCond .eq 29, 3, 46, 0, 0), (20, .aload_n 0, 1, 0, 0, 0), (21, .iload_n 2, 1, 2, 0, 0), (22, .invokevirtual 183, 3, 156, 0, 194), (25, .ifCond .eq 21, 3, 46, 0, 0), (28, .iload_n 3, 1, 3, 0, 0), (29, .i2l, 1, 0, 0, 0), (30, .lconst 0, 1, 0, 0, 0), (31, .iconst 1, 1, 0, 1, 0), (32, .iload_n 1, 1, 1, 0, 0), (33, .invokestatic 69, 3, 139, 0, 148), (36, .ishl, 1, 0, 0, 0), (37, .iconst 1, 1, 0, 1, 0), (38, .isub, 1, 0, 0, 0), (39, .i2l, 1, 0, 0, 0), (40, .invokestatic 65, 3, 133, 0, 147), (43, .ifCond .ne 5, 3, 48, 0, 0), (46, .iconst (-1), 1, 0, (-1), 0), (47, .ireturn, 1, 0, 0, 0), (48, .aload_n 0, 1, 0, 0, 0), (49, .iload_n 1, 1, 1, 0, 0), (50, .iload_n 2, 1, 2, 0, 0), (51, .invokevirtual 203, 3, 188, 0, 201), (54, .ifCond .ne 12, 3, 66, 0, 0), (57, .aload_n 0, 1, 0, 0, 0), (58, .iload_n 3, 1, 3, 0, 0), (59, .iload_n 2, 1, 2, 0, 0), (60, .invokevirtual 203, 3, 188, 0, 201), (63, .goto 5, 3, 68, 0, 0), (66, .bipush (-2), 2, 0, (-2), 0), (68, .ireturn, 1, 0, 0, 0)])
def mq_X10_isPrimitive : mz_I := (yX10_isPrimitive, cX10_isPrimitive, 3, (some .boolean), true, 8, 1, 2, 46, [(0, .iconst 1, 1, 0, 1, 0), (1, .istore_n 1, 1, 1, 0, 0), (2, .iconst 2, 1, 0, 2, 0), (3, .iload_n 0, 1, 0, 0, 0), (4, .invokestatic 73, 3, 140, 0, 149), (7, .istore_n 2, 1, 2, 0, 0), (8, .iload_n 2, 1, 2, 0, 0), (9, .iconst 1, 1, 0, 1, 0), (10, .if_icmp .eq 17, 3, 27, 0, 0), (13, .iinc 1 1, 3, 1, 1, 0), (16, .iload_n 2, 1, 2, 0, 0), (17, .iconst 1, 1, 0, 1, 0), (18, .ishl, 1, 0, 0, 0), (19, .iload_n 0, 1, 0, 0, 0), (20, .invokestatic 73, 3, 140, 0, 149), (23, .istore_n 2, 1, 2, 0, 0), (24, .goto (-16), 3, 8, 0, 0), (27, .iload_n 1, 1, 1, 0, 0), (28, .iconst 1, 1, 0, 1, 0), (29, .iload_n 0, 1, 0, 0, 0), (30, .invokestatic 69, 3, 139, 0, 148), (33, .ishl, 1, 0, 0, 0), (34, .iconst 1, 1, 0, 1, 0), (35, .isub, 1, 0, 0, 0), (36, .if_icmp .ne 7, 3, 43, 0, 0), (39, .iconst 1, 1, 0, 1, 0), (40, .goto 4, 3, 44, 0, 0), (43, .iconst 0, 1, 0, 0, 0), (44, .ireturn, 1, 0, 0, 0)])
def mq_X10_irreducibles : mz_I := (yX10_irreducibles, cX10_irreducibles, 6, (some .int), false, 8, 1, 4, 87, [(0, .aload_n 0, 1, 0, 0, 0), (1, .iconst 0, 1, 0, 0, 0), (2, .putfield 55, 3, 522, 0, 142), (5, .iload_n 1, 1, 1, 0, 0), (6, .i2l, 1, 0, 0, 0), (7, .lconst 1, 1, 0, 1, 0), (8, .ldc2_w 280, 3, 0, 8, 228), (11, .invokestatic 65, 3, 133, 0, 147), (14, .ifCond .ne 5, 3, 19, 0, 0), (17, .iconst (-1), 1, 0, (-1), 0), (18, .ireturn, 1, 0, 0, 0), (19, .iconst 0, 1, 0, 0, 0), (20, .istore_n 2, 1, 2, 0, 0), (21, .iconst (-1), 1, 0, (-1), 0), (22, .istore_n 3, 1, 3, 0, 0), (23, .iconst 0, 1, 0, 0, 0), (24, .istore 4, 2, 4, 0, 0), (26, .iconst 1, 1, 0, 1, 0), (27, .iload_n 1, 1, 1, 0, 0), (28, .ishl, 1, 0, 0, 0), (29, .istore 5, 2, 5, 0, 0), (31, .iload 5, 2, 5, 0, 0), (33, .iconst 2, 1, 0, 2, 0), (34, .iload_n 1, 1, 1, 0, 0), (35, .ishl, 1, 0, 0, 0), (36, .if_icmp .ge 57, 3, 93, 0, 0), (39, .iload 5, 2, 5, 0, 0), (41, .invokestatic 176, 3, 144, 0, 190), (44, .ifCond .ne 6, 3, 50, 0, 0), (47, .goto 40, 3, 87, 0, 0), (50, .iload_n 2, 1, 2, 0, 0), (51, .ifCond .ne 8, 3, 59, 0, 0), (54, .iload 5, 2, 5, 0, 0), (56, .goto 4, 3, 60, 0, 0), (59, .iload_n 3, 1, 3, 0, 0), (60, .istore_n 3, 1, 3, 0, 0), (61, .iinc 2 1, 3, 2, 1, 0), (64, .iload 4, 2, 4, 0, 0), (66, .iload_n 1, 1, 1, 0, 0), (67, .iconst 1, 1, 0, 1, 0), (68, .if_icmp .le 15, 3, 83, 0, 0), (71, .iload 5, 2, 5, 0, 0), (73, .invokestatic 282, 3, 243, 0, 229), (76, .ifCond .eq 7, 3, 83, 0, 0), (79, .iconst 1, 1, 0, 1, 0), (80, .goto 4, 3, 84, 0, 0), (83, .iconst 0, 1, 0, 0, 0), (84, .iadd, 1, 0, 0, 0), (85, .istore 4, 2, 4, 0, 0), (87, .iinc 5 1, 3, 5, 1, 0), (90, .goto (-59), 3, 31, 0, 0), (93, .aload_n 0, 1, 0, 0, 0), (94, .iconst 0, 1, 0, 0, 0), (95, .putfield 59, 3, 521, 0, 144), (98, .aload_n 0, 1, 0, 0, 0), (99, .iload_n 3, 1, 3, 0, 0), (100, .i2l, 1, 0, 0, 0), (101, .invokevirtual 194, 3, 135, 0, 198), (104, .aload_n 0, 1, 0, 0, 0), (105, .iload 4, 2, 4, 0, 0), (107, .i2l, 1, 0, 0, 0), (108, .invokevirtual 194, 3, 135, 0, 198), (111, .iload_n 2, 1, 2, 0, 0), (112, .ireturn, 1, 0, 0, 0)])
def mq_X10_undo : mz_I := (yX10_undo, cX10_undo, 2, (some .int), false, 8, 0, 2, 42, [(0, .aload_n 0, 1, 0, 0, 0), (1, .iconst 0, 1, 0, 0, 0), (2, .putfield 55, 3, 522, 0, 142), (5, .aload_n 0, 1, 0, 0, 0), (6, .getfield 136, 3, 517, 0, 175), (9, .ifCond .ne 6, 3, 15, 0, 0), (12, .bipush (-2), 2, 0, (-2), 0), (14, .ireturn, 1, 0, 0, 0), (15, .aload_n 0, 1, 0, 0, 0), (16, .dup, 1, 0, 0, 0), (17, .getfield 136, 3, 517, 0, 175), (20, .iconst 1, 1, 0, 1, 0), (21, .isub, 1, 0, 0, 0), (22, .putfield 136, 3, 517, 0, 175), (25, .iconst 0, 1, 0, 0, 0), (26, .istore_n 1, 1, 1, 0, 0), (27, .iload_n 1, 1, 1, 0, 0), (28, .bipush 33, 2, 0, 33, 0), (30, .if_icmp .ge 29, 3, 59, 0, 0), (33, .aload_n 0, 1, 0, 0, 0), (34, .getfield 7, 3, 512, 0, 151), (37, .iload_n 1, 1, 1, 0, 0), (38, .aload_n 0, 1, 0, 0, 0), (39, .getfield 19, 3, 516, 0, 176), (42, .bipush 33, 2, 0, 33, 0), (44, .aload_n 0, 1, 0, 0, 0), (45, .getfield 136, 3, 517, 0, 175), (48, .imul, 1, 0, 0, 0), (49, .iload_n 1, 1, 1, 0, 0), (50, .iadd, 1, 0, 0, 0), (51, .iaload, 1, 0, 0, 0), (52, .iastore, 1, 0, 0, 0), (53, .iinc 1 1, 3, 1, 1, 0), (56, .goto (-29), 3, 27, 0, 0), (59, .aload_n 0, 1, 0, 0, 0), (60, .invokevirtual 86, 3, 145, 0, 154), (63, .aload_n 0, 1, 0, 0, 0), (64, .getfield 136, 3, 517, 0, 175), (67, .ireturn, 1, 0, 0, 0)])
def mq_X10_keeps : mz_I := (yX10_keeps, cX10_keeps, 2, (some .int), false, 8, 0, 0, 0, [(0, .aload_n 0, 1, 0, 0, 0), (1, .iconst 0, 1, 0, 0, 0), (2, .putfield 55, 3, 522, 0, 142), (5, .iconst 0, 1, 0, 0, 0), (6, .istore_n 1, 1, 1, 0, 0), (7, .iload_n 1, 1, 1, 0, 0), (8, .bipush 33, 2, 0, 33, 0), (10, .if_icmp .ge 21, 3, 31, 0, 0), (13, .aload_n 0, 1, 0, 0, 0), (14, .getfield 16, 3, 514, 0, 230), (17, .iload_n 1, 1, 1, 0, 0), (18, .aload_n 0, 1, 0, 0, 0), (19, .getfield 7, 3, 512, 0, 151), (22, .iload_n 1, 1, 1, 0, 0), (23, .iaload, 1, 0, 0, 0), (24, .iastore, 1, 0, 0, 0), (25, .iinc 1 1, 3, 1, 1, 0), (28, .goto (-21), 3, 7, 0, 0), (31, .aload_n 0, 1, 0, 0, 0), (32, .iconst 1, 1, 0, 1, 0), (33, .putfield 285, 3, 515, 1, 231), (36, .aload_n 0, 1, 0, 0, 0), (37, .getfield 80, 3, 523, 0, 152), (40, .ireturn, 1, 0, 0, 0)])
def mq_X10_back : mz_I := (yX10_back, cX10_back, 2, (some .int), false, 8, 0, 2, 42, [(0, .aload_n 0, 1, 0, 0, 0), (1, .iconst 0, 1, 0, 0, 0), (2, .putfield 55, 3, 522, 0, 142), (5, .aload_n 0, 1, 0, 0, 0), (6, .getfield 285, 3, 515, 0, 231), (9, .ifCond .ne 6, 3, 15, 0, 0), (12, .bipush (-2), 2, 0, (-2), 0), (14, .ireturn, 1, 0, 0, 0), (15, .aload_n 0, 1, 0, 0, 0), (16, .invokevirtual 139, 3, 173, 0, 177), (19, .iconst 0, 1, 0, 0, 0), (20, .istore_n 1, 1, 1, 0, 0), (21, .iload_n 1, 1, 1, 0, 0), (22, .bipush 33, 2, 0, 33, 0), (24, .if_icmp .ge 21, 3, 45, 0, 0), (27, .aload_n 0, 1, 0, 0, 0), (28, .getfield 7, 3, 512, 0, 151), (31, .iload_n 1, 1, 1, 0, 0), (32, .aload_n 0, 1, 0, 0, 0), (33, .getfield 16, 3, 514, 0, 230), (36, .iload_n 1, 1, 1, 0, 0), (37, .iaload, 1, 0, 0, 0), (38, .iastore, 1, 0, 0, 0), (39, .iinc 1 1, 3, 1, 1, 0), (42, .goto (-21), 3, 21, 0, 0), (45, .aload_n 0, 1, 0, 0, 0), (46, .invokevirtual 86, 3, 145, 0, 154), (49, .aload_n 0, 1, 0, 0, 0), (50, .getfield 80, 3, 523, 0, 152), (53, .ireturn, 1, 0, 0, 0)])
def mq_X10_writes : mz_I := (yX10_writes, cX10_writes, 2, none, false, 8, 1, 0, 0, [(0, .aload_n 0, 1, 0, 0, 0), (1, .getfield 48, 3, 534, 0, 232), (4, .aload_n 0, 1, 0, 0, 0), (5, .getfield 289, 3, 535, 0, 233), (8, .iload_n 1, 1, 1, 0, 0), (9, .i2b, 1, 0, 0, 0), (10, .bastore, 1, 0, 0, 0), (11, .aload_n 0, 1, 0, 0, 0), (12, .dup, 1, 0, 0, 0), (13, .getfield 289, 3, 535, 0, 233), (16, .iconst 1, 1, 0, 1, 0), (17, .iadd, 1, 0, 0, 0), (18, .putfield 289, 3, 535, 0, 233), (21, .return_, 1, 0, 0, 0)])
def mq_X10_written : mz_I := (yX10_written, cX10_written, 3, (some .int), false, 8, 1, 1, 25, [(0, .aload_n 0, 1, 0, 0, 0), (1, .iconst 0, 1, 0, 0, 0), (2, .putfield 55, 3, 522, 0, 142), (5, .aload_n 0, 1, 0, 0, 0), (6, .iconst 0, 1, 0, 0, 0), (7, .putfield 289, 3, 535, 0, 233), (10, .aload_n 0, 1, 0, 0, 0), (11, .getfield 80, 3, 523, 0, 152), (14, .istore_n 2, 1, 2, 0, 0), (15, .iload_n 2, 1, 2, 0, 0), (16, .ifCond .lt 66, 3, 82, 0, 0), (19, .aload_n 0, 1, 0, 0, 0), (20, .getfield 7, 3, 512, 0, 151), (23, .iconst 0, 1, 0, 0, 0), (24, .iaload, 1, 0, 0, 0), (25, .iload_n 2, 1, 2, 0, 0), (26, .ishr, 1, 0, 0, 0), (27, .iconst 1, 1, 0, 1, 0), (28, .iand, 1, 0, 0, 0), (29, .ifCond .ne 6, 3, 35, 0, 0), (32, .goto 44, 3, 76, 0, 0), (35, .aload_n 0, 1, 0, 0, 0), (36, .getfield 289, 3, 535, 0, 233), (39, .ifCond .le 9, 3, 48, 0, 0), (42, .aload_n 0, 1, 0, 0, 0), (43, .bipush 43, 2, 0, 43, 0), (45, .invokevirtual 292, 3, 248, 0, 234), (48, .aload_n 0, 1, 0, 0, 0), (49, .iload_n 2, 1, 2, 0, 0), (50, .ifCond .le 8, 3, 58, 0, 0), (53, .bipush 120, 2, 0, 120, 0), (55, .goto 5, 3, 60, 0, 0), (58, .bipush 49, 2, 0, 49, 0), (60, .invokevirtual 292, 3, 248, 0, 234), (63, .iload_n 2, 1, 2, 0, 0), (64, .iconst 1, 1, 0, 1, 0), (65, .if_icmp .le 11, 3, 76, 0, 0), (68, .aload_n 0, 1, 0, 0, 0), (69, .bipush 48, 2, 0, 48, 0), (71, .iload_n 2, 1, 2, 0, 0), (72, .iadd, 1, 0, 0, 0), (73, .invokevirtual 292, 3, 248, 0, 234), (76, .iinc 2 (-1), 3, 2, (-1), 0), (79, .goto (-64), 3, 15, 0, 0), (82, .iload_n 1, 1, 1, 0, 0), (83, .iconst (-1), 1, 0, (-1), 0), (84, .if_icmp .ne 10, 3, 94, 0, 0), (87, .aload_n 0, 1, 0, 0, 0), (88, .getfield 289, 3, 535, 0, 233), (91, .goto 29, 3, 120, 0, 0), (94, .iload_n 1, 1, 1, 0, 0), (95, .i2l, 1, 0, 0, 0), (96, .lconst 0, 1, 0, 0, 0), (97, .aload_n 0, 1, 0, 0, 0), (98, .getfield 289, 3, 535, 0, 233), (101, .iconst 1, 1, 0, 1, 0), (102, .isub, 1, 0, 0, 0), (103, .i2l, 1, 0, 0, 0), (104, .invokestatic 65, 3, 133, 0, 147), (107, .ifCond .eq 12, 3, 119, 0, 0), (110, .aload_n 0, 1, 0, 0, 0), (111, .getfield 48, 3, 534, 0, 232), (114, .iload_n 1, 1, 1, 0, 0), (115, .baload, 1, 0, 0, 0), (116, .goto 4, 3, 120, 0, 0), (119, .iconst (-1), 1, 0, (-1), 0), (120, .ireturn, 1, 0, 0, 0)])
def mq_X10_count : mz_I := (yX10_count, cX10_count, 7, (some .int), false, 8, 1, 7, 156, [(0, .aload_n 0, 1, 0, 0, 0), (1, .iconst 0, 1, 0, 0, 0), (2, .putfield 55, 3, 522, 0, 142), (5, .iconst 0, 1, 0, 0, 0), (6, .istore_n 2, 1, 2, 0, 0), (7, .iconst 0, 1, 0, 0, 0), (8, .istore_n 3, 1, 3, 0, 0), (9, .iconst 0, 1, 0, 0, 0), (10, .istore 4, 2, 4, 0, 0), (12, .iload 4, 2, 4, 0, 0), (14, .iconst 4, 1, 0, 4, 0), (15, .if_icmp .ge 105, 3, 120, 0, 0), (18, .iconst 1, 1, 0, 1, 0), (19, .istore 5, 2, 5, 0, 0), (21, .iconst 0, 1, 0, 0, 0), (22, .istore 6, 2, 6, 0, 0), (24, .iload 6, 2, 6, 0, 0), (26, .aload_n 0, 1, 0, 0, 0), (27, .getfield 80, 3, 523, 0, 152), (30, .if_icmp .ge 50, 3, 80, 0, 0), (33, .aload_n 0, 1, 0, 0, 0), (34, .getfield 39, 3, 528, 0, 168), (37, .iload 6, 2, 6, 0, 0), (39, .aload_n 0, 1, 0, 0, 0), (40, .iload 4, 2, 4, 0, 0), (42, .iload 6, 2, 6, 0, 0), (44, .invokevirtual 123, 3, 167, 0, 171), (47, .iastore, 1, 0, 0, 0), (48, .iload 5, 2, 5, 0, 0), (50, .ifCond .eq 21, 3, 71, 0, 0), (53, .aload_n 0, 1, 0, 0, 0), (54, .getfield 39, 3, 528, 0, 168), (57, .iload 6, 2, 6, 0, 0), (59, .iaload, 1, 0, 0, 0), (60, .iconst 1, 1, 0, 1, 0), (61, .iload 6, 2, 6, 0, 0), (63, .ishl, 1, 0, 0, 0), (64, .if_icmp .ne 7, 3, 71, 0, 0), (67, .iconst 1, 1, 0, 1, 0), (68, .goto 4, 3, 72, 0, 0), (71, .iconst 0, 1, 0, 0, 0), (72, .istore 5, 2, 5, 0, 0), (74, .iinc 6 1, 3, 6, 1, 0), (77, .goto (-53), 3, 24, 0, 0), (80, .iload_n 2, 1, 2, 0, 0), (81, .aload_n 0, 1, 0, 0, 0), (82, .invokevirtual 262, 3, 171, 0, 221), (85, .ifCond .eq 10, 3, 95, 0, 0), (88, .iconst 1, 1, 0, 1, 0), (89, .iload 4, 2, 4, 0, 0), (91, .ishl, 1, 0, 0, 0), (92, .goto 4, 3, 96, 0, 0), (95, .iconst 0, 1, 0, 0, 0), (96, .ior, 1, 0, 0, 0), (97, .istore_n 2, 1, 2, 0, 0), (98, .iload_n 3, 1, 3, 0, 0), (99, .iload 5, 2, 5, 0, 0), (101, .ifCond .eq 10, 3, 111, 0, 0), (104, .iconst 1, 1, 0, 1, 0), (105, .iload 4, 2, 4, 0, 0), (107, .ishl, 1, 0, 0, 0), (108, .goto 4, 3, 112, 0, 0), (111, .iconst 0, 1, 0, 0, 0), (112, .ior, 1, 0, 0, 0), (113, .istore_n 3, 1, 3, 0, 0), (114, .iinc 4 1, 3, 4, 1, 0), (117, .goto (-105), 3, 12, 0, 0), (120, .iload_n 1, 1, 1, 0, 0), (121, .tableswitch 74 0 6 #[43, 48, 55, 60, 65, 70, 72], 43, 195, 0, 0), (164, .aload_n 0, 1, 0, 0, 0), (165, .getfield 80, 3, 523, 0, 152), (168, .ireturn, 1, 0, 0, 0), (169, .aload_n 0, 1, 0, 0, 0), (170, .getfield 7, 3, 512, 0, 151), (173, .iconst 0, 1, 0, 0, 0), (174, .iaload, 1, 0, 0, 0), (175, .ireturn, 1, 0, 0, 0), (176, .aload_n 0, 1, 0, 0, 0), (177, .getfield 136, 3, 517, 0, 175), (180, .ireturn, 1, 0, 0, 0), (181, .aload_n 0, 1, 0, 0, 0), (182, .getfield 59, 3, 521, 0, 144), (185, .ireturn, 1, 0, 0, 0), (186, .aload_n 0, 1, 0, 0, 0), (187, .getfield 62, 3, 519, 0, 145), (190, .ireturn, 1, 0, 0, 0), (191, .iload_n 2, 1, 2, 0, 0), (192, .ireturn, 1, 0, 0, 0), (193, .iload_n 3, 1, 3, 0, 0), (194, .ireturn, 1, 0, 0, 0), (195, .iconst (-1), 1, 0, (-1), 0), (196, .ireturn, 1, 0, 0, 0)])
def mq_X10_row : mz_I := (yX10_row, cX10_row, 2, (some .long), false, 8, 1, 1, 25, [(0, .aload_n 0, 1, 0, 0, 0), (1, .iconst 0, 1, 0, 0, 0), (2, .putfield 55, 3, 522, 0, 142), (5, .iload_n 1, 1, 1, 0, 0), (6, .i2l, 1, 0, 0, 0), (7, .lconst 0, 1, 0, 0, 0), (8, .aload_n 0, 1, 0, 0, 0), (9, .getfield 59, 3, 521, 0, 144), (12, .iconst 1, 1, 0, 1, 0), (13, .isub, 1, 0, 0, 0), (14, .i2l, 1, 0, 0, 0), (15, .invokestatic 65, 3, 133, 0, 147), (18, .ifCond .eq 12, 3, 30, 0, 0), (21, .aload_n 0, 1, 0, 0, 0), (22, .getfield 26, 3, 520, 0, 143), (25, .iload_n 1, 1, 1, 0, 0), (26, .laload, 1, 0, 0, 0), (27, .goto 8, 3, 35, 0, 0), (30, .aload_n 0, 1, 0, 0, 0), (31, .invokevirtual 295, 3, 134, 0, 235), (34, .i2l, 1, 0, 0, 0), (35, .lreturn, 1, 0, 0, 0)])
def mq_J6_bitCount_0f7a4 : mz_I := (yJ6_bitCount_0f7a4, cJ6_bitCount_0f7a4, 1, (some .int), true, 0, 1, 0, 0, [(0, .iload_n 0, 1, 0, 0, 0), (1, .iload_n 0, 1, 0, 0, 0), (2, .iconst 1, 1, 0, 1, 0), (3, .iushr, 1, 0, 0, 0), (4, .ldc_w 265, 3, 0, 1431655765, 236), (7, .iand, 1, 0, 0, 0), (8, .isub, 1, 0, 0, 0), (9, .istore_n 0, 1, 0, 0, 0), (10, .iload_n 0, 1, 0, 0, 0), (11, .ldc_w 266, 3, 0, 858993459, 237), (14, .iand, 1, 0, 0, 0), (15, .iload_n 0, 1, 0, 0, 0), (16, .iconst 2, 1, 0, 2, 0), (17, .iushr, 1, 0, 0, 0), (18, .ldc_w 266, 3, 0, 858993459, 237), (21, .iand, 1, 0, 0, 0), (22, .iadd, 1, 0, 0, 0), (23, .istore_n 0, 1, 0, 0, 0), (24, .iload_n 0, 1, 0, 0, 0), (25, .iload_n 0, 1, 0, 0, 0), (26, .iconst 4, 1, 0, 4, 0), (27, .iushr, 1, 0, 0, 0), (28, .iadd, 1, 0, 0, 0), (29, .ldc_w 267, 3, 0, 252645135, 238), (32, .iand, 1, 0, 0, 0), (33, .istore_n 0, 1, 0, 0, 0), (34, .iload_n 0, 1, 0, 0, 0), (35, .iload_n 0, 1, 0, 0, 0), (36, .bipush 8, 2, 0, 8, 0), (38, .iushr, 1, 0, 0, 0), (39, .iadd, 1, 0, 0, 0), (40, .istore_n 0, 1, 0, 0, 0), (41, .iload_n 0, 1, 0, 0, 0), (42, .iload_n 0, 1, 0, 0, 0), (43, .bipush 16, 2, 0, 16, 0), (45, .iushr, 1, 0, 0, 0), (46, .iadd, 1, 0, 0, 0), (47, .istore_n 0, 1, 0, 0, 0), (48, .iload_n 0, 1, 0, 0, 0), (49, .bipush 63, 2, 0, 63, 0), (51, .iand, 1, 0, 0, 0), (52, .ireturn, 1, 0, 0, 0)])
def mq_J9_min_7cf53 : mz_I := (yJ9_min_7cf53, cJ9_min_7cf53, 2, (some .int), true, 0, 2, 0, 0, [(0, .iload_n 0, 1, 0, 0, 0), (1, .iload_n 1, 1, 1, 0, 0), (2, .if_icmp .gt 7, 3, 9, 0, 0), (5, .iload_n 0, 1, 0, 0, 0), (6, .goto 4, 3, 10, 0, 0), (9, .iload_n 1, 1, 1, 0, 0), (10, .ireturn, 1, 0, 0, 0)])
def mq_tab : List mz_I := [mq_X0_settle, mq_X0_fills, mq_X0_multiplied, mq_X0_times, mq_X0_turned, mq_X0_raised, mq_X0_squared, mq_X0_orderOf, mq_X0_generates, mq_X0_howManyOfOrder, mq_X0_sizeOf, mq_X0_hasSubfield, mq_X0_tracedTo, mq_X0_tracedToOne, mq_X0_normedTo, mq_X0_valueAt, mq_X0_fillsPowers, mq_X0_fillsConjugates, mq_X1_empties, mq_X1_takes, mq_X1_holds, mq_X1_located, mq_X2_complexityOf, mq_X2_bitsOfFirst, mq_X2_bitsOfAll, mq_X2_whoseNormal, mq_X2_sumAt, mq_X2_placeOf, mq_X2_leastPolynomial, mq_X2_fillsSubbase, mq_X2_fillsOverSubbase, mq_X2_fillsTower, mq_X2_traceBits, mq_X2_fillsDual, mq_X2_fillsPlaces, mq_X3_remembers, mq_X3_restores, mq_X4_degreeOf, mq_X4_remainder, mq_X4_quotient, mq_X4_isIrreducible, mq_X4_isGeneratedByX, mq_X5_isPrime, mq_X5_powersOfTwo, mq_X6_empties, mq_X6_puts, mq_X6_putsAll, mq_X7_start, mq_X7_becomes, mq_X7_setsSlot, mq_X7_copiesSlot, mq_X7_isPlain, mq_X8_takes, mq_X8_shortens, mq_X8_empties, mq_X8_signAt, mq_X8_polynomialRead, mq_X8_powerRead, mq_X8_elementsRead, mq_X8_numberRead, mq_X8_isDigit, mq_X8_signOf, mq_X8_puts, mq_X9_sign, mq_X9_end, mq_X9_field, mq_X9_poly, mq_X9_product, mq_X9_inverse, mq_X9_power, mq_X9_order, mq_X9_conjugate, mq_X9_conjugates, mq_X9_least, mq_X9_trace, mq_X9_norm, mq_X9_root, mq_X9_solves, mq_X9_log, mq_X9_traced, mq_X9_factors, mq_X9_orders, mq_X9_quadratic, mq_X9_classes, mq_X9_generators, mq_X9_subfield, mq_X9_normal, mq_X9_normals, mq_X9_complete, mq_X9_leastNormal, mq_X9_leastPowers, mq_X9_types, mq_X9_base, mq_X9_makes, mq_X9_copies, mq_X9_scales, mq_X9_moves, mq_X9_adds, mq_X9_at, mq_X9_coordinates, mq_X9_made, mq_X9_change, mq_X9_table, mq_X9_complexity, mq_X9_by, mq_X9_squares, mq_X9_productIn, mq_X9_far, mq_X9_steady, mq_X9_bestScale, mq_X9_same, mq_X9_dual, mq_X9_weakly, mq_X9_traces, mq_X9_tower, mq_X9_fits, mq_X9_maps, mq_X9_irreducibles, mq_X9_undo, mq_X9_keeps, mq_X9_back, mq_X9_written, mq_X9_count, mq_X9_isElement, mq_X9_isSlot, mq_X9_isPlace, mq_X9_tellsField, mq_X9_setsSlot, mq_X9_followsState, mq_X9_tellsLocated, mq_X9_normalSlots, mq_X9_plainSlots, mq_X10_thrown, mq_X10_in, mq_X10_lost, mq_X10_tell, mq_X10_bits, mq_X10_sign, mq_X10_end, mq_X10_degree, mq_X10_modulo, mq_X10_timesPoly, mq_X10_quotient, mq_X10_leastFactor, mq_X10_isIrreducible, mq_X10_lays, mq_X10_fields, mq_X10_times, mq_X10_conj, mq_X10_powered, mq_X10_inverseOf, mq_X10_sizeOf, mq_X10_orderOf, mq_X10_isGenerator, mq_X10_traceTo, mq_X10_normTo, mq_X10_isElement, mq_X10_isPart, mq_X10_isSlot, mq_X10_isPlace, mq_X10_rank, mq_X10_takesConjugates, mq_X10_isNormal, mq_X10_takesSubbase, mq_X10_isNormalOver, mq_X10_madeOf, mq_X10_laysCoordinates, mq_X10_baseAt, mq_X10_looksAt, mq_X10_complexityNow, mq_X10_weightNow, mq_X10_isNormalBase, mq_X10_someIsBase, mq_X10_does, mq_X10_holds, mq_X10_begin, mq_X10_sees, mq_X10_fault, mq_X10_readsPower, mq_X10_readsPoly, mq_X10_field, mq_X10_poly, mq_X10_product, mq_X10_inverse, mq_X10_power, mq_X10_order, mq_X10_conjugate, mq_X10_conjugates, mq_X10_rooted, mq_X10_least, mq_X10_trace, mq_X10_norm, mq_X10_root, mq_X10_solves, mq_X10_log, mq_X10_traced, mq_X10_factors, mq_X10_classes, mq_X10_generators, mq_X10_orders, mq_X10_quadratic, mq_X10_subfield, mq_X10_normal, mq_X10_normals, mq_X10_complete, mq_X10_leastNormal, mq_X10_takesPowers, mq_X10_leastPowers, mq_X10_isPrime, mq_X10_powersOfTwo, mq_X10_types, mq_X10_readsElement, mq_X10_base, mq_X10_makes, mq_X10_copies, mq_X10_scales, mq_X10_takesBase, mq_X10_moves, mq_X10_adds, mq_X10_at, mq_X10_coordinates, mq_X10_made, mq_X10_tellsCoordinates, mq_X10_change, mq_X10_table, mq_X10_complexity, mq_X10_by, mq_X10_squares, mq_X10_productIn, mq_X10_far, mq_X10_steady, mq_X10_bestScale, mq_X10_same, mq_X10_dualAt, mq_X10_takesDual, mq_X10_dual, mq_X10_placeOf, mq_X10_weakly, mq_X10_traces, mq_X10_tower, mq_X10_isUnder, mq_X10_fits, mq_X10_maps, mq_X10_isPrimitive, mq_X10_irreducibles, mq_X10_undo, mq_X10_keeps, mq_X10_back, mq_X10_writes, mq_X10_written, mq_X10_count, mq_X10_row, mq_J6_bitCount_0f7a4, mq_J9_min_7cf53]
end
section
/-! the links: words, each by its place in the tables -/
def mq_lk0 : List Cond := [.fieldLink RX0 18 "FieldBases$Field" "modulus" "I", .methodLink RX0 22 yX4_degreeOf, .fieldLink RX0 28 "FieldBases$Field" "degree" "I", .fieldLink RX0 31 "FieldBases$Field" "size" "I", .methodLink RX0 34 yX0_fills, .fieldLink RX0 38 "FieldBases$Field" "tracedOnes" "I", .methodLink RX0 41 yX0_tracedTo, .fieldLink RX0 9 "FieldBases$Field" "powers" "[I", .fieldLink RX0 15 "FieldBases$Field" "logs" "[I", .methodLink RX0 45 yX0_multiplied, .methodLink RX0 48 yX4_remainder, .methodLink RX0 51 yX0_times, .methodLink RX0 54 yX0_orderOf, .methodLink RX0 57 yX0_squared, .methodLink RX0 60 yJ6_bitCount_0f7a4, .fieldLink RX1 9 "FieldBases$Frame" "leads" "[I", .fieldLink RX1 15 "FieldBases$Frame" "shares" "[I", .fieldLink RX1 18 "FieldBases$Frame" "rank" "I", .methodLink RX1 22 yX1_empties, .methodLink RX1 25 yX1_takes, .fieldLink RX2 21 "FieldBases$Measure" "frame" "LFieldBases$Frame;", .fieldLink RX2 12 "FieldBases$Measure" "numbers" "LFieldBases$Field;", .fieldLink RX2 25 "FieldBases$Field" "degree" "I", .methodLink RX2 29 yX1_holds, .methodLink RX2 33 yX2_bitsOfFirst, .methodLink RX2 37 yX0_times, .methodLink RX2 41 yX1_located, .methodLink RX2 45 yJ6_bitCount_0f7a4, .methodLink RX2 50 yX1_empties, .methodLink RX2 53 yX1_takes, .fieldLink RX2 57 "FieldBases$Field" "size" "I", .fieldLink RX2 60 "FieldBases$Frame" "rank" "I", .methodLink RX2 63 yX0_squared, .methodLink RX2 66 yX0_tracedToOne, .methodLink RX2 69 yX2_traceBits, .methodLink RX2 73 yX2_placeOf, .fieldLink RX3 11 "FieldBases$Past" "states" "[LFieldBases$State;", .fieldLink RX3 16 "FieldBases$Past" "next" "I", .methodLink RX3 20 yX7_becomes, .fieldLink RX3 24 "FieldBases$Past" "held" "I", .methodLink RX4 9 yX4_degreeOf, .methodLink RX4 15 yX4_remainder, .methodLink RX5 7 yX5_isPrime, .fieldLink RX6 13 "FieldBases$Row" "length" "I", .fieldLink RX6 7 "FieldBases$Row" "numbers" "[J", .methodLink RX6 17 yX6_puts, .fieldLink RX7 16 "FieldBases$State" "modulus" "I", .fieldLink RX7 13 "FieldBases$State" "slots" "[[I", .methodLink RX7 20 yX7_setsSlot, .methodLink RX7 24 arraycopyName]
def mq_ix0 : List (Nat × Nat) := [(1, 39), (1, 168), (1, 42), (1, 44), (1, 171), (1, 49), (1, 183), (1, 47), (1, 48), (1, 175), (1, 179), (1, 191), (2, 182), (1, 187), (3, 179), (1, 70), (1, 71), (1, 72), (2, 225), (2, 226), (1, 84), (1, 82), (1, 41), (3, 63), (3, 64), (2, 128), (2, 129), (3, 7), (2, 120), (2, 124), (1, 45), (1, 73), (2, 207), (3, 175), (3, 171), (3, 188), (1, 117), (1, 118), (2, 41), (1, 119), (1, 182), (2, 32), (3, 32), (1, 156), (1, 154), (2, 212), (1, 99), (1, 101), (2, 45), (2, 49)]
def mq_lk1 : List Cond := [.fieldLink RX8 18 "FieldBases$Text" "length" "I", .fieldLink RX8 11 "FieldBases$Text" "signs" "[I", .fieldLink RX8 22 "FieldBases$Text" "position" "I", .methodLink RX8 25 yX8_powerRead, .methodLink RX8 29 yX8_signAt, .methodLink RX8 32 yX8_numberRead, .methodLink RX8 36 yX8_isDigit, .methodLink RX8 40 yX8_puts, .fieldLink RX8 15 "FieldBases$Text" "line" "[I", .fieldLink RX9 46 "FieldBases" "text" "LFieldBases$Text;", .methodLink RX9 73 yX8_takes, .fieldLink RX9 77 "FieldBases$Text" "length" "I", .methodLink RX9 81 yX8_shortens, .methodLink RX9 84 yX8_polynomialRead, .methodLink RX9 88 yX8_empties, .methodLink RX9 91 yX4_isIrreducible, .methodLink RX9 96 yX9_tellsField, .methodLink RX9 100 yX4_degreeOf, .methodLink RX9 103 yX9_isElement, .fieldLink RX9 20 "FieldBases" "numbers" "LFieldBases$Field;", .methodLink RX9 106 yX0_times, .methodLink RX9 110 yX0_turned, .constant RX9 113 (1000000000), .methodLink RX9 114 yX0_raised, .methodLink RX9 117 yX0_orderOf, .fieldLink RX9 53 "FieldBases" "told" "LFieldBases$Row;", .methodLink RX9 120 yX6_empties, .fieldLink RX9 121 "FieldBases$Field" "size" "I", .methodLink RX9 124 yX6_puts, .methodLink RX9 128 yX0_squared, .methodLink RX9 131 yX0_sizeOf, .fieldLink RX9 10 "FieldBases" "measure" "LFieldBases$Measure;", .methodLink RX9 134 yX2_leastPolynomial, .methodLink RX9 137 yX0_hasSubfield, .methodLink RX9 140 yX0_tracedTo, .methodLink RX9 143 yX0_normedTo, .fieldLink RX9 146 "FieldBases$Field" "degree" "I", .methodLink RX9 149 yX4_remainder, .methodLink RX9 152 yX4_quotient, .methodLink RX9 155 yX0_howManyOfOrder, .methodLink RX9 158 yX0_generates, .fieldLink RX9 61 "FieldBases" "second" "[I", .methodLink RX9 161 yX2_fillsSubbase, .methodLink RX9 165 yX6_putsAll, .fieldLink RX9 57 "FieldBases" "fresh" "[I", .methodLink RX9 168 yX0_fillsConjugates, .fieldLink RX9 25 "FieldBases" "frame" "LFieldBases$Frame;", .methodLink RX9 171 yX1_holds, .fieldLink RX9 177 "FieldBases$Frame" "rank" "I", .methodLink RX9 180 yX2_fillsOverSubbase]
def mq_ix1 : List (Nat × Nat) := [(1, 136), (1, 134), (1, 138), (2, 17), (2, 21), (3, 43), (3, 47), (4, 10), (1, 135), (1, 205), (1, 237), (1, 137), (2, 5), (2, 13), (2, 25), (2, 29), (2, 33), (2, 56), (2, 61), (1, 200), (2, 65), (2, 70), (2, 78), (2, 79), (2, 87), (1, 206), (2, 91), (1, 46), (2, 95), (2, 103), (2, 108), (1, 199), (2, 116), (2, 137), (2, 141), (2, 146), (1, 43), (2, 170), (2, 171), (2, 178), (2, 195), (1, 208), (2, 203), (2, 208), (1, 207), (2, 217), (1, 201), (2, 221), (1, 74), (2, 235)]
def mq_lk2 : List Cond := [.methodLink RX9 184 yX2_bitsOfFirst, .methodLink RX9 188 yX0_fillsPowers, .methodLink RX9 191 yX2_bitsOfAll, .methodLink RX9 194 yX5_powersOfTwo, .methodLink RX9 199 yX8_elementsRead, .methodLink RX9 203 yX9_isSlot, .methodLink RX9 206 yX9_setsSlot, .methodLink RX9 210 yJ6_bitCount_0f7a4, .fieldLink RX9 29 "FieldBases" "now" "LFieldBases$State;", .fieldLink RX9 215 "FieldBases$State" "slots" "[[I", .methodLink RX9 219 yX9_isPlace, .methodLink RX9 222 yX7_copiesSlot, .methodLink RX9 226 yX1_located, .methodLink RX9 229 yX2_sumAt, .methodLink RX9 233 yX9_tellsLocated, .methodLink RX9 236 yX2_whoseNormal, .methodLink RX9 239 yX2_complexityOf, .methodLink RX9 242 yX2_placeOf, .methodLink RX9 245 yX2_fillsDual, .methodLink RX9 249 yX2_fillsPlaces, .methodLink RX9 253 yX2_traceBits, .methodLink RX9 256 yX2_fillsTower, .methodLink RX9 259 yX0_valueAt, .methodLink RX9 262 yX4_isGeneratedByX, .fieldLink RX9 39 "FieldBases" "past" "LFieldBases$Past;", .methodLink RX9 265 yX3_restores, .methodLink RX9 269 yX9_followsState, .fieldLink RX9 272 "FieldBases$Past" "held" "I", .fieldLink RX9 33 "FieldBases" "kept" "LFieldBases$State;", .methodLink RX9 275 yX7_becomes, .fieldLink RX9 279 "FieldBases" "keeping" "Z", .methodLink RX9 283 yX3_remembers, .fieldLink RX9 286 "FieldBases$State" "modulus" "I", .methodLink RX9 289 yX8_signOf, .fieldLink RX9 292 "FieldBases$Row" "length" "I", .methodLink RX9 293 yX9_normalSlots, .methodLink RX9 296 yX9_plainSlots, .methodLink RX9 70 yX7_start, .methodLink RX9 64 yX0_settle, .methodLink RX9 305 yX7_setsSlot, .fieldLink RX9 307 "FieldBases$Field" "modulus" "I", .methodLink RX9 308 yX7_isPlain, .fieldLink RX10 55 "FieldBasesModel" "thrown" "I", .fieldLink RX10 26 "FieldBasesModel" "row" "[J", .fieldLink RX10 59 "FieldBasesModel" "rowMany" "I", .fieldLink RX10 62 "FieldBasesModel" "typed" "I", .fieldLink RX10 22 "FieldBasesModel" "text" "[B", .methodLink RX10 65 yX10_in, .methodLink RX10 69 yX10_degree, .methodLink RX10 73 yX10_modulo]
def mq_ix2 : List (Nat × Nat) := [(3, 3), (3, 17), (3, 21), (3, 29), (3, 39), (3, 50), (3, 54), (3, 65), (1, 202), (1, 102), (3, 82), (3, 86), (3, 102), (3, 107), (3, 115), (3, 127), (3, 59), (3, 159), (3, 167), (3, 184), (3, 193), (3, 198), (3, 206), (3, 218), (1, 204), (3, 225), (3, 229), (1, 120), (1, 203), (3, 237), (1, 209), (2, 37), (1, 100), (4, 6), (1, 157), (4, 18), (4, 22), (1, 195), (1, 164), (3, 58), (1, 40), (4, 26), (4, 126), (4, 124), (4, 125), (4, 123), (4, 122), (4, 202), (4, 109), (4, 238)]
def mq_lk3 : List Cond := [.methodLink RX10 77 yX10_leastFactor, .fieldLink RX10 7 "FieldBasesModel" "w" "[I", .fieldLink RX10 80 "FieldBasesModel" "m" "I", .fieldLink RX10 83 "FieldBasesModel" "q" "I", .methodLink RX10 86 yX10_lays, .methodLink RX10 89 yX10_timesPoly, .methodLink RX10 92 yX10_times, .methodLink RX10 95 yX10_powered, .methodLink RX10 98 yX10_conj, .methodLink RX10 101 yX10_orderOf, .constantLong RX10 104 (3), .fieldLink RX10 30 "FieldBasesModel" "some" "[I", .fieldLink RX10 33 "FieldBasesModel" "steps" "[I", .methodLink RX10 106 yJ9_min_7cf53, .methodLink RX10 111 yX10_takesConjugates, .methodLink RX10 114 yX10_rank, .fieldLink RX10 36 "FieldBasesModel" "sub" "[I", .methodLink RX10 117 yX10_takesSubbase, .fieldLink RX10 39 "FieldBasesModel" "base" "[I", .fieldLink RX10 42 "FieldBasesModel" "coordOf" "[I", .methodLink RX10 120 yX10_madeOf, .methodLink RX10 123 yX10_baseAt, .methodLink RX10 126 yX10_laysCoordinates, .methodLink RX10 129 yX10_bits, .methodLink RX10 132 yX10_isNormal, .fieldLink RX10 136 "FieldBasesModel" "pastMany" "I", .fieldLink RX10 19 "FieldBasesModel" "past" "[I", .methodLink RX10 139 yX10_does, .methodLink RX10 142 yX10_complexityNow, .fieldLink RX10 146 "FieldBasesModel" "size" "I", .fieldLink RX10 149 "FieldBasesModel" "here" "I", .fieldLink RX10 152 "FieldBasesModel" "wrong" "I", .methodLink RX10 155 yX10_sees, .methodLink RX10 158 yX10_fault, .constantLong RX10 161 (48), .constantLong RX10 163 (57), .constantLong RX10 165 (50), .methodLink RX10 167 yX10_readsPower, .methodLink RX10 170 yX10_begin, .methodLink RX10 173 yX10_readsPoly, .methodLink RX10 176 yX10_isIrreducible, .methodLink RX10 51 yX10_fields, .constantLong RX10 179 (4), .constantLong RX10 181 (511), .methodLink RX10 183 yX10_isElement, .methodLink RX10 186 yX10_inverseOf, .constantLong RX10 189 (1000000000), .methodLink RX10 191 yX10_isGenerator, .methodLink RX10 194 yX10_tell, .constantLong RX10 198 (100)]
def mq_ix3 : List (Nat × Nat) := [(4, 235), (4, 116), (4, 127), (4, 128), (4, 112), (5, 23), (5, 19), (5, 34), (5, 64), (5, 51), (6, 0), (4, 129), (4, 130), (5, 157), (5, 164), (5, 153), (4, 131), (5, 149), (4, 132), (4, 133), (5, 196), (6, 13), (5, 192), (5, 204), (5, 172), (4, 121), (4, 120), (5, 1), (5, 200), (4, 134), (4, 135), (4, 136), (4, 221), (4, 225), (4, 229), (4, 230), (4, 231), (4, 217), (4, 209), (4, 213), (4, 232), (4, 105), (5, 9), (5, 10), (5, 15), (5, 30), (5, 42), (5, 47), (5, 55), (5, 63)]
def mq_lk4 : List Cond := [.methodLink RX10 200 yX10_sizeOf, .methodLink RX10 203 yX10_rooted, .methodLink RX10 206 yX10_isPart, .methodLink RX10 209 yX10_traceTo, .methodLink RX10 212 yX10_normTo, .constantLong RX10 215 (2), .constantLong RX10 217 (1023), .methodLink RX10 219 yX10_quotient, .methodLink RX10 222 yX10_isNormalOver, .methodLink RX10 226 yX10_someIsBase, .methodLink RX10 229 yX10_takesPowers, .methodLink RX10 232 yX10_weightNow, .methodLink RX10 235 yX10_isPrime, .methodLink RX10 238 yX10_powersOfTwo, .methodLink RX10 241 yX10_readsElement, .methodLink RX10 244 yX10_isSlot, .methodLink RX10 247 yX10_holds, .methodLink RX10 250 yX10_looksAt, .methodLink RX10 253 yX10_isPlace, .methodLink RX10 256 yX10_takesBase, .methodLink RX10 259 yX10_tellsCoordinates, .methodLink RX10 262 yX10_isNormalBase, .constantLong RX10 266 (-1), .fieldLink RX10 45 "FieldBasesModel" "dualOf" "[I", .methodLink RX10 268 yX10_dualAt, .methodLink RX10 271 yX10_takesDual, .methodLink RX10 274 yX10_placeOf, .methodLink RX10 277 yX10_isUnder, .constantLong RX10 280 (8), .methodLink RX10 282 yX10_isPrimitive, .fieldLink RX10 16 "FieldBasesModel" "kept" "[I", .fieldLink RX10 285 "FieldBasesModel" "isKept" "Z", .fieldLink RX10 48 "FieldBasesModel" "page" "[B", .fieldLink RX10 289 "FieldBasesModel" "pageMany" "I", .methodLink RX10 292 yX10_writes, .methodLink RX10 295 yX10_lost, .constant RJ6 265 (1431655765), .constant RJ6 266 (858993459), .constant RJ6 267 (252645135), .code yX0_settle cX0_settle 4 none, .initialized RX0, .instanceMethod yX0_settle, .selects RX0 yX0_settle yX0_settle, .code yX0_fills cX0_fills 4 (some .boolean), .instanceMethod yX0_fills, .selects RX0 yX0_fills yX0_fills, .code yX0_multiplied cX0_multiplied 5 (some .int), .instanceMethod yX0_multiplied, .selects RX0 yX0_multiplied yX0_multiplied, .code yX0_times cX0_times 4 (some .int)]
def mq_ix4 : List (Nat × Nat) := [(5, 72), (5, 80), (5, 88), (5, 92), (5, 100), (5, 124), (5, 125), (5, 126), (5, 180), (5, 188), (5, 211), (5, 215), (5, 226), (5, 223), (5, 233), (5, 237), (6, 1), (6, 17), (6, 29), (6, 33), (6, 57), (6, 69), (6, 73), (4, 137), (6, 110), (6, 106), (6, 118), (6, 134), (6, 146), (6, 147), (4, 118), (4, 119), (4, 138), (4, 139), (6, 166), (6, 178), (3, 10), (3, 11), (3, 12), (1, 167), (1, 3), (1, 165), (1, 166), (1, 174), (1, 173), (0, 0), (1, 178), (1, 177), (0, 1), (1, 194)]
def mq_lk5 : List Cond := [.instanceMethod yX0_times, .selects RX0 yX0_times yX0_times, .code yX0_turned cX0_turned 3 (some .int), .instanceMethod yX0_turned, .selects RX0 yX0_turned yX0_turned, .code yX0_raised cX0_raised 6 (some .int), .instanceMethod yX0_raised, .selects RX0 yX0_raised yX0_raised, .code yX0_squared cX0_squared 5 (some .int), .instanceMethod yX0_squared, .selects RX0 yX0_squared yX0_squared, .code yX0_orderOf cX0_orderOf 7 (some .int), .instanceMethod yX0_orderOf, .selects RX0 yX0_orderOf yX0_orderOf, .code yX0_generates cX0_generates 2 (some .boolean), .instanceMethod yX0_generates, .selects RX0 yX0_generates yX0_generates, .code yX0_howManyOfOrder cX0_howManyOfOrder 4 (some .int), .instanceMethod yX0_howManyOfOrder, .selects RX0 yX0_howManyOfOrder yX0_howManyOfOrder, .code yX0_sizeOf cX0_sizeOf 4 (some .int), .instanceMethod yX0_sizeOf, .selects RX0 yX0_sizeOf yX0_sizeOf, .code yX0_hasSubfield cX0_hasSubfield 2 (some .boolean), .instanceMethod yX0_hasSubfield, .selects RX0 yX0_hasSubfield yX0_hasSubfield, .code yX0_tracedTo cX0_tracedTo 7 (some .int), .instanceMethod yX0_tracedTo, .selects RX0 yX0_tracedTo yX0_tracedTo, .code yX0_tracedToOne cX0_tracedToOne 2 (some .int), .instanceMethod yX0_tracedToOne, .selects RX0 yX0_tracedToOne yX0_tracedToOne, .code yX0_normedTo cX0_normedTo 7 (some .int), .instanceMethod yX0_normedTo, .selects RX0 yX0_normedTo yX0_normedTo, .code yX0_valueAt cX0_valueAt 5 (some .int), .instanceMethod yX0_valueAt, .selects RX0 yX0_valueAt yX0_valueAt, .code yX0_fillsPowers cX0_fillsPowers 5 none, .instanceMethod yX0_fillsPowers, .selects RX0 yX0_fillsPowers yX0_fillsPowers, .code yX0_fillsConjugates cX0_fillsConjugates 5 none, .instanceMethod yX0_fillsConjugates, .selects RX0 yX0_fillsConjugates yX0_fillsConjugates, .code yX1_empties cX1_empties 2 none, .initialized RX1, .instanceMethod yX1_empties, .selects RX1 yX1_empties yX1_empties, .code yX1_takes cX1_takes 5 (some .boolean), .instanceMethod yX1_takes]
def mq_ix5 : List (Nat × Nat) := [(1, 192), (1, 193), (2, 73), (2, 71), (2, 72), (2, 82), (2, 80), (2, 81), (1, 190), (1, 188), (1, 189), (2, 90), (2, 88), (2, 89), (2, 198), (2, 196), (2, 197), (2, 181), (2, 179), (2, 180), (2, 111), (2, 109), (2, 110), (2, 140), (2, 138), (2, 139), (1, 186), (1, 184), (1, 185), (3, 178), (3, 176), (3, 177), (2, 149), (2, 147), (2, 148), (3, 209), (3, 207), (3, 208), (3, 20), (3, 18), (3, 19), (2, 220), (2, 218), (2, 219), (2, 123), (1, 4), (2, 121), (2, 122), (2, 127), (2, 125)]
def mq_lk6 : List Cond := [.selects RX1 yX1_takes yX1_takes, .code yX1_holds cX1_holds 4 (some .boolean), .instanceMethod yX1_holds, .selects RX1 yX1_holds yX1_holds, .code yX1_located cX1_located 5 (some .int), .instanceMethod yX1_located, .selects RX1 yX1_located yX1_located, .code yX2_complexityOf cX2_complexityOf 2 (some .int), .initialized RX2, .instanceMethod yX2_complexityOf, .selects RX2 yX2_complexityOf yX2_complexityOf, .code yX2_bitsOfFirst cX2_bitsOfFirst 4 (some .int), .instanceMethod yX2_bitsOfFirst, .selects RX2 yX2_bitsOfFirst yX2_bitsOfFirst, .code yX2_bitsOfAll cX2_bitsOfAll 5 (some .int), .instanceMethod yX2_bitsOfAll, .selects RX2 yX2_bitsOfAll yX2_bitsOfAll, .code yX2_whoseNormal cX2_whoseNormal 3 (some .int), .instanceMethod yX2_whoseNormal, .selects RX2 yX2_whoseNormal yX2_whoseNormal, .code yX2_sumAt cX2_sumAt 5 (some .int), .instanceMethod yX2_sumAt, .selects RX2 yX2_sumAt yX2_sumAt, .code yX2_placeOf cX2_placeOf 4 (some .int), .instanceMethod yX2_placeOf, .selects RX2 yX2_placeOf yX2_placeOf, .code yX2_leastPolynomial cX2_leastPolynomial 4 (some .int), .instanceMethod yX2_leastPolynomial, .selects RX2 yX2_leastPolynomial yX2_leastPolynomial, .code yX2_fillsSubbase cX2_fillsSubbase 5 none, .instanceMethod yX2_fillsSubbase, .selects RX2 yX2_fillsSubbase yX2_fillsSubbase, .code yX2_fillsOverSubbase cX2_fillsOverSubbase 8 none, .instanceMethod yX2_fillsOverSubbase, .selects RX2 yX2_fillsOverSubbase yX2_fillsOverSubbase, .code yX2_fillsTower cX2_fillsTower 8 none, .instanceMethod yX2_fillsTower, .selects RX2 yX2_fillsTower yX2_fillsTower, .code yX2_traceBits cX2_traceBits 5 (some .int), .instanceMethod yX2_traceBits, .selects RX2 yX2_traceBits yX2_traceBits, .code yX2_fillsDual cX2_fillsDual 6 none, .instanceMethod yX2_fillsDual, .selects RX2 yX2_fillsDual yX2_fillsDual, .code yX2_fillsPlaces cX2_fillsPlaces 6 (some .boolean), .instanceMethod yX2_fillsPlaces, .selects RX2 yX2_fillsPlaces yX2_fillsPlaces, .code yX3_remembers cX3_remembers 2 none, .initialized RX3, .instanceMethod yX3_remembers]
def mq_ix6 : List (Nat × Nat) := [(2, 126), (2, 224), (2, 222), (2, 223), (2, 132), (2, 130), (2, 131), (3, 62), (1, 2), (3, 60), (3, 61), (3, 6), (3, 4), (3, 5), (3, 24), (3, 22), (3, 23), (3, 130), (3, 128), (3, 129), (3, 110), (3, 108), (3, 109), (3, 162), (3, 160), (3, 161), (2, 119), (2, 117), (2, 118), (2, 206), (2, 204), (2, 205), (2, 238), (2, 236), (2, 237), (3, 201), (3, 199), (3, 200), (3, 174), (3, 172), (3, 173), (3, 170), (3, 168), (3, 169), (3, 187), (3, 185), (3, 186), (2, 40), (1, 6), (2, 38)]
def mq_lk7 : List Cond := [.selects RX3 yX3_remembers yX3_remembers, .code yX3_restores cX3_restores 2 (some .boolean), .instanceMethod yX3_restores, .selects RX3 yX3_restores yX3_restores, .code yX4_degreeOf cX4_degreeOf 3 (some .int), .initialized RX4, .static yX4_degreeOf, .code yX4_remainder cX4_remainder 5 (some .int), .static yX4_remainder, .code yX4_quotient cX4_quotient 6 (some .int), .static yX4_quotient, .code yX4_isIrreducible cX4_isIrreducible 3 (some .boolean), .static yX4_isIrreducible, .code yX4_isGeneratedByX cX4_isGeneratedByX 5 (some .boolean), .static yX4_isGeneratedByX, .code yX5_isPrime cX5_isPrime 2 (some .boolean), .initialized RX5, .static yX5_isPrime, .code yX5_powersOfTwo cX5_powersOfTwo 4 (some .int), .static yX5_powersOfTwo, .code yX6_empties cX6_empties 1 none, .initialized RX6, .instanceMethod yX6_empties, .selects RX6 yX6_empties yX6_empties, .code yX6_puts cX6_puts 3 none, .instanceMethod yX6_puts, .selects RX6 yX6_puts yX6_puts, .code yX6_putsAll cX6_putsAll 4 none, .instanceMethod yX6_putsAll, .selects RX6 yX6_putsAll yX6_putsAll, .code yX7_start cX7_start 4 none, .initialized RX7, .instanceMethod yX7_start, .selects RX7 yX7_start yX7_start, .code yX7_becomes cX7_becomes 3 none, .instanceMethod yX7_becomes, .selects RX7 yX7_becomes yX7_becomes, .code yX7_setsSlot cX7_setsSlot 3 none, .instanceMethod yX7_setsSlot, .selects RX7 yX7_setsSlot yX7_setsSlot, .code yX7_copiesSlot cX7_copiesSlot 3 none, .instanceMethod yX7_copiesSlot, .selects RX7 yX7_copiesSlot yX7_copiesSlot, .code yX7_isPlain cX7_isPlain 4 (some .boolean), .instanceMethod yX7_isPlain, .selects RX7 yX7_isPlain yX7_isPlain, .code yX8_takes cX8_takes 3 (some .boolean), .initialized RX8, .instanceMethod yX8_takes, .selects RX8 yX8_takes yX8_takes]
def mq_ix7 : List (Nat × Nat) := [(2, 39), (3, 228), (3, 226), (3, 227), (1, 170), (1, 9), (1, 169), (1, 181), (1, 180), (2, 173), (2, 172), (2, 31), (2, 30), (3, 220), (3, 219), (3, 34), (1, 14), (3, 33), (3, 31), (3, 30), (2, 94), (1, 8), (2, 92), (2, 93), (2, 98), (2, 96), (2, 97), (2, 211), (2, 209), (2, 210), (1, 198), (1, 5), (1, 196), (1, 197), (2, 44), (2, 42), (2, 43), (2, 48), (2, 46), (2, 47), (3, 89), (3, 87), (3, 88), (4, 29), (4, 27), (4, 28), (2, 0), (1, 7), (1, 238), (1, 239)]
def mq_lk8 : List Cond := [.code yX8_shortens cX8_shortens 2 (some .boolean), .instanceMethod yX8_shortens, .selects RX8 yX8_shortens yX8_shortens, .code yX8_empties cX8_empties 1 none, .instanceMethod yX8_empties, .selects RX8 yX8_empties yX8_empties, .code yX8_signAt cX8_signAt 2 (some .int), .instanceMethod yX8_signAt, .selects RX8 yX8_signAt yX8_signAt, .code yX8_polynomialRead cX8_polynomialRead 5 (some .int), .instanceMethod yX8_polynomialRead, .selects RX8 yX8_polynomialRead yX8_polynomialRead, .code yX8_powerRead cX8_powerRead 5 (some .int), .instanceMethod yX8_powerRead, .selects RX8 yX8_powerRead yX8_powerRead, .code yX8_elementsRead cX8_elementsRead 6 (some .int), .instanceMethod yX8_elementsRead, .selects RX8 yX8_elementsRead yX8_elementsRead, .code yX8_numberRead cX8_numberRead 3 (some .int), .instanceMethod yX8_numberRead, .selects RX8 yX8_numberRead yX8_numberRead, .code yX8_isDigit cX8_isDigit 1 (some .boolean), .static yX8_isDigit, .code yX8_signOf cX8_signOf 5 (some .int), .instanceMethod yX8_signOf, .selects RX8 yX8_signOf yX8_signOf, .code yX8_puts cX8_puts 3 (some .int), .instanceMethod yX8_puts, .selects RX8 yX8_puts yX8_puts, .code yX9_sign cX9_sign 2 (some .int), .initialized RX9, .instanceMethod yX9_sign, .selects RX9 yX9_sign yX9_sign, .code yX9_end cX9_end 2 (some .boolean), .instanceMethod yX9_end, .selects RX9 yX9_end yX9_end, .code yX9_field cX9_field 2 (some .int), .instanceMethod yX9_field, .selects RX9 yX9_field yX9_field, .code yX9_poly cX9_poly 3 (some .int), .instanceMethod yX9_poly, .selects RX9 yX9_poly yX9_poly, .code yX9_product cX9_product 3 (some .int), .instanceMethod yX9_product, .selects RX9 yX9_product yX9_product, .code yX9_inverse cX9_inverse 2 (some .int), .instanceMethod yX9_inverse, .selects RX9 yX9_inverse yX9_inverse, .code yX9_power cX9_power 3 (some .int), .instanceMethod yX9_power]
def mq_ix8 : List (Nat × Nat) := [(2, 8), (2, 6), (2, 7), (2, 28), (2, 26), (2, 27), (2, 24), (2, 23), (0, 3), (2, 16), (2, 14), (2, 15), (2, 20), (2, 19), (0, 2), (3, 42), (3, 40), (3, 41), (3, 46), (3, 45), (0, 6), (3, 49), (3, 48), (4, 9), (4, 7), (4, 8), (4, 13), (4, 12), (0, 12), (1, 236), (1, 1), (1, 234), (1, 235), (2, 4), (2, 2), (2, 3), (2, 12), (2, 10), (2, 11), (2, 55), (2, 53), (2, 54), (2, 60), (2, 58), (2, 59), (2, 69), (2, 67), (2, 68), (2, 77), (2, 75)]
def mq_lk9 : List Cond := [.selects RX9 yX9_power yX9_power, .code yX9_order cX9_order 3 (some .int), .instanceMethod yX9_order, .selects RX9 yX9_order yX9_order, .code yX9_conjugate cX9_conjugate 3 (some .int), .instanceMethod yX9_conjugate, .selects RX9 yX9_conjugate yX9_conjugate, .code yX9_conjugates cX9_conjugates 5 (some .int), .instanceMethod yX9_conjugates, .selects RX9 yX9_conjugates yX9_conjugates, .code yX9_least cX9_least 4 (some .int), .instanceMethod yX9_least, .selects RX9 yX9_least yX9_least, .code yX9_trace cX9_trace 3 (some .int), .instanceMethod yX9_trace, .selects RX9 yX9_trace yX9_trace, .code yX9_norm cX9_norm 3 (some .int), .instanceMethod yX9_norm, .selects RX9 yX9_norm yX9_norm, .code yX9_root cX9_root 2 (some .int), .instanceMethod yX9_root, .selects RX9 yX9_root yX9_root, .code yX9_solves cX9_solves 3 (some .int), .instanceMethod yX9_solves, .selects RX9 yX9_solves yX9_solves, .code yX9_log cX9_log 5 (some .int), .instanceMethod yX9_log, .selects RX9 yX9_log yX9_log, .code yX9_traced cX9_traced 6 (some .int), .instanceMethod yX9_traced, .selects RX9 yX9_traced yX9_traced, .code yX9_factors cX9_factors 7 (some .int), .instanceMethod yX9_factors, .selects RX9 yX9_factors yX9_factors, .code yX9_orders cX9_orders 4 (some .int), .instanceMethod yX9_orders, .selects RX9 yX9_orders yX9_orders, .code yX9_quadratic cX9_quadratic 7 (some .int), .instanceMethod yX9_quadratic, .selects RX9 yX9_quadratic yX9_quadratic, .code yX9_classes cX9_classes 5 (some .int), .instanceMethod yX9_classes, .selects RX9 yX9_classes yX9_classes, .code yX9_generators cX9_generators 4 (some .int), .instanceMethod yX9_generators, .selects RX9 yX9_generators yX9_generators, .code yX9_subfield cX9_subfield 2 (some .int), .instanceMethod yX9_subfield, .selects RX9 yX9_subfield yX9_subfield, .code yX9_normal cX9_normal 3 (some .int)]
def mq_ix9 : List (Nat × Nat) := [(2, 76), (2, 86), (2, 84), (2, 85), (2, 102), (2, 100), (2, 101), (2, 107), (2, 105), (2, 106), (2, 115), (2, 113), (2, 114), (2, 136), (2, 134), (2, 135), (2, 145), (2, 143), (2, 144), (2, 153), (2, 151), (2, 152), (2, 157), (2, 155), (2, 156), (2, 161), (2, 159), (2, 160), (2, 165), (2, 163), (2, 164), (2, 169), (2, 167), (2, 168), (2, 177), (2, 175), (2, 176), (2, 186), (2, 184), (2, 185), (2, 190), (2, 188), (2, 189), (2, 194), (2, 192), (2, 193), (2, 202), (2, 200), (2, 201), (2, 216)]
def mq_lk10 : List Cond := [.instanceMethod yX9_normal, .selects RX9 yX9_normal yX9_normal, .code yX9_normals cX9_normals 5 (some .int), .instanceMethod yX9_normals, .selects RX9 yX9_normals yX9_normals, .code yX9_complete cX9_complete 4 (some .int), .instanceMethod yX9_complete, .selects RX9 yX9_complete yX9_complete, .code yX9_leastNormal cX9_leastNormal 6 (some .int), .instanceMethod yX9_leastNormal, .selects RX9 yX9_leastNormal yX9_leastNormal, .code yX9_leastPowers cX9_leastPowers 6 (some .int), .instanceMethod yX9_leastPowers, .selects RX9 yX9_leastPowers yX9_leastPowers, .code yX9_types cX9_types 7 (some .int), .instanceMethod yX9_types, .selects RX9 yX9_types yX9_types, .code yX9_base cX9_base 5 (some .int), .instanceMethod yX9_base, .selects RX9 yX9_base yX9_base, .code yX9_makes cX9_makes 4 (some .int), .instanceMethod yX9_makes, .selects RX9 yX9_makes yX9_makes, .code yX9_copies cX9_copies 5 (some .int), .instanceMethod yX9_copies, .selects RX9 yX9_copies yX9_copies, .code yX9_scales cX9_scales 4 (some .int), .instanceMethod yX9_scales, .selects RX9 yX9_scales yX9_scales, .code yX9_moves cX9_moves 4 (some .int), .instanceMethod yX9_moves, .selects RX9 yX9_moves yX9_moves, .code yX9_adds cX9_adds 4 (some .int), .instanceMethod yX9_adds, .selects RX9 yX9_adds yX9_adds, .code yX9_at cX9_at 3 (some .int), .instanceMethod yX9_at, .selects RX9 yX9_at yX9_at, .code yX9_coordinates cX9_coordinates 4 (some .int), .instanceMethod yX9_coordinates, .selects RX9 yX9_coordinates yX9_coordinates, .code yX9_made cX9_made 3 (some .int), .instanceMethod yX9_made, .selects RX9 yX9_made yX9_made, .code yX9_change cX9_change 3 (some .int), .instanceMethod yX9_change, .selects RX9 yX9_change yX9_change, .code yX9_table cX9_table 4 (some .int), .instanceMethod yX9_table, .selects RX9 yX9_table yX9_table]
def mq_ix10 : List (Nat × Nat) := [(2, 214), (2, 215), (2, 230), (2, 228), (2, 229), (2, 234), (2, 232), (2, 233), (3, 2), (3, 0), (3, 1), (3, 16), (3, 14), (3, 15), (3, 28), (3, 26), (3, 27), (3, 38), (3, 36), (3, 37), (3, 69), (3, 67), (3, 68), (3, 73), (3, 71), (3, 72), (3, 77), (3, 75), (3, 76), (3, 81), (3, 79), (3, 80), (3, 93), (3, 91), (3, 92), (3, 97), (3, 95), (3, 96), (3, 101), (3, 99), (3, 100), (3, 106), (3, 104), (3, 105), (3, 114), (3, 112), (3, 113), (3, 122), (3, 120), (3, 121)]
def mq_lk11 : List Cond := [.code yX9_complexity cX9_complexity 5 (some .int), .instanceMethod yX9_complexity, .selects RX9 yX9_complexity yX9_complexity, .code yX9_by cX9_by 5 (some .int), .instanceMethod yX9_by, .selects RX9 yX9_by yX9_by, .code yX9_squares cX9_squares 3 (some .int), .instanceMethod yX9_squares, .selects RX9 yX9_squares yX9_squares, .code yX9_productIn cX9_productIn 5 (some .int), .instanceMethod yX9_productIn, .selects RX9 yX9_productIn yX9_productIn, .code yX9_far cX9_far 6 (some .int), .instanceMethod yX9_far, .selects RX9 yX9_far yX9_far, .code yX9_steady cX9_steady 6 (some .int), .instanceMethod yX9_steady, .selects RX9 yX9_steady yX9_steady, .code yX9_bestScale cX9_bestScale 6 (some .int), .instanceMethod yX9_bestScale, .selects RX9 yX9_bestScale yX9_bestScale, .code yX9_same cX9_same 7 (some .int), .instanceMethod yX9_same, .selects RX9 yX9_same yX9_same, .code yX9_dual cX9_dual 4 (some .int), .instanceMethod yX9_dual, .selects RX9 yX9_dual yX9_dual, .code yX9_weakly cX9_weakly 3 (some .int), .instanceMethod yX9_weakly, .selects RX9 yX9_weakly yX9_weakly, .code yX9_traces cX9_traces 5 (some .int), .instanceMethod yX9_traces, .selects RX9 yX9_traces yX9_traces, .code yX9_tower cX9_tower 4 (some .int), .instanceMethod yX9_tower, .selects RX9 yX9_tower yX9_tower, .code yX9_fits cX9_fits 4 (some .int), .instanceMethod yX9_fits, .selects RX9 yX9_fits yX9_fits, .code yX9_maps cX9_maps 5 (some .int), .instanceMethod yX9_maps, .selects RX9 yX9_maps yX9_maps, .code yX9_irreducibles cX9_irreducibles 6 (some .int), .instanceMethod yX9_irreducibles, .selects RX9 yX9_irreducibles yX9_irreducibles, .code yX9_undo cX9_undo 1 (some .int), .instanceMethod yX9_undo, .selects RX9 yX9_undo yX9_undo, .code yX9_keeps cX9_keeps 1 (some .int), .instanceMethod yX9_keeps]
def mq_ix11 : List (Nat × Nat) := [(3, 126), (3, 124), (3, 125), (3, 134), (3, 132), (3, 133), (3, 138), (3, 136), (3, 137), (3, 142), (3, 140), (3, 141), (3, 146), (3, 144), (3, 145), (3, 150), (3, 148), (3, 149), (3, 154), (3, 152), (3, 153), (3, 158), (3, 156), (3, 157), (3, 166), (3, 164), (3, 165), (3, 183), (3, 181), (3, 182), (3, 192), (3, 190), (3, 191), (3, 197), (3, 195), (3, 196), (3, 205), (3, 203), (3, 204), (3, 213), (3, 211), (3, 212), (3, 217), (3, 215), (3, 216), (3, 224), (3, 222), (3, 223), (3, 236), (3, 234)]
def mq_lk12 : List Cond := [.selects RX9 yX9_keeps yX9_keeps, .code yX9_back cX9_back 1 (some .int), .instanceMethod yX9_back, .selects RX9 yX9_back yX9_back, .code yX9_written cX9_written 2 (some .int), .instanceMethod yX9_written, .selects RX9 yX9_written yX9_written, .code yX9_count cX9_count 2 (some .int), .instanceMethod yX9_count, .selects RX9 yX9_count yX9_count, .code yX9_isElement cX9_isElement 2 (some .boolean), .instanceMethod yX9_isElement, .selects RX9 yX9_isElement yX9_isElement, .code yX9_isSlot cX9_isSlot 2 (some .boolean), .instanceMethod yX9_isSlot, .selects RX9 yX9_isSlot yX9_isSlot, .code yX9_isPlace cX9_isPlace 2 (some .boolean), .instanceMethod yX9_isPlace, .selects RX9 yX9_isPlace yX9_isPlace, .code yX9_tellsField cX9_tellsField 2 (some .int), .instanceMethod yX9_tellsField, .selects RX9 yX9_tellsField yX9_tellsField, .code yX9_setsSlot cX9_setsSlot 3 (some .int), .instanceMethod yX9_setsSlot, .selects RX9 yX9_setsSlot yX9_setsSlot, .code yX9_followsState cX9_followsState 1 none, .instanceMethod yX9_followsState, .selects RX9 yX9_followsState yX9_followsState, .code yX9_tellsLocated cX9_tellsLocated 5 (some .int), .instanceMethod yX9_tellsLocated, .selects RX9 yX9_tellsLocated yX9_tellsLocated, .code yX9_normalSlots cX9_normalSlots 3 (some .int), .instanceMethod yX9_normalSlots, .selects RX9 yX9_normalSlots yX9_normalSlots, .code yX9_plainSlots cX9_plainSlots 3 (some .int), .instanceMethod yX9_plainSlots, .selects RX9 yX9_plainSlots yX9_plainSlots, .code yX10_thrown cX10_thrown 1 (some .int), .initialized RX10, .instanceMethod yX10_thrown, .selects RX10 yX10_thrown yX10_thrown, .code yX10_in cX10_in 6 (some .boolean), .static yX10_in, .code yX10_lost cX10_lost 1 (some .int), .instanceMethod yX10_lost, .selects RX10 yX10_lost yX10_lost, .code yX10_tell cX10_tell 3 none, .instanceMethod yX10_tell, .selects RX10 yX10_tell yX10_tell, .code yX10_bits cX10_bits 3 (some .int)]
def mq_ix12 : List (Nat × Nat) := [(3, 235), (4, 1), (3, 239), (4, 0), (4, 5), (4, 3), (4, 4), (4, 17), (4, 15), (4, 16), (2, 64), (2, 63), (0, 5), (3, 53), (3, 52), (0, 7), (3, 85), (3, 84), (0, 9), (2, 36), (2, 35), (0, 4), (3, 57), (3, 56), (0, 8), (3, 232), (3, 231), (0, 11), (3, 118), (3, 117), (0, 10), (4, 21), (4, 20), (0, 13), (4, 25), (4, 24), (0, 14), (4, 193), (1, 10), (4, 191), (4, 192), (4, 204), (4, 203), (6, 181), (6, 180), (0, 61), (5, 58), (5, 57), (0, 30), (5, 206)]
def mq_lk13 : List Cond := [.static yX10_bits, .code yX10_sign cX10_sign 3 (some .int), .instanceMethod yX10_sign, .selects RX10 yX10_sign yX10_sign, .code yX10_end cX10_end 2 (some .boolean), .instanceMethod yX10_end, .selects RX10 yX10_end yX10_end, .code yX10_degree cX10_degree 3 (some .int), .static yX10_degree, .code yX10_modulo cX10_modulo 5 (some .int), .static yX10_modulo, .code yX10_timesPoly cX10_timesPoly 4 (some .int), .static yX10_timesPoly, .code yX10_quotient cX10_quotient 6 (some .int), .static yX10_quotient, .code yX10_leastFactor cX10_leastFactor 2 (some .int), .static yX10_leastFactor, .code yX10_isIrreducible cX10_isIrreducible 1 (some .boolean), .static yX10_isIrreducible, .code yX10_lays cX10_lays 1 none, .instanceMethod yX10_lays, .selects RX10 yX10_lays yX10_lays, .code yX10_fields cX10_fields 4 none, .instanceMethod yX10_fields, .selects RX10 yX10_fields yX10_fields, .code yX10_times cX10_times 3 (some .int), .instanceMethod yX10_times, .selects RX10 yX10_times yX10_times, .code yX10_conj cX10_conj 5 (some .int), .instanceMethod yX10_conj, .selects RX10 yX10_conj yX10_conj, .code yX10_powered cX10_powered 6 (some .int), .instanceMethod yX10_powered, .selects RX10 yX10_powered yX10_powered, .code yX10_inverseOf cX10_inverseOf 2 (some .int), .instanceMethod yX10_inverseOf, .selects RX10 yX10_inverseOf yX10_inverseOf, .code yX10_sizeOf cX10_sizeOf 3 (some .int), .instanceMethod yX10_sizeOf, .selects RX10 yX10_sizeOf yX10_sizeOf, .code yX10_orderOf cX10_orderOf 4 (some .int), .instanceMethod yX10_orderOf, .selects RX10 yX10_orderOf yX10_orderOf, .code yX10_isGenerator cX10_isGenerator 2 (some .boolean), .instanceMethod yX10_isGenerator, .selects RX10 yX10_isGenerator yX10_isGenerator, .code yX10_traceTo cX10_traceTo 5 (some .int), .instanceMethod yX10_traceTo, .selects RX10 yX10_traceTo yX10_traceTo, .code yX10_normTo cX10_normTo 5 (some .int)]
def mq_ix13 : List (Nat × Nat) := [(5, 205), (4, 197), (4, 195), (4, 196), (4, 201), (4, 199), (4, 200), (4, 111), (4, 110), (5, 0), (4, 239), (5, 25), (5, 24), (5, 128), (5, 127), (4, 237), (4, 236), (4, 234), (4, 233), (4, 115), (4, 114), (0, 17), (4, 108), (4, 107), (0, 16), (5, 22), (5, 21), (0, 25), (5, 67), (5, 66), (0, 31), (5, 37), (5, 36), (0, 27), (5, 33), (5, 32), (0, 26), (5, 75), (5, 74), (0, 32), (5, 54), (5, 53), (0, 29), (5, 50), (5, 49), (0, 28), (5, 95), (5, 94), (0, 35), (5, 103)]
def mq_lk14 : List Cond := [.instanceMethod yX10_normTo, .selects RX10 yX10_normTo yX10_normTo, .code yX10_isElement cX10_isElement 2 (some .boolean), .instanceMethod yX10_isElement, .selects RX10 yX10_isElement yX10_isElement, .code yX10_isPart cX10_isPart 2 (some .boolean), .instanceMethod yX10_isPart, .selects RX10 yX10_isPart yX10_isPart, .code yX10_isSlot cX10_isSlot 1 (some .boolean), .static yX10_isSlot, .code yX10_isPlace cX10_isPlace 2 (some .boolean), .instanceMethod yX10_isPlace, .selects RX10 yX10_isPlace yX10_isPlace, .code yX10_rank cX10_rank 6 (some .int), .instanceMethod yX10_rank, .selects RX10 yX10_rank yX10_rank, .code yX10_takesConjugates cX10_takesConjugates 3 none, .instanceMethod yX10_takesConjugates, .selects RX10 yX10_takesConjugates yX10_takesConjugates, .code yX10_isNormal cX10_isNormal 2 (some .boolean), .instanceMethod yX10_isNormal, .selects RX10 yX10_isNormal yX10_isNormal, .code yX10_takesSubbase cX10_takesSubbase 5 none, .instanceMethod yX10_takesSubbase, .selects RX10 yX10_takesSubbase yX10_takesSubbase, .code yX10_isNormalOver cX10_isNormalOver 6 (some .boolean), .instanceMethod yX10_isNormalOver, .selects RX10 yX10_isNormalOver yX10_isNormalOver, .code yX10_madeOf cX10_madeOf 4 (some .int), .instanceMethod yX10_madeOf, .selects RX10 yX10_madeOf yX10_madeOf, .code yX10_laysCoordinates cX10_laysCoordinates 2 none, .instanceMethod yX10_laysCoordinates, .selects RX10 yX10_laysCoordinates yX10_laysCoordinates, .code yX10_baseAt cX10_baseAt 3 (some .int), .instanceMethod yX10_baseAt, .selects RX10 yX10_baseAt yX10_baseAt, .code yX10_looksAt cX10_looksAt 3 none, .instanceMethod yX10_looksAt, .selects RX10 yX10_looksAt yX10_looksAt, .code yX10_complexityNow cX10_complexityNow 3 (some .int), .instanceMethod yX10_complexityNow, .selects RX10 yX10_complexityNow yX10_complexityNow, .code yX10_weightNow cX10_weightNow 4 (some .int), .instanceMethod yX10_weightNow, .selects RX10 yX10_weightNow yX10_weightNow, .code yX10_isNormalBase cX10_isNormalBase 2 (some .boolean), .instanceMethod yX10_isNormalBase, .selects RX10 yX10_isNormalBase yX10_isNormalBase, .code yX10_someIsBase cX10_someIsBase 2 none]
def mq_ix14 : List (Nat × Nat) := [(5, 102), (0, 36), (5, 18), (5, 17), (0, 24), (5, 91), (5, 90), (0, 34), (5, 239), (5, 238), (6, 32), (6, 31), (0, 52), (5, 156), (5, 155), (0, 38), (5, 167), (5, 166), (0, 39), (5, 175), (5, 174), (0, 40), (5, 152), (5, 151), (0, 37), (5, 183), (5, 182), (0, 41), (5, 199), (5, 198), (0, 44), (5, 195), (5, 194), (0, 43), (6, 16), (6, 15), (0, 50), (6, 20), (6, 19), (0, 51), (5, 203), (5, 202), (0, 45), (5, 218), (5, 217), (0, 47), (6, 72), (6, 71), (0, 55), (5, 191)]
def mq_lk15 : List Cond := [.instanceMethod yX10_someIsBase, .selects RX10 yX10_someIsBase yX10_someIsBase, .code yX10_does cX10_does 2 none, .instanceMethod yX10_does, .selects RX10 yX10_does yX10_does, .code yX10_holds cX10_holds 3 (some .int), .instanceMethod yX10_holds, .selects RX10 yX10_holds yX10_holds, .code yX10_begin cX10_begin 1 none, .instanceMethod yX10_begin, .selects RX10 yX10_begin yX10_begin, .code yX10_sees cX10_sees 1 (some .int), .instanceMethod yX10_sees, .selects RX10 yX10_sees yX10_sees, .code yX10_fault cX10_fault 2 none, .instanceMethod yX10_fault, .selects RX10 yX10_fault yX10_fault, .code yX10_readsPower cX10_readsPower 2 (some .int), .instanceMethod yX10_readsPower, .selects RX10 yX10_readsPower yX10_readsPower, .code yX10_readsPoly cX10_readsPoly 4 (some .int), .instanceMethod yX10_readsPoly, .selects RX10 yX10_readsPoly yX10_readsPoly, .code yX10_field cX10_field 2 (some .int), .instanceMethod yX10_field, .selects RX10 yX10_field yX10_field, .code yX10_poly cX10_poly 2 (some .int), .instanceMethod yX10_poly, .selects RX10 yX10_poly yX10_poly, .code yX10_product cX10_product 3 (some .int), .instanceMethod yX10_product, .selects RX10 yX10_product yX10_product, .code yX10_inverse cX10_inverse 2 (some .int), .instanceMethod yX10_inverse, .selects RX10 yX10_inverse yX10_inverse, .code yX10_power cX10_power 3 (some .int), .instanceMethod yX10_power, .selects RX10 yX10_power yX10_power, .code yX10_order cX10_order 2 (some .int), .instanceMethod yX10_order, .selects RX10 yX10_order yX10_order, .code yX10_conjugate cX10_conjugate 3 (some .int), .instanceMethod yX10_conjugate, .selects RX10 yX10_conjugate yX10_conjugate, .code yX10_conjugates cX10_conjugates 4 (some .int), .instanceMethod yX10_conjugates, .selects RX10 yX10_conjugates yX10_conjugates, .code yX10_rooted cX10_rooted 5 (some .int), .instanceMethod yX10_rooted, .selects RX10 yX10_rooted yX10_rooted]
def mq_ix15 : List (Nat × Nat) := [(5, 190), (0, 42), (5, 4), (5, 3), (0, 23), (6, 4), (6, 3), (0, 49), (4, 212), (4, 211), (0, 18), (4, 224), (4, 223), (0, 21), (4, 228), (4, 227), (0, 22), (4, 220), (4, 219), (0, 20), (4, 216), (4, 215), (0, 19), (4, 208), (4, 206), (4, 207), (5, 8), (5, 6), (5, 7), (5, 14), (5, 12), (5, 13), (5, 29), (5, 27), (5, 28), (5, 41), (5, 39), (5, 40), (5, 46), (5, 44), (5, 45), (5, 62), (5, 60), (5, 61), (5, 71), (5, 69), (5, 70), (5, 83), (5, 82), (0, 33)]
def mq_lk16 : List Cond := [.code yX10_least cX10_least 4 (some .int), .instanceMethod yX10_least, .selects RX10 yX10_least yX10_least, .code yX10_trace cX10_trace 3 (some .int), .instanceMethod yX10_trace, .selects RX10 yX10_trace yX10_trace, .code yX10_norm cX10_norm 3 (some .int), .instanceMethod yX10_norm, .selects RX10 yX10_norm yX10_norm, .code yX10_root cX10_root 2 (some .int), .instanceMethod yX10_root, .selects RX10 yX10_root yX10_root, .code yX10_solves cX10_solves 3 (some .int), .instanceMethod yX10_solves, .selects RX10 yX10_solves yX10_solves, .code yX10_log cX10_log 5 (some .int), .instanceMethod yX10_log, .selects RX10 yX10_log yX10_log, .code yX10_traced cX10_traced 6 (some .int), .instanceMethod yX10_traced, .selects RX10 yX10_traced yX10_traced, .code yX10_factors cX10_factors 3 (some .int), .instanceMethod yX10_factors, .selects RX10 yX10_factors yX10_factors, .code yX10_classes cX10_classes 6 (some .int), .instanceMethod yX10_classes, .selects RX10 yX10_classes yX10_classes, .code yX10_generators cX10_generators 4 (some .int), .instanceMethod yX10_generators, .selects RX10 yX10_generators yX10_generators, .code yX10_orders cX10_orders 5 (some .int), .instanceMethod yX10_orders, .selects RX10 yX10_orders yX10_orders, .code yX10_quadratic cX10_quadratic 6 (some .int), .instanceMethod yX10_quadratic, .selects RX10 yX10_quadratic yX10_quadratic, .code yX10_subfield cX10_subfield 3 (some .int), .instanceMethod yX10_subfield, .selects RX10 yX10_subfield yX10_subfield, .code yX10_normal cX10_normal 3 (some .int), .instanceMethod yX10_normal, .selects RX10 yX10_normal yX10_normal, .code yX10_normals cX10_normals 5 (some .int), .instanceMethod yX10_normals, .selects RX10 yX10_normals yX10_normals, .code yX10_complete cX10_complete 4 (some .int), .instanceMethod yX10_complete, .selects RX10 yX10_complete yX10_complete, .code yX10_leastNormal cX10_leastNormal 6 (some .int), .instanceMethod yX10_leastNormal]
def mq_ix16 : List (Nat × Nat) := [(5, 79), (5, 77), (5, 78), (5, 87), (5, 85), (5, 86), (5, 99), (5, 97), (5, 98), (5, 107), (5, 105), (5, 106), (5, 111), (5, 109), (5, 110), (5, 115), (5, 113), (5, 114), (5, 119), (5, 117), (5, 118), (5, 123), (5, 121), (5, 122), (5, 132), (5, 130), (5, 131), (5, 136), (5, 134), (5, 135), (5, 140), (5, 138), (5, 139), (5, 144), (5, 142), (5, 143), (5, 148), (5, 146), (5, 147), (5, 163), (5, 161), (5, 162), (5, 171), (5, 169), (5, 170), (5, 179), (5, 177), (5, 178), (5, 187), (5, 185)]
def mq_lk17 : List Cond := [.selects RX10 yX10_leastNormal yX10_leastNormal, .code yX10_takesPowers cX10_takesPowers 3 (some .boolean), .instanceMethod yX10_takesPowers, .selects RX10 yX10_takesPowers yX10_takesPowers, .code yX10_leastPowers cX10_leastPowers 6 (some .int), .instanceMethod yX10_leastPowers, .selects RX10 yX10_leastPowers yX10_leastPowers, .code yX10_isPrime cX10_isPrime 2 (some .boolean), .static yX10_isPrime, .code yX10_powersOfTwo cX10_powersOfTwo 3 (some .int), .static yX10_powersOfTwo, .code yX10_types cX10_types 4 (some .int), .instanceMethod yX10_types, .selects RX10 yX10_types yX10_types, .code yX10_readsElement cX10_readsElement 3 (some .int), .instanceMethod yX10_readsElement, .selects RX10 yX10_readsElement yX10_readsElement, .code yX10_base cX10_base 4 (some .int), .instanceMethod yX10_base, .selects RX10 yX10_base yX10_base, .code yX10_makes cX10_makes 4 (some .int), .instanceMethod yX10_makes, .selects RX10 yX10_makes yX10_makes, .code yX10_copies cX10_copies 5 (some .int), .instanceMethod yX10_copies, .selects RX10 yX10_copies yX10_copies, .code yX10_scales cX10_scales 4 (some .int), .instanceMethod yX10_scales, .selects RX10 yX10_scales yX10_scales, .code yX10_takesBase cX10_takesBase 3 none, .instanceMethod yX10_takesBase, .selects RX10 yX10_takesBase yX10_takesBase, .code yX10_moves cX10_moves 4 (some .int), .instanceMethod yX10_moves, .selects RX10 yX10_moves yX10_moves, .code yX10_adds cX10_adds 4 (some .int), .instanceMethod yX10_adds, .selects RX10 yX10_adds yX10_adds, .code yX10_at cX10_at 3 (some .int), .instanceMethod yX10_at, .selects RX10 yX10_at yX10_at, .code yX10_coordinates cX10_coordinates 3 (some .int), .instanceMethod yX10_coordinates, .selects RX10 yX10_coordinates yX10_coordinates, .code yX10_made cX10_made 3 (some .int), .instanceMethod yX10_made, .selects RX10 yX10_made yX10_made, .code yX10_tellsCoordinates cX10_tellsCoordinates 2 (some .int), .instanceMethod yX10_tellsCoordinates, .selects RX10 yX10_tellsCoordinates yX10_tellsCoordinates]
def mq_ix17 : List (Nat × Nat) := [(5, 186), (5, 214), (5, 213), (0, 46), (5, 210), (5, 208), (5, 209), (5, 228), (5, 227), (5, 225), (5, 224), (5, 222), (5, 220), (5, 221), (5, 236), (5, 235), (0, 48), (5, 232), (5, 230), (5, 231), (6, 8), (6, 6), (6, 7), (6, 12), (6, 10), (6, 11), (6, 24), (6, 22), (6, 23), (6, 36), (6, 35), (0, 53), (6, 28), (6, 26), (6, 27), (6, 40), (6, 38), (6, 39), (6, 44), (6, 42), (6, 43), (6, 48), (6, 46), (6, 47), (6, 52), (6, 50), (6, 51), (6, 60), (6, 59), (0, 54)]
def mq_lk18 : List Cond := [.code yX10_change cX10_change 5 (some .int), .instanceMethod yX10_change, .selects RX10 yX10_change yX10_change, .code yX10_table cX10_table 4 (some .int), .instanceMethod yX10_table, .selects RX10 yX10_table yX10_table, .code yX10_complexity cX10_complexity 4 (some .int), .instanceMethod yX10_complexity, .selects RX10 yX10_complexity yX10_complexity, .code yX10_by cX10_by 7 (some .int), .instanceMethod yX10_by, .selects RX10 yX10_by yX10_by, .code yX10_squares cX10_squares 4 (some .int), .instanceMethod yX10_squares, .selects RX10 yX10_squares yX10_squares, .code yX10_productIn cX10_productIn 4 (some .int), .instanceMethod yX10_productIn, .selects RX10 yX10_productIn yX10_productIn, .code yX10_far cX10_far 4 (some .int), .instanceMethod yX10_far, .selects RX10 yX10_far yX10_far, .code yX10_steady cX10_steady 5 (some .int), .instanceMethod yX10_steady, .selects RX10 yX10_steady yX10_steady, .code yX10_bestScale cX10_bestScale 6 (some .int), .instanceMethod yX10_bestScale, .selects RX10 yX10_bestScale yX10_bestScale, .code yX10_same cX10_same 7 (some .int), .instanceMethod yX10_same, .selects RX10 yX10_same yX10_same, .code yX10_dualAt cX10_dualAt 6 (some .int), .instanceMethod yX10_dualAt, .selects RX10 yX10_dualAt yX10_dualAt, .code yX10_takesDual cX10_takesDual 3 none, .instanceMethod yX10_takesDual, .selects RX10 yX10_takesDual yX10_takesDual, .code yX10_dual cX10_dual 4 (some .int), .instanceMethod yX10_dual, .selects RX10 yX10_dual yX10_dual, .code yX10_placeOf cX10_placeOf 4 (some .int), .instanceMethod yX10_placeOf, .selects RX10 yX10_placeOf yX10_placeOf, .code yX10_weakly cX10_weakly 5 (some .int), .instanceMethod yX10_weakly, .selects RX10 yX10_weakly yX10_weakly, .code yX10_traces cX10_traces 6 (some .int), .instanceMethod yX10_traces, .selects RX10 yX10_traces yX10_traces, .code yX10_tower cX10_tower 7 (some .int), .instanceMethod yX10_tower]
def mq_ix18 : List (Nat × Nat) := [(6, 56), (6, 54), (6, 55), (6, 64), (6, 62), (6, 63), (6, 68), (6, 66), (6, 67), (6, 77), (6, 75), (6, 76), (6, 81), (6, 79), (6, 80), (6, 85), (6, 83), (6, 84), (6, 89), (6, 87), (6, 88), (6, 93), (6, 91), (6, 92), (6, 97), (6, 95), (6, 96), (6, 101), (6, 99), (6, 100), (6, 113), (6, 112), (0, 57), (6, 109), (6, 108), (0, 56), (6, 105), (6, 103), (6, 104), (6, 121), (6, 120), (0, 58), (6, 117), (6, 115), (6, 116), (6, 125), (6, 123), (6, 124), (6, 129), (6, 127)]
def mq_lk19 : List Cond := [.selects RX10 yX10_tower yX10_tower, .code yX10_isUnder cX10_isUnder 2 (some .boolean), .instanceMethod yX10_isUnder, .selects RX10 yX10_isUnder yX10_isUnder, .code yX10_fits cX10_fits 3 (some .int), .instanceMethod yX10_fits, .selects RX10 yX10_fits yX10_fits, .code yX10_maps cX10_maps 4 (some .int), .instanceMethod yX10_maps, .selects RX10 yX10_maps yX10_maps, .code yX10_isPrimitive cX10_isPrimitive 3 (some .boolean), .static yX10_isPrimitive, .code yX10_irreducibles cX10_irreducibles 6 (some .int), .instanceMethod yX10_irreducibles, .selects RX10 yX10_irreducibles yX10_irreducibles, .code yX10_undo cX10_undo 2 (some .int), .instanceMethod yX10_undo, .selects RX10 yX10_undo yX10_undo, .code yX10_keeps cX10_keeps 2 (some .int), .instanceMethod yX10_keeps, .selects RX10 yX10_keeps yX10_keeps, .code yX10_back cX10_back 2 (some .int), .instanceMethod yX10_back, .selects RX10 yX10_back yX10_back, .code yX10_writes cX10_writes 2 none, .instanceMethod yX10_writes, .selects RX10 yX10_writes yX10_writes, .code yX10_written cX10_written 3 (some .int), .instanceMethod yX10_written, .selects RX10 yX10_written yX10_written, .code yX10_count cX10_count 7 (some .int), .instanceMethod yX10_count, .selects RX10 yX10_count yX10_count, .code yX10_row cX10_row 2 (some .long), .instanceMethod yX10_row, .selects RX10 yX10_row yX10_row, .code yJ6_bitCount_0f7a4 cJ6_bitCount_0f7a4 1 (some .int), .initialized RJ6, .static yJ6_bitCount_0f7a4, .code yJ9_min_7cf53 cJ9_min_7cf53 2 (some .int), .initialized RJ9, .static yJ9_min_7cf53, .lays RX0 "FieldBases$Field" "modulus" "I", .lays RX0 "FieldBases$Field" "degree" "I", .lays RX0 "FieldBases$Field" "size" "I", .laysFinal RX0 "FieldBases$Field" "powers" "[I", .laysFinal RX0 "FieldBases$Field" "logs" "[I", .lays RX0 "FieldBases$Field" "tracedOnes" "I", .laysFinal RX1 "FieldBases$Frame" "leads" "[I", .laysFinal RX1 "FieldBases$Frame" "shares" "[I"]
def mq_ix19 : List (Nat × Nat) := [(6, 128), (6, 137), (6, 136), (0, 59), (6, 133), (6, 131), (6, 132), (6, 141), (6, 139), (6, 140), (6, 149), (6, 148), (6, 145), (6, 143), (6, 144), (6, 153), (6, 151), (6, 152), (6, 157), (6, 155), (6, 156), (6, 161), (6, 159), (6, 160), (6, 169), (6, 168), (0, 60), (6, 165), (6, 163), (6, 164), (6, 173), (6, 171), (6, 172), (6, 177), (6, 175), (6, 176), (3, 9), (1, 13), (3, 8), (5, 159), (1, 12), (5, 158), (1, 50), (1, 52), (1, 54), (1, 56), (1, 58), (1, 60), (1, 75), (1, 77)]
def mq_lk20 : List Cond := [.lays RX1 "FieldBases$Frame" "rank" "I", .laysFinal RX2 "FieldBases$Measure" "numbers" "LFieldBases$Field;", .laysFinal RX2 "FieldBases$Measure" "frame" "LFieldBases$Frame;", .laysFinal RX3 "FieldBases$Past" "states" "[LFieldBases$State;", .lays RX3 "FieldBases$Past" "next" "I", .lays RX3 "FieldBases$Past" "held" "I", .laysFinal RX6 "FieldBases$Row" "numbers" "[J", .lays RX6 "FieldBases$Row" "length" "I", .lays RX7 "FieldBases$State" "modulus" "I", .laysFinal RX7 "FieldBases$State" "slots" "[[I", .laysFinal RX8 "FieldBases$Text" "signs" "[I", .laysFinal RX8 "FieldBases$Text" "line" "[I", .lays RX8 "FieldBases$Text" "length" "I", .lays RX8 "FieldBases$Text" "position" "I", .laysFinal RX9 "FieldBases" "measure" "LFieldBases$Measure;", .laysFinal RX9 "FieldBases" "numbers" "LFieldBases$Field;", .laysFinal RX9 "FieldBases" "frame" "LFieldBases$Frame;", .laysFinal RX9 "FieldBases" "now" "LFieldBases$State;", .laysFinal RX9 "FieldBases" "kept" "LFieldBases$State;", .laysFinal RX9 "FieldBases" "past" "LFieldBases$Past;", .laysFinal RX9 "FieldBases" "text" "LFieldBases$Text;", .laysFinal RX9 "FieldBases" "told" "LFieldBases$Row;", .laysFinal RX9 "FieldBases" "fresh" "[I", .laysFinal RX9 "FieldBases" "second" "[I", .lays RX9 "FieldBases" "keeping" "Z", .laysFinal RX10 "FieldBasesModel" "w" "[I", .laysFinal RX10 "FieldBasesModel" "aside" "[I", .laysFinal RX10 "FieldBasesModel" "kept" "[I", .lays RX10 "FieldBasesModel" "isKept" "Z", .laysFinal RX10 "FieldBasesModel" "past" "[I", .lays RX10 "FieldBasesModel" "pastMany" "I", .laysFinal RX10 "FieldBasesModel" "text" "[B", .lays RX10 "FieldBasesModel" "typed" "I", .laysFinal RX10 "FieldBasesModel" "row" "[J", .lays RX10 "FieldBasesModel" "rowMany" "I", .lays RX10 "FieldBasesModel" "thrown" "I", .lays RX10 "FieldBasesModel" "m" "I", .lays RX10 "FieldBasesModel" "q" "I", .laysFinal RX10 "FieldBasesModel" "some" "[I", .laysFinal RX10 "FieldBasesModel" "steps" "[I", .laysFinal RX10 "FieldBasesModel" "sub" "[I", .laysFinal RX10 "FieldBasesModel" "base" "[I", .laysFinal RX10 "FieldBasesModel" "coordOf" "[I", .lays RX10 "FieldBasesModel" "size" "I", .lays RX10 "FieldBasesModel" "here" "I", .lays RX10 "FieldBasesModel" "wrong" "I", .laysFinal RX10 "FieldBasesModel" "dualOf" "[I", .laysFinal RX10 "FieldBasesModel" "page" "[B", .lays RX10 "FieldBasesModel" "pageMany" "I", .native arraycopyName]
def mq_ix20 : List (Nat × Nat) := [(1, 79), (1, 86), (1, 88), (1, 121), (1, 123), (1, 125), (1, 158), (1, 160), (1, 103), (1, 105), (1, 139), (1, 141), (1, 143), (1, 145), (1, 210), (1, 212), (1, 214), (1, 216), (1, 218), (1, 220), (1, 222), (1, 224), (1, 226), (1, 228), (1, 230), (4, 140), (4, 142), (4, 144), (4, 146), (4, 148), (4, 150), (4, 152), (4, 154), (4, 156), (4, 158), (4, 160), (4, 162), (4, 164), (4, 166), (4, 168), (4, 170), (4, 172), (4, 174), (4, 176), (4, 178), (4, 180), (4, 182), (4, 184), (4, 186), (2, 51)]
def mq_lk21 : List Cond := [.static arraycopyName, .initialized RJ10]
def mq_ix21 : List (Nat × Nat) := [(2, 50), (1, 11)]
def mq_LK : List Cond := mq_lk0 ++ (mq_lk1 ++ (mq_lk2 ++ (mq_lk3 ++ (mq_lk4 ++ (mq_lk5 ++ (mq_lk6 ++ (mq_lk7 ++ (mq_lk8 ++ (mq_lk9 ++ (mq_lk10 ++ (mq_lk11 ++ (mq_lk12 ++ (mq_lk13 ++ (mq_lk14 ++ (mq_lk15 ++ (mq_lk16 ++ (mq_lk17 ++ (mq_lk18 ++ (mq_lk19 ++ (mq_lk20 ++ (mq_lk21)))))))))))))))))))))
def mq_ch : List (List Cond) := [k2_sels lw_privs, tables_1_1, tables_1_2, tables_1_3, tables_1_4, tables_1_5, tables_1_6]
def mq_at (w : Cond) (q : Nat × Nat) : Bool := (match mz_nth mq_ch q.1 with
  | some l => decide (mz_nth l q.2 = some w)
  | none => false) && goodWord w
theorem mq_lo0 : (List.zipWith mq_at mq_lk0 mq_ix0).all id = true := by decide +kernel
theorem mq_lo1 : (List.zipWith mq_at mq_lk1 mq_ix1).all id = true := by decide +kernel
theorem mq_lo2 : (List.zipWith mq_at mq_lk2 mq_ix2).all id = true := by decide +kernel
theorem mq_lo3 : (List.zipWith mq_at mq_lk3 mq_ix3).all id = true := by decide +kernel
theorem mq_lo4 : (List.zipWith mq_at mq_lk4 mq_ix4).all id = true := by decide +kernel
theorem mq_lo5 : (List.zipWith mq_at mq_lk5 mq_ix5).all id = true := by decide +kernel
theorem mq_lo6 : (List.zipWith mq_at mq_lk6 mq_ix6).all id = true := by decide +kernel
theorem mq_lo7 : (List.zipWith mq_at mq_lk7 mq_ix7).all id = true := by decide +kernel
theorem mq_lo8 : (List.zipWith mq_at mq_lk8 mq_ix8).all id = true := by decide +kernel
theorem mq_lo9 : (List.zipWith mq_at mq_lk9 mq_ix9).all id = true := by decide +kernel
theorem mq_lo10 : (List.zipWith mq_at mq_lk10 mq_ix10).all id = true := by decide +kernel
theorem mq_lo11 : (List.zipWith mq_at mq_lk11 mq_ix11).all id = true := by decide +kernel
theorem mq_lo12 : (List.zipWith mq_at mq_lk12 mq_ix12).all id = true := by decide +kernel
theorem mq_lo13 : (List.zipWith mq_at mq_lk13 mq_ix13).all id = true := by decide +kernel
theorem mq_lo14 : (List.zipWith mq_at mq_lk14 mq_ix14).all id = true := by decide +kernel
theorem mq_lo15 : (List.zipWith mq_at mq_lk15 mq_ix15).all id = true := by decide +kernel
theorem mq_lo16 : (List.zipWith mq_at mq_lk16 mq_ix16).all id = true := by decide +kernel
theorem mq_lo17 : (List.zipWith mq_at mq_lk17 mq_ix17).all id = true := by decide +kernel
theorem mq_lo18 : (List.zipWith mq_at mq_lk18 mq_ix18).all id = true := by decide +kernel
theorem mq_lo19 : (List.zipWith mq_at mq_lk19 mq_ix19).all id = true := by decide +kernel
theorem mq_lo20 : (List.zipWith mq_at mq_lk20 mq_ix20).all id = true := by decide +kernel
theorem mq_lo21 : (List.zipWith mq_at mq_lk21 mq_ix21).all id = true := by decide +kernel
end
section
/-! the checks of each method -/
def mq_tyf : Nat → Nat → FieldType := fun ci k => match ci with
  | 0 => tyX0 k
  | 1 => tyX1 k
  | 2 => tyX2 k
  | 3 => tyX3 k
  | 4 => tyX6 k
  | 5 => tyX7 k
  | 6 => tyX8 k
  | 7 => tyX9 k
  | 8 => tyX10 k
  | _ => .int
set_option maxRecDepth 100000 in
theorem mq_ok_X0_settle : mz_okI mq_LK vwCl mq_tyf mq_tab mq_X0_settle (239, 240, 241, 242) = true := by decide +kernel
set_option maxRecDepth 100000 in
theorem mq_ok_X0_fills : mz_okI mq_LK vwCl mq_tyf mq_tab mq_X0_fills (243, 240, 244, 245) = true := by decide +kernel
set_option maxRecDepth 100000 in
theorem mq_ok_X0_multiplied : mz_okI mq_LK vwCl mq_tyf mq_tab mq_X0_multiplied (246, 240, 247, 248) = true := by decide +kernel
set_option maxRecDepth 100000 in
theorem mq_ok_X0_times : mz_okI mq_LK vwCl mq_tyf mq_tab mq_X0_times (249, 240, 250, 251) = true := by decide +kernel
set_option maxRecDepth 100000 in
theorem mq_ok_X0_turned : mz_okI mq_LK vwCl mq_tyf mq_tab mq_X0_turned (252, 240, 253, 254) = true := by decide +kernel
set_option maxRecDepth 100000 in
theorem mq_ok_X0_raised : mz_okI mq_LK vwCl mq_tyf mq_tab mq_X0_raised (255, 240, 256, 257) = true := by decide +kernel
set_option maxRecDepth 100000 in
theorem mq_ok_X0_squared : mz_okI mq_LK vwCl mq_tyf mq_tab mq_X0_squared (258, 240, 259, 260) = true := by decide +kernel
set_option maxRecDepth 100000 in
theorem mq_ok_X0_orderOf : mz_okI mq_LK vwCl mq_tyf mq_tab mq_X0_orderOf (261, 240, 262, 263) = true := by decide +kernel
set_option maxRecDepth 100000 in
theorem mq_ok_X0_generates : mz_okI mq_LK vwCl mq_tyf mq_tab mq_X0_generates (264, 240, 265, 266) = true := by decide +kernel
set_option maxRecDepth 100000 in
theorem mq_ok_X0_howManyOfOrder : mz_okI mq_LK vwCl mq_tyf mq_tab mq_X0_howManyOfOrder (267, 240, 268, 269) = true := by decide +kernel
set_option maxRecDepth 100000 in
theorem mq_ok_X0_sizeOf : mz_okI mq_LK vwCl mq_tyf mq_tab mq_X0_sizeOf (270, 240, 271, 272) = true := by decide +kernel
set_option maxRecDepth 100000 in
theorem mq_ok_X0_hasSubfield : mz_okI mq_LK vwCl mq_tyf mq_tab mq_X0_hasSubfield (273, 240, 274, 275) = true := by decide +kernel
set_option maxRecDepth 100000 in
theorem mq_ok_X0_tracedTo : mz_okI mq_LK vwCl mq_tyf mq_tab mq_X0_tracedTo (276, 240, 277, 278) = true := by decide +kernel
set_option maxRecDepth 100000 in
theorem mq_ok_X0_tracedToOne : mz_okI mq_LK vwCl mq_tyf mq_tab mq_X0_tracedToOne (279, 240, 280, 281) = true := by decide +kernel
set_option maxRecDepth 100000 in
theorem mq_ok_X0_normedTo : mz_okI mq_LK vwCl mq_tyf mq_tab mq_X0_normedTo (282, 240, 283, 284) = true := by decide +kernel
set_option maxRecDepth 100000 in
theorem mq_ok_X0_valueAt : mz_okI mq_LK vwCl mq_tyf mq_tab mq_X0_valueAt (285, 240, 286, 287) = true := by decide +kernel
set_option maxRecDepth 100000 in
theorem mq_ok_X0_fillsPowers : mz_okI mq_LK vwCl mq_tyf mq_tab mq_X0_fillsPowers (288, 240, 289, 290) = true := by decide +kernel
set_option maxRecDepth 100000 in
theorem mq_ok_X0_fillsConjugates : mz_okI mq_LK vwCl mq_tyf mq_tab mq_X0_fillsConjugates (291, 240, 292, 293) = true := by decide +kernel
set_option maxRecDepth 100000 in
theorem mq_ok_X1_empties : mz_okI mq_LK vwCl mq_tyf mq_tab mq_X1_empties (294, 295, 296, 297) = true := by decide +kernel
set_option maxRecDepth 100000 in
theorem mq_ok_X1_takes : mz_okI mq_LK vwCl mq_tyf mq_tab mq_X1_takes (298, 295, 299, 300) = true := by decide +kernel
set_option maxRecDepth 100000 in
theorem mq_ok_X1_holds : mz_okI mq_LK vwCl mq_tyf mq_tab mq_X1_holds (301, 295, 302, 303) = true := by decide +kernel
set_option maxRecDepth 100000 in
theorem mq_ok_X1_located : mz_okI mq_LK vwCl mq_tyf mq_tab mq_X1_located (304, 295, 305, 306) = true := by decide +kernel
set_option maxRecDepth 100000 in
theorem mq_ok_X2_complexityOf : mz_okI mq_LK vwCl mq_tyf mq_tab mq_X2_complexityOf (307, 308, 309, 310) = true := by decide +kernel
set_option maxRecDepth 100000 in
theorem mq_ok_X2_bitsOfFirst : mz_okI mq_LK vwCl mq_tyf mq_tab mq_X2_bitsOfFirst (311, 308, 312, 313) = true := by decide +kernel
set_option maxRecDepth 100000 in
theorem mq_ok_X2_bitsOfAll : mz_okI mq_LK vwCl mq_tyf mq_tab mq_X2_bitsOfAll (314, 308, 315, 316) = true := by decide +kernel
set_option maxRecDepth 100000 in
theorem mq_ok_X2_whoseNormal : mz_okI mq_LK vwCl mq_tyf mq_tab mq_X2_whoseNormal (317, 308, 318, 319) = true := by decide +kernel
set_option maxRecDepth 100000 in
theorem mq_ok_X2_sumAt : mz_okI mq_LK vwCl mq_tyf mq_tab mq_X2_sumAt (320, 308, 321, 322) = true := by decide +kernel
set_option maxRecDepth 100000 in
theorem mq_ok_X2_placeOf : mz_okI mq_LK vwCl mq_tyf mq_tab mq_X2_placeOf (323, 308, 324, 325) = true := by decide +kernel
set_option maxRecDepth 100000 in
theorem mq_ok_X2_leastPolynomial : mz_okI mq_LK vwCl mq_tyf mq_tab mq_X2_leastPolynomial (326, 308, 327, 328) = true := by decide +kernel
set_option maxRecDepth 100000 in
theorem mq_ok_X2_fillsSubbase : mz_okI mq_LK vwCl mq_tyf mq_tab mq_X2_fillsSubbase (329, 308, 330, 331) = true := by decide +kernel
set_option maxRecDepth 100000 in
theorem mq_ok_X2_fillsOverSubbase : mz_okI mq_LK vwCl mq_tyf mq_tab mq_X2_fillsOverSubbase (332, 308, 333, 334) = true := by decide +kernel
set_option maxRecDepth 100000 in
theorem mq_ok_X2_fillsTower : mz_okI mq_LK vwCl mq_tyf mq_tab mq_X2_fillsTower (335, 308, 336, 337) = true := by decide +kernel
set_option maxRecDepth 100000 in
theorem mq_ok_X2_traceBits : mz_okI mq_LK vwCl mq_tyf mq_tab mq_X2_traceBits (338, 308, 339, 340) = true := by decide +kernel
set_option maxRecDepth 100000 in
theorem mq_ok_X2_fillsDual : mz_okI mq_LK vwCl mq_tyf mq_tab mq_X2_fillsDual (341, 308, 342, 343) = true := by decide +kernel
set_option maxRecDepth 100000 in
theorem mq_ok_X2_fillsPlaces : mz_okI mq_LK vwCl mq_tyf mq_tab mq_X2_fillsPlaces (344, 308, 345, 346) = true := by decide +kernel
set_option maxRecDepth 100000 in
theorem mq_ok_X3_remembers : mz_okI mq_LK vwCl mq_tyf mq_tab mq_X3_remembers (347, 348, 349, 350) = true := by decide +kernel
set_option maxRecDepth 100000 in
theorem mq_ok_X3_restores : mz_okI mq_LK vwCl mq_tyf mq_tab mq_X3_restores (351, 348, 352, 353) = true := by decide +kernel
set_option maxRecDepth 100000 in
theorem mq_ok_X4_degreeOf : mz_okI mq_LK vwCl mq_tyf mq_tab mq_X4_degreeOf (354, 355, 356, 0) = true := by decide +kernel
set_option maxRecDepth 100000 in
theorem mq_ok_X4_remainder : mz_okI mq_LK vwCl mq_tyf mq_tab mq_X4_remainder (357, 355, 358, 0) = true := by decide +kernel
set_option maxRecDepth 100000 in
theorem mq_ok_X4_quotient : mz_okI mq_LK vwCl mq_tyf mq_tab mq_X4_quotient (359, 355, 360, 0) = true := by decide +kernel
set_option maxRecDepth 100000 in
theorem mq_ok_X4_isIrreducible : mz_okI mq_LK vwCl mq_tyf mq_tab mq_X4_isIrreducible (361, 355, 362, 0) = true := by decide +kernel
set_option maxRecDepth 100000 in
theorem mq_ok_X4_isGeneratedByX : mz_okI mq_LK vwCl mq_tyf mq_tab mq_X4_isGeneratedByX (363, 355, 364, 0) = true := by decide +kernel
set_option maxRecDepth 100000 in
theorem mq_ok_X5_isPrime : mz_okI mq_LK vwCl mq_tyf mq_tab mq_X5_isPrime (365, 366, 367, 0) = true := by decide +kernel
set_option maxRecDepth 100000 in
theorem mq_ok_X5_powersOfTwo : mz_okI mq_LK vwCl mq_tyf mq_tab mq_X5_powersOfTwo (368, 366, 369, 0) = true := by decide +kernel
set_option maxRecDepth 100000 in
theorem mq_ok_X6_empties : mz_okI mq_LK vwCl mq_tyf mq_tab mq_X6_empties (370, 371, 372, 373) = true := by decide +kernel
set_option maxRecDepth 100000 in
theorem mq_ok_X6_puts : mz_okI mq_LK vwCl mq_tyf mq_tab mq_X6_puts (374, 371, 375, 376) = true := by decide +kernel
set_option maxRecDepth 100000 in
theorem mq_ok_X6_putsAll : mz_okI mq_LK vwCl mq_tyf mq_tab mq_X6_putsAll (377, 371, 378, 379) = true := by decide +kernel
set_option maxRecDepth 100000 in
theorem mq_ok_X7_start : mz_okI mq_LK vwCl mq_tyf mq_tab mq_X7_start (380, 381, 382, 383) = true := by decide +kernel
set_option maxRecDepth 100000 in
theorem mq_ok_X7_becomes : mz_okI mq_LK vwCl mq_tyf mq_tab mq_X7_becomes (384, 381, 385, 386) = true := by decide +kernel
set_option maxRecDepth 100000 in
theorem mq_ok_X7_setsSlot : mz_okI mq_LK vwCl mq_tyf mq_tab mq_X7_setsSlot (387, 381, 388, 389) = true := by decide +kernel
set_option maxRecDepth 100000 in
theorem mq_ok_X7_copiesSlot : mz_okI mq_LK vwCl mq_tyf mq_tab mq_X7_copiesSlot (390, 381, 391, 392) = true := by decide +kernel
set_option maxRecDepth 100000 in
theorem mq_ok_X7_isPlain : mz_okI mq_LK vwCl mq_tyf mq_tab mq_X7_isPlain (393, 381, 394, 395) = true := by decide +kernel
set_option maxRecDepth 100000 in
theorem mq_ok_X8_takes : mz_okI mq_LK vwCl mq_tyf mq_tab mq_X8_takes (396, 397, 398, 399) = true := by decide +kernel
set_option maxRecDepth 100000 in
theorem mq_ok_X8_shortens : mz_okI mq_LK vwCl mq_tyf mq_tab mq_X8_shortens (400, 397, 401, 402) = true := by decide +kernel
set_option maxRecDepth 100000 in
theorem mq_ok_X8_empties : mz_okI mq_LK vwCl mq_tyf mq_tab mq_X8_empties (403, 397, 404, 405) = true := by decide +kernel
set_option maxRecDepth 100000 in
theorem mq_ok_X8_signAt : mz_okI mq_LK vwCl mq_tyf mq_tab mq_X8_signAt (406, 397, 407, 408) = true := by decide +kernel
set_option maxRecDepth 100000 in
theorem mq_ok_X8_polynomialRead : mz_okI mq_LK vwCl mq_tyf mq_tab mq_X8_polynomialRead (409, 397, 410, 411) = true := by decide +kernel
set_option maxRecDepth 100000 in
theorem mq_ok_X8_powerRead : mz_okI mq_LK vwCl mq_tyf mq_tab mq_X8_powerRead (412, 397, 413, 414) = true := by decide +kernel
set_option maxRecDepth 100000 in
theorem mq_ok_X8_elementsRead : mz_okI mq_LK vwCl mq_tyf mq_tab mq_X8_elementsRead (415, 397, 416, 417) = true := by decide +kernel
set_option maxRecDepth 100000 in
theorem mq_ok_X8_numberRead : mz_okI mq_LK vwCl mq_tyf mq_tab mq_X8_numberRead (418, 397, 419, 420) = true := by decide +kernel
set_option maxRecDepth 100000 in
theorem mq_ok_X8_isDigit : mz_okI mq_LK vwCl mq_tyf mq_tab mq_X8_isDigit (421, 397, 422, 0) = true := by decide +kernel
set_option maxRecDepth 100000 in
theorem mq_ok_X8_signOf : mz_okI mq_LK vwCl mq_tyf mq_tab mq_X8_signOf (423, 397, 424, 425) = true := by decide +kernel
set_option maxRecDepth 100000 in
theorem mq_ok_X8_puts : mz_okI mq_LK vwCl mq_tyf mq_tab mq_X8_puts (426, 397, 427, 428) = true := by decide +kernel
set_option maxRecDepth 100000 in
theorem mq_ok_X9_sign : mz_okI mq_LK vwCl mq_tyf mq_tab mq_X9_sign (429, 430, 431, 432) = true := by decide +kernel
set_option maxRecDepth 100000 in
theorem mq_ok_X9_end : mz_okI mq_LK vwCl mq_tyf mq_tab mq_X9_end (433, 430, 434, 435) = true := by decide +kernel
set_option maxRecDepth 100000 in
theorem mq_ok_X9_field : mz_okI mq_LK vwCl mq_tyf mq_tab mq_X9_field (436, 430, 437, 438) = true := by decide +kernel
set_option maxRecDepth 100000 in
theorem mq_ok_X9_poly : mz_okI mq_LK vwCl mq_tyf mq_tab mq_X9_poly (439, 430, 440, 441) = true := by decide +kernel
set_option maxRecDepth 100000 in
theorem mq_ok_X9_product : mz_okI mq_LK vwCl mq_tyf mq_tab mq_X9_product (442, 430, 443, 444) = true := by decide +kernel
set_option maxRecDepth 100000 in
theorem mq_ok_X9_inverse : mz_okI mq_LK vwCl mq_tyf mq_tab mq_X9_inverse (445, 430, 446, 447) = true := by decide +kernel
set_option maxRecDepth 100000 in
theorem mq_ok_X9_power : mz_okI mq_LK vwCl mq_tyf mq_tab mq_X9_power (448, 430, 449, 450) = true := by decide +kernel
set_option maxRecDepth 100000 in
theorem mq_ok_X9_order : mz_okI mq_LK vwCl mq_tyf mq_tab mq_X9_order (451, 430, 452, 453) = true := by decide +kernel
set_option maxRecDepth 100000 in
theorem mq_ok_X9_conjugate : mz_okI mq_LK vwCl mq_tyf mq_tab mq_X9_conjugate (454, 430, 455, 456) = true := by decide +kernel
set_option maxRecDepth 100000 in
theorem mq_ok_X9_conjugates : mz_okI mq_LK vwCl mq_tyf mq_tab mq_X9_conjugates (457, 430, 458, 459) = true := by decide +kernel
set_option maxRecDepth 100000 in
theorem mq_ok_X9_least : mz_okI mq_LK vwCl mq_tyf mq_tab mq_X9_least (460, 430, 461, 462) = true := by decide +kernel
set_option maxRecDepth 100000 in
theorem mq_ok_X9_trace : mz_okI mq_LK vwCl mq_tyf mq_tab mq_X9_trace (463, 430, 464, 465) = true := by decide +kernel
set_option maxRecDepth 100000 in
theorem mq_ok_X9_norm : mz_okI mq_LK vwCl mq_tyf mq_tab mq_X9_norm (466, 430, 467, 468) = true := by decide +kernel
set_option maxRecDepth 100000 in
theorem mq_ok_X9_root : mz_okI mq_LK vwCl mq_tyf mq_tab mq_X9_root (469, 430, 470, 471) = true := by decide +kernel
set_option maxRecDepth 100000 in
theorem mq_ok_X9_solves : mz_okI mq_LK vwCl mq_tyf mq_tab mq_X9_solves (472, 430, 473, 474) = true := by decide +kernel
set_option maxRecDepth 100000 in
theorem mq_ok_X9_log : mz_okI mq_LK vwCl mq_tyf mq_tab mq_X9_log (475, 430, 476, 477) = true := by decide +kernel
set_option maxRecDepth 100000 in
theorem mq_ok_X9_traced : mz_okI mq_LK vwCl mq_tyf mq_tab mq_X9_traced (478, 430, 479, 480) = true := by decide +kernel
set_option maxRecDepth 100000 in
theorem mq_ok_X9_factors : mz_okI mq_LK vwCl mq_tyf mq_tab mq_X9_factors (481, 430, 482, 483) = true := by decide +kernel
set_option maxRecDepth 100000 in
theorem mq_ok_X9_orders : mz_okI mq_LK vwCl mq_tyf mq_tab mq_X9_orders (484, 430, 485, 486) = true := by decide +kernel
set_option maxRecDepth 100000 in
theorem mq_ok_X9_quadratic : mz_okI mq_LK vwCl mq_tyf mq_tab mq_X9_quadratic (487, 430, 488, 489) = true := by decide +kernel
set_option maxRecDepth 100000 in
theorem mq_ok_X9_classes : mz_okI mq_LK vwCl mq_tyf mq_tab mq_X9_classes (490, 430, 491, 492) = true := by decide +kernel
set_option maxRecDepth 100000 in
theorem mq_ok_X9_generators : mz_okI mq_LK vwCl mq_tyf mq_tab mq_X9_generators (493, 430, 494, 495) = true := by decide +kernel
set_option maxRecDepth 100000 in
theorem mq_ok_X9_subfield : mz_okI mq_LK vwCl mq_tyf mq_tab mq_X9_subfield (496, 430, 497, 498) = true := by decide +kernel
set_option maxRecDepth 100000 in
theorem mq_ok_X9_normal : mz_okI mq_LK vwCl mq_tyf mq_tab mq_X9_normal (499, 430, 500, 501) = true := by decide +kernel
set_option maxRecDepth 100000 in
theorem mq_ok_X9_normals : mz_okI mq_LK vwCl mq_tyf mq_tab mq_X9_normals (502, 430, 503, 504) = true := by decide +kernel
set_option maxRecDepth 100000 in
theorem mq_ok_X9_complete : mz_okI mq_LK vwCl mq_tyf mq_tab mq_X9_complete (505, 430, 506, 507) = true := by decide +kernel
set_option maxRecDepth 100000 in
theorem mq_ok_X9_leastNormal : mz_okI mq_LK vwCl mq_tyf mq_tab mq_X9_leastNormal (508, 430, 509, 510) = true := by decide +kernel
set_option maxRecDepth 100000 in
theorem mq_ok_X9_leastPowers : mz_okI mq_LK vwCl mq_tyf mq_tab mq_X9_leastPowers (511, 430, 512, 513) = true := by decide +kernel
set_option maxRecDepth 100000 in
theorem mq_ok_X9_types : mz_okI mq_LK vwCl mq_tyf mq_tab mq_X9_types (514, 430, 515, 516) = true := by decide +kernel
set_option maxRecDepth 100000 in
theorem mq_ok_X9_base : mz_okI mq_LK vwCl mq_tyf mq_tab mq_X9_base (517, 430, 518, 519) = true := by decide +kernel
set_option maxRecDepth 100000 in
theorem mq_ok_X9_makes : mz_okI mq_LK vwCl mq_tyf mq_tab mq_X9_makes (520, 430, 521, 522) = true := by decide +kernel
set_option maxRecDepth 100000 in
theorem mq_ok_X9_copies : mz_okI mq_LK vwCl mq_tyf mq_tab mq_X9_copies (523, 430, 524, 525) = true := by decide +kernel
set_option maxRecDepth 100000 in
theorem mq_ok_X9_scales : mz_okI mq_LK vwCl mq_tyf mq_tab mq_X9_scales (526, 430, 527, 528) = true := by decide +kernel
set_option maxRecDepth 100000 in
theorem mq_ok_X9_moves : mz_okI mq_LK vwCl mq_tyf mq_tab mq_X9_moves (529, 430, 530, 531) = true := by decide +kernel
set_option maxRecDepth 100000 in
theorem mq_ok_X9_adds : mz_okI mq_LK vwCl mq_tyf mq_tab mq_X9_adds (532, 430, 533, 534) = true := by decide +kernel
set_option maxRecDepth 100000 in
theorem mq_ok_X9_at : mz_okI mq_LK vwCl mq_tyf mq_tab mq_X9_at (535, 430, 536, 537) = true := by decide +kernel
set_option maxRecDepth 100000 in
theorem mq_ok_X9_coordinates : mz_okI mq_LK vwCl mq_tyf mq_tab mq_X9_coordinates (538, 430, 539, 540) = true := by decide +kernel
set_option maxRecDepth 100000 in
theorem mq_ok_X9_made : mz_okI mq_LK vwCl mq_tyf mq_tab mq_X9_made (541, 430, 542, 543) = true := by decide +kernel
set_option maxRecDepth 100000 in
theorem mq_ok_X9_change : mz_okI mq_LK vwCl mq_tyf mq_tab mq_X9_change (544, 430, 545, 546) = true := by decide +kernel
set_option maxRecDepth 100000 in
theorem mq_ok_X9_table : mz_okI mq_LK vwCl mq_tyf mq_tab mq_X9_table (547, 430, 548, 549) = true := by decide +kernel
set_option maxRecDepth 100000 in
theorem mq_ok_X9_complexity : mz_okI mq_LK vwCl mq_tyf mq_tab mq_X9_complexity (550, 430, 551, 552) = true := by decide +kernel
set_option maxRecDepth 100000 in
theorem mq_ok_X9_by : mz_okI mq_LK vwCl mq_tyf mq_tab mq_X9_by (553, 430, 554, 555) = true := by decide +kernel
set_option maxRecDepth 100000 in
theorem mq_ok_X9_squares : mz_okI mq_LK vwCl mq_tyf mq_tab mq_X9_squares (556, 430, 557, 558) = true := by decide +kernel
set_option maxRecDepth 100000 in
theorem mq_ok_X9_productIn : mz_okI mq_LK vwCl mq_tyf mq_tab mq_X9_productIn (559, 430, 560, 561) = true := by decide +kernel
set_option maxRecDepth 100000 in
theorem mq_ok_X9_far : mz_okI mq_LK vwCl mq_tyf mq_tab mq_X9_far (562, 430, 563, 564) = true := by decide +kernel
set_option maxRecDepth 100000 in
theorem mq_ok_X9_steady : mz_okI mq_LK vwCl mq_tyf mq_tab mq_X9_steady (565, 430, 566, 567) = true := by decide +kernel
set_option maxRecDepth 100000 in
theorem mq_ok_X9_bestScale : mz_okI mq_LK vwCl mq_tyf mq_tab mq_X9_bestScale (568, 430, 569, 570) = true := by decide +kernel
set_option maxRecDepth 100000 in
theorem mq_ok_X9_same : mz_okI mq_LK vwCl mq_tyf mq_tab mq_X9_same (571, 430, 572, 573) = true := by decide +kernel
set_option maxRecDepth 100000 in
theorem mq_ok_X9_dual : mz_okI mq_LK vwCl mq_tyf mq_tab mq_X9_dual (574, 430, 575, 576) = true := by decide +kernel
set_option maxRecDepth 100000 in
theorem mq_ok_X9_weakly : mz_okI mq_LK vwCl mq_tyf mq_tab mq_X9_weakly (577, 430, 578, 579) = true := by decide +kernel
set_option maxRecDepth 100000 in
theorem mq_ok_X9_traces : mz_okI mq_LK vwCl mq_tyf mq_tab mq_X9_traces (580, 430, 581, 582) = true := by decide +kernel
set_option maxRecDepth 100000 in
theorem mq_ok_X9_tower : mz_okI mq_LK vwCl mq_tyf mq_tab mq_X9_tower (583, 430, 584, 585) = true := by decide +kernel
set_option maxRecDepth 100000 in
theorem mq_ok_X9_fits : mz_okI mq_LK vwCl mq_tyf mq_tab mq_X9_fits (586, 430, 587, 588) = true := by decide +kernel
set_option maxRecDepth 100000 in
theorem mq_ok_X9_maps : mz_okI mq_LK vwCl mq_tyf mq_tab mq_X9_maps (589, 430, 590, 591) = true := by decide +kernel
set_option maxRecDepth 100000 in
theorem mq_ok_X9_irreducibles : mz_okI mq_LK vwCl mq_tyf mq_tab mq_X9_irreducibles (592, 430, 593, 594) = true := by decide +kernel
set_option maxRecDepth 100000 in
theorem mq_ok_X9_undo : mz_okI mq_LK vwCl mq_tyf mq_tab mq_X9_undo (595, 430, 596, 597) = true := by decide +kernel
set_option maxRecDepth 100000 in
theorem mq_ok_X9_keeps : mz_okI mq_LK vwCl mq_tyf mq_tab mq_X9_keeps (598, 430, 599, 600) = true := by decide +kernel
set_option maxRecDepth 100000 in
theorem mq_ok_X9_back : mz_okI mq_LK vwCl mq_tyf mq_tab mq_X9_back (601, 430, 602, 603) = true := by decide +kernel
set_option maxRecDepth 100000 in
theorem mq_ok_X9_written : mz_okI mq_LK vwCl mq_tyf mq_tab mq_X9_written (604, 430, 605, 606) = true := by decide +kernel
set_option maxRecDepth 100000 in
theorem mq_ok_X9_count : mz_okI mq_LK vwCl mq_tyf mq_tab mq_X9_count (607, 430, 608, 609) = true := by decide +kernel
set_option maxRecDepth 100000 in
theorem mq_ok_X9_isElement : mz_okI mq_LK vwCl mq_tyf mq_tab mq_X9_isElement (610, 430, 611, 612) = true := by decide +kernel
set_option maxRecDepth 100000 in
theorem mq_ok_X9_isSlot : mz_okI mq_LK vwCl mq_tyf mq_tab mq_X9_isSlot (613, 430, 614, 615) = true := by decide +kernel
set_option maxRecDepth 100000 in
theorem mq_ok_X9_isPlace : mz_okI mq_LK vwCl mq_tyf mq_tab mq_X9_isPlace (616, 430, 617, 618) = true := by decide +kernel
set_option maxRecDepth 100000 in
theorem mq_ok_X9_tellsField : mz_okI mq_LK vwCl mq_tyf mq_tab mq_X9_tellsField (619, 430, 620, 621) = true := by decide +kernel
set_option maxRecDepth 100000 in
theorem mq_ok_X9_setsSlot : mz_okI mq_LK vwCl mq_tyf mq_tab mq_X9_setsSlot (622, 430, 623, 624) = true := by decide +kernel
set_option maxRecDepth 100000 in
theorem mq_ok_X9_followsState : mz_okI mq_LK vwCl mq_tyf mq_tab mq_X9_followsState (625, 430, 626, 627) = true := by decide +kernel
set_option maxRecDepth 100000 in
theorem mq_ok_X9_tellsLocated : mz_okI mq_LK vwCl mq_tyf mq_tab mq_X9_tellsLocated (628, 430, 629, 630) = true := by decide +kernel
set_option maxRecDepth 100000 in
theorem mq_ok_X9_normalSlots : mz_okI mq_LK vwCl mq_tyf mq_tab mq_X9_normalSlots (631, 430, 632, 633) = true := by decide +kernel
set_option maxRecDepth 100000 in
theorem mq_ok_X9_plainSlots : mz_okI mq_LK vwCl mq_tyf mq_tab mq_X9_plainSlots (634, 430, 635, 636) = true := by decide +kernel
set_option maxRecDepth 100000 in
theorem mq_ok_X10_thrown : mz_okI mq_LK vwCl mq_tyf mq_tab mq_X10_thrown (637, 638, 639, 640) = true := by decide +kernel
set_option maxRecDepth 100000 in
theorem mq_ok_X10_in : mz_okI mq_LK vwCl mq_tyf mq_tab mq_X10_in (641, 638, 642, 0) = true := by decide +kernel
set_option maxRecDepth 100000 in
theorem mq_ok_X10_lost : mz_okI mq_LK vwCl mq_tyf mq_tab mq_X10_lost (643, 638, 644, 645) = true := by decide +kernel
set_option maxRecDepth 100000 in
theorem mq_ok_X10_tell : mz_okI mq_LK vwCl mq_tyf mq_tab mq_X10_tell (646, 638, 647, 648) = true := by decide +kernel
set_option maxRecDepth 100000 in
theorem mq_ok_X10_bits : mz_okI mq_LK vwCl mq_tyf mq_tab mq_X10_bits (649, 638, 650, 0) = true := by decide +kernel
set_option maxRecDepth 100000 in
theorem mq_ok_X10_sign : mz_okI mq_LK vwCl mq_tyf mq_tab mq_X10_sign (651, 638, 652, 653) = true := by decide +kernel
set_option maxRecDepth 100000 in
theorem mq_ok_X10_end : mz_okI mq_LK vwCl mq_tyf mq_tab mq_X10_end (654, 638, 655, 656) = true := by decide +kernel
set_option maxRecDepth 100000 in
theorem mq_ok_X10_degree : mz_okI mq_LK vwCl mq_tyf mq_tab mq_X10_degree (657, 638, 658, 0) = true := by decide +kernel
set_option maxRecDepth 100000 in
theorem mq_ok_X10_modulo : mz_okI mq_LK vwCl mq_tyf mq_tab mq_X10_modulo (659, 638, 660, 0) = true := by decide +kernel
set_option maxRecDepth 100000 in
theorem mq_ok_X10_timesPoly : mz_okI mq_LK vwCl mq_tyf mq_tab mq_X10_timesPoly (661, 638, 662, 0) = true := by decide +kernel
set_option maxRecDepth 100000 in
theorem mq_ok_X10_quotient : mz_okI mq_LK vwCl mq_tyf mq_tab mq_X10_quotient (663, 638, 664, 0) = true := by decide +kernel
set_option maxRecDepth 100000 in
theorem mq_ok_X10_leastFactor : mz_okI mq_LK vwCl mq_tyf mq_tab mq_X10_leastFactor (665, 638, 666, 0) = true := by decide +kernel
set_option maxRecDepth 100000 in
theorem mq_ok_X10_isIrreducible : mz_okI mq_LK vwCl mq_tyf mq_tab mq_X10_isIrreducible (667, 638, 668, 0) = true := by decide +kernel
set_option maxRecDepth 100000 in
theorem mq_ok_X10_lays : mz_okI mq_LK vwCl mq_tyf mq_tab mq_X10_lays (669, 638, 670, 671) = true := by decide +kernel
set_option maxRecDepth 100000 in
theorem mq_ok_X10_fields : mz_okI mq_LK vwCl mq_tyf mq_tab mq_X10_fields (672, 638, 673, 674) = true := by decide +kernel
set_option maxRecDepth 100000 in
theorem mq_ok_X10_times : mz_okI mq_LK vwCl mq_tyf mq_tab mq_X10_times (675, 638, 676, 677) = true := by decide +kernel
set_option maxRecDepth 100000 in
theorem mq_ok_X10_conj : mz_okI mq_LK vwCl mq_tyf mq_tab mq_X10_conj (678, 638, 679, 680) = true := by decide +kernel
set_option maxRecDepth 100000 in
theorem mq_ok_X10_powered : mz_okI mq_LK vwCl mq_tyf mq_tab mq_X10_powered (681, 638, 682, 683) = true := by decide +kernel
set_option maxRecDepth 100000 in
theorem mq_ok_X10_inverseOf : mz_okI mq_LK vwCl mq_tyf mq_tab mq_X10_inverseOf (684, 638, 685, 686) = true := by decide +kernel
set_option maxRecDepth 100000 in
theorem mq_ok_X10_sizeOf : mz_okI mq_LK vwCl mq_tyf mq_tab mq_X10_sizeOf (687, 638, 688, 689) = true := by decide +kernel
set_option maxRecDepth 100000 in
theorem mq_ok_X10_orderOf : mz_okI mq_LK vwCl mq_tyf mq_tab mq_X10_orderOf (690, 638, 691, 692) = true := by decide +kernel
set_option maxRecDepth 100000 in
theorem mq_ok_X10_isGenerator : mz_okI mq_LK vwCl mq_tyf mq_tab mq_X10_isGenerator (693, 638, 694, 695) = true := by decide +kernel
set_option maxRecDepth 100000 in
theorem mq_ok_X10_traceTo : mz_okI mq_LK vwCl mq_tyf mq_tab mq_X10_traceTo (696, 638, 697, 698) = true := by decide +kernel
set_option maxRecDepth 100000 in
theorem mq_ok_X10_normTo : mz_okI mq_LK vwCl mq_tyf mq_tab mq_X10_normTo (699, 638, 700, 701) = true := by decide +kernel
set_option maxRecDepth 100000 in
theorem mq_ok_X10_isElement : mz_okI mq_LK vwCl mq_tyf mq_tab mq_X10_isElement (702, 638, 703, 704) = true := by decide +kernel
set_option maxRecDepth 100000 in
theorem mq_ok_X10_isPart : mz_okI mq_LK vwCl mq_tyf mq_tab mq_X10_isPart (705, 638, 706, 707) = true := by decide +kernel
set_option maxRecDepth 100000 in
theorem mq_ok_X10_isSlot : mz_okI mq_LK vwCl mq_tyf mq_tab mq_X10_isSlot (708, 638, 709, 0) = true := by decide +kernel
set_option maxRecDepth 100000 in
theorem mq_ok_X10_isPlace : mz_okI mq_LK vwCl mq_tyf mq_tab mq_X10_isPlace (710, 638, 711, 712) = true := by decide +kernel
set_option maxRecDepth 100000 in
theorem mq_ok_X10_rank : mz_okI mq_LK vwCl mq_tyf mq_tab mq_X10_rank (713, 638, 714, 715) = true := by decide +kernel
set_option maxRecDepth 100000 in
theorem mq_ok_X10_takesConjugates : mz_okI mq_LK vwCl mq_tyf mq_tab mq_X10_takesConjugates (716, 638, 717, 718) = true := by decide +kernel
set_option maxRecDepth 100000 in
theorem mq_ok_X10_isNormal : mz_okI mq_LK vwCl mq_tyf mq_tab mq_X10_isNormal (719, 638, 720, 721) = true := by decide +kernel
set_option maxRecDepth 100000 in
theorem mq_ok_X10_takesSubbase : mz_okI mq_LK vwCl mq_tyf mq_tab mq_X10_takesSubbase (722, 638, 723, 724) = true := by decide +kernel
set_option maxRecDepth 100000 in
theorem mq_ok_X10_isNormalOver : mz_okI mq_LK vwCl mq_tyf mq_tab mq_X10_isNormalOver (725, 638, 726, 727) = true := by decide +kernel
set_option maxRecDepth 100000 in
theorem mq_ok_X10_madeOf : mz_okI mq_LK vwCl mq_tyf mq_tab mq_X10_madeOf (728, 638, 729, 730) = true := by decide +kernel
set_option maxRecDepth 100000 in
theorem mq_ok_X10_laysCoordinates : mz_okI mq_LK vwCl mq_tyf mq_tab mq_X10_laysCoordinates (731, 638, 732, 733) = true := by decide +kernel
set_option maxRecDepth 100000 in
theorem mq_ok_X10_baseAt : mz_okI mq_LK vwCl mq_tyf mq_tab mq_X10_baseAt (734, 638, 735, 736) = true := by decide +kernel
set_option maxRecDepth 100000 in
theorem mq_ok_X10_looksAt : mz_okI mq_LK vwCl mq_tyf mq_tab mq_X10_looksAt (737, 638, 738, 739) = true := by decide +kernel
set_option maxRecDepth 100000 in
theorem mq_ok_X10_complexityNow : mz_okI mq_LK vwCl mq_tyf mq_tab mq_X10_complexityNow (740, 638, 741, 742) = true := by decide +kernel
set_option maxRecDepth 100000 in
theorem mq_ok_X10_weightNow : mz_okI mq_LK vwCl mq_tyf mq_tab mq_X10_weightNow (743, 638, 744, 745) = true := by decide +kernel
set_option maxRecDepth 100000 in
theorem mq_ok_X10_isNormalBase : mz_okI mq_LK vwCl mq_tyf mq_tab mq_X10_isNormalBase (746, 638, 747, 748) = true := by decide +kernel
set_option maxRecDepth 100000 in
theorem mq_ok_X10_someIsBase : mz_okI mq_LK vwCl mq_tyf mq_tab mq_X10_someIsBase (749, 638, 750, 751) = true := by decide +kernel
set_option maxRecDepth 100000 in
theorem mq_ok_X10_does : mz_okI mq_LK vwCl mq_tyf mq_tab mq_X10_does (752, 638, 753, 754) = true := by decide +kernel
set_option maxRecDepth 100000 in
theorem mq_ok_X10_holds : mz_okI mq_LK vwCl mq_tyf mq_tab mq_X10_holds (755, 638, 756, 757) = true := by decide +kernel
set_option maxRecDepth 100000 in
theorem mq_ok_X10_begin : mz_okI mq_LK vwCl mq_tyf mq_tab mq_X10_begin (758, 638, 759, 760) = true := by decide +kernel
set_option maxRecDepth 100000 in
theorem mq_ok_X10_sees : mz_okI mq_LK vwCl mq_tyf mq_tab mq_X10_sees (761, 638, 762, 763) = true := by decide +kernel
set_option maxRecDepth 100000 in
theorem mq_ok_X10_fault : mz_okI mq_LK vwCl mq_tyf mq_tab mq_X10_fault (764, 638, 765, 766) = true := by decide +kernel
set_option maxRecDepth 100000 in
theorem mq_ok_X10_readsPower : mz_okI mq_LK vwCl mq_tyf mq_tab mq_X10_readsPower (767, 638, 768, 769) = true := by decide +kernel
set_option maxRecDepth 100000 in
theorem mq_ok_X10_readsPoly : mz_okI mq_LK vwCl mq_tyf mq_tab mq_X10_readsPoly (770, 638, 771, 772) = true := by decide +kernel
set_option maxRecDepth 100000 in
theorem mq_ok_X10_field : mz_okI mq_LK vwCl mq_tyf mq_tab mq_X10_field (773, 638, 774, 775) = true := by decide +kernel
set_option maxRecDepth 100000 in
theorem mq_ok_X10_poly : mz_okI mq_LK vwCl mq_tyf mq_tab mq_X10_poly (776, 638, 777, 778) = true := by decide +kernel
set_option maxRecDepth 100000 in
theorem mq_ok_X10_product : mz_okI mq_LK vwCl mq_tyf mq_tab mq_X10_product (779, 638, 780, 781) = true := by decide +kernel
set_option maxRecDepth 100000 in
theorem mq_ok_X10_inverse : mz_okI mq_LK vwCl mq_tyf mq_tab mq_X10_inverse (782, 638, 783, 784) = true := by decide +kernel
set_option maxRecDepth 100000 in
theorem mq_ok_X10_power : mz_okI mq_LK vwCl mq_tyf mq_tab mq_X10_power (785, 638, 786, 787) = true := by decide +kernel
set_option maxRecDepth 100000 in
theorem mq_ok_X10_order : mz_okI mq_LK vwCl mq_tyf mq_tab mq_X10_order (788, 638, 789, 790) = true := by decide +kernel
set_option maxRecDepth 100000 in
theorem mq_ok_X10_conjugate : mz_okI mq_LK vwCl mq_tyf mq_tab mq_X10_conjugate (791, 638, 792, 793) = true := by decide +kernel
set_option maxRecDepth 100000 in
theorem mq_ok_X10_conjugates : mz_okI mq_LK vwCl mq_tyf mq_tab mq_X10_conjugates (794, 638, 795, 796) = true := by decide +kernel
set_option maxRecDepth 100000 in
theorem mq_ok_X10_rooted : mz_okI mq_LK vwCl mq_tyf mq_tab mq_X10_rooted (797, 638, 798, 799) = true := by decide +kernel
set_option maxRecDepth 100000 in
theorem mq_ok_X10_least : mz_okI mq_LK vwCl mq_tyf mq_tab mq_X10_least (800, 638, 801, 802) = true := by decide +kernel
set_option maxRecDepth 100000 in
theorem mq_ok_X10_trace : mz_okI mq_LK vwCl mq_tyf mq_tab mq_X10_trace (803, 638, 804, 805) = true := by decide +kernel
set_option maxRecDepth 100000 in
theorem mq_ok_X10_norm : mz_okI mq_LK vwCl mq_tyf mq_tab mq_X10_norm (806, 638, 807, 808) = true := by decide +kernel
set_option maxRecDepth 100000 in
theorem mq_ok_X10_root : mz_okI mq_LK vwCl mq_tyf mq_tab mq_X10_root (809, 638, 810, 811) = true := by decide +kernel
set_option maxRecDepth 100000 in
theorem mq_ok_X10_solves : mz_okI mq_LK vwCl mq_tyf mq_tab mq_X10_solves (812, 638, 813, 814) = true := by decide +kernel
set_option maxRecDepth 100000 in
theorem mq_ok_X10_log : mz_okI mq_LK vwCl mq_tyf mq_tab mq_X10_log (815, 638, 816, 817) = true := by decide +kernel
set_option maxRecDepth 100000 in
theorem mq_ok_X10_traced : mz_okI mq_LK vwCl mq_tyf mq_tab mq_X10_traced (818, 638, 819, 820) = true := by decide +kernel
set_option maxRecDepth 100000 in
theorem mq_ok_X10_factors : mz_okI mq_LK vwCl mq_tyf mq_tab mq_X10_factors (821, 638, 822, 823) = true := by decide +kernel
set_option maxRecDepth 100000 in
theorem mq_ok_X10_classes : mz_okI mq_LK vwCl mq_tyf mq_tab mq_X10_classes (824, 638, 825, 826) = true := by decide +kernel
set_option maxRecDepth 100000 in
theorem mq_ok_X10_generators : mz_okI mq_LK vwCl mq_tyf mq_tab mq_X10_generators (827, 638, 828, 829) = true := by decide +kernel
set_option maxRecDepth 100000 in
theorem mq_ok_X10_orders : mz_okI mq_LK vwCl mq_tyf mq_tab mq_X10_orders (830, 638, 831, 832) = true := by decide +kernel
set_option maxRecDepth 100000 in
theorem mq_ok_X10_quadratic : mz_okI mq_LK vwCl mq_tyf mq_tab mq_X10_quadratic (833, 638, 834, 835) = true := by decide +kernel
set_option maxRecDepth 100000 in
theorem mq_ok_X10_subfield : mz_okI mq_LK vwCl mq_tyf mq_tab mq_X10_subfield (836, 638, 837, 838) = true := by decide +kernel
set_option maxRecDepth 100000 in
theorem mq_ok_X10_normal : mz_okI mq_LK vwCl mq_tyf mq_tab mq_X10_normal (839, 638, 840, 841) = true := by decide +kernel
set_option maxRecDepth 100000 in
theorem mq_ok_X10_normals : mz_okI mq_LK vwCl mq_tyf mq_tab mq_X10_normals (842, 638, 843, 844) = true := by decide +kernel
set_option maxRecDepth 100000 in
theorem mq_ok_X10_complete : mz_okI mq_LK vwCl mq_tyf mq_tab mq_X10_complete (845, 638, 846, 847) = true := by decide +kernel
set_option maxRecDepth 100000 in
theorem mq_ok_X10_leastNormal : mz_okI mq_LK vwCl mq_tyf mq_tab mq_X10_leastNormal (848, 638, 849, 850) = true := by decide +kernel
set_option maxRecDepth 100000 in
theorem mq_ok_X10_takesPowers : mz_okI mq_LK vwCl mq_tyf mq_tab mq_X10_takesPowers (851, 638, 852, 853) = true := by decide +kernel
set_option maxRecDepth 100000 in
theorem mq_ok_X10_leastPowers : mz_okI mq_LK vwCl mq_tyf mq_tab mq_X10_leastPowers (854, 638, 855, 856) = true := by decide +kernel
set_option maxRecDepth 100000 in
theorem mq_ok_X10_isPrime : mz_okI mq_LK vwCl mq_tyf mq_tab mq_X10_isPrime (857, 638, 858, 0) = true := by decide +kernel
set_option maxRecDepth 100000 in
theorem mq_ok_X10_powersOfTwo : mz_okI mq_LK vwCl mq_tyf mq_tab mq_X10_powersOfTwo (859, 638, 860, 0) = true := by decide +kernel
set_option maxRecDepth 100000 in
theorem mq_ok_X10_types : mz_okI mq_LK vwCl mq_tyf mq_tab mq_X10_types (861, 638, 862, 863) = true := by decide +kernel
set_option maxRecDepth 100000 in
theorem mq_ok_X10_readsElement : mz_okI mq_LK vwCl mq_tyf mq_tab mq_X10_readsElement (864, 638, 865, 866) = true := by decide +kernel
set_option maxRecDepth 100000 in
theorem mq_ok_X10_base : mz_okI mq_LK vwCl mq_tyf mq_tab mq_X10_base (867, 638, 868, 869) = true := by decide +kernel
set_option maxRecDepth 100000 in
theorem mq_ok_X10_makes : mz_okI mq_LK vwCl mq_tyf mq_tab mq_X10_makes (870, 638, 871, 872) = true := by decide +kernel
set_option maxRecDepth 100000 in
theorem mq_ok_X10_copies : mz_okI mq_LK vwCl mq_tyf mq_tab mq_X10_copies (873, 638, 874, 875) = true := by decide +kernel
set_option maxRecDepth 100000 in
theorem mq_ok_X10_scales : mz_okI mq_LK vwCl mq_tyf mq_tab mq_X10_scales (876, 638, 877, 878) = true := by decide +kernel
set_option maxRecDepth 100000 in
theorem mq_ok_X10_takesBase : mz_okI mq_LK vwCl mq_tyf mq_tab mq_X10_takesBase (879, 638, 880, 881) = true := by decide +kernel
set_option maxRecDepth 100000 in
theorem mq_ok_X10_moves : mz_okI mq_LK vwCl mq_tyf mq_tab mq_X10_moves (882, 638, 883, 884) = true := by decide +kernel
set_option maxRecDepth 100000 in
theorem mq_ok_X10_adds : mz_okI mq_LK vwCl mq_tyf mq_tab mq_X10_adds (885, 638, 886, 887) = true := by decide +kernel
set_option maxRecDepth 100000 in
theorem mq_ok_X10_at : mz_okI mq_LK vwCl mq_tyf mq_tab mq_X10_at (888, 638, 889, 890) = true := by decide +kernel
set_option maxRecDepth 100000 in
theorem mq_ok_X10_coordinates : mz_okI mq_LK vwCl mq_tyf mq_tab mq_X10_coordinates (891, 638, 892, 893) = true := by decide +kernel
set_option maxRecDepth 100000 in
theorem mq_ok_X10_made : mz_okI mq_LK vwCl mq_tyf mq_tab mq_X10_made (894, 638, 895, 896) = true := by decide +kernel
set_option maxRecDepth 100000 in
theorem mq_ok_X10_tellsCoordinates : mz_okI mq_LK vwCl mq_tyf mq_tab mq_X10_tellsCoordinates (897, 638, 898, 899) = true := by decide +kernel
set_option maxRecDepth 100000 in
theorem mq_ok_X10_change : mz_okI mq_LK vwCl mq_tyf mq_tab mq_X10_change (900, 638, 901, 902) = true := by decide +kernel
set_option maxRecDepth 100000 in
theorem mq_ok_X10_table : mz_okI mq_LK vwCl mq_tyf mq_tab mq_X10_table (903, 638, 904, 905) = true := by decide +kernel
set_option maxRecDepth 100000 in
theorem mq_ok_X10_complexity : mz_okI mq_LK vwCl mq_tyf mq_tab mq_X10_complexity (906, 638, 907, 908) = true := by decide +kernel
set_option maxRecDepth 100000 in
theorem mq_ok_X10_by : mz_okI mq_LK vwCl mq_tyf mq_tab mq_X10_by (909, 638, 910, 911) = true := by decide +kernel
set_option maxRecDepth 100000 in
theorem mq_ok_X10_squares : mz_okI mq_LK vwCl mq_tyf mq_tab mq_X10_squares (912, 638, 913, 914) = true := by decide +kernel
set_option maxRecDepth 100000 in
theorem mq_ok_X10_productIn : mz_okI mq_LK vwCl mq_tyf mq_tab mq_X10_productIn (915, 638, 916, 917) = true := by decide +kernel
set_option maxRecDepth 100000 in
theorem mq_ok_X10_far : mz_okI mq_LK vwCl mq_tyf mq_tab mq_X10_far (918, 638, 919, 920) = true := by decide +kernel
set_option maxRecDepth 100000 in
theorem mq_ok_X10_steady : mz_okI mq_LK vwCl mq_tyf mq_tab mq_X10_steady (921, 638, 922, 923) = true := by decide +kernel
set_option maxRecDepth 100000 in
theorem mq_ok_X10_bestScale : mz_okI mq_LK vwCl mq_tyf mq_tab mq_X10_bestScale (924, 638, 925, 926) = true := by decide +kernel
set_option maxRecDepth 100000 in
theorem mq_ok_X10_same : mz_okI mq_LK vwCl mq_tyf mq_tab mq_X10_same (927, 638, 928, 929) = true := by decide +kernel
set_option maxRecDepth 100000 in
theorem mq_ok_X10_dualAt : mz_okI mq_LK vwCl mq_tyf mq_tab mq_X10_dualAt (930, 638, 931, 932) = true := by decide +kernel
set_option maxRecDepth 100000 in
theorem mq_ok_X10_takesDual : mz_okI mq_LK vwCl mq_tyf mq_tab mq_X10_takesDual (933, 638, 934, 935) = true := by decide +kernel
set_option maxRecDepth 100000 in
theorem mq_ok_X10_dual : mz_okI mq_LK vwCl mq_tyf mq_tab mq_X10_dual (936, 638, 937, 938) = true := by decide +kernel
set_option maxRecDepth 100000 in
theorem mq_ok_X10_placeOf : mz_okI mq_LK vwCl mq_tyf mq_tab mq_X10_placeOf (939, 638, 940, 941) = true := by decide +kernel
set_option maxRecDepth 100000 in
theorem mq_ok_X10_weakly : mz_okI mq_LK vwCl mq_tyf mq_tab mq_X10_weakly (942, 638, 943, 944) = true := by decide +kernel
set_option maxRecDepth 100000 in
theorem mq_ok_X10_traces : mz_okI mq_LK vwCl mq_tyf mq_tab mq_X10_traces (945, 638, 946, 947) = true := by decide +kernel
set_option maxRecDepth 100000 in
theorem mq_ok_X10_tower : mz_okI mq_LK vwCl mq_tyf mq_tab mq_X10_tower (948, 638, 949, 950) = true := by decide +kernel
set_option maxRecDepth 100000 in
theorem mq_ok_X10_isUnder : mz_okI mq_LK vwCl mq_tyf mq_tab mq_X10_isUnder (951, 638, 952, 953) = true := by decide +kernel
set_option maxRecDepth 100000 in
theorem mq_ok_X10_fits : mz_okI mq_LK vwCl mq_tyf mq_tab mq_X10_fits (954, 638, 955, 956) = true := by decide +kernel
set_option maxRecDepth 100000 in
theorem mq_ok_X10_maps : mz_okI mq_LK vwCl mq_tyf mq_tab mq_X10_maps (957, 638, 958, 959) = true := by decide +kernel
set_option maxRecDepth 100000 in
theorem mq_ok_X10_isPrimitive : mz_okI mq_LK vwCl mq_tyf mq_tab mq_X10_isPrimitive (960, 638, 961, 0) = true := by decide +kernel
set_option maxRecDepth 100000 in
theorem mq_ok_X10_irreducibles : mz_okI mq_LK vwCl mq_tyf mq_tab mq_X10_irreducibles (962, 638, 963, 964) = true := by decide +kernel
set_option maxRecDepth 100000 in
theorem mq_ok_X10_undo : mz_okI mq_LK vwCl mq_tyf mq_tab mq_X10_undo (965, 638, 966, 967) = true := by decide +kernel
set_option maxRecDepth 100000 in
theorem mq_ok_X10_keeps : mz_okI mq_LK vwCl mq_tyf mq_tab mq_X10_keeps (968, 638, 969, 970) = true := by decide +kernel
set_option maxRecDepth 100000 in
theorem mq_ok_X10_back : mz_okI mq_LK vwCl mq_tyf mq_tab mq_X10_back (971, 638, 972, 973) = true := by decide +kernel
set_option maxRecDepth 100000 in
theorem mq_ok_X10_writes : mz_okI mq_LK vwCl mq_tyf mq_tab mq_X10_writes (974, 638, 975, 976) = true := by decide +kernel
set_option maxRecDepth 100000 in
theorem mq_ok_X10_written : mz_okI mq_LK vwCl mq_tyf mq_tab mq_X10_written (977, 638, 978, 979) = true := by decide +kernel
set_option maxRecDepth 100000 in
theorem mq_ok_X10_count : mz_okI mq_LK vwCl mq_tyf mq_tab mq_X10_count (980, 638, 981, 982) = true := by decide +kernel
set_option maxRecDepth 100000 in
theorem mq_ok_X10_row : mz_okI mq_LK vwCl mq_tyf mq_tab mq_X10_row (983, 638, 984, 985) = true := by decide +kernel
set_option maxRecDepth 100000 in
theorem mq_ok_J6_bitCount_0f7a4 : mz_okI mq_LK vwCl mq_tyf mq_tab mq_J6_bitCount_0f7a4 (986, 987, 988, 0) = true := by decide +kernel
set_option maxRecDepth 100000 in
theorem mq_ok_J9_min_7cf53 : mz_okI mq_LK vwCl mq_tyf mq_tab mq_J9_min_7cf53 (989, 990, 991, 0) = true := by decide +kernel
end
