section
-- ===== PART A: goes FIRST, ahead of the names: the tables' words, and 'selects' of the private methods out of them =====
/-- a private method of a class that the tables say can be made, by its rows of tables_1 -/
def lw_okq (q : MethodName × Nat) : Prop := (q.1.cls ≠ "java/lang/invoke/MethodHandle" ∧ q.1.cls ≠ "java/lang/invoke/VarHandle") ∧ Cond.instantiable q.1.cls q.2 ∈ tables_1 ∧ Cond.privateMethod q.1 ∈ tables_1 ∧ Cond.instanceMethod q.1 ∈ tables_1
theorem lw_p0 : lw_okq (⟨"DonkeyExecutor", "scriptOf", "(I)LDonkeyExecutor$Script;"⟩, 14) := ⟨⟨by decide +kernel, by decide +kernel⟩, List.mem_of_getElem? (i := 16) (by decide +kernel), List.mem_of_getElem? (i := 357) (by decide +kernel), List.mem_of_getElem? (i := 358) (by decide +kernel)⟩
theorem lw_p1 : lw_okq (⟨"DonkeyExecutor", "takeText", "(I)V"⟩, 14) := ⟨⟨by decide +kernel, by decide +kernel⟩, List.mem_of_getElem? (i := 16) (by decide +kernel), List.mem_of_getElem? (i := 370) (by decide +kernel), List.mem_of_getElem? (i := 371) (by decide +kernel)⟩
theorem lw_p2 : lw_okq (⟨"DonkeyExecutor", "retell", "()V"⟩, 14) := ⟨⟨by decide +kernel, by decide +kernel⟩, List.mem_of_getElem? (i := 16) (by decide +kernel), List.mem_of_getElem? (i := 396) (by decide +kernel), List.mem_of_getElem? (i := 397) (by decide +kernel)⟩
theorem lw_p3 : lw_okq (⟨"DonkeyExecutor$Story", "keep", "(I)V"⟩, 9) := ⟨⟨by decide +kernel, by decide +kernel⟩, List.mem_of_getElem? (i := 95) (by decide +kernel), List.mem_of_getElem? (i := 412) (by decide +kernel), List.mem_of_getElem? (i := 413) (by decide +kernel)⟩
theorem lw_p4 : lw_okq (⟨"DonkeyExecutor$Walk", "meet", "(LDonkeyExecutor$Given;II)V"⟩, 12) := ⟨⟨by decide +kernel, by decide +kernel⟩, List.mem_of_getElem? (i := 101) (by decide +kernel), List.mem_of_getElem? (i := 425) (by decide +kernel), List.mem_of_getElem? (i := 426) (by decide +kernel)⟩
theorem lw_p5 : lw_okq (⟨"DonkeyExecutor$Walk", "disinherit", "(I)V"⟩, 12) := ⟨⟨by decide +kernel, by decide +kernel⟩, List.mem_of_getElem? (i := 101) (by decide +kernel), List.mem_of_getElem? (i := 436) (by decide +kernel), List.mem_of_getElem? (i := 437) (by decide +kernel)⟩
theorem lw_p6 : lw_okq (⟨"DonkeyExecutor$Walk", "halveShares", "()V"⟩, 12) := ⟨⟨by decide +kernel, by decide +kernel⟩, List.mem_of_getElem? (i := 101) (by decide +kernel), List.mem_of_getElem? (i := 440) (by decide +kernel), List.mem_of_getElem? (i := 441) (by decide +kernel)⟩
theorem lw_p7 : lw_okq (⟨"DonkeyExecutor$Walk", "bestow", "(I)V"⟩, 12) := ⟨⟨by decide +kernel, by decide +kernel⟩, List.mem_of_getElem? (i := 101) (by decide +kernel), List.mem_of_getElem? (i := 444) (by decide +kernel), List.mem_of_getElem? (i := 445) (by decide +kernel)⟩
theorem lw_p8 : lw_okq (⟨"DonkeyExecutor", "isHeir", "(I)Z"⟩, 14) := ⟨⟨by decide +kernel, by decide +kernel⟩, List.mem_of_getElem? (i := 16) (by decide +kernel), List.mem_of_getElem? (i := 466) (by decide +kernel), List.mem_of_getElem? (i := 467) (by decide +kernel)⟩
theorem lw_p9 : lw_okq (⟨"DonkeyExecutor", "takeFlies", "()V"⟩, 14) := ⟨⟨by decide +kernel, by decide +kernel⟩, List.mem_of_getElem? (i := 16) (by decide +kernel), List.mem_of_getElem? (i := 488) (by decide +kernel), List.mem_of_getElem? (i := 489) (by decide +kernel)⟩
theorem lw_p10 : lw_okq (⟨"DonkeyExecutor", "found", "(I)I"⟩, 14) := ⟨⟨by decide +kernel, by decide +kernel⟩, List.mem_of_getElem? (i := 16) (by decide +kernel), List.mem_of_getElem? (i := 507) (by decide +kernel), List.mem_of_getElem? (i := 508) (by decide +kernel)⟩
theorem lw_p11 : lw_okq (⟨"DonkeyExecutor", "mayFly", "(I)Z"⟩, 14) := ⟨⟨by decide +kernel, by decide +kernel⟩, List.mem_of_getElem? (i := 16) (by decide +kernel), List.mem_of_getElem? (i := 511) (by decide +kernel), List.mem_of_getElem? (i := 512) (by decide +kernel)⟩
theorem lw_p12 : lw_okq (⟨"DonkeyExecutor$FairRound", "seek", "(LDonkeyExecutor$Given;II)V"⟩, 4) := ⟨⟨by decide +kernel, by decide +kernel⟩, List.mem_of_getElem? (i := 251) (by decide +kernel), List.mem_of_getElem? (i := 583) (by decide +kernel), List.mem_of_getElem? (i := 584) (by decide +kernel)⟩
theorem lw_p13 : lw_okq (⟨"DonkeyExecutor", "tallyTrial", "()V"⟩, 14) := ⟨⟨by decide +kernel, by decide +kernel⟩, List.mem_of_getElem? (i := 16) (by decide +kernel), List.mem_of_getElem? (i := 646) (by decide +kernel), List.mem_of_getElem? (i := 647) (by decide +kernel)⟩
theorem lw_p14 : lw_okq (⟨"DonkeyExecutor", "mostAlike", "(I)I"⟩, 14) := ⟨⟨by decide +kernel, by decide +kernel⟩, List.mem_of_getElem? (i := 16) (by decide +kernel), List.mem_of_getElem? (i := 650) (by decide +kernel), List.mem_of_getElem? (i := 651) (by decide +kernel)⟩
theorem lw_p15 : lw_okq (⟨"DonkeyExecutor", "tellRichestBySet", "()V"⟩, 14) := ⟨⟨by decide +kernel, by decide +kernel⟩, List.mem_of_getElem? (i := 16) (by decide +kernel), List.mem_of_getElem? (i := 662) (by decide +kernel), List.mem_of_getElem? (i := 663) (by decide +kernel)⟩
def lw_privs_1 : List (MethodName × Nat) := [(⟨"DonkeyExecutor", "scriptOf", "(I)LDonkeyExecutor$Script;"⟩, 14), (⟨"DonkeyExecutor", "takeText", "(I)V"⟩, 14), (⟨"DonkeyExecutor", "retell", "()V"⟩, 14), (⟨"DonkeyExecutor$Story", "keep", "(I)V"⟩, 9), (⟨"DonkeyExecutor$Walk", "meet", "(LDonkeyExecutor$Given;II)V"⟩, 12), (⟨"DonkeyExecutor$Walk", "disinherit", "(I)V"⟩, 12), (⟨"DonkeyExecutor$Walk", "halveShares", "()V"⟩, 12), (⟨"DonkeyExecutor$Walk", "bestow", "(I)V"⟩, 12), (⟨"DonkeyExecutor", "isHeir", "(I)Z"⟩, 14), (⟨"DonkeyExecutor", "takeFlies", "()V"⟩, 14), (⟨"DonkeyExecutor", "found", "(I)I"⟩, 14), (⟨"DonkeyExecutor", "mayFly", "(I)Z"⟩, 14), (⟨"DonkeyExecutor$FairRound", "seek", "(LDonkeyExecutor$Given;II)V"⟩, 4), (⟨"DonkeyExecutor", "tallyTrial", "()V"⟩, 14), (⟨"DonkeyExecutor", "mostAlike", "(I)I"⟩, 14), (⟨"DonkeyExecutor", "tellRichestBySet", "()V"⟩, 14)]
theorem lw_r1 : ∀ q ∈ lw_privs_1, lw_okq q := List.forall_mem_cons.mpr ⟨lw_p0, List.forall_mem_cons.mpr ⟨lw_p1, List.forall_mem_cons.mpr ⟨lw_p2, List.forall_mem_cons.mpr ⟨lw_p3, List.forall_mem_cons.mpr ⟨lw_p4, List.forall_mem_cons.mpr ⟨lw_p5, List.forall_mem_cons.mpr ⟨lw_p6, List.forall_mem_cons.mpr ⟨lw_p7, List.forall_mem_cons.mpr ⟨lw_p8, List.forall_mem_cons.mpr ⟨lw_p9, List.forall_mem_cons.mpr ⟨lw_p10, List.forall_mem_cons.mpr ⟨lw_p11, List.forall_mem_cons.mpr ⟨lw_p12, List.forall_mem_cons.mpr ⟨lw_p13, List.forall_mem_cons.mpr ⟨lw_p14, List.forall_mem_cons.mpr ⟨lw_p15, fun _ h => absurd h List.not_mem_nil⟩⟩⟩⟩⟩⟩⟩⟩⟩⟩⟩⟩⟩⟩⟩⟩
theorem lw_p16 : lw_okq (⟨"DonkeyExecutor", "weightOf", "(II)J"⟩, 14) := ⟨⟨by decide +kernel, by decide +kernel⟩, List.mem_of_getElem? (i := 16) (by decide +kernel), List.mem_of_getElem? (i := 666) (by decide +kernel), List.mem_of_getElem? (i := 667) (by decide +kernel)⟩
theorem lw_p17 : lw_okq (⟨"DonkeyExecutor", "mixHeir", "(JI)J"⟩, 14) := ⟨⟨by decide +kernel, by decide +kernel⟩, List.mem_of_getElem? (i := 16) (by decide +kernel), List.mem_of_getElem? (i := 745) (by decide +kernel), List.mem_of_getElem? (i := 746) (by decide +kernel)⟩
theorem lw_p18 : lw_okq (⟨"DonkeyExecutor", "mixStop", "(JI)J"⟩, 14) := ⟨⟨by decide +kernel, by decide +kernel⟩, List.mem_of_getElem? (i := 16) (by decide +kernel), List.mem_of_getElem? (i := 757) (by decide +kernel), List.mem_of_getElem? (i := 758) (by decide +kernel)⟩
theorem lw_p19 : lw_okq (⟨"DonkeyExecutorModel", "faultOf", "(I)I"⟩, 42) := ⟨⟨by decide +kernel, by decide +kernel⟩, List.mem_of_getElem? (i := 771) (by decide +kernel), List.mem_of_getElem? (i := 927) (by decide +kernel), List.mem_of_getElem? (i := 928) (by decide +kernel)⟩
theorem lw_p20 : lw_okq (⟨"DonkeyExecutorModel", "readsHeirs", "()I"⟩, 42) := ⟨⟨by decide +kernel, by decide +kernel⟩, List.mem_of_getElem? (i := 771) (by decide +kernel), List.mem_of_getElem? (i := 931) (by decide +kernel), List.mem_of_getElem? (i := 932) (by decide +kernel)⟩
theorem lw_p21 : lw_okq (⟨"DonkeyExecutorModel", "readsHeir", "(II)I"⟩, 42) := ⟨⟨by decide +kernel, by decide +kernel⟩, List.mem_of_getElem? (i := 771) (by decide +kernel), List.mem_of_getElem? (i := 935) (by decide +kernel), List.mem_of_getElem? (i := 936) (by decide +kernel)⟩
theorem lw_p22 : lw_okq (⟨"DonkeyExecutorModel", "byteAt", "(I)I"⟩, 42) := ⟨⟨by decide +kernel, by decide +kernel⟩, List.mem_of_getElem? (i := 771) (by decide +kernel), List.mem_of_getElem? (i := 939) (by decide +kernel), List.mem_of_getElem? (i := 940) (by decide +kernel)⟩
theorem lw_p23 : lw_okq (⟨"DonkeyExecutorModel", "readsRound", "()I"⟩, 42) := ⟨⟨by decide +kernel, by decide +kernel⟩, List.mem_of_getElem? (i := 771) (by decide +kernel), List.mem_of_getElem? (i := 943) (by decide +kernel), List.mem_of_getElem? (i := 944) (by decide +kernel)⟩
theorem lw_p24 : lw_okq (⟨"DonkeyExecutorModel", "isHeir", "(I)Z"⟩, 42) := ⟨⟨by decide +kernel, by decide +kernel⟩, List.mem_of_getElem? (i := 771) (by decide +kernel), List.mem_of_getElem? (i := 951) (by decide +kernel), List.mem_of_getElem? (i := 952) (by decide +kernel)⟩
theorem lw_p25 : lw_okq (⟨"DonkeyExecutorModel", "reads", "()V"⟩, 42) := ⟨⟨by decide +kernel, by decide +kernel⟩, List.mem_of_getElem? (i := 771) (by decide +kernel), List.mem_of_getElem? (i := 955) (by decide +kernel), List.mem_of_getElem? (i := 956) (by decide +kernel)⟩
theorem lw_p26 : lw_okq (⟨"DonkeyExecutorModel", "heirOf", "(II)I"⟩, 42) := ⟨⟨by decide +kernel, by decide +kernel⟩, List.mem_of_getElem? (i := 771) (by decide +kernel), List.mem_of_getElem? (i := 959) (by decide +kernel), List.mem_of_getElem? (i := 960) (by decide +kernel)⟩
theorem lw_p27 : lw_okq (⟨"DonkeyExecutorModel", "roundOf", "(I)I"⟩, 42) := ⟨⟨by decide +kernel, by decide +kernel⟩, List.mem_of_getElem? (i := 771) (by decide +kernel), List.mem_of_getElem? (i := 970) (by decide +kernel), List.mem_of_getElem? (i := 971) (by decide +kernel)⟩
theorem lw_p28 : lw_okq (⟨"DonkeyExecutorModel", "meets", "(I)I"⟩, 42) := ⟨⟨by decide +kernel, by decide +kernel⟩, List.mem_of_getElem? (i := 771) (by decide +kernel), List.mem_of_getElem? (i := 993) (by decide +kernel), List.mem_of_getElem? (i := 994) (by decide +kernel)⟩
theorem lw_p29 : lw_okq (⟨"DonkeyExecutorModel", "stopsMany", "()I"⟩, 42) := ⟨⟨by decide +kernel, by decide +kernel⟩, List.mem_of_getElem? (i := 771) (by decide +kernel), List.mem_of_getElem? (i := 1002) (by decide +kernel), List.mem_of_getElem? (i := 1003) (by decide +kernel)⟩
theorem lw_p30 : lw_okq (⟨"DonkeyExecutorModel", "doesOf", "(II)I"⟩, 42) := ⟨⟨by decide +kernel, by decide +kernel⟩, List.mem_of_getElem? (i := 771) (by decide +kernel), List.mem_of_getElem? (i := 1006) (by decide +kernel), List.mem_of_getElem? (i := 1007) (by decide +kernel)⟩
theorem lw_p31 : lw_okq (⟨"DonkeyExecutorModel", "runsTold", "()V"⟩, 42) := ⟨⟨by decide +kernel, by decide +kernel⟩, List.mem_of_getElem? (i := 771) (by decide +kernel), List.mem_of_getElem? (i := 1010) (by decide +kernel), List.mem_of_getElem? (i := 1011) (by decide +kernel)⟩
def lw_privs_2 : List (MethodName × Nat) := [(⟨"DonkeyExecutor", "weightOf", "(II)J"⟩, 14), (⟨"DonkeyExecutor", "mixHeir", "(JI)J"⟩, 14), (⟨"DonkeyExecutor", "mixStop", "(JI)J"⟩, 14), (⟨"DonkeyExecutorModel", "faultOf", "(I)I"⟩, 42), (⟨"DonkeyExecutorModel", "readsHeirs", "()I"⟩, 42), (⟨"DonkeyExecutorModel", "readsHeir", "(II)I"⟩, 42), (⟨"DonkeyExecutorModel", "byteAt", "(I)I"⟩, 42), (⟨"DonkeyExecutorModel", "readsRound", "()I"⟩, 42), (⟨"DonkeyExecutorModel", "isHeir", "(I)Z"⟩, 42), (⟨"DonkeyExecutorModel", "reads", "()V"⟩, 42), (⟨"DonkeyExecutorModel", "heirOf", "(II)I"⟩, 42), (⟨"DonkeyExecutorModel", "roundOf", "(I)I"⟩, 42), (⟨"DonkeyExecutorModel", "meets", "(I)I"⟩, 42), (⟨"DonkeyExecutorModel", "stopsMany", "()I"⟩, 42), (⟨"DonkeyExecutorModel", "doesOf", "(II)I"⟩, 42), (⟨"DonkeyExecutorModel", "runsTold", "()V"⟩, 42)]
theorem lw_r2 : ∀ q ∈ lw_privs_2, lw_okq q := List.forall_mem_cons.mpr ⟨lw_p16, List.forall_mem_cons.mpr ⟨lw_p17, List.forall_mem_cons.mpr ⟨lw_p18, List.forall_mem_cons.mpr ⟨lw_p19, List.forall_mem_cons.mpr ⟨lw_p20, List.forall_mem_cons.mpr ⟨lw_p21, List.forall_mem_cons.mpr ⟨lw_p22, List.forall_mem_cons.mpr ⟨lw_p23, List.forall_mem_cons.mpr ⟨lw_p24, List.forall_mem_cons.mpr ⟨lw_p25, List.forall_mem_cons.mpr ⟨lw_p26, List.forall_mem_cons.mpr ⟨lw_p27, List.forall_mem_cons.mpr ⟨lw_p28, List.forall_mem_cons.mpr ⟨lw_p29, List.forall_mem_cons.mpr ⟨lw_p30, List.forall_mem_cons.mpr ⟨lw_p31, fun _ h => absurd h List.not_mem_nil⟩⟩⟩⟩⟩⟩⟩⟩⟩⟩⟩⟩⟩⟩⟩⟩
theorem lw_p32 : lw_okq (⟨"DonkeyExecutorModel", "asTold", "()V"⟩, 42) := ⟨⟨by decide +kernel, by decide +kernel⟩, List.mem_of_getElem? (i := 771) (by decide +kernel), List.mem_of_getElem? (i := 1014) (by decide +kernel), List.mem_of_getElem? (i := 1015) (by decide +kernel)⟩
theorem lw_p33 : lw_okq (⟨"DonkeyExecutorModel", "fliesBut", "(I)I"⟩, 42) := ⟨⟨by decide +kernel, by decide +kernel⟩, List.mem_of_getElem? (i := 771) (by decide +kernel), List.mem_of_getElem? (i := 1018) (by decide +kernel), List.mem_of_getElem? (i := 1019) (by decide +kernel)⟩
theorem lw_p34 : lw_okq (⟨"DonkeyExecutorModel", "runs", "()V"⟩, 42) := ⟨⟨by decide +kernel, by decide +kernel⟩, List.mem_of_getElem? (i := 771) (by decide +kernel), List.mem_of_getElem? (i := 1025) (by decide +kernel), List.mem_of_getElem? (i := 1026) (by decide +kernel)⟩
theorem lw_p35 : lw_okq (⟨"DonkeyExecutorModel", "keepsAt", "(I)V"⟩, 42) := ⟨⟨by decide +kernel, by decide +kernel⟩, List.mem_of_getElem? (i := 771) (by decide +kernel), List.mem_of_getElem? (i := 1029) (by decide +kernel), List.mem_of_getElem? (i := 1030) (by decide +kernel)⟩
theorem lw_p36 : lw_okq (⟨"DonkeyExecutorModel", "visits", "(II)V"⟩, 42) := ⟨⟨by decide +kernel, by decide +kernel⟩, List.mem_of_getElem? (i := 771) (by decide +kernel), List.mem_of_getElem? (i := 1033) (by decide +kernel), List.mem_of_getElem? (i := 1034) (by decide +kernel)⟩
theorem lw_p37 : lw_okq (⟨"DonkeyExecutorModel", "afraid", "(II)I"⟩, 42) := ⟨⟨by decide +kernel, by decide +kernel⟩, List.mem_of_getElem? (i := 771) (by decide +kernel), List.mem_of_getElem? (i := 1037) (by decide +kernel), List.mem_of_getElem? (i := 1038) (by decide +kernel)⟩
theorem lw_p38 : lw_okq (⟨"DonkeyExecutorModel", "goesBack", "()V"⟩, 42) := ⟨⟨by decide +kernel, by decide +kernel⟩, List.mem_of_getElem? (i := 771) (by decide +kernel), List.mem_of_getElem? (i := 1041) (by decide +kernel), List.mem_of_getElem? (i := 1042) (by decide +kernel)⟩
theorem lw_p39 : lw_okq (⟨"DonkeyExecutorModel", "stays", "(IIII)V"⟩, 42) := ⟨⟨by decide +kernel, by decide +kernel⟩, List.mem_of_getElem? (i := 771) (by decide +kernel), List.mem_of_getElem? (i := 1045) (by decide +kernel), List.mem_of_getElem? (i := 1046) (by decide +kernel)⟩
theorem lw_p40 : lw_okq (⟨"DonkeyExecutorModel", "shareOf", "(III)I"⟩, 42) := ⟨⟨by decide +kernel, by decide +kernel⟩, List.mem_of_getElem? (i := 771) (by decide +kernel), List.mem_of_getElem? (i := 1053) (by decide +kernel), List.mem_of_getElem? (i := 1054) (by decide +kernel)⟩
theorem lw_p41 : lw_okq (⟨"DonkeyExecutorModel", "outOf", "()I"⟩, 42) := ⟨⟨by decide +kernel, by decide +kernel⟩, List.mem_of_getElem? (i := 771) (by decide +kernel), List.mem_of_getElem? (i := 1061) (by decide +kernel), List.mem_of_getElem? (i := 1062) (by decide +kernel)⟩
theorem lw_p42 : lw_okq (⟨"DonkeyExecutorModel", "estateOf", "()I"⟩, 42) := ⟨⟨by decide +kernel, by decide +kernel⟩, List.mem_of_getElem? (i := 771) (by decide +kernel), List.mem_of_getElem? (i := 1069) (by decide +kernel), List.mem_of_getElem? (i := 1070) (by decide +kernel)⟩
theorem lw_p43 : lw_okq (⟨"DonkeyExecutorModel", "estateNow", "()I"⟩, 42) := ⟨⟨by decide +kernel, by decide +kernel⟩, List.mem_of_getElem? (i := 771) (by decide +kernel), List.mem_of_getElem? (i := 1073) (by decide +kernel), List.mem_of_getElem? (i := 1074) (by decide +kernel)⟩
theorem lw_p44 : lw_okq (⟨"DonkeyExecutorModel", "richestOf", "()I"⟩, 42) := ⟨⟨by decide +kernel, by decide +kernel⟩, List.mem_of_getElem? (i := 771) (by decide +kernel), List.mem_of_getElem? (i := 1081) (by decide +kernel), List.mem_of_getElem? (i := 1082) (by decide +kernel)⟩
theorem lw_p45 : lw_okq (⟨"DonkeyExecutorModel", "richestNow", "()I"⟩, 42) := ⟨⟨by decide +kernel, by decide +kernel⟩, List.mem_of_getElem? (i := 771) (by decide +kernel), List.mem_of_getElem? (i := 1085) (by decide +kernel), List.mem_of_getElem? (i := 1086) (by decide +kernel)⟩
theorem lw_p46 : lw_okq (⟨"DonkeyExecutorModel", "longestOf", "()I"⟩, 42) := ⟨⟨by decide +kernel, by decide +kernel⟩, List.mem_of_getElem? (i := 771) (by decide +kernel), List.mem_of_getElem? (i := 1093) (by decide +kernel), List.mem_of_getElem? (i := 1094) (by decide +kernel)⟩
theorem lw_p47 : lw_okq (⟨"DonkeyExecutorModel", "ditchOf", "()I"⟩, 42) := ⟨⟨by decide +kernel, by decide +kernel⟩, List.mem_of_getElem? (i := 771) (by decide +kernel), List.mem_of_getElem? (i := 1101) (by decide +kernel), List.mem_of_getElem? (i := 1102) (by decide +kernel)⟩
def lw_privs_3 : List (MethodName × Nat) := [(⟨"DonkeyExecutorModel", "asTold", "()V"⟩, 42), (⟨"DonkeyExecutorModel", "fliesBut", "(I)I"⟩, 42), (⟨"DonkeyExecutorModel", "runs", "()V"⟩, 42), (⟨"DonkeyExecutorModel", "keepsAt", "(I)V"⟩, 42), (⟨"DonkeyExecutorModel", "visits", "(II)V"⟩, 42), (⟨"DonkeyExecutorModel", "afraid", "(II)I"⟩, 42), (⟨"DonkeyExecutorModel", "goesBack", "()V"⟩, 42), (⟨"DonkeyExecutorModel", "stays", "(IIII)V"⟩, 42), (⟨"DonkeyExecutorModel", "shareOf", "(III)I"⟩, 42), (⟨"DonkeyExecutorModel", "outOf", "()I"⟩, 42), (⟨"DonkeyExecutorModel", "estateOf", "()I"⟩, 42), (⟨"DonkeyExecutorModel", "estateNow", "()I"⟩, 42), (⟨"DonkeyExecutorModel", "richestOf", "()I"⟩, 42), (⟨"DonkeyExecutorModel", "richestNow", "()I"⟩, 42), (⟨"DonkeyExecutorModel", "longestOf", "()I"⟩, 42), (⟨"DonkeyExecutorModel", "ditchOf", "()I"⟩, 42)]
theorem lw_r3 : ∀ q ∈ lw_privs_3, lw_okq q := List.forall_mem_cons.mpr ⟨lw_p32, List.forall_mem_cons.mpr ⟨lw_p33, List.forall_mem_cons.mpr ⟨lw_p34, List.forall_mem_cons.mpr ⟨lw_p35, List.forall_mem_cons.mpr ⟨lw_p36, List.forall_mem_cons.mpr ⟨lw_p37, List.forall_mem_cons.mpr ⟨lw_p38, List.forall_mem_cons.mpr ⟨lw_p39, List.forall_mem_cons.mpr ⟨lw_p40, List.forall_mem_cons.mpr ⟨lw_p41, List.forall_mem_cons.mpr ⟨lw_p42, List.forall_mem_cons.mpr ⟨lw_p43, List.forall_mem_cons.mpr ⟨lw_p44, List.forall_mem_cons.mpr ⟨lw_p45, List.forall_mem_cons.mpr ⟨lw_p46, List.forall_mem_cons.mpr ⟨lw_p47, fun _ h => absurd h List.not_mem_nil⟩⟩⟩⟩⟩⟩⟩⟩⟩⟩⟩⟩⟩⟩⟩⟩
theorem lw_p48 : lw_okq (⟨"DonkeyExecutorModel", "baitOf", "(I)I"⟩, 42) := ⟨⟨by decide +kernel, by decide +kernel⟩, List.mem_of_getElem? (i := 771) (by decide +kernel), List.mem_of_getElem? (i := 1109) (by decide +kernel), List.mem_of_getElem? (i := 1110) (by decide +kernel)⟩
theorem lw_p49 : lw_okq (⟨"DonkeyExecutorModel", "isFirst", "(I)Z"⟩, 42) := ⟨⟨by decide +kernel, by decide +kernel⟩, List.mem_of_getElem? (i := 771) (by decide +kernel), List.mem_of_getElem? (i := 1113) (by decide +kernel), List.mem_of_getElem? (i := 1114) (by decide +kernel)⟩
theorem lw_p50 : lw_okq (⟨"DonkeyExecutorModel", "fairOf", "(I)I"⟩, 42) := ⟨⟨by decide +kernel, by decide +kernel⟩, List.mem_of_getElem? (i := 771) (by decide +kernel), List.mem_of_getElem? (i := 1121) (by decide +kernel), List.mem_of_getElem? (i := 1122) (by decide +kernel)⟩
theorem lw_p51 : lw_okq (⟨"DonkeyExecutorModel", "fairBy", "()I"⟩, 42) := ⟨⟨by decide +kernel, by decide +kernel⟩, List.mem_of_getElem? (i := 771) (by decide +kernel), List.mem_of_getElem? (i := 1125) (by decide +kernel), List.mem_of_getElem? (i := 1126) (by decide +kernel)⟩
theorem lw_p52 : lw_okq (⟨"DonkeyExecutorModel", "leastNow", "()I"⟩, 42) := ⟨⟨by decide +kernel, by decide +kernel⟩, List.mem_of_getElem? (i := 771) (by decide +kernel), List.mem_of_getElem? (i := 1129) (by decide +kernel), List.mem_of_getElem? (i := 1130) (by decide +kernel)⟩
theorem lw_p53 : lw_okq (⟨"DonkeyExecutorModel", "nextRow", "()Z"⟩, 42) := ⟨⟨by decide +kernel, by decide +kernel⟩, List.mem_of_getElem? (i := 771) (by decide +kernel), List.mem_of_getElem? (i := 1133) (by decide +kernel), List.mem_of_getElem? (i := 1134) (by decide +kernel)⟩
theorem lw_p54 : lw_okq (⟨"DonkeyExecutorModel", "careOf", "(I)I"⟩, 42) := ⟨⟨by decide +kernel, by decide +kernel⟩, List.mem_of_getElem? (i := 771) (by decide +kernel), List.mem_of_getElem? (i := 1141) (by decide +kernel), List.mem_of_getElem? (i := 1142) (by decide +kernel)⟩
theorem lw_p55 : lw_okq (⟨"DonkeyExecutorModel", "skipOf", "(II)I"⟩, 42) := ⟨⟨by decide +kernel, by decide +kernel⟩, List.mem_of_getElem? (i := 771) (by decide +kernel), List.mem_of_getElem? (i := 1149) (by decide +kernel), List.mem_of_getElem? (i := 1150) (by decide +kernel)⟩
theorem lw_p56 : lw_okq (⟨"DonkeyExecutorModel", "neverNow", "()I"⟩, 42) := ⟨⟨by decide +kernel, by decide +kernel⟩, List.mem_of_getElem? (i := 771) (by decide +kernel), List.mem_of_getElem? (i := 1165) (by decide +kernel), List.mem_of_getElem? (i := 1166) (by decide +kernel)⟩
theorem lw_p57 : lw_okq (⟨"DonkeyExecutorModel", "isSeen", "()Z"⟩, 42) := ⟨⟨by decide +kernel, by decide +kernel⟩, List.mem_of_getElem? (i := 771) (by decide +kernel), List.mem_of_getElem? (i := 1169) (by decide +kernel), List.mem_of_getElem? (i := 1170) (by decide +kernel)⟩
theorem lw_p58 : lw_okq (⟨"DonkeyExecutorModel", "wasBy", "(II)I"⟩, 42) := ⟨⟨by decide +kernel, by decide +kernel⟩, List.mem_of_getElem? (i := 771) (by decide +kernel), List.mem_of_getElem? (i := 1177) (by decide +kernel), List.mem_of_getElem? (i := 1178) (by decide +kernel)⟩
theorem lw_p59 : lw_okq (⟨"DonkeyExecutorModel", "askOf", "(I)I"⟩, 42) := ⟨⟨by decide +kernel, by decide +kernel⟩, List.mem_of_getElem? (i := 771) (by decide +kernel), List.mem_of_getElem? (i := 1185) (by decide +kernel), List.mem_of_getElem? (i := 1186) (by decide +kernel)⟩
theorem lw_p60 : lw_okq (⟨"DonkeyExecutorModel", "swarmOf", "(III)J"⟩, 42) := ⟨⟨by decide +kernel, by decide +kernel⟩, List.mem_of_getElem? (i := 771) (by decide +kernel), List.mem_of_getElem? (i := 1193) (by decide +kernel), List.mem_of_getElem? (i := 1194) (by decide +kernel)⟩
theorem lw_p61 : lw_okq (⟨"DonkeyExecutorModel", "againOf", "(III)I"⟩, 42) := ⟨⟨by decide +kernel, by decide +kernel⟩, List.mem_of_getElem? (i := 771) (by decide +kernel), List.mem_of_getElem? (i := 1208) (by decide +kernel), List.mem_of_getElem? (i := 1209) (by decide +kernel)⟩
theorem lw_p62 : lw_okq (⟨"DonkeyExecutorModel", "lacks", "(III)I"⟩, 42) := ⟨⟨by decide +kernel, by decide +kernel⟩, List.mem_of_getElem? (i := 771) (by decide +kernel), List.mem_of_getElem? (i := 1225) (by decide +kernel), List.mem_of_getElem? (i := 1226) (by decide +kernel)⟩
theorem lw_p63 : lw_okq (⟨"DonkeyExecutorModel", "keep", "(III)V"⟩, 42) := ⟨⟨by decide +kernel, by decide +kernel⟩, List.mem_of_getElem? (i := 771) (by decide +kernel), List.mem_of_getElem? (i := 1229) (by decide +kernel), List.mem_of_getElem? (i := 1230) (by decide +kernel)⟩
def lw_privs_4 : List (MethodName × Nat) := [(⟨"DonkeyExecutorModel", "baitOf", "(I)I"⟩, 42), (⟨"DonkeyExecutorModel", "isFirst", "(I)Z"⟩, 42), (⟨"DonkeyExecutorModel", "fairOf", "(I)I"⟩, 42), (⟨"DonkeyExecutorModel", "fairBy", "()I"⟩, 42), (⟨"DonkeyExecutorModel", "leastNow", "()I"⟩, 42), (⟨"DonkeyExecutorModel", "nextRow", "()Z"⟩, 42), (⟨"DonkeyExecutorModel", "careOf", "(I)I"⟩, 42), (⟨"DonkeyExecutorModel", "skipOf", "(II)I"⟩, 42), (⟨"DonkeyExecutorModel", "neverNow", "()I"⟩, 42), (⟨"DonkeyExecutorModel", "isSeen", "()Z"⟩, 42), (⟨"DonkeyExecutorModel", "wasBy", "(II)I"⟩, 42), (⟨"DonkeyExecutorModel", "askOf", "(I)I"⟩, 42), (⟨"DonkeyExecutorModel", "swarmOf", "(III)J"⟩, 42), (⟨"DonkeyExecutorModel", "againOf", "(III)I"⟩, 42), (⟨"DonkeyExecutorModel", "lacks", "(III)I"⟩, 42), (⟨"DonkeyExecutorModel", "keep", "(III)V"⟩, 42)]
theorem lw_r4 : ∀ q ∈ lw_privs_4, lw_okq q := List.forall_mem_cons.mpr ⟨lw_p48, List.forall_mem_cons.mpr ⟨lw_p49, List.forall_mem_cons.mpr ⟨lw_p50, List.forall_mem_cons.mpr ⟨lw_p51, List.forall_mem_cons.mpr ⟨lw_p52, List.forall_mem_cons.mpr ⟨lw_p53, List.forall_mem_cons.mpr ⟨lw_p54, List.forall_mem_cons.mpr ⟨lw_p55, List.forall_mem_cons.mpr ⟨lw_p56, List.forall_mem_cons.mpr ⟨lw_p57, List.forall_mem_cons.mpr ⟨lw_p58, List.forall_mem_cons.mpr ⟨lw_p59, List.forall_mem_cons.mpr ⟨lw_p60, List.forall_mem_cons.mpr ⟨lw_p61, List.forall_mem_cons.mpr ⟨lw_p62, List.forall_mem_cons.mpr ⟨lw_p63, fun _ h => absurd h List.not_mem_nil⟩⟩⟩⟩⟩⟩⟩⟩⟩⟩⟩⟩⟩⟩⟩⟩
theorem lw_p64 : lw_okq (⟨"DonkeyExecutorModel", "sumOf", "(I)I"⟩, 42) := ⟨⟨by decide +kernel, by decide +kernel⟩, List.mem_of_getElem? (i := 771) (by decide +kernel), List.mem_of_getElem? (i := 1250) (by decide +kernel), List.mem_of_getElem? (i := 1251) (by decide +kernel)⟩
theorem lw_p65 : lw_okq (⟨"DonkeyExecutorModel", "heirDigest", "(JI)J"⟩, 42) := ⟨⟨by decide +kernel, by decide +kernel⟩, List.mem_of_getElem? (i := 771) (by decide +kernel), List.mem_of_getElem? (i := 1261) (by decide +kernel), List.mem_of_getElem? (i := 1262) (by decide +kernel)⟩
theorem lw_p66 : lw_okq (⟨"DonkeyExecutorModel", "stopDigest", "(JI)J"⟩, 42) := ⟨⟨by decide +kernel, by decide +kernel⟩, List.mem_of_getElem? (i := 771) (by decide +kernel), List.mem_of_getElem? (i := 1265) (by decide +kernel), List.mem_of_getElem? (i := 1266) (by decide +kernel)⟩
def lw_privs_5 : List (MethodName × Nat) := [(⟨"DonkeyExecutorModel", "sumOf", "(I)I"⟩, 42), (⟨"DonkeyExecutorModel", "heirDigest", "(JI)J"⟩, 42), (⟨"DonkeyExecutorModel", "stopDigest", "(JI)J"⟩, 42)]
theorem lw_r5 : ∀ q ∈ lw_privs_5, lw_okq q := List.forall_mem_cons.mpr ⟨lw_p64, List.forall_mem_cons.mpr ⟨lw_p65, List.forall_mem_cons.mpr ⟨lw_p66, fun _ h => absurd h List.not_mem_nil⟩⟩⟩
def lw_privs : List (MethodName × Nat) := lw_privs_1 ++ (lw_privs_2 ++ (lw_privs_3 ++ (lw_privs_4 ++ (lw_privs_5))))
def lw_tbl : List Cond := k2_sels lw_privs ++ tables_1
theorem lw_privs_ok : ∀ q ∈ lw_privs, lw_okq q := by
  show ∀ q ∈ lw_privs_1 ++ (lw_privs_2 ++ (lw_privs_3 ++ (lw_privs_4 ++ (lw_privs_5)))), lw_okq q
  exact List.forall_mem_append.mpr ⟨lw_r1, List.forall_mem_append.mpr ⟨lw_r2, List.forall_mem_append.mpr ⟨lw_r3, List.forall_mem_append.mpr ⟨lw_r4, lw_r5⟩⟩⟩⟩
end
section
/-! ===== BEGIN words of one list among another's, by their places ===== -/
theorem goodIn_r {big : List Cond} (ws : List Cond) (ps : List Nat) (hp : ws = ps.filterMap (fun i => big[i]?)) (h : ws.all goodWord = true) : GoodIn big ws := by
  intro w hw
  have h1 := List.all_eq_true.mp h w hw
  rw [hp] at hw
  obtain ⟨i, -, hi⟩ := List.mem_filterMap.mp hw
  have hm : w ∈ big := by first | exact List.mem_of_getElem? hi | exact List.getElem?_mem hi
  exact ⟨hm, good_of_word h1⟩
theorem goodIn_app {big a b : List Cond} (ha : GoodIn big a) (hb : GoodIn big b) : GoodIn big (a ++ b) := fun w h => (List.mem_append.mp h).elim (ha w) (hb w)
theorem goodIn_ca {big a b : List Cond} {c : Cond} (ha : GoodIn big (c :: a)) (hb : GoodIn big b) : GoodIn big (c :: (a ++ b)) := fun w h => (List.mem_cons.mp h).elim (fun e => ha w (List.mem_cons.mpr (Or.inl e))) (fun h => (List.mem_append.mp h).elim (fun h => ha w (List.mem_cons.mpr (Or.inr h))) (hb w))
theorem goodIn_sub {big ws : List Cond} (hm : ∀ w ∈ ws, w ∈ big) (h : ws.all goodWord = true) : GoodIn big ws := fun w hw => ⟨hm w hw, good_of_word (List.all_eq_true.mp h w hw)⟩
/-! ===== END ===== -/

/-! ===== BEGIN printed: names, fields, word lists, decode rows ===== -/
def RX0 : String := "DonkeyExecutor$FairRound"
def TX0 : u_T := fun k => match k with
  | 0 => ("DonkeyExecutor$FairRound", "walks", "[LDonkeyExecutor$Walk;", true)
  | 1 => ("DonkeyExecutor$FairRound", "row", "[I", true)
  | 2 => ("DonkeyExecutor$FairRound", "bestRow", "[I", true)
  | _ => ("DonkeyExecutor$FairRound", "best", "I", false)
def tyX0 : Nat → FieldType := fun k => match k with
  | 0 => .array (.object "DonkeyExecutor$Walk")
  | 1 => .array .int
  | 2 => .array .int
  | _ => .int
abbrev wsX00 : List Cond := u_ws RX0 TX0 4
theorem nmX0 : ∀ a, a < 4 → ∀ b, b < 4 → a ≠ b → (TX0 a).2.1 ≠ (TX0 b).2.1 := by decide +kernel
theorem tyX0_ok : ∀ k, k < 4 → parseFieldDescriptor (TX0 k).2.2.1 = some (tyX0 k) := by decide +kernel
abbrev cX0_init : ByteArray := prog_2_method_1_code
def yX0_init : MethodName := ⟨RX0, "<init>", "()V"⟩
abbrev cX0_find : ByteArray := prog_2_method_2_code
def yX0_find : MethodName := ⟨RX0, "find", "(LDonkeyExecutor$Given;)V"⟩
abbrev cX0_seek : ByteArray := prog_2_method_3_code
def yX0_seek : MethodName := ⟨RX0, "seek", "(LDonkeyExecutor$Given;II)V"⟩
abbrev cX0_hope : ByteArray := prog_2_method_4_code
def yX0_hope : MethodName := ⟨RX0, "hope", "(LDonkeyExecutor$Given;LDonkeyExecutor$Walk;I)I"⟩
def RX1 : String := "DonkeyExecutor$Flies"
def TX1 : u_T := fun k => match k with
  | 0 => ("DonkeyExecutor$Flies", "stops", "[I", true)
  | _ => ("DonkeyExecutor$Flies", "size", "I", false)
def tyX1 : Nat → FieldType := fun k => match k with
  | 0 => .array .int
  | _ => .int
abbrev wsX10 : List Cond := u_ws RX1 TX1 2
theorem nmX1 : ∀ a, a < 2 → ∀ b, b < 2 → a ≠ b → (TX1 a).2.1 ≠ (TX1 b).2.1 := by decide +kernel
theorem tyX1_ok : ∀ k, k < 2 → parseFieldDescriptor (TX1 k).2.2.1 = some (tyX1 k) := by decide +kernel
abbrev cX1_init : ByteArray := prog_3_method_1_code
def yX1_init : MethodName := ⟨RX1, "<init>", "()V"⟩
abbrev cX1_append : ByteArray := prog_3_method_2_code
def yX1_append : MethodName := ⟨RX1, "append", "(I)V"⟩
abbrev cX1_stopsOf : ByteArray := prog_3_method_3_code
def yX1_stopsOf : MethodName := ⟨RX1, "stopsOf", "(I)I"⟩
abbrev cX1_stopsWithout : ByteArray := prog_3_method_4_code
def yX1_stopsWithout : MethodName := ⟨RX1, "stopsWithout", "(I)I"⟩
def RX2 : String := "DonkeyExecutor$Given"
def TX2 : u_T := fun k => match k with
  | 0 => ("DonkeyExecutor$Given", "sort", "[I", true)
  | 1 => ("DonkeyExecutor$Given", "kind", "[I", true)
  | 2 => ("DonkeyExecutor$Given", "lure", "[I", true)
  | 3 => ("DonkeyExecutor$Given", "temper", "[I", true)
  | 4 => ("DonkeyExecutor$Given", "route", "[I", true)
  | 5 => ("DonkeyExecutor$Given", "heirs", "I", false)
  | 6 => ("DonkeyExecutor$Given", "stops", "I", false)
  | 7 => ("DonkeyExecutor$Given", "flyStops", "I", false)
  | _ => ("DonkeyExecutor$Given", "skipped", "I", false)
def tyX2 : Nat → FieldType := fun k => match k with
  | 0 => .array .int
  | 1 => .array .int
  | 2 => .array .int
  | 3 => .array .int
  | 4 => .array .int
  | 5 => .int
  | 6 => .int
  | 7 => .int
  | _ => .int
abbrev wsX20 : List Cond := u_ws RX2 TX2 9
theorem nmX2 : ∀ a, a < 9 → ∀ b, b < 9 → a ≠ b → (TX2 a).2.1 ≠ (TX2 b).2.1 := by decide +kernel
theorem tyX2_ok : ∀ k, k < 9 → parseFieldDescriptor (TX2 k).2.2.1 = some (tyX2 k) := by decide +kernel
abbrev cX2_init : ByteArray := prog_4_method_1_code
def yX2_init : MethodName := ⟨RX2, "<init>", "()V"⟩
abbrev cX2_takeHeirs : ByteArray := prog_4_method_2_code
def yX2_takeHeirs : MethodName := ⟨RX2, "takeHeirs", "(LDonkeyExecutor$Script;)V"⟩
abbrev cX2_takeRound : ByteArray := prog_4_method_3_code
def yX2_takeRound : MethodName := ⟨RX2, "takeRound", "(LDonkeyExecutor$Script;)V"⟩
abbrev cX2_drawRound : ByteArray := prog_4_method_4_code
def yX2_drawRound : MethodName := ⟨RX2, "drawRound", "(II)V"⟩
abbrev cX2_copyFrom : ByteArray := prog_4_method_5_code
def yX2_copyFrom : MethodName := ⟨RX2, "copyFrom", "(LDonkeyExecutor$Given;)V"⟩
abbrev cX2_dreadAt : ByteArray := prog_4_method_6_code
def yX2_dreadAt : MethodName := ⟨RX2, "dreadAt", "(II)I"⟩
abbrev cX2_mostGain : ByteArray := prog_4_method_7_code
def yX2_mostGain : MethodName := ⟨RX2, "mostGain", "(I)I"⟩
abbrev cX2_sortOf : ByteArray := prog_4_method_8_code
def yX2_sortOf : MethodName := ⟨RX2, "sortOf", "(I)I"⟩
def RX3 : String := "DonkeyExecutor$Script"
def TX3 : u_T := fun k => match k with
  | 0 => ("DonkeyExecutor$Script", "signs", "[I", true)
  | _ => ("DonkeyExecutor$Script", "size", "I", false)
def tyX3 : Nat → FieldType := fun k => match k with
  | 0 => .array .int
  | _ => .int
abbrev wsX30 : List Cond := u_ws RX3 TX3 2
theorem nmX3 : ∀ a, a < 2 → ∀ b, b < 2 → a ≠ b → (TX3 a).2.1 ≠ (TX3 b).2.1 := by decide +kernel
theorem tyX3_ok : ∀ k, k < 2 → parseFieldDescriptor (TX3 k).2.2.1 = some (tyX3 k) := by decide +kernel
abbrev cX3_init : ByteArray := prog_5_method_1_code
def yX3_init : MethodName := ⟨RX3, "<init>", "(I)V"⟩
abbrev cX3_isFull : ByteArray := prog_5_method_2_code
def yX3_isFull : MethodName := ⟨RX3, "isFull", "()Z"⟩
abbrev cX3_append : ByteArray := prog_5_method_3_code
def yX3_append : MethodName := ⟨RX3, "append", "(I)V"⟩
abbrev cX3_faultAsHeirs : ByteArray := prog_5_method_4_code
def yX3_faultAsHeirs : MethodName := ⟨RX3, "faultAsHeirs", "()I"⟩
abbrev cX3_faultAsRound : ByteArray := prog_5_method_5_code
def yX3_faultAsRound : MethodName := ⟨RX3, "faultAsRound", "()I"⟩
abbrev cX3_fitsHeirs : ByteArray := prog_5_method_6_code
def yX3_fitsHeirs : MethodName := ⟨RX3, "fitsHeirs", "(II)Z"⟩
def RX4 : String := "DonkeyExecutor$Sheet"
def TX4 : u_T := fun k => match k with
  | 0 => ("DonkeyExecutor$Sheet", "items", "[I", true)
  | 1 => ("DonkeyExecutor$Sheet", "lost", "Z", false)
  | 2 => ("DonkeyExecutor$Sheet", "form", "I", false)
  | _ => ("DonkeyExecutor$Sheet", "size", "I", false)
def tyX4 : Nat → FieldType := fun k => match k with
  | 0 => .array .int
  | 1 => .boolean
  | 2 => .int
  | _ => .int
abbrev wsX40 : List Cond := u_ws RX4 TX4 4
theorem nmX4 : ∀ a, a < 4 → ∀ b, b < 4 → a ≠ b → (TX4 a).2.1 ≠ (TX4 b).2.1 := by decide +kernel
theorem tyX4_ok : ∀ k, k < 4 → parseFieldDescriptor (TX4 k).2.2.1 = some (tyX4 k) := by decide +kernel
abbrev cX4_init : ByteArray := prog_6_method_1_code
def yX4_init : MethodName := ⟨RX4, "<init>", "()V"⟩
abbrev cX4_renew : ByteArray := prog_6_method_2_code
def yX4_renew : MethodName := ⟨RX4, "renew", "(II)V"⟩
abbrev cX4_faultOf : ByteArray := prog_6_method_3_code
def yX4_faultOf : MethodName := ⟨RX4, "faultOf", "(II)I"⟩
abbrev cX4_hasRange : ByteArray := prog_6_method_4_code
def yX4_hasRange : MethodName := ⟨RX4, "hasRange", "(II)Z"⟩
abbrev cX4_store : ByteArray := prog_6_method_5_code
def yX4_store : MethodName := ⟨RX4, "store", "(II)V"⟩
def RX5 : String := "DonkeyExecutor$Story"
def TX5 : u_T := fun k => match k with
  | 0 => ("DonkeyExecutor$Story", "walk", "LDonkeyExecutor$Walk;", true)
  | 1 => ("DonkeyExecutor$Story", "did", "[I", true)
  | 2 => ("DonkeyExecutor$Story", "ate", "[I", true)
  | 3 => ("DonkeyExecutor$Story", "hunger", "[I", true)
  | 4 => ("DonkeyExecutor$Story", "pull", "[I", true)
  | 5 => ("DonkeyExecutor$Story", "shares", "[I", true)
  | 6 => ("DonkeyExecutor$Story", "fields", "[I", true)
  | 7 => ("DonkeyExecutor$Story", "left", "[I", true)
  | _ => ("DonkeyExecutor$Story", "longest", "I", false)
def tyX5 : Nat → FieldType := fun k => match k with
  | 0 => .object "DonkeyExecutor$Walk"
  | 1 => .array .int
  | 2 => .array .int
  | 3 => .array .int
  | 4 => .array .int
  | 5 => .array .int
  | 6 => .array .int
  | 7 => .array .int
  | _ => .int
abbrev wsX50 : List Cond := u_ws RX5 TX5 9
theorem nmX5 : ∀ a, a < 9 → ∀ b, b < 9 → a ≠ b → (TX5 a).2.1 ≠ (TX5 b).2.1 := by decide +kernel
theorem tyX5_ok : ∀ k, k < 9 → parseFieldDescriptor (TX5 k).2.2.1 = some (tyX5 k) := by decide +kernel
abbrev cX5_init : ByteArray := prog_7_method_1_code
def yX5_init : MethodName := ⟨RX5, "<init>", "()V"⟩
abbrev cX5_tell : ByteArray := prog_7_method_2_code
def yX5_tell : MethodName := ⟨RX5, "tell", "(LDonkeyExecutor$Given;)V"⟩
abbrev cX5_keep : ByteArray := prog_7_method_3_code
def yX5_keep : MethodName := ⟨RX5, "keep", "(I)V"⟩
def RX6 : String := "DonkeyExecutor$Trial"
def TX6 : u_T := fun k => match k with
  | 0 => ("DonkeyExecutor$Trial", "given", "LDonkeyExecutor$Given;", true)
  | 1 => ("DonkeyExecutor$Trial", "walk", "LDonkeyExecutor$Walk;", true)
  | _ => ("DonkeyExecutor$Trial", "did", "[I", true)
def tyX6 : Nat → FieldType := fun k => match k with
  | 0 => .object "DonkeyExecutor$Given"
  | 1 => .object "DonkeyExecutor$Walk"
  | _ => .array .int
abbrev wsX60 : List Cond := u_ws RX6 TX6 3
theorem nmX6 : ∀ a, a < 3 → ∀ b, b < 3 → a ≠ b → (TX6 a).2.1 ≠ (TX6 b).2.1 := by decide +kernel
theorem tyX6_ok : ∀ k, k < 3 → parseFieldDescriptor (TX6 k).2.2.1 = some (tyX6 k) := by decide +kernel
abbrev cX6_init : ByteArray := prog_8_method_1_code
def yX6_init : MethodName := ⟨RX6, "<init>", "()V"⟩
abbrev cX6_prepare : ByteArray := prog_8_method_2_code
def yX6_prepare : MethodName := ⟨RX6, "prepare", "(LDonkeyExecutor$Given;)V"⟩
abbrev cX6_run : ByteArray := prog_8_method_3_code
def yX6_run : MethodName := ⟨RX6, "run", "()V"⟩
def RX7 : String := "DonkeyExecutor$Walk"
def TX7 : u_T := fun k => match k with
  | 0 => ("DonkeyExecutor$Walk", "share", "[I", true)
  | 1 => ("DonkeyExecutor$Walk", "fields", "[I", true)
  | 2 => ("DonkeyExecutor$Walk", "left", "[I", true)
  | 3 => ("DonkeyExecutor$Walk", "heirs", "I", false)
  | 4 => ("DonkeyExecutor$Walk", "out", "I", false)
  | 5 => ("DonkeyExecutor$Walk", "hunger", "I", false)
  | 6 => ("DonkeyExecutor$Walk", "kicks", "I", false)
  | 7 => ("DonkeyExecutor$Walk", "ditch", "I", false)
  | 8 => ("DonkeyExecutor$Walk", "did", "I", false)
  | 9 => ("DonkeyExecutor$Walk", "ate", "I", false)
  | 10 => ("DonkeyExecutor$Walk", "pull", "I", false)
  | _ => ("DonkeyExecutor$Walk", "gain", "I", false)
def tyX7 : Nat → FieldType := fun k => match k with
  | 0 => .array .int
  | 1 => .array .int
  | 2 => .array .int
  | 3 => .int
  | 4 => .int
  | 5 => .int
  | 6 => .int
  | 7 => .int
  | 8 => .int
  | 9 => .int
  | 10 => .int
  | _ => .int
abbrev wsX70 : List Cond := u_ws RX7 TX7 12
theorem nmX7 : ∀ a, a < 12 → ∀ b, b < 12 → a ≠ b → (TX7 a).2.1 ≠ (TX7 b).2.1 := by decide +kernel
theorem tyX7_ok : ∀ k, k < 12 → parseFieldDescriptor (TX7 k).2.2.1 = some (tyX7 k) := by decide +kernel
abbrev cX7_init : ByteArray := prog_9_method_1_code
def yX7_init : MethodName := ⟨RX7, "<init>", "()V"⟩
abbrev cX7_begin : ByteArray := prog_9_method_2_code
def yX7_begin : MethodName := ⟨RX7, "begin", "(LDonkeyExecutor$Given;)V"⟩
abbrev cX7_copyFrom : ByteArray := prog_9_method_3_code
def yX7_copyFrom : MethodName := ⟨RX7, "copyFrom", "(LDonkeyExecutor$Walk;)V"⟩
abbrev cX7_visit : ByteArray := prog_9_method_4_code
def yX7_visit : MethodName := ⟨RX7, "visit", "(LDonkeyExecutor$Given;II)V"⟩
abbrev cX7_meet : ByteArray := prog_9_method_5_code
def yX7_meet : MethodName := ⟨RX7, "meet", "(LDonkeyExecutor$Given;II)V"⟩
abbrev cX7_disinherit : ByteArray := prog_9_method_6_code
def yX7_disinherit : MethodName := ⟨RX7, "disinherit", "(I)V"⟩
abbrev cX7_halveShares : ByteArray := prog_9_method_7_code
def yX7_halveShares : MethodName := ⟨RX7, "halveShares", "()V"⟩
abbrev cX7_bestow : ByteArray := prog_9_method_8_code
def yX7_bestow : MethodName := ⟨RX7, "bestow", "(I)V"⟩
abbrev cX7_isOut : ByteArray := prog_9_method_9_code
def yX7_isOut : MethodName := ⟨RX7, "isOut", "(I)Z"⟩
abbrev cX7_allShares : ByteArray := prog_9_method_10_code
def yX7_allShares : MethodName := ⟨RX7, "allShares", "()I"⟩
abbrev cX7_allFields : ByteArray := prog_9_method_11_code
def yX7_allFields : MethodName := ⟨RX7, "allFields", "()I"⟩
abbrev cX7_richestHeir : ByteArray := prog_9_method_12_code
def yX7_richestHeir : MethodName := ⟨RX7, "richestHeir", "()I"⟩
abbrev cX7_hasMost : ByteArray := prog_9_method_13_code
def yX7_hasMost : MethodName := ⟨RX7, "hasMost", "(I)Z"⟩
def RX8 : String := "DonkeyExecutor$Witness"
def TX8 : u_T := fun k => match k with
  | 0 => ("DonkeyExecutor$Witness", "stops", "[I", true)
  | 1 => ("DonkeyExecutor$Witness", "deeds", "[I", true)
  | _ => ("DonkeyExecutor$Witness", "size", "I", false)
def tyX8 : Nat → FieldType := fun k => match k with
  | 0 => .array .int
  | 1 => .array .int
  | _ => .int
abbrev wsX80 : List Cond := u_ws RX8 TX8 3
theorem nmX8 : ∀ a, a < 3 → ∀ b, b < 3 → a ≠ b → (TX8 a).2.1 ≠ (TX8 b).2.1 := by decide +kernel
theorem tyX8_ok : ∀ k, k < 3 → parseFieldDescriptor (TX8 k).2.2.1 = some (tyX8 k) := by decide +kernel
abbrev cX8_init : ByteArray := prog_10_method_1_code
def yX8_init : MethodName := ⟨RX8, "<init>", "()V"⟩
abbrev cX8_append : ByteArray := prog_10_method_2_code
def yX8_append : MethodName := ⟨RX8, "append", "(II)V"⟩
abbrev cX8_agrees : ByteArray := prog_10_method_3_code
def yX8_agrees : MethodName := ⟨RX8, "agrees", "(LDonkeyExecutor$Trial;)Z"⟩
def RX9 : String := "DonkeyExecutor"
def TX9 : u_T := fun k => match k with
  | 0 => ("DonkeyExecutor", "heirText", "LDonkeyExecutor$Script;", true)
  | 1 => ("DonkeyExecutor", "roundText", "LDonkeyExecutor$Script;", true)
  | 2 => ("DonkeyExecutor", "given", "LDonkeyExecutor$Given;", true)
  | 3 => ("DonkeyExecutor", "story", "LDonkeyExecutor$Story;", true)
  | 4 => ("DonkeyExecutor", "trial", "LDonkeyExecutor$Trial;", true)
  | 5 => ("DonkeyExecutor", "flies", "LDonkeyExecutor$Flies;", true)
  | 6 => ("DonkeyExecutor", "witness", "LDonkeyExecutor$Witness;", true)
  | 7 => ("DonkeyExecutor", "fairRound", "LDonkeyExecutor$FairRound;", true)
  | 8 => ("DonkeyExecutor", "richestBySet", "[I", true)
  | 9 => ("DonkeyExecutor", "tally", "[I", true)
  | 10 => ("DonkeyExecutor", "sheets", "[LDonkeyExecutor$Sheet;", true)
  | 11 => ("DonkeyExecutor", "fairKnown", "Z", false)
  | 12 => ("DonkeyExecutor", "richestKnown", "Z", false)
  | _ => ("DonkeyExecutor", "finding", "I", false)
def tyX9 : Nat → FieldType := fun k => match k with
  | 0 => .object "DonkeyExecutor$Script"
  | 1 => .object "DonkeyExecutor$Script"
  | 2 => .object "DonkeyExecutor$Given"
  | 3 => .object "DonkeyExecutor$Story"
  | 4 => .object "DonkeyExecutor$Trial"
  | 5 => .object "DonkeyExecutor$Flies"
  | 6 => .object "DonkeyExecutor$Witness"
  | 7 => .object "DonkeyExecutor$FairRound"
  | 8 => .array .int
  | 9 => .array .int
  | 10 => .array (.object "DonkeyExecutor$Sheet")
  | 11 => .boolean
  | 12 => .boolean
  | _ => .int
abbrev wsX90 : List Cond := u_ws RX9 TX9 14
theorem nmX9 : ∀ a, a < 14 → ∀ b, b < 14 → a ≠ b → (TX9 a).2.1 ≠ (TX9 b).2.1 := by decide +kernel
theorem tyX9_ok : ∀ k, k < 14 → parseFieldDescriptor (TX9 k).2.2.1 = some (tyX9 k) := by decide +kernel
abbrev cX9_init : ByteArray := prog_1_method_1_code
def yX9_init : MethodName := ⟨RX9, "<init>", "()V"⟩
abbrev cX9_type : ByteArray := prog_1_method_2_code
def yX9_type : MethodName := ⟨RX9, "type", "(II)I"⟩
abbrev cX9_wipe : ByteArray := prog_1_method_3_code
def yX9_wipe : MethodName := ⟨RX9, "wipe", "(I)I"⟩
abbrev cX9_undo : ByteArray := prog_1_method_4_code
def yX9_undo : MethodName := ⟨RX9, "undo", "(I)I"⟩
abbrev cX9_fault : ByteArray := prog_1_method_5_code
def yX9_fault : MethodName := ⟨RX9, "fault", "(I)I"⟩
abbrev cX9_heir : ByteArray := prog_1_method_6_code
def yX9_heir : MethodName := ⟨RX9, "heir", "(II)I"⟩
abbrev cX9_round : ByteArray := prog_1_method_7_code
def yX9_round : MethodName := ⟨RX9, "round", "(I)I"⟩
abbrev cX9_set : ByteArray := prog_1_method_8_code
def yX9_set : MethodName := ⟨RX9, "set", "(II)I"⟩
abbrev cX9_fly : ByteArray := prog_1_method_9_code
def yX9_fly : MethodName := ⟨RX9, "fly", "(I)I"⟩
abbrev cX9_back : ByteArray := prog_1_method_10_code
def yX9_back : MethodName := ⟨RX9, "back", "()I"⟩
abbrev cX9_read : ByteArray := prog_1_method_11_code
def yX9_read : MethodName := ⟨RX9, "read", "(I)I"⟩
abbrev cX9_does : ByteArray := prog_1_method_12_code
def yX9_does : MethodName := ⟨RX9, "does", "(II)I"⟩
abbrev cX9_share : ByteArray := prog_1_method_13_code
def yX9_share : MethodName := ⟨RX9, "share", "(III)I"⟩
abbrev cX9_out : ByteArray := prog_1_method_14_code
def yX9_out : MethodName := ⟨RX9, "out", "()I"⟩
abbrev cX9_estate : ByteArray := prog_1_method_15_code
def yX9_estate : MethodName := ⟨RX9, "estate", "()I"⟩
abbrev cX9_richest : ByteArray := prog_1_method_16_code
def yX9_richest : MethodName := ⟨RX9, "richest", "()I"⟩
abbrev cX9_longest : ByteArray := prog_1_method_17_code
def yX9_longest : MethodName := ⟨RX9, "longest", "()I"⟩
abbrev cX9_ditch : ByteArray := prog_1_method_18_code
def yX9_ditch : MethodName := ⟨RX9, "ditch", "()I"⟩
abbrev cX9_bait : ByteArray := prog_1_method_19_code
def yX9_bait : MethodName := ⟨RX9, "bait", "(I)I"⟩
abbrev cX9_fair : ByteArray := prog_1_method_20_code
def yX9_fair : MethodName := ⟨RX9, "fair", "(I)I"⟩
abbrev cX9_care : ByteArray := prog_1_method_21_code
def yX9_care : MethodName := ⟨RX9, "care", "(I)I"⟩
abbrev cX9_skip : ByteArray := prog_1_method_22_code
def yX9_skip : MethodName := ⟨RX9, "skip", "(II)I"⟩
abbrev cX9_seen : ByteArray := prog_1_method_23_code
def yX9_seen : MethodName := ⟨RX9, "seen", "(II)I"⟩
abbrev cX9_forget : ByteArray := prog_1_method_24_code
def yX9_forget : MethodName := ⟨RX9, "forget", "()I"⟩
abbrev cX9_never : ByteArray := prog_1_method_25_code
def yX9_never : MethodName := ⟨RX9, "never", "()I"⟩
abbrev cX9_was : ByteArray := prog_1_method_26_code
def yX9_was : MethodName := ⟨RX9, "was", "(II)I"⟩
abbrev cX9_ask : ByteArray := prog_1_method_27_code
def yX9_ask : MethodName := ⟨RX9, "ask", "(I)I"⟩
abbrev cX9_swarm : ByteArray := prog_1_method_28_code
def yX9_swarm : MethodName := ⟨RX9, "swarm", "(III)J"⟩
abbrev cX9_again : ByteArray := prog_1_method_29_code
def yX9_again : MethodName := ⟨RX9, "again", "(III)I"⟩
abbrev cX9_sheet : ByteArray := prog_1_method_30_code
def yX9_sheet : MethodName := ⟨RX9, "sheet", "(III)I"⟩
abbrev cX9_lose : ByteArray := prog_1_method_31_code
def yX9_lose : MethodName := ⟨RX9, "lose", "(I)I"⟩
abbrev cX9_put : ByteArray := prog_1_method_32_code
def yX9_put : MethodName := ⟨RX9, "put", "(IIII)I"⟩
abbrev cX9_get : ByteArray := prog_1_method_33_code
def yX9_get : MethodName := ⟨RX9, "get", "(III)I"⟩
abbrev cX9_copy : ByteArray := prog_1_method_34_code
def yX9_copy : MethodName := ⟨RX9, "copy", "(IIIII)I"⟩
abbrev cX9_write : ByteArray := prog_1_method_35_code
def yX9_write : MethodName := ⟨RX9, "write", "(II)I"⟩
abbrev cX9_count : ByteArray := prog_1_method_36_code
def yX9_count : MethodName := ⟨RX9, "count", "(I)I"⟩
abbrev cX9_digest : ByteArray := prog_1_method_37_code
def yX9_digest : MethodName := ⟨RX9, "digest", "()J"⟩
abbrev cX9_mixHeir : ByteArray := prog_1_method_38_code
def yX9_mixHeir : MethodName := ⟨RX9, "mixHeir", "(JI)J"⟩
abbrev cX9_mixStop : ByteArray := prog_1_method_39_code
def yX9_mixStop : MethodName := ⟨RX9, "mixStop", "(JI)J"⟩
abbrev cX9_mixed : ByteArray := prog_1_method_40_code
def yX9_mixed : MethodName := ⟨RX9, "mixed", "(JJ)J"⟩
abbrev cX9_within : ByteArray := prog_1_method_41_code
def yX9_within : MethodName := ⟨RX9, "within", "(II)Z"⟩
abbrev cX9_isText : ByteArray := prog_1_method_42_code
def yX9_isText : MethodName := ⟨RX9, "isText", "(I)Z"⟩
abbrev cX9_isSheet : ByteArray := prog_1_method_43_code
def yX9_isSheet : MethodName := ⟨RX9, "isSheet", "(I)Z"⟩
abbrev cX9_isForm : ByteArray := prog_1_method_44_code
def yX9_isForm : MethodName := ⟨RX9, "isForm", "(I)Z"⟩
abbrev cX9_isHeir : ByteArray := prog_1_method_45_code
def yX9_isHeir : MethodName := ⟨RX9, "isHeir", "(I)Z"⟩
abbrev cX9_mayFly : ByteArray := prog_1_method_46_code
def yX9_mayFly : MethodName := ⟨RX9, "mayFly", "(I)Z"⟩
abbrev cX9_scriptOf : ByteArray := prog_1_method_47_code
def yX9_scriptOf : MethodName := ⟨RX9, "scriptOf", "(I)LDonkeyExecutor$Script;"⟩
abbrev cX9_found : ByteArray := prog_1_method_48_code
def yX9_found : MethodName := ⟨RX9, "found", "(I)I"⟩
abbrev cX9_takeText : ByteArray := prog_1_method_49_code
def yX9_takeText : MethodName := ⟨RX9, "takeText", "(I)V"⟩
abbrev cX9_takeFlies : ByteArray := prog_1_method_50_code
def yX9_takeFlies : MethodName := ⟨RX9, "takeFlies", "()V"⟩
abbrev cX9_retell : ByteArray := prog_1_method_51_code
def yX9_retell : MethodName := ⟨RX9, "retell", "()V"⟩
abbrev cX9_tellRichestBySet : ByteArray := prog_1_method_52_code
def yX9_tellRichestBySet : MethodName := ⟨RX9, "tellRichestBySet", "()V"⟩
abbrev cX9_weightOf : ByteArray := prog_1_method_53_code
def yX9_weightOf : MethodName := ⟨RX9, "weightOf", "(II)J"⟩
abbrev cX9_tallyTrial : ByteArray := prog_1_method_54_code
def yX9_tallyTrial : MethodName := ⟨RX9, "tallyTrial", "()V"⟩
abbrev cX9_mostAlike : ByteArray := prog_1_method_55_code
def yX9_mostAlike : MethodName := ⟨RX9, "mostAlike", "(I)I"⟩
def RX10 : String := "DonkeyExecutorModel"
def TX10 : u_T := fun k => match k with
  | 0 => ("DonkeyExecutorModel", "typed", "[I", true)
  | 1 => ("DonkeyExecutorModel", "texts", "[I", true)
  | 2 => ("DonkeyExecutorModel", "heirs", "I", false)
  | 3 => ("DonkeyExecutorModel", "sorts", "[I", true)
  | 4 => ("DonkeyExecutorModel", "kinds", "[I", true)
  | 5 => ("DonkeyExecutorModel", "lures", "[I", true)
  | 6 => ("DonkeyExecutorModel", "stopsTold", "I", false)
  | 7 => ("DonkeyExecutorModel", "roundTold", "[I", true)
  | 8 => ("DonkeyExecutorModel", "settings", "[I", true)
  | 9 => ("DonkeyExecutorModel", "flies", "I", false)
  | 10 => ("DonkeyExecutorModel", "flyStop", "[I", true)
  | 11 => ("DonkeyExecutorModel", "stops", "I", false)
  | 12 => ("DonkeyExecutorModel", "roundNow", "[I", true)
  | 13 => ("DonkeyExecutorModel", "flyBits", "I", false)
  | 14 => ("DonkeyExecutorModel", "skipped", "I", false)
  | 15 => ("DonkeyExecutorModel", "hunger", "I", false)
  | 16 => ("DonkeyExecutorModel", "kicks", "I", false)
  | 17 => ("DonkeyExecutorModel", "lost", "I", false)
  | 18 => ("DonkeyExecutorModel", "longestNow", "I", false)
  | 19 => ("DonkeyExecutorModel", "longestBy", "I", false)
  | 20 => ("DonkeyExecutorModel", "shares", "[I", true)
  | 21 => ("DonkeyExecutorModel", "fields", "[I", true)
  | 22 => ("DonkeyExecutorModel", "leftOf", "[I", true)
  | 23 => ("DonkeyExecutorModel", "outNow", "I", false)
  | 24 => ("DonkeyExecutorModel", "didAt", "[I", true)
  | 25 => ("DonkeyExecutorModel", "ateAt", "[I", true)
  | 26 => ("DonkeyExecutorModel", "hungerAt", "[I", true)
  | 27 => ("DonkeyExecutorModel", "pullAt", "[I", true)
  | 28 => ("DonkeyExecutorModel", "shareAt", "[I", true)
  | 29 => ("DonkeyExecutorModel", "fieldAt", "[I", true)
  | 30 => ("DonkeyExecutorModel", "leftAt", "[I", true)
  | 31 => ("DonkeyExecutorModel", "fairRow", "[I", true)
  | 32 => ("DonkeyExecutorModel", "seens", "I", false)
  | 33 => ("DonkeyExecutorModel", "seenStop", "[I", true)
  | 34 => ("DonkeyExecutorModel", "seenDid", "[I", true)
  | 35 => ("DonkeyExecutorModel", "didBy", "[I", true)
  | 36 => ("DonkeyExecutorModel", "isThere", "[Z", true)
  | 37 => ("DonkeyExecutorModel", "forms", "[I", true)
  | 38 => ("DonkeyExecutorModel", "sizes", "[I", true)
  | 39 => ("DonkeyExecutorModel", "items", "[I", true)
  | 40 => ("DonkeyExecutorModel", "moved", "[I", true)
  | _ => ("DonkeyExecutorModel", "finding", "I", false)
def tyX10 : Nat → FieldType := fun k => match k with
  | 0 => .array .int
  | 1 => .array .int
  | 2 => .int
  | 3 => .array .int
  | 4 => .array .int
  | 5 => .array .int
  | 6 => .int
  | 7 => .array .int
  | 8 => .array .int
  | 9 => .int
  | 10 => .array .int
  | 11 => .int
  | 12 => .array .int
  | 13 => .int
  | 14 => .int
  | 15 => .int
  | 16 => .int
  | 17 => .int
  | 18 => .int
  | 19 => .int
  | 20 => .array .int
  | 21 => .array .int
  | 22 => .array .int
  | 23 => .int
  | 24 => .array .int
  | 25 => .array .int
  | 26 => .array .int
  | 27 => .array .int
  | 28 => .array .int
  | 29 => .array .int
  | 30 => .array .int
  | 31 => .array .int
  | 32 => .int
  | 33 => .array .int
  | 34 => .array .int
  | 35 => .array .int
  | 36 => .array .boolean
  | 37 => .array .int
  | 38 => .array .int
  | 39 => .array .int
  | 40 => .array .int
  | _ => .int
abbrev wsX100 : List Cond := u_ws RX10 TX10 42
theorem nmX10 : ∀ a, a < 42 → ∀ b, b < 42 → a ≠ b → (TX10 a).2.1 ≠ (TX10 b).2.1 := by decide +kernel
theorem tyX10_ok : ∀ k, k < 42 → parseFieldDescriptor (TX10 k).2.2.1 = some (tyX10 k) := by decide +kernel
abbrev cX10_init : ByteArray := prog_12_method_1_code
def yX10_init : MethodName := ⟨RX10, "<init>", "()V"⟩
abbrev cX10_in : ByteArray := prog_12_method_3_code
def yX10_in : MethodName := ⟨RX10, "in", "(III)Z"⟩
abbrev cX10_isIn : ByteArray := prog_12_method_4_code
def yX10_isIn : MethodName := ⟨RX10, "isIn", "(II)Z"⟩
abbrev cX10_no : ByteArray := prog_12_method_5_code
def yX10_no : MethodName := ⟨RX10, "no", "(I)J"⟩
abbrev cX10_lowest : ByteArray := prog_12_method_6_code
def yX10_lowest : MethodName := ⟨RX10, "lowest", "(JJI)J"⟩
abbrev cX10_isText : ByteArray := prog_12_method_7_code
def yX10_isText : MethodName := ⟨RX10, "isText", "(I)Z"⟩
abbrev cX10_isStop : ByteArray := prog_12_method_8_code
def yX10_isStop : MethodName := ⟨RX10, "isStop", "(I)Z"⟩
abbrev cX10_type : ByteArray := prog_12_method_9_code
def yX10_type : MethodName := ⟨RX10, "type", "(II)I"⟩
abbrev cX10_wipe : ByteArray := prog_12_method_10_code
def yX10_wipe : MethodName := ⟨RX10, "wipe", "(I)I"⟩
abbrev cX10_undo : ByteArray := prog_12_method_11_code
def yX10_undo : MethodName := ⟨RX10, "undo", "(I)I"⟩
abbrev cX10_byteAt : ByteArray := prog_12_method_12_code
def yX10_byteAt : MethodName := ⟨RX10, "byteAt", "(I)I"⟩
abbrev cX10_readsHeir : ByteArray := prog_12_method_13_code
def yX10_readsHeir : MethodName := ⟨RX10, "readsHeir", "(II)I"⟩
abbrev cX10_readsHeirs : ByteArray := prog_12_method_14_code
def yX10_readsHeirs : MethodName := ⟨RX10, "readsHeirs", "()I"⟩
abbrev cX10_readsRound : ByteArray := prog_12_method_15_code
def yX10_readsRound : MethodName := ⟨RX10, "readsRound", "()I"⟩
abbrev cX10_faultOf : ByteArray := prog_12_method_16_code
def yX10_faultOf : MethodName := ⟨RX10, "faultOf", "(I)I"⟩
abbrev cX10_reads : ByteArray := prog_12_method_17_code
def yX10_reads : MethodName := ⟨RX10, "reads", "()V"⟩
abbrev cX10_fault : ByteArray := prog_12_method_18_code
def yX10_fault : MethodName := ⟨RX10, "fault", "(I)I"⟩
abbrev cX10_isHeir : ByteArray := prog_12_method_19_code
def yX10_isHeir : MethodName := ⟨RX10, "isHeir", "(I)Z"⟩
abbrev cX10_heirOf : ByteArray := prog_12_method_20_code
def yX10_heirOf : MethodName := ⟨RX10, "heirOf", "(II)I"⟩
abbrev cX10_heir : ByteArray := prog_12_method_21_code
def yX10_heir : MethodName := ⟨RX10, "heir", "(II)I"⟩
abbrev cX10_roundOf : ByteArray := prog_12_method_22_code
def yX10_roundOf : MethodName := ⟨RX10, "roundOf", "(I)I"⟩
abbrev cX10_round : ByteArray := prog_12_method_23_code
def yX10_round : MethodName := ⟨RX10, "round", "(I)I"⟩
abbrev cX10_set : ByteArray := prog_12_method_24_code
def yX10_set : MethodName := ⟨RX10, "set", "(II)I"⟩
abbrev cX10_fly : ByteArray := prog_12_method_25_code
def yX10_fly : MethodName := ⟨RX10, "fly", "(I)I"⟩
abbrev cX10_back : ByteArray := prog_12_method_26_code
def yX10_back : MethodName := ⟨RX10, "back", "()I"⟩
abbrev cX10_read : ByteArray := prog_12_method_27_code
def yX10_read : MethodName := ⟨RX10, "read", "(I)I"⟩
abbrev cX10_fliesBut : ByteArray := prog_12_method_28_code
def yX10_fliesBut : MethodName := ⟨RX10, "fliesBut", "(I)I"⟩
abbrev cX10_asTold : ByteArray := prog_12_method_29_code
def yX10_asTold : MethodName := ⟨RX10, "asTold", "()V"⟩
abbrev cX10_keepsAt : ByteArray := prog_12_method_30_code
def yX10_keepsAt : MethodName := ⟨RX10, "keepsAt", "(I)V"⟩
abbrev cX10_afraid : ByteArray := prog_12_method_31_code
def yX10_afraid : MethodName := ⟨RX10, "afraid", "(II)I"⟩
abbrev cX10_goesBack : ByteArray := prog_12_method_32_code
def yX10_goesBack : MethodName := ⟨RX10, "goesBack", "()V"⟩
abbrev cX10_stays : ByteArray := prog_12_method_33_code
def yX10_stays : MethodName := ⟨RX10, "stays", "(IIII)V"⟩
abbrev cX10_visits : ByteArray := prog_12_method_34_code
def yX10_visits : MethodName := ⟨RX10, "visits", "(II)V"⟩
abbrev cX10_runs : ByteArray := prog_12_method_35_code
def yX10_runs : MethodName := ⟨RX10, "runs", "()V"⟩
abbrev cX10_runsTold : ByteArray := prog_12_method_36_code
def yX10_runsTold : MethodName := ⟨RX10, "runsTold", "()V"⟩
abbrev cX10_stopsMany : ByteArray := prog_12_method_37_code
def yX10_stopsMany : MethodName := ⟨RX10, "stopsMany", "()I"⟩
abbrev cX10_doesOf : ByteArray := prog_12_method_38_code
def yX10_doesOf : MethodName := ⟨RX10, "doesOf", "(II)I"⟩
abbrev cX10_does : ByteArray := prog_12_method_39_code
def yX10_does : MethodName := ⟨RX10, "does", "(II)I"⟩
abbrev cX10_shareOf : ByteArray := prog_12_method_40_code
def yX10_shareOf : MethodName := ⟨RX10, "shareOf", "(III)I"⟩
abbrev cX10_share : ByteArray := prog_12_method_41_code
def yX10_share : MethodName := ⟨RX10, "share", "(III)I"⟩
abbrev cX10_outOf : ByteArray := prog_12_method_42_code
def yX10_outOf : MethodName := ⟨RX10, "outOf", "()I"⟩
abbrev cX10_out : ByteArray := prog_12_method_43_code
def yX10_out : MethodName := ⟨RX10, "out", "()I"⟩
abbrev cX10_estateNow : ByteArray := prog_12_method_44_code
def yX10_estateNow : MethodName := ⟨RX10, "estateNow", "()I"⟩
abbrev cX10_estateOf : ByteArray := prog_12_method_45_code
def yX10_estateOf : MethodName := ⟨RX10, "estateOf", "()I"⟩
abbrev cX10_estate : ByteArray := prog_12_method_46_code
def yX10_estate : MethodName := ⟨RX10, "estate", "()I"⟩
abbrev cX10_richestNow : ByteArray := prog_12_method_47_code
def yX10_richestNow : MethodName := ⟨RX10, "richestNow", "()I"⟩
abbrev cX10_richestOf : ByteArray := prog_12_method_48_code
def yX10_richestOf : MethodName := ⟨RX10, "richestOf", "()I"⟩
abbrev cX10_richest : ByteArray := prog_12_method_49_code
def yX10_richest : MethodName := ⟨RX10, "richest", "()I"⟩
abbrev cX10_longestOf : ByteArray := prog_12_method_50_code
def yX10_longestOf : MethodName := ⟨RX10, "longestOf", "()I"⟩
abbrev cX10_longest : ByteArray := prog_12_method_51_code
def yX10_longest : MethodName := ⟨RX10, "longest", "()I"⟩
abbrev cX10_ditchOf : ByteArray := prog_12_method_52_code
def yX10_ditchOf : MethodName := ⟨RX10, "ditchOf", "()I"⟩
abbrev cX10_ditch : ByteArray := prog_12_method_53_code
def yX10_ditch : MethodName := ⟨RX10, "ditch", "()I"⟩
abbrev cX10_isFirst : ByteArray := prog_12_method_54_code
def yX10_isFirst : MethodName := ⟨RX10, "isFirst", "(I)Z"⟩
abbrev cX10_baitOf : ByteArray := prog_12_method_55_code
def yX10_baitOf : MethodName := ⟨RX10, "baitOf", "(I)I"⟩
abbrev cX10_bait : ByteArray := prog_12_method_56_code
def yX10_bait : MethodName := ⟨RX10, "bait", "(I)I"⟩
abbrev cX10_leastNow : ByteArray := prog_12_method_57_code
def yX10_leastNow : MethodName := ⟨RX10, "leastNow", "()I"⟩
abbrev cX10_nextRow : ByteArray := prog_12_method_58_code
def yX10_nextRow : MethodName := ⟨RX10, "nextRow", "()Z"⟩
abbrev cX10_fairBy : ByteArray := prog_12_method_59_code
def yX10_fairBy : MethodName := ⟨RX10, "fairBy", "()I"⟩
abbrev cX10_fairOf : ByteArray := prog_12_method_60_code
def yX10_fairOf : MethodName := ⟨RX10, "fairOf", "(I)I"⟩
abbrev cX10_fair : ByteArray := prog_12_method_61_code
def yX10_fair : MethodName := ⟨RX10, "fair", "(I)I"⟩
abbrev cX10_careOf : ByteArray := prog_12_method_62_code
def yX10_careOf : MethodName := ⟨RX10, "careOf", "(I)I"⟩
abbrev cX10_care : ByteArray := prog_12_method_63_code
def yX10_care : MethodName := ⟨RX10, "care", "(I)I"⟩
abbrev cX10_skipOf : ByteArray := prog_12_method_64_code
def yX10_skipOf : MethodName := ⟨RX10, "skipOf", "(II)I"⟩
abbrev cX10_skip : ByteArray := prog_12_method_65_code
def yX10_skip : MethodName := ⟨RX10, "skip", "(II)I"⟩
abbrev cX10_seen : ByteArray := prog_12_method_66_code
def yX10_seen : MethodName := ⟨RX10, "seen", "(II)I"⟩
abbrev cX10_forget : ByteArray := prog_12_method_67_code
def yX10_forget : MethodName := ⟨RX10, "forget", "()I"⟩
abbrev cX10_isSeen : ByteArray := prog_12_method_68_code
def yX10_isSeen : MethodName := ⟨RX10, "isSeen", "()Z"⟩
abbrev cX10_neverNow : ByteArray := prog_12_method_69_code
def yX10_neverNow : MethodName := ⟨RX10, "neverNow", "()I"⟩
abbrev cX10_never : ByteArray := prog_12_method_70_code
def yX10_never : MethodName := ⟨RX10, "never", "()I"⟩
abbrev cX10_wasBy : ByteArray := prog_12_method_71_code
def yX10_wasBy : MethodName := ⟨RX10, "wasBy", "(II)I"⟩
abbrev cX10_was : ByteArray := prog_12_method_72_code
def yX10_was : MethodName := ⟨RX10, "was", "(II)I"⟩
abbrev cX10_askOf : ByteArray := prog_12_method_73_code
def yX10_askOf : MethodName := ⟨RX10, "askOf", "(I)I"⟩
abbrev cX10_ask : ByteArray := prog_12_method_74_code
def yX10_ask : MethodName := ⟨RX10, "ask", "(I)I"⟩
abbrev cX10_swarmOf : ByteArray := prog_12_method_75_code
def yX10_swarmOf : MethodName := ⟨RX10, "swarmOf", "(III)J"⟩
abbrev cX10_swarm : ByteArray := prog_12_method_76_code
def yX10_swarm : MethodName := ⟨RX10, "swarm", "(III)J"⟩
abbrev cX10_againOf : ByteArray := prog_12_method_77_code
def yX10_againOf : MethodName := ⟨RX10, "againOf", "(III)I"⟩
abbrev cX10_again : ByteArray := prog_12_method_78_code
def yX10_again : MethodName := ⟨RX10, "again", "(III)I"⟩
abbrev cX10_meets : ByteArray := prog_12_method_79_code
def yX10_meets : MethodName := ⟨RX10, "meets", "(I)I"⟩
abbrev cX10_isSheet : ByteArray := prog_12_method_80_code
def yX10_isSheet : MethodName := ⟨RX10, "isSheet", "(I)Z"⟩
abbrev cX10_sheet : ByteArray := prog_12_method_81_code
def yX10_sheet : MethodName := ⟨RX10, "sheet", "(III)I"⟩
abbrev cX10_lose : ByteArray := prog_12_method_82_code
def yX10_lose : MethodName := ⟨RX10, "lose", "(I)I"⟩
abbrev cX10_lacks : ByteArray := prog_12_method_83_code
def yX10_lacks : MethodName := ⟨RX10, "lacks", "(III)I"⟩
abbrev cX10_keep : ByteArray := prog_12_method_84_code
def yX10_keep : MethodName := ⟨RX10, "keep", "(III)V"⟩
abbrev cX10_put : ByteArray := prog_12_method_85_code
def yX10_put : MethodName := ⟨RX10, "put", "(IIII)I"⟩
abbrev cX10_get : ByteArray := prog_12_method_86_code
def yX10_get : MethodName := ⟨RX10, "get", "(III)I"⟩
abbrev cX10_copy : ByteArray := prog_12_method_87_code
def yX10_copy : MethodName := ⟨RX10, "copy", "(IIIII)I"⟩
abbrev cX10_write : ByteArray := prog_12_method_88_code
def yX10_write : MethodName := ⟨RX10, "write", "(II)I"⟩
abbrev cX10_sumOf : ByteArray := prog_12_method_89_code
def yX10_sumOf : MethodName := ⟨RX10, "sumOf", "(I)I"⟩
abbrev cX10_count : ByteArray := prog_12_method_90_code
def yX10_count : MethodName := ⟨RX10, "count", "(I)I"⟩
abbrev cX10_heirDigest : ByteArray := prog_12_method_91_code
def yX10_heirDigest : MethodName := ⟨RX10, "heirDigest", "(JI)J"⟩
abbrev cX10_stopDigest : ByteArray := prog_12_method_92_code
def yX10_stopDigest : MethodName := ⟨RX10, "stopDigest", "(JI)J"⟩
abbrev cX10_digest : ByteArray := prog_12_method_93_code
def yX10_digest : MethodName := ⟨RX10, "digest", "()J"⟩
def RJ9 : String := "java/lang/Math"
def TJ9 : u_T := fun k => match k with
  | _ => ("", "", "", false)
def tyJ9 : Nat → FieldType := fun k => match k with
  | _ => .int
abbrev wsJ90 : List Cond := u_ws RJ9 TJ9 0
theorem nmJ9 : ∀ a, a < 0 → ∀ b, b < 0 → a ≠ b → (TJ9 a).2.1 ≠ (TJ9 b).2.1 := by decide +kernel
theorem tyJ9_ok : ∀ k, k < 0 → parseFieldDescriptor (TJ9 k).2.2.1 = some (tyJ9 k) := by decide +kernel
abbrev cJ9_max_7cf53 : ByteArray := prog_13_method_65_code
def yJ9_max_7cf53 : MethodName := ⟨RJ9, "max", "(II)I"⟩
abbrev cJ9_min_7cf53 : ByteArray := prog_13_method_69_code
def yJ9_min_7cf53 : MethodName := ⟨RJ9, "min", "(II)I"⟩
def RJ10 : String := "java/lang/System"
def TJ10 : u_T := fun k => match k with
  | _ => ("", "", "", false)
def tyJ10 : Nat → FieldType := fun k => match k with
  | _ => .int
abbrev wsJ100 : List Cond := u_ws RJ10 TJ10 0
theorem nmJ10 : ∀ a, a < 0 → ∀ b, b < 0 → a ≠ b → (TJ10 a).2.1 ≠ (TJ10 b).2.1 := by decide +kernel
theorem tyJ10_ok : ∀ k, k < 0 → parseFieldDescriptor (TJ10 k).2.2.1 = some (tyJ10 k) := by decide +kernel
def RJ7 : String := "java/util/Arrays"
def TJ7 : u_T := fun k => match k with
  | _ => ("", "", "", false)
def tyJ7 : Nat → FieldType := fun k => match k with
  | _ => .int
abbrev wsJ70 : List Cond := u_ws RJ7 TJ7 0
theorem nmJ7 : ∀ a, a < 0 → ∀ b, b < 0 → a ≠ b → (TJ7 a).2.1 ≠ (TJ7 b).2.1 := by decide +kernel
theorem tyJ7_ok : ∀ k, k < 0 → parseFieldDescriptor (TJ7 k).2.2.1 = some (tyJ7 k) := by decide +kernel
abbrev cJ7_fill_53178 : ByteArray := prog_15_method_103_code
def yJ7_fill_53178 : MethodName := ⟨RJ7, "fill", "([II)V"⟩
def RL : String := "DonkeyExecutorLaw"
abbrev cL_law : ByteArray := code
def yL_law : MethodName := ⟨RL, "law", "([I)Z"⟩
abbrev vwCl : List vw_C := [(RX0, TX0, 4), (RX1, TX1, 2), (RX2, TX2, 9), (RX3, TX3, 2), (RX4, TX4, 4), (RX5, TX5, 9), (RX6, TX6, 3), (RX7, TX7, 12), (RX8, TX8, 3), (RX9, TX9, 14), (RX10, TX10, 42)]
end
section
/-! ===== the memory of a world of fixed shape: objects by number, fields by number, places ===== -/
abbrev Mem : Type := Nat → Nat → Nat → Int32
def wrow (M : Mem) (o f : Nat) (g : Nat → Int32) : Mem := fun o' f' => if o' = o ∧ f' = f then g else M o' f'
def wr (M : Mem) (o f i : Nat) (v : Int32) : Mem := wrow M o f (upd (M o f) i v)
/-- a cell: (object, 0, number of its class, 0); (object, 1 ints | 2 booleans, field, length); (object, 3 | 4 .., first object, length) -/
abbrev Ge : Type := Nat × Nat × Nat × Nat
def cO (G : List Ge) (o : Nat) : Nat := G.findIdx (fun q => q.1 == o && q.2.1 == 0)
def lay (ci : Nat) : List (Nat × Nat) := match ci with
  | 0 => [(1, 1), (1, 2), (1, 3), (0, 3)]
  | 1 => [(1, 1), (0, 1)]
  | 2 => [(1, 1), (1, 2), (1, 3), (1, 4), (1, 5), (0, 5), (0, 6), (0, 7), (0, 8)]
  | 3 => [(1, 1), (0, 1)]
  | 4 => [(1, 1), (0, 1), (0, 2), (0, 3)]
  | 5 => [(2, 5), (1, 1), (1, 2), (1, 3), (1, 4), (1, 5), (1, 6), (1, 7), (0, 8)]
  | 6 => [(2, 7), (2, 8), (1, 1)]
  | 7 => [(1, 1), (1, 2), (1, 3), (0, 3), (0, 4), (0, 5), (0, 6), (0, 7), (0, 8), (0, 9), (0, 10), (0, 11)]
  | 8 => [(1, 1), (1, 2), (0, 2)]
  | 9 => [(2, 1), (2, 2), (2, 3), (2, 4), (2, 6), (2, 9), (2, 10), (2, 11), (1, 1), (1, 2), (1, 3), (0, 11), (0, 12), (0, 13)]
  | 10 => [(1, 1), (1, 2), (0, 2), (1, 3), (1, 4), (1, 5), (0, 6), (1, 6), (1, 7), (0, 9), (1, 8), (0, 11), (1, 9), (0, 13), (0, 14), (0, 15), (0, 16), (0, 17), (0, 18), (0, 19), (1, 10), (1, 11), (1, 12), (0, 23), (1, 13), (1, 14), (1, 15), (1, 16), (1, 17), (1, 18), (1, 19), (1, 20), (0, 32), (1, 21), (1, 22), (1, 23), (1, 24), (1, 25), (1, 26), (1, 27), (1, 28), (0, 41)]
  | _ => []
def fv (ad : Nat → Nat) (G : List Ge) (M : Mem) (o k : Nat) (e : Nat × Nat) : Value := if e.1 = 0 then .int (M o e.2 0) else if e.1 = 1 then .ref (ad (k + e.2)) else .ref (ad (cO G e.2))
def ent (ad : Nat → Nat) (cs : Nat → ClassId) (G : List Ge) (M : Mem) (k : Nat) (q : Ge) : va_E :=
  if q.2.1 = 0 then .inr (q.2.2.1, (lay q.2.2.1).map (fv ad G M q.1 k))
  else if q.2.1 = 1 ∨ q.2.1 = 2 then .inl (cs q.2.1, q.2.2.2, .inl (M q.1 q.2.2.1))
  else .inl (cs q.2.1, q.2.2.2, .inr (.inr (.inr (.inr fun i => some (ad (cO G (q.2.2.1 + i)))))))
def wd (ad : Nat → Nat) (cs : Nat → ClassId) (G : List Ge) (M : Mem) : va_W := G.mapIdx (fun k q => (ad k, ent ad cs G M k q))
def keys (q : Ge) : List (Nat × Nat) :=
  if q.2.1 = 0 then (lay q.2.2.1).filterMap (fun e => if e.1 = 0 then some (q.1, e.2) else none)
  else if q.2.1 = 1 ∨ q.2.1 = 2 then [(q.1, q.2.2.1)] else []
def okG (G : List Ge) : Bool := (List.range G.length).all fun i => (List.range G.length).all fun j => i == j || (keys (G.getD i (0, 3, 0, 0))).all fun x => !(keys (G.getD j (0, 3, 0, 0))).contains x
def okL (ci : Nat) : Bool := (List.range (lay ci).length).all fun i => ((lay ci).getD i (1, 0)).1 != 0 || ((lay ci).getD i (1, 0)).2 == i
theorem wd_at {ad : Nat → Nat} {cs : Nat → ClassId} {G : List Ge} {M : Mem} {k : Nat} {q : Ge} (h : G[k]? = some q) : (wd ad cs G M)[k]? = some (ad k, ent ad cs G M k q) := by
  simp [wd, List.getElem?_mapIdx, h]
theorem wrow_ne {M : Mem} {o f o' f' : Nat} {g : Nat → Int32} (h : ¬ (o' = o ∧ f' = f)) : wrow M o f g o' f' = M o' f' := by
  simp only [wrow, if_neg h]
theorem wrow_eq {M : Mem} {o f : Nat} {g : Nat → Int32} : wrow M o f g o f = g := by
  simp only [wrow, and_self, if_true]
theorem ent_other {ad : Nat → Nat} {cs : Nat → ClassId} {G : List Ge} {M : Mem} {k : Nat} {q : Ge} {o f : Nat} {g : Nat → Int32} (h : (o, f) ∉ keys q) : ent ad cs G (wrow M o f g) k q = ent ad cs G M k q := by
  obtain ⟨o', t, a, n⟩ := q
  unfold ent
  unfold keys at h
  dsimp only at h ⊢
  by_cases h0 : t = 0
  · rw [if_pos h0] at h ⊢
    rw [if_pos h0]
    have e : List.map (fv ad G (wrow M o f g) o' k) (lay a) = List.map (fv ad G M o' k) (lay a) := by
      apply List.map_congr_left
      intro e he
      unfold fv
      by_cases h1 : e.1 = 0
      · rw [if_pos h1, if_pos h1, wrow_ne]
        rintro ⟨rfl, h2⟩
        exact h (List.mem_filterMap.mpr ⟨e, he, by rw [if_pos h1, h2]⟩)
      · rw [if_neg h1, if_neg h1]
    rw [e]
  · rw [if_neg h0] at h ⊢
    rw [if_neg h0]
    by_cases h1 : t = 1 ∨ t = 2
    · rw [if_pos h1] at h ⊢
      rw [if_pos h1, wrow_ne]
      rintro ⟨rfl, rfl⟩
      exact h (List.mem_singleton.mpr rfl)
    · rw [if_neg h1, if_neg h1]
theorem okG_sep {G : List Ge} (h : okG G = true) {i j : Nat} {q q' : Ge} (hi : G[i]? = some q) (hj : G[j]? = some q') (hn : i ≠ j) {x : Nat × Nat} (hx : x ∈ keys q) : x ∉ keys q' := by
  have hil : i < G.length := (List.getElem?_eq_some_iff.mp hi).1
  have hjl : j < G.length := (List.getElem?_eq_some_iff.mp hj).1
  have h1 := List.all_eq_true.mp h i (List.mem_range.mpr hil)
  have h2 := List.all_eq_true.mp h1 j (List.mem_range.mpr hjl)
  have e1 : G.getD i (0, 3, 0, 0) = q := by rw [List.getD_eq_getElem?_getD, hi]; rfl
  have e2 : G.getD j (0, 3, 0, 0) = q' := by rw [List.getD_eq_getElem?_getD, hj]; rfl
  rw [e1, e2] at h2
  rcases Bool.or_eq_true_iff.mp h2 with h3 | h3
  · exact absurd (beq_iff_eq.mp h3) hn
  · have h4 := List.all_eq_true.mp h3 x hx
    intro h5
    have h6 : (keys q').contains x = true := List.contains_iff_mem.mpr h5
    rw [h6] at h4
    cases h4
theorem wd_set {ad : Nat → Nat} {cs : Nat → ClassId} {G : List Ge} {M : Mem} (hG : okG G = true) {k : Nat} {q : Ge} (hk : G[k]? = some q) {o f : Nat} (hx : (o, f) ∈ keys q) (g : Nat → Int32) {e : va_E} (he : ent ad cs G (wrow M o f g) k q = e) : (wd ad cs G M).set k (ad k, e) = wd ad cs G (wrow M o f g) := by
  apply List.ext_getElem?
  intro j
  by_cases hj : j = k
  · subst hj
    have hl : j < (wd ad cs G M).length := (List.getElem?_eq_some_iff.mp (wd_at (ad := ad) (cs := cs) (M := M) hk)).1
    rw [List.getElem?_set_self hl, wd_at hk, he]
  · rw [List.getElem?_set_ne (fun z => hj z.symm)]
    cases hq : G[j]? with
    | none => simp [wd, List.getElem?_mapIdx, hq]
    | some q' => rw [wd_at hq, wd_at hq, ent_other (okG_sep hG hk hq (fun z => hj z.symm) hx)]
theorem okL_at {ci : Nat} (h : okL ci = true) {i j : Nat} (hi : (lay ci)[i]? = some (0, j)) : j = i := by
  have hil : i < (lay ci).length := (List.getElem?_eq_some_iff.mp hi).1
  have h1 := List.all_eq_true.mp h i (List.mem_range.mpr hil)
  have e1 : (lay ci).getD i (1, 0) = (0, j) := by rw [List.getD_eq_getElem?_getD, hi]; rfl
  rw [e1] at h1
  rcases Bool.or_eq_true_iff.mp h1 with h3 | h3
  · simp at h3
  · exact beq_iff_eq.mp h3
theorem lay_set {ad : Nat → Nat} {G : List Ge} {M : Mem} {o k ci f : Nat} (hL : okL ci = true) (hf : (lay ci)[f]? = some (0, f)) (v : Int32) : (lay ci).map (fv ad G (wr M o f 0 v) o k) = ((lay ci).map (fv ad G M o k)).set f (.int v) := by
  apply List.ext_getElem?
  intro i
  by_cases hi : i = f
  · subst hi
    have hl : i < ((lay ci).map (fv ad G M o k)).length := by rw [List.length_map]; exact (List.getElem?_eq_some_iff.mp hf).1
    rw [List.getElem?_set_self hl, List.getElem?_map, hf]
    show some (fv ad G (wr M o i 0 v) o k (0, i)) = some (.int v)
    unfold fv wr
    rw [if_pos rfl, wrow_eq]
    unfold upd
    rw [if_pos rfl]
  · rw [List.getElem?_set_ne (fun z => hi z.symm), List.getElem?_map, List.getElem?_map]
    cases he : (lay ci)[i]? with
    | none => rfl
    | some e =>
      obtain ⟨t, j⟩ := e
      show some (fv ad G (wr M o f 0 v) o k (t, j)) = some (fv ad G M o k (t, j))
      unfold fv
      by_cases h1 : t = 0
      · subst h1
        have := okL_at hL he
        subst this
        rw [if_pos rfl, if_pos rfl]
        unfold wr
        rw [wrow_ne (fun z => hi z.2)]
      · rw [if_neg h1, if_neg h1]
/-! ===== the world ===== -/
def tyU (cs : Nat → ClassId) : List (ClassId × FieldType) := [(cs 1, .int), (cs 2, .boolean), (cs 3, .object "DonkeyExecutor$Walk"), (cs 4, .object "DonkeyExecutor$Sheet")]
def tMost (j : Nat) : Int32 := if j = 2 then 19 else 9
def tFirst (j : Nat) : Int32 := if j = 0 then 5 else if j = 1 then 3 else if j = 2 then 4 else 9
def Zs (A : Nat → Prop) (U : State) (H : Heap) : Prop := ∃ t : Nat, va_Z "DonkeyExecutor" "TEMPER_MOST" "[I" (.ref t) A U H ∧ va_T .int t 4 (fun j => .int (tMost j)) A U H
theorem Zs.moved {A : Nat → Prop} {u U : State} {H : Heap} (hvm : u.vm.Alike U.vm) (h : Zs A u H) : Zs A U H := by
  obtain ⟨t, h1, h2⟩ := h
  exact ⟨t, h1.moved hvm, h2.moved hvm⟩
theorem Zs.kept {A : Nat → Prop} {U : State} {H H1 : Heap} (h : Zs A U H) (hq : ∀ a : Nat, a < H.size → ¬ A a → H1[a]? = H[a]?) : Zs A U H1 := by
  obtain ⟨t, h1, h2⟩ := h
  exact ⟨t, h1.kept hq, h2.kept hq⟩
def Wd0 (D : va_G) (ad : Nat → Nat) (cs : Nat → ClassId) (G : List Ge) (A : Nat → Prop) (M : Mem) (U : State) : Prop := va_P D vwCl (wd ad cs G M) U.heap ∧ va_K D vwCl (tyU cs) U ∧ va_D A (wd ad cs G M) ∧ Zs A U U.heap
def Wd (D : va_G) (ad : Nat → Nat) (cs : Nat → ClassId) (G : List Ge) (A : Nat → Prop) (s : State) (H : Heap) (locs : List Loc) (M : Mem) : Prop := va_P D vwCl (wd ad cs G M) H ∧ va_D A (wd ad cs G M) ∧ va_S A s.heap H locs ∧ va_K D vwCl (tyU cs) s ∧ okG G = true ∧ Zs A s s.heap
theorem Wd_eq {D : va_G} {ad : Nat → Nat} {cs : Nat → ClassId} {G : List Ge} {A : Nat → Prop} {s : State} {H : Heap} {locs : List Loc} {M M1 : Mem} (e : M1 = M) (X : Wd D ad cs G A s H locs M) : Wd D ad cs G A s H locs M1 := by
  subst e; exact X
theorem Wd0.blind {D : va_G} {ad : Nat → Nat} {cs : Nat → ClassId} {G : List Ge} {A : Nat → Prop} {M : Mem} {av : List Value} : FrameBlind (va_Pc av (Wd0 D ad cs G A M)) := fun a U g mk q => by
  obtain ⟨q0, qP, qK, qD, qZ⟩ := q
  exact ⟨q0, qP, va_K.moved (u := U) (U := U.calling g mk a) (Vm.Alike.refl U.vm) qK, qD, Zs.moved (u := U) (U := U.calling g mk a) (Vm.Alike.refl U.vm) qZ⟩
theorem Wd.at {D : va_G} {ad : Nat → Nat} {cs : Nat → ClassId} {G : List Ge} {A : Nat → Prop} {s : State} {H : Heap} {locs : List Loc} {M : Mem} (X : Wd D ad cs G A s H locs M) {t : State} (ht : t.heap = H) (hW : s.WarmedH t.vm) : Wd0 D ad cs G A M t := by
  obtain ⟨hP, hD, hS, hK, -, hZ⟩ := X
  refine ⟨by rw [ht]; exact hP, va_K.moved hW.alike hK, hD, ?_⟩
  rw [ht]
  exact (hZ.kept hS.2.1).moved hW.alike
def TS : List Cond := lw_tbl.filter goodWord
theorem TS_in : ∀ w ∈ TS, w ∈ lw_tbl := fun w h => (List.mem_filter.mp h).1
theorem mT_of {w : Cond} (h : w ∈ tables_1) (g : goodWord w = true) : w ∈ TS := List.mem_filter.mpr ⟨List.mem_append_right _ h, g⟩
theorem mTp (i : Nat) {w : Cond} (h : (k2_sels lw_privs)[i]? = some w) (g : goodWord w = true) : w ∈ TS := List.mem_filter.mpr ⟨List.mem_append_left _ (List.mem_of_getElem? h), g⟩
theorem mT1 (i : Nat) {w : Cond} (h : tables_1_1[i]? = some w) (g : goodWord w = true) : w ∈ TS := mT_of (List.mem_append_left _ (List.mem_of_getElem? h)) g
theorem mT2 (i : Nat) {w : Cond} (h : tables_1_2[i]? = some w) (g : goodWord w = true) : w ∈ TS := mT_of (List.mem_append_right _ (List.mem_append_left _ (List.mem_of_getElem? h))) g
theorem mT3 (i : Nat) {w : Cond} (h : tables_1_3[i]? = some w) (g : goodWord w = true) : w ∈ TS := mT_of (List.mem_append_right _ (List.mem_append_right _ (List.mem_append_left _ (List.mem_of_getElem? h)))) g
theorem mT4 (i : Nat) {w : Cond} (h : tables_1_4[i]? = some w) (g : goodWord w = true) : w ∈ TS := mT_of (List.mem_append_right _ (List.mem_append_right _ (List.mem_append_right _ (List.mem_append_left _ (List.mem_of_getElem? h))))) g
theorem mT5 (i : Nat) {w : Cond} (h : tables_1_5[i]? = some w) (g : goodWord w = true) : w ∈ TS := mT_of (List.mem_append_right _ (List.mem_append_right _ (List.mem_append_right _ (List.mem_append_right _ (List.mem_append_left _ (List.mem_of_getElem? h)))))) g
theorem mT6 (i : Nat) {w : Cond} (h : tables_1_6[i]? = some w) (g : goodWord w = true) : w ∈ TS := mT_of (List.mem_append_right _ (List.mem_append_right _ (List.mem_append_right _ (List.mem_append_right _ (List.mem_append_right _ (List.mem_of_getElem? h)))))) g
def wsU (y : MethodName) (b : ByteArray) (n : Nat) (r : Option FieldType) : List Cond := .code y b n r :: TS
abbrev rmo (fr lo : Nat) : Room := { frames := fr, cells := 0, slots := 0, locals := lo }
theorem gAll : TS.all goodWord = true := by
  rw [List.all_eq_true]
  intro w hw
  exact (List.mem_filter.mp hw).2
theorem gU {y : MethodName} {b : ByteArray} {n : Nat} {r : Option FieldType} (h : Cond.code y b n r ∈ TS) : GoodIn TS (wsU y b n r) := goodIn_sub (fun w hw => by
  rcases List.mem_cons.mp hw with rfl | h2
  · exact h
  · exact h2) (by
  rw [List.all_eq_true]
  intro w hw
  rcases List.mem_cons.mp hw with rfl | h2
  · exact List.all_eq_true.mp gAll _ h
  · exact List.all_eq_true.mp gAll _ h2)
theorem g4 {a b c d : Cond} (h1 : a ∈ TS) (h2 : b ∈ TS) (h3 : c ∈ TS) (h4 : d ∈ TS) : GoodIn TS [a, b, c, d] := goodIn_sub (fun w hw => by
  simp only [List.mem_cons, List.not_mem_nil, or_false] at hw
  rcases hw with rfl | rfl | rfl | rfl <;> assumption) (by
  simp only [List.all_cons, List.all_nil, Bool.and_true, Bool.and_eq_true]
  exact ⟨List.all_eq_true.mp gAll _ h1, List.all_eq_true.mp gAll _ h2, List.all_eq_true.mp gAll _ h3, List.all_eq_true.mp gAll _ h4⟩)
theorem g3 {a b c : Cond} (h1 : a ∈ TS) (h2 : b ∈ TS) (h3 : c ∈ TS) : GoodIn TS [a, b, c] := goodIn_sub (fun w hw => by
  simp only [List.mem_cons, List.not_mem_nil, or_false] at hw
  rcases hw with rfl | rfl | rfl <;> assumption) (by
  simp only [List.all_cons, List.all_nil, Bool.and_true, Bool.and_eq_true]
  exact ⟨List.all_eq_true.mp gAll _ h1, List.all_eq_true.mp gAll _ h2, List.all_eq_true.mp gAll _ h3⟩)
theorem gV {own : String} {idx : Nat} {C : String} {y : MethodName} {b : ByteArray} {n : Nat} {r : Option FieldType} (h1 : Cond.methodLink own idx y ∈ TS) (h2 : Cond.instanceMethod y ∈ TS) (h3 : Cond.selects C y y ∈ TS) (h4 : Cond.initialized C ∈ TS) (h5 : Cond.code y b n r ∈ TS) : GoodIn TS (wsV own idx C y (wsU y b n r)) := goodIn_app (g4 h1 h2 h3 h4) (gU h5)
theorem gS {own : String} {idx : Nat} {y : MethodName} {b : ByteArray} {n : Nat} {r : Option FieldType} (h1 : Cond.methodLink own idx y ∈ TS) (h2 : Cond.static y ∈ TS) (h3 : Cond.initialized y.cls ∈ TS) (h5 : Cond.code y b n r ∈ TS) : GoodIn TS (va_wsS own idx y (wsU y b n r)) := goodIn_app (g3 h1 h2 h3) (gU h5)
/-! ===== the answer's pieces ===== -/
def nm {α β : Type} (e : α) (k : α → β) : β := k e
theorem nm_x {α β : Type} {e : α} {k : α → Option β} {z : β} (h : nm e k = some z) : ∃ x, x = e ∧ k x = some z := ⟨e, rfl, h⟩
def gd {α : Type} (c : Prop) [Decidable c] (x : Option α) : Option α := if c then x else none
theorem gd_x {α : Type} {c : Prop} [Decidable c] {x : Option α} {z : α} (h : gd c x = some z) : c ∧ x = some z := by
  unfold gd at h
  by_cases hc : c
  · rw [if_pos hc] at h; exact ⟨hc, h⟩
  · rw [if_neg hc] at h; cases h
theorem bd_x {α β : Type} {x : Option α} {k : α → Option β} {z : β} (h : x.bind k = some z) : ∃ y, x = some y ∧ k y = some z := by
  cases x with
  | none => cases h
  | some y => exact ⟨y, rfl, h⟩
theorem it_p {α : Type} {c : Prop} [Decidable c] {x y : Option α} {z : α} (h : (if c then x else y) = some z) (hc : c) : x = some z := by rw [if_pos hc] at h; exact h
theorem it_n {α : Type} {c : Prop} [Decidable c] {x y : Option α} {z : α} (h : (if c then x else y) = some z) (hc : ¬ c) : y = some z := by rw [if_neg hc] at h; exact h
theorem sm_x {α : Type} {x z : α} (h : some x = some z) : x = z := Option.some.inj h
/-- a loop: at most n rounds -/
def lpO {σ ρ : Type} (body : σ → Option (σ ⊕ ρ)) : Nat → σ → Option ρ
  | 0, _ => none
  | n + 1, x => (body x).bind fun y => match y with
    | .inl x' => lpO body n x'
    | .inr r => some r
def lpK {σ ρ : Type} (body : σ → Option (σ ⊕ ρ)) (n : Nat) (y : σ ⊕ ρ) : Option ρ := match y with
  | .inl x' => lpO body n x'
  | .inr r => some r
theorem lp_x {σ ρ : Type} {body : σ → Option (σ ⊕ ρ)} {n : Nat} {x : σ} {z : ρ} (h : lpO body (n + 1) x = some z) : ∃ y, body x = some y ∧ lpK body n y = some z := by
  unfold lpO at h
  obtain ⟨y, h1, h2⟩ := bd_x h
  refine ⟨y, h1, ?_⟩
  cases y <;> exact h2
theorem lp_0 {σ ρ : Type} {body : σ → Option (σ ⊕ ρ)} {x : σ} {z : ρ} {P : Prop} (h : lpO body 0 x = some z) : P := by unfold lpO at h; cases h
def inr' {σ ρ : Type} (x : Option ρ) : Option (σ ⊕ ρ) := x.map .inr
theorem inr_x {σ ρ : Type} {x : Option ρ} {y : σ ⊕ ρ} (h : inr' x = some y) : ∃ r, x = some r ∧ y = .inr r := by
  cases x with
  | none => cases h
  | some r => exact ⟨r, rfl, (Option.some.inj h).symm⟩
/-- rounds at most: more than any loop here needs -/
def FU : Nat := 100000
/-! ===== rows of the machine over the world ===== -/
theorem ent_o {ad : Nat → Nat} {cs : Nat → ClassId} {G : List Ge} {M : Mem} {k o ci y : Nat} : ent ad cs G M k (o, 0, ci, y) = .inr (ci, (lay ci).map (fv ad G M o k)) := by unfold ent; exact if_pos rfl
theorem ent_i {ad : Nat → Nat} {cs : Nat → ClassId} {G : List Ge} {M : Mem} {k o f n : Nat} : ent ad cs G M k (o, 1, f, n) = .inl (cs 1, n, .inl (M o f)) := by
  unfold ent
  rw [if_neg (show ¬ (o, 1, f, n).2.1 = 0 from Nat.succ_ne_zero _)]
  exact if_pos (Or.inl rfl)
theorem ent_z {ad : Nat → Nat} {cs : Nat → ClassId} {G : List Ge} {M : Mem} {k o f n : Nat} : ent ad cs G M k (o, 2, f, n) = .inl (cs 2, n, .inl (M o f)) := by
  unfold ent
  rw [if_neg (show ¬ (o, 2, f, n).2.1 = 0 from Nat.succ_ne_zero _)]
  exact if_pos (Or.inr rfl)
theorem ent_r {ad : Nat → Nat} {cs : Nat → ClassId} {G : List Ge} {M : Mem} {k o t b n : Nat} : ent ad cs G M k (o, t + 3, b, n) = .inl (cs (t + 3), n, .inr (.inr (.inr (.inr fun i => some (ad (cO G (b + i))))))) := by
  unfold ent
  rw [if_neg (show ¬ t + 3 = 0 by omega), if_neg (show ¬ (t + 3 = 1 ∨ t + 3 = 2) by omega)]
section Rules
variable {p : Program} {l : Launch} {e : Env} {R : Room} {s : State} {m : MethodId} {args : Array Value} {below : List Frame} {meth : Method} {c : Code} {H : Heap} {locs : List Loc} {cells slots : Nat} {Q : State → Prop}
variable {cc : ByteArray} {nL pc : Nat} {ls : Array Slot} {rest : List Value} {D : va_G} {ad : Nat → Nat} {cs : Nat → ClassId} {G : List Ge} {A : Nat → Prop} {M : Mem} {own : String}
theorem r_get (F : CallFix p m c cc nL s args TS own) (X : Wd D ad cs G A s H locs M) {k o ci index : Nat} (hk : G[k]? = some (o, 0, ci, 0)) {C : String} {T : u_T} {N : Nat} (hc : vwCl[ci]? = some (C, T, N)) (hin : ∀ w ∈ u_ws C T N, w ∈ TS) (j : Nat) (hj : j < N) {ref : String} (hsame : (T j).1 = ref) (hlink : Cond.fieldLink own index ref (T j).2.1 (T j).2.2.1 ∈ TS) {v : Value} (hv : ((lay ci).map (fv ad G M o k))[j]? = some v) (hd : decode cc pc = .ok (.getfield index, 3))
    (kk : W p l e R s m args below meth c H locs cells slots Q (F0 m (pc + 3) ls (v :: rest))) : W p l e R s m args below meth c H locs cells slots Q (F0 m pc ls (.ref (ad k) :: rest)) := by
  obtain ⟨hx, hb, hml, hown, hts⟩ := F
  obtain ⟨hP, hD, hS, hK, hG, hZ⟩ := X
  subst hsame
  exact va_get (D := D) hx hb hts hin hown hK hP k (by rw [wd_at hk, ent_o]) hc j hj (hts _ hlink) (fun _ h9 => h9) hv hd kk
theorem r_puti (F : CallFix p m c cc nL s args TS own) (X : Wd D ad cs G A s H locs M) {k o ci index : Nat} (hk : G[k]? = some (o, 0, ci, 0)) {C : String} {T : u_T} {N : Nat} (hc : vwCl[ci]? = some (C, T, N)) (hin : ∀ w ∈ u_ws C T N, w ∈ TS) (ty0 : Nat → FieldType) (hty : ∀ k, k < N → parseFieldDescriptor (T k).2.2.1 = some (ty0 k)) (hnm : ∀ a, a < N → ∀ b, b < N → a ≠ b → (T a).2.1 ≠ (T b).2.1) (j : Nat) (hj : j < N) {ref : String} (hsame : (T j).1 = ref) (hlink : Cond.fieldLink own index ref (T j).2.1 (T j).2.2.1 ∈ TS) (hfin : (T j).2.2.2 = false) {ty : FieldType} (hdp : parseFieldDescriptor (T j).2.2.1 = some ty) {v : Int32} (hn : narrow ty (.int v) = .int v) (hfit : fits ty (.int v) = true) (hL : okL ci = true) (hf : (lay ci)[j]? = some (0, j)) (hd : decode cc pc = .ok (.putfield index, 3))
    (kk : ∀ (H : Heap) (locs : List Loc), Wd D ad cs G A s H locs (wr M o j 0 v) → W p l e R s m args below meth c H locs cells slots Q (F0 m (pc + 3) ls rest)) : W p l e R s m args below meth c H locs cells slots Q (F0 m pc ls (.int v :: .ref (ad k) :: rest)) := by
  obtain ⟨hx, hb, hml, hown, hts⟩ := F
  obtain ⟨hP, hD, hS, hK, hG, hZ⟩ := X
  subst hsame
  have hlen : j < ((lay ci).map (fv ad G M o k)).length := by rw [List.length_map]; exact (List.getElem?_eq_some_iff.mp hf).1
  have hkey : (o, j) ∈ keys (o, 0, ci, 0) := by
    unfold keys
    rw [if_pos rfl]
    exact List.mem_filterMap.mpr ⟨(0, j), List.mem_of_getElem? hf, rfl⟩
  have hset := wd_set (ad := ad) (cs := cs) (M := M) hG hk hkey (upd (M o j) 0 v) (ent_o.trans (congrArg (fun x => Sum.inr (ci, x)) (lay_set hL hf v)))
  refine va_put (D := D) hx hb hts hin ty0 hty hnm hown hK hP hD hS k (by rw [wd_at hk, ent_o]) hc j hj (hts _ hlink) (fun _ h9 => h9) hfin hdp hn hfit hlen hd (fun H1 locs1 hP1 hD1 hS1 => ?_)
  rw [hset] at hP1 hD1
  exact kk H1 locs1 ⟨hP1, hD1, hS1, hK, hG, hZ⟩
theorem r_iald (F : CallFix p m c cc nL s args TS own) (X : Wd D ad cs G A s H locs M) {k o f n : Nat} (hk : G[k]? = some (o, 1, f, n)) {i : Int32} (hin : vp_in i n) (hd : decode cc pc = .ok (.iaload, 1))
    (kk : W p l e R s m args below meth c H locs cells slots Q (F0 m (pc + 1) ls (.int (M o f i.toNatClampNeg) :: rest))) : W p l e R s m args below meth c H locs cells slots Q (F0 m pc ls (.int i :: .ref (ad k) :: rest)) := by
  obtain ⟨hx, hb, hml, hown, hts⟩ := F
  obtain ⟨hP, hD, hS, hK, hG, hZ⟩ := X
  exact va_iald (D := D) hx hb hK hP k 0 (by rw [wd_at hk, ent_i]) rfl hin hd kk
theorem r_zald (F : CallFix p m c cc nL s args TS own) (X : Wd D ad cs G A s H locs M) {k o f n : Nat} (hk : G[k]? = some (o, 2, f, n)) {i : Int32} (hin : vp_in i n) (hd : decode cc pc = .ok (.baload, 1))
    (kk : W p l e R s m args below meth c H locs cells slots Q (F0 m (pc + 1) ls (.int (M o f i.toNatClampNeg) :: rest))) : W p l e R s m args below meth c H locs cells slots Q (F0 m pc ls (.int i :: .ref (ad k) :: rest)) := by
  obtain ⟨hx, hb, hml, hown, hts⟩ := F
  obtain ⟨hP, hD, hS, hK, hG, hZ⟩ := X
  exact va_zald (D := D) hx hb hK hP k 1 (by rw [wd_at hk, ent_z]) rfl hin hd kk
theorem key_i {o f n : Nat} : (o, f) ∈ keys (o, 1, f, n) := by
  unfold keys
  rw [if_neg (show ¬ (o, 1, f, n).2.1 = 0 from Nat.succ_ne_zero _), if_pos (Or.inl rfl)]
  exact List.mem_singleton.mpr rfl
theorem key_z {o f n : Nat} : (o, f) ∈ keys (o, 2, f, n) := by
  unfold keys
  rw [if_neg (show ¬ (o, 2, f, n).2.1 = 0 from Nat.succ_ne_zero _), if_pos (Or.inr rfl)]
  exact List.mem_singleton.mpr rfl
theorem row_i {k o f n : Nat} (hG : okG G = true) (hk : G[k]? = some (o, 1, f, n)) (g : Nat → Int32) : (wd ad cs G M).set k (ad k, .inl (cs 1, n, .inl g)) = wd ad cs G (wrow M o f g) := wd_set hG hk key_i g (by rw [ent_i, wrow_eq])
theorem row_z {k o f n : Nat} (hG : okG G = true) (hk : G[k]? = some (o, 2, f, n)) (g : Nat → Int32) : (wd ad cs G M).set k (ad k, .inl (cs 2, n, .inl g)) = wd ad cs G (wrow M o f g) := wd_set hG hk key_z g (by rw [ent_z, wrow_eq])
theorem r_iast (F : CallFix p m c cc nL s args TS own) (X : Wd D ad cs G A s H locs M) {k o f n : Nat} (hk : G[k]? = some (o, 1, f, n)) {i x : Int32} (hin : vp_in i n) (hd : decode cc pc = .ok (.iastore, 1))
    (kk : ∀ (H : Heap) (locs : List Loc), Wd D ad cs G A s H locs (wr M o f i.toNatClampNeg x) → W p l e R s m args below meth c H locs cells slots Q (F0 m (pc + 1) ls rest)) : W p l e R s m args below meth c H locs cells slots Q (F0 m pc ls (.int x :: .int i :: .ref (ad k) :: rest)) := by
  obtain ⟨hx, hb, hml, hown, hts⟩ := F
  obtain ⟨hP, hD, hS, hK, hG, hZ⟩ := X
  refine va_iast (D := D) hx hb hK hP hD hS k 0 (by rw [wd_at hk, ent_i]) rfl hin hd (fun H1 locs1 hP1 hD1 hS1 => ?_)
  rw [row_i hG hk] at hP1 hD1
  exact kk H1 locs1 ⟨hP1, hD1, hS1, hK, hG, hZ⟩
theorem r_zast (F : CallFix p m c cc nL s args TS own) (X : Wd D ad cs G A s H locs M) {k o f n : Nat} (hk : G[k]? = some (o, 2, f, n)) {i x : Int32} (hx01 : vp_nar .boolean x = x) (hin : vp_in i n) (hd : decode cc pc = .ok (.bastore, 1))
    (kk : ∀ (H : Heap) (locs : List Loc), Wd D ad cs G A s H locs (wr M o f i.toNatClampNeg x) → W p l e R s m args below meth c H locs cells slots Q (F0 m (pc + 1) ls rest)) : W p l e R s m args below meth c H locs cells slots Q (F0 m pc ls (.int x :: .int i :: .ref (ad k) :: rest)) := by
  obtain ⟨hx, hb, hml, hown, hts⟩ := F
  obtain ⟨hP, hD, hS, hK, hG, hZ⟩ := X
  refine va_zast (D := D) hx hb hK hP hD hS k 1 (by rw [wd_at hk, ent_z]) rfl hin hd (fun H1 locs1 hP1 hD1 hS1 => ?_)
  rw [hx01, row_z hG hk] at hP1 hD1
  exact kk H1 locs1 ⟨hP1, hD1, hS1, hK, hG, hZ⟩
theorem r_alen (F : CallFix p m c cc nL s args TS own) (X : Wd D ad cs G A s H locs M) {k o f n : Nat} (hk : G[k]? = some (o, 1, f, n)) (hd : decode cc pc = .ok (.arraylength, 1))
    (kk : W p l e R s m args below meth c H locs cells slots Q (F0 m (pc + 1) ls (.int (nI n) :: rest))) : W p l e R s m args below meth c H locs cells slots Q (F0 m pc ls (.ref (ad k) :: rest)) := by
  obtain ⟨hx, hb, hml, hown, hts⟩ := F
  obtain ⟨hP, hD, hS, hK, hG, hZ⟩ := X
  exact va_alen (D := D) (x := (n, .inl (M o f))) (v := nI n) hx hb hK hP k 0 (by rw [wd_at hk, ent_i]) (ty := .int) rfl rfl hd kk
theorem r_aald3 (F : CallFix p m c cc nL s args TS own) (X : Wd D ad cs G A s H locs M) {k o b n : Nat} (hk : G[k]? = some (o, 3, b, n)) {i : Int32} (hin : vp_in i n) (hd : decode cc pc = .ok (.aaload, 1))
    (kk : W p l e R s m args below meth c H locs cells slots Q (F0 m (pc + 1) ls (.ref (ad (cO G (b + i.toNatClampNeg))) :: rest))) : W p l e R s m args below meth c H locs cells slots Q (F0 m pc ls (.int i :: .ref (ad k) :: rest)) := by
  obtain ⟨hx, hb, hml, hown, hts⟩ := F
  obtain ⟨hP, hD, hS, hK, hG, hZ⟩ := X
  exact va_aldq (D := D) (f := fun i => some (ad (cO G (b + i)))) hx hb hK hP k 2 (by rw [wd_at hk]; exact congrArg (fun z => some (ad k, z)) (ent_r (t := 0))) rfl hin hd kk
theorem r_aald4 (F : CallFix p m c cc nL s args TS own) (X : Wd D ad cs G A s H locs M) {k o b n : Nat} (hk : G[k]? = some (o, 4, b, n)) {i : Int32} (hin : vp_in i n) (hd : decode cc pc = .ok (.aaload, 1))
    (kk : W p l e R s m args below meth c H locs cells slots Q (F0 m (pc + 1) ls (.ref (ad (cO G (b + i.toNatClampNeg))) :: rest))) : W p l e R s m args below meth c H locs cells slots Q (F0 m pc ls (.int i :: .ref (ad k) :: rest)) := by
  obtain ⟨hx, hb, hml, hown, hts⟩ := F
  obtain ⟨hP, hD, hS, hK, hG, hZ⟩ := X
  exact va_aldq (D := D) (f := fun i => some (ad (cO G (b + i)))) hx hb hK hP k 3 (by rw [wd_at hk]; exact congrArg (fun z => some (ad k, z)) (ent_r (t := 1))) rfl hin hd kk
/-- the row that System.arraycopy leaves -/
def cpM (M : Mem) (o f o' f' sp dp n : Nat) : Mem := wrow M o' f' (va_cpy (M o f) (M o' f') sp dp n)
theorem fits_int (x : Int32) : fits .int (.int x) = true := rfl
theorem r_copy (F : CallFix p m c cc nL s args TS own) (X : Wd D ad cs G A s H locs M) (hls : ls.size = nL) {k0 k1 o0 o1 f0 f1 n0 n1 index : Nat} (hk0 : G[k0]? = some (o0, 1, f0, n0)) (hk1 : G[k1]? = some (o1, 1, f1, n1)) (hlink : Cond.methodLink own index arraycopyName ∈ TS) (hnat : Cond.native arraycopyName ∈ TS) (hstat : Cond.static arraycopyName ∈ TS) (hini : Cond.initialized "java/lang/System" ∈ TS) {sp dp n : Int32} (h : ¬ sp < 0 ∧ ¬ dp < 0 ∧ ¬ n < 0 ∧ sp.toNatClampNeg + n.toNatClampNeg ≤ n0 ∧ dp.toNatClampNeg + n.toNatClampNeg ≤ n1)
    (hframes : 1 ≤ R.frames) (hlocals : (rest.map fun v => v.category).sum + (nativeFrameWords "java/lang/System" "arraycopy" 5 + 11) ≤ R.locals) (hd : decode cc pc = .ok (.invokestatic index, 3))
    (kk : ∀ (H : Heap) (locs : List Loc), Wd D ad cs G A s H locs (cpM M o0 f0 o1 f1 sp.toNatClampNeg dp.toNatClampNeg n.toNatClampNeg) → W p l e R s m args below meth c H locs cells slots Q (F0 m (pc + 3) ls rest)) : W p l e R s m args below meth c H locs cells slots Q (F0 m pc ls (.int n :: .int dp :: .ref (ad k1) :: .int sp :: .ref (ad k0) :: rest)) := by
  obtain ⟨hx, hb, hml, hown, hts⟩ := F
  obtain ⟨hP, hD, hS, hK, hG, hZ⟩ := X
  obtain ⟨h1, h2, h3, h4, h5⟩ := h
  refine va_copyi (D := D) hx hb (hml.trans hls.symm) hown (hts _ hlink) (hts _ hnat) (hts _ hstat) (hts _ hini) hK hP hD hS k0 k1 0 0 (by rw [wd_at hk0, ent_i]) (by rw [wd_at hk1, ent_i]) rfl rfl rfl h1 h2 h3 h4 h5 (fun i _ => fits_int _) hframes hlocals hd (fun H1 locs1 hP1 hD1 hS1 => ?_)
  rw [row_i hG hk1] at hP1 hD1
  exact kk H1 locs1 ⟨hP1, hD1, hS1, hK, hG, hZ⟩
theorem topE {x y : Int32} (h : y = x) (k : W p l e R s m args below meth c H locs cells slots Q (F0 m pc ls (.int y :: rest))) : W p l e R s m args below meth c H locs cells slots Q (F0 m pc ls (.int x :: rest)) := h ▸ k
theorem topL {x y : Int64} (h : y = x) (k : W p l e R s m args below meth c H locs cells slots Q (F0 m pc ls (.long y :: rest))) : W p l e R s m args below meth c H locs cells slots Q (F0 m pc ls (.long x :: rest)) := h ▸ k
end Rules
section Calls
variable {p : Program} {l : Launch} {e : Env} {R : Room} {s : State} {m : MethodId} {args : Array Value} {below : List Frame} {meth : Method} {c : Code} {H : Heap} {locs : List Loc} {Q : State → Prop}
variable {cc : ByteArray} {nL pc : Nat} {ls : Array Slot} {rest st : List Value} {D : va_G} {ad : Nat → Nat} {cs : Nat → ClassId} {G : List Ge} {A : Nat → Prop} {M : Mem} {own : String}
theorem Wd.back {s t : State} {H H1 : Heap} {locs : List Loc} {M M' : Mem} (hvm : s.vm.Alike t.vm) (ht : t.heap = H1) (X : Wd D ad cs G A s H locs M) {locs1 : List Loc} (hS : va_S A s.heap H1 locs1) (h : Wd0 D ad cs G A M' t) : Wd D ad cs G A s H1 locs1 M' := by
  obtain ⟨hP, hK, hD, -⟩ := h
  obtain ⟨-, -, -, hK0, hG, hZ⟩ := X
  exact ⟨by rw [← ht]; exact hP, hD, hS, hK0, hG, hZ⟩
/-- what a call of an object's method needs -/
theorem r_runV (F : CallFix p m c cc nL s args TS own) (X : Wd D ad cs G A s H locs M) {y : MethodName} {b : ByteArray} {maxL n idx : Nat} {ret : Option FieldType} {fr lo k o ci : Nat} {As : List Value} {Qc : Array Value → State → Outcome → State → Prop} {C : String} {T : u_T} {N : Nat}
    (hM : Met l y (wsU y b maxL ret) (rmo fr lo) (va_Pc (.ref (ad k) :: As) (Wd0 D ad cs G A M)) Qc 0 0 A) (hG : GoodIn TS (wsV own idx C y (wsU y b maxL ret))) (hd : y.cls = C ∧ y.cls ≠ "java/lang/invoke/MethodHandle" ∧ y.cls ≠ "java/lang/invoke/VarHandle" ∧ (parseMethodDescriptor y.desc).map (fun d => d.parameters.length) = some n) (hR : fr + 1 ≤ R.frames ∧ 8 + (maxL + 11) + lo ≤ R.locals)
    (hk : G[k]? = some (o, 0, ci, 0)) (hc : vwCl[ci]? = some (C, T, N)) (hn : As.length = n) (hls : ls.size = nL) (hst : st = As.reverse ++ .ref (ad k) :: rest) (hw : (rest.map fun v => v.category).sum ≤ 8) (hdg : decode cc pc = .ok (.invokevirtual idx, 3)) :
    va_Run p l e R s m args below meth c H locs 0 0 0 0 (F0 m pc ls st) rest (Qc (Value.ref (ad k) :: As).toArray) A := by
  have F' := F
  obtain ⟨hx, hb, hml, hown, hts⟩ := F
  have X' := X
  obtain ⟨hP, hD, hS, hK, hG', hZ⟩ := X
  exact va_runV F' hM (cwV n hts hG rfl rfl rfl hd hR) ⟨Wd0.blind, va_recv hK hP hc (by rw [wd_at hk, ent_o]), fun U hU hW => ⟨rfl, X'.at hU hW⟩⟩ rfl hn hls hst (lv_room hw) hdg ⟨Nat.zero_le _, Nat.zero_le _⟩
theorem r_runS (F : CallFix p m c cc nL s args TS own) (X : Wd D ad cs G A s H locs M) {y : MethodName} {b : ByteArray} {maxL n idx : Nat} {ret : Option FieldType} {fr lo : Nat} {As : List Value} {Qc : Array Value → State → Outcome → State → Prop}
    (hM : Met l y (wsU y b maxL ret) (rmo fr lo) (va_Pc As (Wd0 D ad cs G A M)) Qc 0 0 A) (hG : GoodIn TS (va_wsS own idx y (wsU y b maxL ret))) (hd : y.cls ≠ "java/lang/invoke/MethodHandle" ∧ y.cls ≠ "java/lang/invoke/VarHandle" ∧ (parseMethodDescriptor y.desc).map (fun d => d.parameters.length) = some n) (hR : fr + 1 ≤ R.frames ∧ 8 + (maxL + 11) + lo ≤ R.locals)
    (hn : As.length = n) (hls : ls.size = nL) (hst : st = As.reverse ++ rest) (hw : (rest.map fun v => v.category).sum ≤ 8) (hdg : decode cc pc = .ok (.invokestatic idx, 3)) :
    va_Run p l e R s m args below meth c H locs 0 0 0 0 (F0 m pc ls st) rest (Qc As.toArray) A := by
  have F' := F
  obtain ⟨hx, hb, hml, hown, hts⟩ := F
  have X' := X
  exact va_runS F' hM (va_cwS n hts hG rfl rfl rfl hd hR) ⟨Wd0.blind, fun U hU hW => ⟨rfl, X'.at hU hW⟩⟩ rfl hn hls hst (lv_room hw) hdg ⟨Nat.zero_le _, Nat.zero_le _⟩
theorem r_callv {z : Mem} {a : Array Value} (X : Wd D ad cs G A s H locs M) (hr : va_Run p l e R s m args below meth c H locs 0 0 0 0 (F0 m pc ls st) rest (va_Qv (fun u => u = z) (Wd0 D ad cs G A) A a) A)
    (kk : ∀ (H : Heap) (locs : List Loc), Wd D ad cs G A s H locs z → W p l e R s m args below meth c H locs 0 0 Q (F0 m (pc + 3) ls rest)) : W p l e R s m args below meth c H locs 0 0 Q (F0 m pc ls st) := by
  refine va_callv hr X.2.2.1 (fun q _ h => h) (fun q h => h) (fun u t H1 locs1 ht hvm hw hB _ _ hS1 => ?_)
  subst hw
  exact kk H1 locs1 (X.back hvm ht hS1 hB)
theorem r_calli {z : Int32 × Mem} {a : Array Value} (X : Wd D ad cs G A s H locs M) (hr : va_Run p l e R s m args below meth c H locs 0 0 0 0 (F0 m pc ls st) rest (va_Qi (fun r u => (r, u) = z) (Wd0 D ad cs G A) A a) A)
    (kk : ∀ (H : Heap) (locs : List Loc), Wd D ad cs G A s H locs z.2 → W p l e R s m args below meth c H locs 0 0 Q (F0 m (pc + 3) ls (.int z.1 :: rest))) : W p l e R s m args below meth c H locs 0 0 Q (F0 m pc ls st) := by
  refine va_calli hr X.2.2.1 (fun q _ h => h) (fun q h => h) (fun r u t H1 locs1 ht hvm hw hB _ _ hS1 => ?_)
  subst hw
  exact kk H1 locs1 (X.back hvm ht hS1 hB)
theorem r_calll {z : Int64 × Mem} {a : Array Value} (X : Wd D ad cs G A s H locs M) (hr : va_Run p l e R s m args below meth c H locs 0 0 0 0 (F0 m pc ls st) rest (va_Ql (fun r u => (r, u) = z) (Wd0 D ad cs G A) A a) A)
    (kk : ∀ (H : Heap) (locs : List Loc), Wd D ad cs G A s H locs z.2 → W p l e R s m args below meth c H locs 0 0 Q (F0 m (pc + 3) ls (.long z.1 :: rest))) : W p l e R s m args below meth c H locs 0 0 Q (F0 m pc ls st) := by
  refine va_calll hr X.2.2.1 (fun q _ h => h) (fun q h => h) (fun r u t H1 locs1 ht hvm hw hB _ _ hS1 => ?_)
  subst hw
  exact kk H1 locs1 (X.back hvm ht hS1 hB)
/-- an answer that is one of the objects, by its number -/
theorem r_callr {z : Nat} {a : Array Value} (X : Wd D ad cs G A s H locs M) (hr : va_Run p l e R s m args below meth c H locs 0 0 0 0 (F0 m pc ls st) rest (va_Qr (fun u => u = M) (fun u q t => Wd0 D ad cs G A u t ∧ q = ad (cO G z)) A a) A)
    (kk : ∀ (H : Heap) (locs : List Loc), Wd D ad cs G A s H locs M → W p l e R s m args below meth c H locs 0 0 Q (F0 m (pc + 3) ls (.ref (ad (cO G z)) :: rest))) : W p l e R s m args below meth c H locs 0 0 Q (F0 m pc ls st) := by
  refine va_callr hr X.2.2.1 (fun q _ h => h) (fun q h => h) (fun u q t H1 locs1 ht hvm hw hB _ _ hS1 => ?_)
  obtain ⟨hB, rfl⟩ := hB
  subst hw
  exact kk H1 locs1 (X.back hvm ht hS1 hB)
end Calls
section Entry
variable {l : Launch} {D : va_G} {ad : Nat → Nat} {cs : Nat → ClassId} {G : List Ge} {A : Nat → Prop} {M : Mem} {own : String} {y : MethodName} {cc : ByteArray} {nL fr lo : Nat} {av : List Value}
theorem ct_in {ret : Option FieldType} {Qc : Array Value → State → Outcome → State → Prop} (hy : plainName y.cls = true) (hown : y.cls = own) (hG : okG G = true) (hn : (lg_sl av).length ≤ nL)
    (body : ∀ (p : Program) (e : Env) (s : State) (m : MethodId) (args : Array Value) (below : List Frame) (meth : Method) (c : Code) (ls : Array Slot), CallFix p m c cc nL s args TS own → meth.sig.returnType = ret → meth.locks = false → Wd D ad cs G A s s.heap [] M → lv_has ls nL (lv_args 0 av) → W p l e (rmo fr lo) s m args below meth c s.heap [] 0 0 (MQ below Qc args s 0 0 A) (F0 m 0 ls [])) :
    Met l y (wsU y cc nL ret) (rmo fr lo) (va_Pc av (Wd0 D ad cs G A M)) Qc 0 0 A := by
  refine Met.ofW (cc := cc) (maxL := nL) (ret := ret) hy rfl ?_
  intro p e s m args below meth c s₁ B hml hv
  obtain ⟨rfl, hP, hK, hD, hZ⟩ := hv
  have hts0 := atoms_spec (ws := wsU y cc nL ret) B.pre
  have hts : ∀ w ∈ TS, w.before av.toArray s = true := fun w h => hts0 w (List.mem_cons_of_mem _ h)
  have ho : s.vm.findClass own = some m.cls := by rw [← hown]; exact findClass_of_methodNamed B.named
  have hl := lv_entry av (n := nL) hn
  rw [lg_entry_eq]
  exact body p e s m _ below meth c _ ⟨B.exec, B.bytes, hml, ho, hts⟩ B.returns B.notSynchronized ⟨hP, hD, va_S.rf, hK, hG, hZ⟩ hl
/-- void -/
theorem ct_v {z : Mem} (hy : plainName y.cls = true) (hown : y.cls = own) (hG : okG G = true) (hn : (lg_sl av).length ≤ nL)
    (body : ∀ (p : Program) (e : Env) (s : State) (m : MethodId) (args : Array Value) (below : List Frame) (meth : Method) (c : Code) (Q : State → Prop) (ls : Array Slot), CallFix p m c cc nL s args TS own → Wd D ad cs G A s s.heap [] M → lv_has ls nL (lv_args 0 av) → (∀ (H : Heap) (locs : List Loc) (M' : Mem) (pc : Nat) (ls : Array Slot), Wd D ad cs G A s H locs M' → M' = z → decode cc pc = .ok (.return_, 1) → W p l e (rmo fr lo) s m args below meth c H locs 0 0 Q (F0 m pc ls [])) → W p l e (rmo fr lo) s m args below meth c s.heap [] 0 0 Q (F0 m 0 ls [])) :
    Met l y (wsU y cc nL none) (rmo fr lo) (va_Pc av (Wd0 D ad cs G A M)) (va_Qv (fun u => u = z) (Wd0 D ad cs G A) A) 0 0 A := by
  refine ct_in hy hown hG hn (fun p e s m args below meth c ls F hr hlk X hl => ?_)
  refine body p e s m args below meth c _ ls F X hl (fun H locs M' pc ls X' hz hd => ?_)
  have hS := X'.2.2.1
  exact W.vret (hlocks := hlk) F.1 F.2.1 hr (fun t ht hW => ⟨⟨M', rfl, hz, X'.at ht hW⟩, hS.F ht⟩) hS.2.2 hd
theorem ct_i {z : Int32 × Mem} (hy : plainName y.cls = true) (hown : y.cls = own) (hG : okG G = true) (hn : (lg_sl av).length ≤ nL)
    (body : ∀ (p : Program) (e : Env) (s : State) (m : MethodId) (args : Array Value) (below : List Frame) (meth : Method) (c : Code) (Q : State → Prop) (ls : Array Slot), CallFix p m c cc nL s args TS own → Wd D ad cs G A s s.heap [] M → lv_has ls nL (lv_args 0 av) → (∀ (H : Heap) (locs : List Loc) (M' : Mem) (r : Int32) (pc : Nat) (ls : Array Slot), Wd D ad cs G A s H locs M' → (r, M') = z → decode cc pc = .ok (.ireturn, 1) → W p l e (rmo fr lo) s m args below meth c H locs 0 0 Q (F0 m pc ls [.int r])) → W p l e (rmo fr lo) s m args below meth c s.heap [] 0 0 Q (F0 m 0 ls [])) :
    Met l y (wsU y cc nL (some .int)) (rmo fr lo) (va_Pc av (Wd0 D ad cs G A M)) (va_Qi (fun r u => (r, u) = z) (Wd0 D ad cs G A) A) 0 0 A := by
  refine ct_in hy hown hG hn (fun p e s m args below meth c ls F hr hlk X hl => ?_)
  refine body p e s m args below meth c _ ls F X hl (fun H locs M' r pc ls X' hz hd => ?_)
  have hS := X'.2.2.1
  exact W.iret (hlocks := hlk) (v := r) F.1 F.2.1 hr (fun t ht hW => ⟨⟨r, M', rfl, hz, X'.at ht hW⟩, hS.F ht⟩) hS.2.2 hd
theorem ct_z {z : Int32 × Mem} (hy : plainName y.cls = true) (hown : y.cls = own) (hG : okG G = true) (hn : (lg_sl av).length ≤ nL)
    (body : ∀ (p : Program) (e : Env) (s : State) (m : MethodId) (args : Array Value) (below : List Frame) (meth : Method) (c : Code) (Q : State → Prop) (ls : Array Slot), CallFix p m c cc nL s args TS own → Wd D ad cs G A s s.heap [] M → lv_has ls nL (lv_args 0 av) → (∀ (H : Heap) (locs : List Loc) (M' : Mem) (r : Int32) (pc : Nat) (ls : Array Slot), Wd D ad cs G A s H locs M' → (r, M') = z → (r = 0 ∨ r = 1) → decode cc pc = .ok (.ireturn, 1) → W p l e (rmo fr lo) s m args below meth c H locs 0 0 Q (F0 m pc ls [.int r])) → W p l e (rmo fr lo) s m args below meth c s.heap [] 0 0 Q (F0 m 0 ls [])) :
    Met l y (wsU y cc nL (some .boolean)) (rmo fr lo) (va_Pc av (Wd0 D ad cs G A M)) (va_Qi (fun r u => (r, u) = z) (Wd0 D ad cs G A) A) 0 0 A := by
  refine ct_in hy hown hG hn (fun p e s m args below meth c ls F hr hlk X hl => ?_)
  refine body p e s m args below meth c _ ls F X hl (fun H locs M' r pc ls X' hz h01 hd => ?_)
  have hS := X'.2.2.1
  exact W.zret (hlocks := hlk) (v := r) F.1 F.2.1 hr (by rcases h01 with rfl | rfl <;> rfl) (fun t ht hW => ⟨⟨r, M', rfl, hz, X'.at ht hW⟩, hS.F ht⟩) hS.2.2 hd
theorem ct_l {z : Int64 × Mem} (hy : plainName y.cls = true) (hown : y.cls = own) (hG : okG G = true) (hn : (lg_sl av).length ≤ nL)
    (body : ∀ (p : Program) (e : Env) (s : State) (m : MethodId) (args : Array Value) (below : List Frame) (meth : Method) (c : Code) (Q : State → Prop) (ls : Array Slot), CallFix p m c cc nL s args TS own → Wd D ad cs G A s s.heap [] M → lv_has ls nL (lv_args 0 av) → (∀ (H : Heap) (locs : List Loc) (M' : Mem) (r : Int64) (pc : Nat) (ls : Array Slot), Wd D ad cs G A s H locs M' → (r, M') = z → decode cc pc = .ok (.lreturn, 1) → W p l e (rmo fr lo) s m args below meth c H locs 0 0 Q (F0 m pc ls [.long r])) → W p l e (rmo fr lo) s m args below meth c s.heap [] 0 0 Q (F0 m 0 ls [])) :
    Met l y (wsU y cc nL (some .long)) (rmo fr lo) (va_Pc av (Wd0 D ad cs G A M)) (va_Ql (fun r u => (r, u) = z) (Wd0 D ad cs G A) A) 0 0 A := by
  refine ct_in hy hown hG hn (fun p e s m args below meth c ls F hr hlk X hl => ?_)
  refine body p e s m args below meth c _ ls F X hl (fun H locs M' r pc ls X' hz hd => ?_)
  have hS := X'.2.2.1
  exact W.lret (hlocks := hlk) (v := r) F.1 F.2.1 hr (fun t ht hW => ⟨⟨r, M', rfl, hz, X'.at ht hW⟩, hS.F ht⟩) hS.2.2 hd
theorem ct_r {z : Nat} {C : String} (hy : plainName y.cls = true) (hown : y.cls = own) (hG : okG G = true) (hn : (lg_sl av).length ≤ nL)
    (body : ∀ (p : Program) (e : Env) (s : State) (m : MethodId) (args : Array Value) (below : List Frame) (meth : Method) (c : Code) (Q : State → Prop) (ls : Array Slot), CallFix p m c cc nL s args TS own → Wd D ad cs G A s s.heap [] M → lv_has ls nL (lv_args 0 av) → (∀ (H : Heap) (locs : List Loc) (o pc : Nat) (ls : Array Slot), Wd D ad cs G A s H locs M → o = z → decode cc pc = .ok (.areturn, 1) → W p l e (rmo fr lo) s m args below meth c H locs 0 0 Q (F0 m pc ls [.ref (ad (cO G o))])) → W p l e (rmo fr lo) s m args below meth c s.heap [] 0 0 Q (F0 m 0 ls [])) :
    Met l y (wsU y cc nL (some (.object C))) (rmo fr lo) (va_Pc av (Wd0 D ad cs G A M)) (va_Qr (fun u => u = M) (fun u q t => Wd0 D ad cs G A u t ∧ q = ad (cO G z)) A) 0 0 A := by
  refine ct_in hy hown hG hn (fun p e s m args below meth c ls F hr hlk X hl => ?_)
  refine body p e s m args below meth c _ ls F X hl (fun H locs o pc ls X' hz hd => ?_)
  have hS := X'.2.2.1
  subst hz
  exact W.aret (hlocks := hlk) (v := .ref (ad (cO G o))) F.1 F.2.1 hr (Or.inl ⟨_, rfl⟩) (Or.inr ⟨_, rfl⟩) (fun t ht hW => ⟨⟨M, ad (cO G o), rfl, rfl, X'.at ht hW, rfl⟩, hS.F ht⟩) hS.2.2 hd
end Entry
def GC : List Ge := [(0, 0, 9, 0), (0, 1, 8, 64), (0, 1, 9, 100), (0, 4, 21, 4), (1, 0, 3, 0), (1, 1, 0, 31), (2, 0, 3, 0), (2, 1, 0, 20), (3, 0, 2, 0), (3, 1, 0, 8), (3, 1, 1, 8), (3, 1, 2, 8), (3, 1, 3, 4), (3, 1, 4, 20), (4, 0, 5, 0), (4, 1, 1, 20), (4, 1, 2, 20), (4, 1, 3, 20), (4, 1, 4, 20), (4, 1, 5, 168), (4, 1, 6, 168), (4, 1, 7, 168), (5, 0, 7, 0), (5, 1, 0, 8), (5, 1, 1, 8), (5, 1, 2, 8), (6, 0, 6, 0), (6, 1, 2, 20), (7, 0, 2, 0), (7, 1, 0, 8), (7, 1, 1, 8), (7, 1, 2, 8), (7, 1, 3, 4), (7, 1, 4, 20), (8, 0, 7, 0), (8, 1, 0, 8), (8, 1, 1, 8), (8, 1, 2, 8), (9, 0, 1, 0), (9, 1, 0, 6), (10, 0, 8, 0), (10, 1, 0, 8), (10, 1, 1, 8), (11, 0, 0, 0), (11, 3, 12, 9), (11, 1, 1, 8), (11, 1, 2, 8), (12, 0, 7, 0), (12, 1, 0, 8), (12, 1, 1, 8), (12, 1, 2, 8), (13, 0, 7, 0), (13, 1, 0, 8), (13, 1, 1, 8), (13, 1, 2, 8), (14, 0, 7, 0), (14, 1, 0, 8), (14, 1, 1, 8), (14, 1, 2, 8), (15, 0, 7, 0), (15, 1, 0, 8), (15, 1, 1, 8), (15, 1, 2, 8), (16, 0, 7, 0), (16, 1, 0, 8), (16, 1, 1, 8), (16, 1, 2, 8), (17, 0, 7, 0), (17, 1, 0, 8), (17, 1, 1, 8), (17, 1, 2, 8), (18, 0, 7, 0), (18, 1, 0, 8), (18, 1, 1, 8), (18, 1, 2, 8), (19, 0, 7, 0), (19, 1, 0, 8), (19, 1, 1, 8), (19, 1, 2, 8), (20, 0, 7, 0), (20, 1, 0, 8), (20, 1, 1, 8), (20, 1, 2, 8), (21, 0, 4, 0), (21, 1, 0, 60), (22, 0, 4, 0), (22, 1, 0, 60), (23, 0, 4, 0), (23, 1, 0, 60), (24, 0, 4, 0), (24, 1, 0, 60)]
def GM : List Ge := [(0, 0, 10, 0), (0, 1, 0, 2), (0, 1, 1, 62), (0, 1, 3, 9), (0, 1, 4, 9), (0, 1, 5, 9), (0, 1, 7, 20), (0, 1, 8, 4), (0, 1, 10, 6), (0, 1, 12, 20), (0, 1, 20, 8), (0, 1, 21, 8), (0, 1, 22, 8), (0, 1, 24, 20), (0, 1, 25, 20), (0, 1, 26, 20), (0, 1, 27, 20), (0, 1, 28, 168), (0, 1, 29, 168), (0, 1, 30, 168), (0, 1, 31, 8), (0, 1, 33, 8), (0, 1, 34, 8), (0, 1, 35, 200), (0, 2, 36, 4), (0, 1, 37, 4), (0, 1, 38, 4), (0, 1, 39, 240), (0, 1, 40, 60)]
theorem okGC : okG GC = true := by decide +kernel
theorem okGM : okG GM = true := by decide +kernel
end
section
theorem tb_lt {o c : Nat} (h : GC[cO GC o]? = some (o, 0, c, 0)) : o < 25 := by
  have h2 : (o, 0, c, 0) ∈ GC := List.mem_of_getElem? h
  have h3 : ∀ q ∈ GC, q.1 < 25 := by decide +kernel
  exact h3 _ h2
theorem tm_lt {o c : Nat} (h : GM[cO GM o]? = some (o, 0, c, 0)) : o < 1 := by
  have h2 : (o, 0, c, 0) ∈ GM := List.mem_of_getElem? h
  have h3 : ∀ q ∈ GM, q.1 < 1 := by decide +kernel
  exact h3 _ h2
theorem tb_key {n d c : Nat} {G : List Ge} {rhs : Nat → Ge} (hk : (List.range n).all (fun o => !decide (G[cO G o]? = some (o, 0, c, 0)) || decide (G[cO G o + d]? = some (rhs o))) = true) {o : Nat} (ho : o < n) (h : G[cO G o]? = some (o, 0, c, 0)) : G[cO G o + d]? = some (rhs o) := by
  have h1 := List.all_eq_true.mp hk o (List.mem_range.mpr ho)
  rcases Bool.or_eq_true_iff.mp h1 with h2 | h2
  · rw [decide_eq_true h] at h2
    cases h2
  · exact of_decide_eq_true h2
theorem okL0 : okL 0 = true := by decide +kernel
theorem inT0 : ∀ w ∈ u_ws RX0 TX0 4, w ∈ TS := by
  show ∀ w ∈ [u_lay RX0 TX0 0, u_lay RX0 TX0 1, u_lay RX0 TX0 2, u_lay RX0 TX0 3], w ∈ TS
  exact List.forall_mem_cons.mpr ⟨mT2 25 rfl rfl, List.forall_mem_cons.mpr ⟨mT2 27 rfl rfl, List.forall_mem_cons.mpr ⟨mT2 29 rfl rfl, List.forall_mem_cons.mpr ⟨mT2 31 rfl rfl, fun _ h => absurd h List.not_mem_nil⟩⟩⟩⟩
theorem okL1 : okL 1 = true := by decide +kernel
theorem inT1 : ∀ w ∈ u_ws RX1 TX1 2, w ∈ TS := by
  show ∀ w ∈ [u_lay RX1 TX1 0, u_lay RX1 TX1 1], w ∈ TS
  exact List.forall_mem_cons.mpr ⟨mT1 228 rfl rfl, List.forall_mem_cons.mpr ⟨mT1 230 rfl rfl, fun _ h => absurd h List.not_mem_nil⟩⟩
theorem okL2 : okL 2 = true := by decide +kernel
theorem inT2 : ∀ w ∈ u_ws RX2 TX2 9, w ∈ TS := by
  show ∀ w ∈ [u_lay RX2 TX2 0, u_lay RX2 TX2 1, u_lay RX2 TX2 2, u_lay RX2 TX2 3, u_lay RX2 TX2 4, u_lay RX2 TX2 5, u_lay RX2 TX2 6, u_lay RX2 TX2 7, u_lay RX2 TX2 8], w ∈ TS
  exact List.forall_mem_cons.mpr ⟨mT1 75 rfl rfl, List.forall_mem_cons.mpr ⟨mT1 77 rfl rfl, List.forall_mem_cons.mpr ⟨mT1 79 rfl rfl, List.forall_mem_cons.mpr ⟨mT1 81 rfl rfl, List.forall_mem_cons.mpr ⟨mT1 83 rfl rfl, List.forall_mem_cons.mpr ⟨mT1 85 rfl rfl, List.forall_mem_cons.mpr ⟨mT1 87 rfl rfl, List.forall_mem_cons.mpr ⟨mT1 89 rfl rfl, List.forall_mem_cons.mpr ⟨mT1 91 rfl rfl, fun _ h => absurd h List.not_mem_nil⟩⟩⟩⟩⟩⟩⟩⟩⟩
theorem okL3 : okL 3 = true := by decide +kernel
theorem inT3 : ∀ w ∈ u_ws RX3 TX3 2, w ∈ TS := by
  show ∀ w ∈ [u_lay RX3 TX3 0, u_lay RX3 TX3 1], w ∈ TS
  exact List.forall_mem_cons.mpr ⟨mT1 34 rfl rfl, List.forall_mem_cons.mpr ⟨mT1 36 rfl rfl, fun _ h => absurd h List.not_mem_nil⟩⟩
theorem okL4 : okL 4 = true := by decide +kernel
theorem inT4 : ∀ w ∈ u_ws RX4 TX4 4, w ∈ TS := by
  show ∀ w ∈ [u_lay RX4 TX4 0, u_lay RX4 TX4 1, u_lay RX4 TX4 2, u_lay RX4 TX4 3], w ∈ TS
  exact List.forall_mem_cons.mpr ⟨mT2 49 rfl rfl, List.forall_mem_cons.mpr ⟨mT2 51 rfl rfl, List.forall_mem_cons.mpr ⟨mT2 53 rfl rfl, List.forall_mem_cons.mpr ⟨mT2 55 rfl rfl, fun _ h => absurd h List.not_mem_nil⟩⟩⟩⟩
theorem okL5 : okL 5 = true := by decide +kernel
theorem inT5 : ∀ w ∈ u_ws RX5 TX5 9, w ∈ TS := by
  show ∀ w ∈ [u_lay RX5 TX5 0, u_lay RX5 TX5 1, u_lay RX5 TX5 2, u_lay RX5 TX5 3, u_lay RX5 TX5 4, u_lay RX5 TX5 5, u_lay RX5 TX5 6, u_lay RX5 TX5 7, u_lay RX5 TX5 8], w ∈ TS
  exact List.forall_mem_cons.mpr ⟨mT1 175 rfl rfl, List.forall_mem_cons.mpr ⟨mT1 177 rfl rfl, List.forall_mem_cons.mpr ⟨mT1 179 rfl rfl, List.forall_mem_cons.mpr ⟨mT1 181 rfl rfl, List.forall_mem_cons.mpr ⟨mT1 183 rfl rfl, List.forall_mem_cons.mpr ⟨mT1 185 rfl rfl, List.forall_mem_cons.mpr ⟨mT1 187 rfl rfl, List.forall_mem_cons.mpr ⟨mT1 189 rfl rfl, List.forall_mem_cons.mpr ⟨mT1 191 rfl rfl, fun _ h => absurd h List.not_mem_nil⟩⟩⟩⟩⟩⟩⟩⟩⟩
theorem okL6 : okL 6 = true := by decide +kernel
theorem inT6 : ∀ w ∈ u_ws RX6 TX6 3, w ∈ TS := by
  show ∀ w ∈ [u_lay RX6 TX6 0, u_lay RX6 TX6 1, u_lay RX6 TX6 2], w ∈ TS
  exact List.forall_mem_cons.mpr ⟨mT1 212 rfl rfl, List.forall_mem_cons.mpr ⟨mT1 214 rfl rfl, List.forall_mem_cons.mpr ⟨mT1 216 rfl rfl, fun _ h => absurd h List.not_mem_nil⟩⟩⟩
theorem okL7 : okL 7 = true := by decide +kernel
theorem inT7 : ∀ w ∈ u_ws RX7 TX7 12, w ∈ TS := by
  show ∀ w ∈ [u_lay RX7 TX7 0, u_lay RX7 TX7 1, u_lay RX7 TX7 2, u_lay RX7 TX7 3, u_lay RX7 TX7 4, u_lay RX7 TX7 5, u_lay RX7 TX7 6, u_lay RX7 TX7 7, u_lay RX7 TX7 8, u_lay RX7 TX7 9, u_lay RX7 TX7 10, u_lay RX7 TX7 11], w ∈ TS
  exact List.forall_mem_cons.mpr ⟨mT1 132 rfl rfl, List.forall_mem_cons.mpr ⟨mT1 134 rfl rfl, List.forall_mem_cons.mpr ⟨mT1 136 rfl rfl, List.forall_mem_cons.mpr ⟨mT1 138 rfl rfl, List.forall_mem_cons.mpr ⟨mT1 140 rfl rfl, List.forall_mem_cons.mpr ⟨mT1 142 rfl rfl, List.forall_mem_cons.mpr ⟨mT1 144 rfl rfl, List.forall_mem_cons.mpr ⟨mT1 146 rfl rfl, List.forall_mem_cons.mpr ⟨mT1 148 rfl rfl, List.forall_mem_cons.mpr ⟨mT1 150 rfl rfl, List.forall_mem_cons.mpr ⟨mT1 152 rfl rfl, List.forall_mem_cons.mpr ⟨mT1 154 rfl rfl, fun _ h => absurd h List.not_mem_nil⟩⟩⟩⟩⟩⟩⟩⟩⟩⟩⟩⟩
theorem okL8 : okL 8 = true := by decide +kernel
theorem inT8 : ∀ w ∈ u_ws RX8 TX8 3, w ∈ TS := by
  show ∀ w ∈ [u_lay RX8 TX8 0, u_lay RX8 TX8 1, u_lay RX8 TX8 2], w ∈ TS
  exact List.forall_mem_cons.mpr ⟨mT2 3 rfl rfl, List.forall_mem_cons.mpr ⟨mT2 5 rfl rfl, List.forall_mem_cons.mpr ⟨mT2 7 rfl rfl, fun _ h => absurd h List.not_mem_nil⟩⟩⟩
theorem okL9 : okL 9 = true := by decide +kernel
theorem inT9 : ∀ w ∈ u_ws RX9 TX9 14, w ∈ TS := by
  show ∀ w ∈ [u_lay RX9 TX9 0, u_lay RX9 TX9 1, u_lay RX9 TX9 2, u_lay RX9 TX9 3, u_lay RX9 TX9 4, u_lay RX9 TX9 5, u_lay RX9 TX9 6, u_lay RX9 TX9 7, u_lay RX9 TX9 8, u_lay RX9 TX9 9, u_lay RX9 TX9 10, u_lay RX9 TX9 11, u_lay RX9 TX9 12, u_lay RX9 TX9 13], w ∈ TS
  exact List.forall_mem_cons.mpr ⟨mT2 77 rfl rfl, List.forall_mem_cons.mpr ⟨mT2 79 rfl rfl, List.forall_mem_cons.mpr ⟨mT2 81 rfl rfl, List.forall_mem_cons.mpr ⟨mT2 83 rfl rfl, List.forall_mem_cons.mpr ⟨mT2 85 rfl rfl, List.forall_mem_cons.mpr ⟨mT2 87 rfl rfl, List.forall_mem_cons.mpr ⟨mT2 89 rfl rfl, List.forall_mem_cons.mpr ⟨mT2 91 rfl rfl, List.forall_mem_cons.mpr ⟨mT2 93 rfl rfl, List.forall_mem_cons.mpr ⟨mT2 95 rfl rfl, List.forall_mem_cons.mpr ⟨mT2 97 rfl rfl, List.forall_mem_cons.mpr ⟨mT2 99 rfl rfl, List.forall_mem_cons.mpr ⟨mT2 101 rfl rfl, List.forall_mem_cons.mpr ⟨mT2 103 rfl rfl, fun _ h => absurd h List.not_mem_nil⟩⟩⟩⟩⟩⟩⟩⟩⟩⟩⟩⟩⟩⟩
theorem okL10 : okL 10 = true := by decide +kernel
theorem inT10 : ∀ w ∈ u_ws RX10 TX10 42, w ∈ TS := by
  show ∀ w ∈ [u_lay RX10 TX10 0, u_lay RX10 TX10 1, u_lay RX10 TX10 2, u_lay RX10 TX10 3, u_lay RX10 TX10 4, u_lay RX10 TX10 5, u_lay RX10 TX10 6, u_lay RX10 TX10 7, u_lay RX10 TX10 8, u_lay RX10 TX10 9, u_lay RX10 TX10 10, u_lay RX10 TX10 11, u_lay RX10 TX10 12, u_lay RX10 TX10 13, u_lay RX10 TX10 14, u_lay RX10 TX10 15, u_lay RX10 TX10 16, u_lay RX10 TX10 17, u_lay RX10 TX10 18, u_lay RX10 TX10 19, u_lay RX10 TX10 20, u_lay RX10 TX10 21, u_lay RX10 TX10 22, u_lay RX10 TX10 23, u_lay RX10 TX10 24, u_lay RX10 TX10 25, u_lay RX10 TX10 26, u_lay RX10 TX10 27, u_lay RX10 TX10 28, u_lay RX10 TX10 29, u_lay RX10 TX10 30, u_lay RX10 TX10 31, u_lay RX10 TX10 32, u_lay RX10 TX10 33, u_lay RX10 TX10 34, u_lay RX10 TX10 35, u_lay RX10 TX10 36, u_lay RX10 TX10 37, u_lay RX10 TX10 38, u_lay RX10 TX10 39, u_lay RX10 TX10 40, u_lay RX10 TX10 41], w ∈ TS
  exact List.forall_mem_cons.mpr ⟨mT4 98 rfl rfl, List.forall_mem_cons.mpr ⟨mT4 100 rfl rfl, List.forall_mem_cons.mpr ⟨mT4 102 rfl rfl, List.forall_mem_cons.mpr ⟨mT4 104 rfl rfl, List.forall_mem_cons.mpr ⟨mT4 106 rfl rfl, List.forall_mem_cons.mpr ⟨mT4 108 rfl rfl, List.forall_mem_cons.mpr ⟨mT4 110 rfl rfl, List.forall_mem_cons.mpr ⟨mT4 112 rfl rfl, List.forall_mem_cons.mpr ⟨mT4 114 rfl rfl, List.forall_mem_cons.mpr ⟨mT4 116 rfl rfl, List.forall_mem_cons.mpr ⟨mT4 118 rfl rfl, List.forall_mem_cons.mpr ⟨mT4 120 rfl rfl, List.forall_mem_cons.mpr ⟨mT4 122 rfl rfl, List.forall_mem_cons.mpr ⟨mT4 124 rfl rfl, List.forall_mem_cons.mpr ⟨mT4 126 rfl rfl, List.forall_mem_cons.mpr ⟨mT4 128 rfl rfl, List.forall_mem_cons.mpr ⟨mT4 130 rfl rfl, List.forall_mem_cons.mpr ⟨mT4 132 rfl rfl, List.forall_mem_cons.mpr ⟨mT4 134 rfl rfl, List.forall_mem_cons.mpr ⟨mT4 136 rfl rfl, List.forall_mem_cons.mpr ⟨mT4 138 rfl rfl, List.forall_mem_cons.mpr ⟨mT4 140 rfl rfl, List.forall_mem_cons.mpr ⟨mT4 142 rfl rfl, List.forall_mem_cons.mpr ⟨mT4 144 rfl rfl, List.forall_mem_cons.mpr ⟨mT4 146 rfl rfl, List.forall_mem_cons.mpr ⟨mT4 148 rfl rfl, List.forall_mem_cons.mpr ⟨mT4 150 rfl rfl, List.forall_mem_cons.mpr ⟨mT4 152 rfl rfl, List.forall_mem_cons.mpr ⟨mT4 154 rfl rfl, List.forall_mem_cons.mpr ⟨mT4 156 rfl rfl, List.forall_mem_cons.mpr ⟨mT4 158 rfl rfl, List.forall_mem_cons.mpr ⟨mT4 160 rfl rfl, List.forall_mem_cons.mpr ⟨mT4 162 rfl rfl, List.forall_mem_cons.mpr ⟨mT4 164 rfl rfl, List.forall_mem_cons.mpr ⟨mT4 166 rfl rfl, List.forall_mem_cons.mpr ⟨mT4 168 rfl rfl, List.forall_mem_cons.mpr ⟨mT4 170 rfl rfl, List.forall_mem_cons.mpr ⟨mT4 172 rfl rfl, List.forall_mem_cons.mpr ⟨mT4 174 rfl rfl, List.forall_mem_cons.mpr ⟨mT4 176 rfl rfl, List.forall_mem_cons.mpr ⟨mT4 178 rfl rfl, List.forall_mem_cons.mpr ⟨mT4 180 rfl rfl, fun _ h => absurd h List.not_mem_nil⟩⟩⟩⟩⟩⟩⟩⟩⟩⟩⟩⟩⟩⟩⟩⟩⟩⟩⟩⟩⟩⟩⟩⟩⟩⟩⟩⟩⟩⟩⟩⟩⟩⟩⟩⟩⟩⟩⟩⟩⟩⟩
section Links
variable {p : Program} {l : Launch} {e : Env} {R : Room} {s : State} {m : MethodId} {args : Array Value} {below : List Frame} {meth : Method} {c : Code} {H : Heap} {locs : List Loc} {cells slots : Nat} {Q : State → Prop}
variable {cc : ByteArray} {nL pc : Nat} {ls : Array Slot} {rest : List Value} {D : va_G} {ad : Nat → Nat} {cs : Nat → ClassId} {G : List Ge} {A : Nat → Prop} {M : Mem}
theorem gf_X3_15 (F : CallFix p m c cc nL s args TS RX3) (X : Wd D ad cs G A s H locs M) {k o : Nat} (hk : G[k]? = some (o, 0, 3, 0)) (hd : decode cc pc = .ok (.getfield 15, 3)) (kk : W p l e R s m args below meth c H locs cells slots Q (F0 m (pc + 3) ls (.ref (ad (k + 1)) :: rest))) : W p l e R s m args below meth c H locs cells slots Q (F0 m pc ls (.ref (ad k) :: rest)) := r_get F X hk (C := RX3) (T := TX3) (N := 2) rfl inT3 0 (by decide) rfl (mT1 29 rfl rfl) rfl hd kk
theorem gf_X2_49 (F : CallFix p m c cc nL s args TS RX2) (X : Wd D ad cs G A s H locs M) {k o : Nat} (hk : G[k]? = some (o, 0, 3, 0)) (hd : decode cc pc = .ok (.getfield 49, 3)) (kk : W p l e R s m args below meth c H locs cells slots Q (F0 m (pc + 3) ls (.ref (ad (k + 1)) :: rest))) : W p l e R s m args below meth c H locs cells slots Q (F0 m pc ls (.ref (ad k) :: rest)) := r_get F X hk (C := RX3) (T := TX3) (N := 2) rfl inT3 0 (by decide) rfl (mT1 30 rfl rfl) rfl hd kk
theorem gf_X3_9 (F : CallFix p m c cc nL s args TS RX3) (X : Wd D ad cs G A s H locs M) {k o : Nat} (hk : G[k]? = some (o, 0, 3, 0)) (hd : decode cc pc = .ok (.getfield 9, 3)) (kk : W p l e R s m args below meth c H locs cells slots Q (F0 m (pc + 3) ls (.int (M o 1 0) :: rest))) : W p l e R s m args below meth c H locs cells slots Q (F0 m pc ls (.ref (ad k) :: rest)) := r_get F X hk (C := RX3) (T := TX3) (N := 2) rfl inT3 1 (by decide) rfl (mT1 31 rfl rfl) rfl hd kk
theorem pf_X3_9 (F : CallFix p m c cc nL s args TS RX3) (X : Wd D ad cs G A s H locs M) {k o : Nat} (hk : G[k]? = some (o, 0, 3, 0)) {v : Int32} (hd : decode cc pc = .ok (.putfield 9, 3)) (kk : ∀ (H : Heap) (locs : List Loc), Wd D ad cs G A s H locs (wr M o 1 0 v) → W p l e R s m args below meth c H locs cells slots Q (F0 m (pc + 3) ls rest)) : W p l e R s m args below meth c H locs cells slots Q (F0 m pc ls (.int v :: .ref (ad k) :: rest)) := r_puti F X hk (C := RX3) (T := TX3) (N := 2) (ty := .int) rfl inT3 tyX3 tyX3_ok nmX3 1 (by decide) rfl (mT1 31 rfl rfl) rfl (by decide +kernel) rfl rfl okL3 rfl hd kk
theorem gf_X2_46 (F : CallFix p m c cc nL s args TS RX2) (X : Wd D ad cs G A s H locs M) {k o : Nat} (hk : G[k]? = some (o, 0, 3, 0)) (hd : decode cc pc = .ok (.getfield 46, 3)) (kk : W p l e R s m args below meth c H locs cells slots Q (F0 m (pc + 3) ls (.int (M o 1 0) :: rest))) : W p l e R s m args below meth c H locs cells slots Q (F0 m pc ls (.ref (ad k) :: rest)) := r_get F X hk (C := RX3) (T := TX3) (N := 2) rfl inT3 1 (by decide) rfl (mT1 32 rfl rfl) rfl hd kk
theorem pf_X2_46 (F : CallFix p m c cc nL s args TS RX2) (X : Wd D ad cs G A s H locs M) {k o : Nat} (hk : G[k]? = some (o, 0, 3, 0)) {v : Int32} (hd : decode cc pc = .ok (.putfield 46, 3)) (kk : ∀ (H : Heap) (locs : List Loc), Wd D ad cs G A s H locs (wr M o 1 0 v) → W p l e R s m args below meth c H locs cells slots Q (F0 m (pc + 3) ls rest)) : W p l e R s m args below meth c H locs cells slots Q (F0 m pc ls (.int v :: .ref (ad k) :: rest)) := r_puti F X hk (C := RX3) (T := TX3) (N := 2) (ty := .int) rfl inT3 tyX3 tyX3_ok nmX3 1 (by decide) rfl (mT1 32 rfl rfl) rfl (by decide +kernel) rfl rfl okL3 rfl hd kk
theorem gf_X9_122 (F : CallFix p m c cc nL s args TS RX9) (X : Wd D ad cs G A s H locs M) {k o : Nat} (hk : G[k]? = some (o, 0, 3, 0)) (hd : decode cc pc = .ok (.getfield 122, 3)) (kk : W p l e R s m args below meth c H locs cells slots Q (F0 m (pc + 3) ls (.int (M o 1 0) :: rest))) : W p l e R s m args below meth c H locs cells slots Q (F0 m pc ls (.ref (ad k) :: rest)) := r_get F X hk (C := RX3) (T := TX3) (N := 2) rfl inT3 1 (by decide) rfl (mT1 33 rfl rfl) rfl hd kk
theorem pf_X9_122 (F : CallFix p m c cc nL s args TS RX9) (X : Wd D ad cs G A s H locs M) {k o : Nat} (hk : G[k]? = some (o, 0, 3, 0)) {v : Int32} (hd : decode cc pc = .ok (.putfield 122, 3)) (kk : ∀ (H : Heap) (locs : List Loc), Wd D ad cs G A s H locs (wr M o 1 0 v) → W p l e R s m args below meth c H locs cells slots Q (F0 m (pc + 3) ls rest)) : W p l e R s m args below meth c H locs cells slots Q (F0 m pc ls (.int v :: .ref (ad k) :: rest)) := r_puti F X hk (C := RX3) (T := TX3) (N := 2) (ty := .int) rfl inT3 tyX3 tyX3_ok nmX3 1 (by decide) rfl (mT1 33 rfl rfl) rfl (by decide +kernel) rfl rfl okL3 rfl hd kk
theorem gf_X2_9 (F : CallFix p m c cc nL s args TS RX2) (X : Wd D ad cs G A s H locs M) {k o : Nat} (hk : G[k]? = some (o, 0, 2, 0)) (hd : decode cc pc = .ok (.getfield 9, 3)) (kk : W p l e R s m args below meth c H locs cells slots Q (F0 m (pc + 3) ls (.ref (ad (k + 1)) :: rest))) : W p l e R s m args below meth c H locs cells slots Q (F0 m pc ls (.ref (ad k) :: rest)) := r_get F X hk (C := RX2) (T := TX2) (N := 9) rfl inT2 0 (by decide) rfl (mT1 46 rfl rfl) rfl hd kk
theorem gf_X9_135 (F : CallFix p m c cc nL s args TS RX9) (X : Wd D ad cs G A s H locs M) {k o : Nat} (hk : G[k]? = some (o, 0, 2, 0)) (hd : decode cc pc = .ok (.getfield 135, 3)) (kk : W p l e R s m args below meth c H locs cells slots Q (F0 m (pc + 3) ls (.ref (ad (k + 1)) :: rest))) : W p l e R s m args below meth c H locs cells slots Q (F0 m pc ls (.ref (ad k) :: rest)) := r_get F X hk (C := RX2) (T := TX2) (N := 9) rfl inT2 0 (by decide) rfl (mT1 47 rfl rfl) rfl hd kk
theorem gf_X2_15 (F : CallFix p m c cc nL s args TS RX2) (X : Wd D ad cs G A s H locs M) {k o : Nat} (hk : G[k]? = some (o, 0, 2, 0)) (hd : decode cc pc = .ok (.getfield 15, 3)) (kk : W p l e R s m args below meth c H locs cells slots Q (F0 m (pc + 3) ls (.ref (ad (k + 2)) :: rest))) : W p l e R s m args below meth c H locs cells slots Q (F0 m pc ls (.ref (ad k) :: rest)) := r_get F X hk (C := RX2) (T := TX2) (N := 9) rfl inT2 1 (by decide) rfl (mT1 48 rfl rfl) rfl hd kk
theorem gf_X7_87 (F : CallFix p m c cc nL s args TS RX7) (X : Wd D ad cs G A s H locs M) {k o : Nat} (hk : G[k]? = some (o, 0, 2, 0)) (hd : decode cc pc = .ok (.getfield 87, 3)) (kk : W p l e R s m args below meth c H locs cells slots Q (F0 m (pc + 3) ls (.ref (ad (k + 2)) :: rest))) : W p l e R s m args below meth c H locs cells slots Q (F0 m pc ls (.ref (ad k) :: rest)) := r_get F X hk (C := RX2) (T := TX2) (N := 9) rfl inT2 1 (by decide) rfl (mT1 49 rfl rfl) rfl hd kk
theorem gf_X9_138 (F : CallFix p m c cc nL s args TS RX9) (X : Wd D ad cs G A s H locs M) {k o : Nat} (hk : G[k]? = some (o, 0, 2, 0)) (hd : decode cc pc = .ok (.getfield 138, 3)) (kk : W p l e R s m args below meth c H locs cells slots Q (F0 m (pc + 3) ls (.ref (ad (k + 2)) :: rest))) : W p l e R s m args below meth c H locs cells slots Q (F0 m pc ls (.ref (ad k) :: rest)) := r_get F X hk (C := RX2) (T := TX2) (N := 9) rfl inT2 1 (by decide) rfl (mT1 50 rfl rfl) rfl hd kk
theorem gf_X2_18 (F : CallFix p m c cc nL s args TS RX2) (X : Wd D ad cs G A s H locs M) {k o : Nat} (hk : G[k]? = some (o, 0, 2, 0)) (hd : decode cc pc = .ok (.getfield 18, 3)) (kk : W p l e R s m args below meth c H locs cells slots Q (F0 m (pc + 3) ls (.ref (ad (k + 3)) :: rest))) : W p l e R s m args below meth c H locs cells slots Q (F0 m pc ls (.ref (ad k) :: rest)) := r_get F X hk (C := RX2) (T := TX2) (N := 9) rfl inT2 2 (by decide) rfl (mT1 51 rfl rfl) rfl hd kk
theorem gf_X7_55 (F : CallFix p m c cc nL s args TS RX7) (X : Wd D ad cs G A s H locs M) {k o : Nat} (hk : G[k]? = some (o, 0, 2, 0)) (hd : decode cc pc = .ok (.getfield 55, 3)) (kk : W p l e R s m args below meth c H locs cells slots Q (F0 m (pc + 3) ls (.ref (ad (k + 3)) :: rest))) : W p l e R s m args below meth c H locs cells slots Q (F0 m pc ls (.ref (ad k) :: rest)) := r_get F X hk (C := RX2) (T := TX2) (N := 9) rfl inT2 2 (by decide) rfl (mT1 52 rfl rfl) rfl hd kk
theorem gf_X9_141 (F : CallFix p m c cc nL s args TS RX9) (X : Wd D ad cs G A s H locs M) {k o : Nat} (hk : G[k]? = some (o, 0, 2, 0)) (hd : decode cc pc = .ok (.getfield 141, 3)) (kk : W p l e R s m args below meth c H locs cells slots Q (F0 m (pc + 3) ls (.ref (ad (k + 3)) :: rest))) : W p l e R s m args below meth c H locs cells slots Q (F0 m pc ls (.ref (ad k) :: rest)) := r_get F X hk (C := RX2) (T := TX2) (N := 9) rfl inT2 2 (by decide) rfl (mT1 53 rfl rfl) rfl hd kk
theorem gf_X2_21 (F : CallFix p m c cc nL s args TS RX2) (X : Wd D ad cs G A s H locs M) {k o : Nat} (hk : G[k]? = some (o, 0, 2, 0)) (hd : decode cc pc = .ok (.getfield 21, 3)) (kk : W p l e R s m args below meth c H locs cells slots Q (F0 m (pc + 3) ls (.ref (ad (k + 4)) :: rest))) : W p l e R s m args below meth c H locs cells slots Q (F0 m pc ls (.ref (ad k) :: rest)) := r_get F X hk (C := RX2) (T := TX2) (N := 9) rfl inT2 3 (by decide) rfl (mT1 54 rfl rfl) rfl hd kk
theorem gf_X9_91 (F : CallFix p m c cc nL s args TS RX9) (X : Wd D ad cs G A s H locs M) {k o : Nat} (hk : G[k]? = some (o, 0, 2, 0)) (hd : decode cc pc = .ok (.getfield 91, 3)) (kk : W p l e R s m args below meth c H locs cells slots Q (F0 m (pc + 3) ls (.ref (ad (k + 4)) :: rest))) : W p l e R s m args below meth c H locs cells slots Q (F0 m pc ls (.ref (ad k) :: rest)) := r_get F X hk (C := RX2) (T := TX2) (N := 9) rfl inT2 3 (by decide) rfl (mT1 55 rfl rfl) rfl hd kk
theorem gf_X7_67 (F : CallFix p m c cc nL s args TS RX7) (X : Wd D ad cs G A s H locs M) {k o : Nat} (hk : G[k]? = some (o, 0, 2, 0)) (hd : decode cc pc = .ok (.getfield 67, 3)) (kk : W p l e R s m args below meth c H locs cells slots Q (F0 m (pc + 3) ls (.ref (ad (k + 4)) :: rest))) : W p l e R s m args below meth c H locs cells slots Q (F0 m pc ls (.ref (ad k) :: rest)) := r_get F X hk (C := RX2) (T := TX2) (N := 9) rfl inT2 3 (by decide) rfl (mT1 56 rfl rfl) rfl hd kk
theorem gf_X2_24 (F : CallFix p m c cc nL s args TS RX2) (X : Wd D ad cs G A s H locs M) {k o : Nat} (hk : G[k]? = some (o, 0, 2, 0)) (hd : decode cc pc = .ok (.getfield 24, 3)) (kk : W p l e R s m args below meth c H locs cells slots Q (F0 m (pc + 3) ls (.ref (ad (k + 5)) :: rest))) : W p l e R s m args below meth c H locs cells slots Q (F0 m pc ls (.ref (ad k) :: rest)) := r_get F X hk (C := RX2) (T := TX2) (N := 9) rfl inT2 4 (by decide) rfl (mT1 57 rfl rfl) rfl hd kk
theorem gf_X5_59 (F : CallFix p m c cc nL s args TS RX5) (X : Wd D ad cs G A s H locs M) {k o : Nat} (hk : G[k]? = some (o, 0, 2, 0)) (hd : decode cc pc = .ok (.getfield 59, 3)) (kk : W p l e R s m args below meth c H locs cells slots Q (F0 m (pc + 3) ls (.ref (ad (k + 5)) :: rest))) : W p l e R s m args below meth c H locs cells slots Q (F0 m pc ls (.ref (ad k) :: rest)) := r_get F X hk (C := RX2) (T := TX2) (N := 9) rfl inT2 4 (by decide) rfl (mT1 58 rfl rfl) rfl hd kk
theorem gf_X6_40 (F : CallFix p m c cc nL s args TS RX6) (X : Wd D ad cs G A s H locs M) {k o : Nat} (hk : G[k]? = some (o, 0, 2, 0)) (hd : decode cc pc = .ok (.getfield 40, 3)) (kk : W p l e R s m args below meth c H locs cells slots Q (F0 m (pc + 3) ls (.ref (ad (k + 5)) :: rest))) : W p l e R s m args below meth c H locs cells slots Q (F0 m pc ls (.ref (ad k) :: rest)) := r_get F X hk (C := RX2) (T := TX2) (N := 9) rfl inT2 4 (by decide) rfl (mT1 59 rfl rfl) rfl hd kk
theorem gf_X9_147 (F : CallFix p m c cc nL s args TS RX9) (X : Wd D ad cs G A s H locs M) {k o : Nat} (hk : G[k]? = some (o, 0, 2, 0)) (hd : decode cc pc = .ok (.getfield 147, 3)) (kk : W p l e R s m args below meth c H locs cells slots Q (F0 m (pc + 3) ls (.ref (ad (k + 5)) :: rest))) : W p l e R s m args below meth c H locs cells slots Q (F0 m pc ls (.ref (ad k) :: rest)) := r_get F X hk (C := RX2) (T := TX2) (N := 9) rfl inT2 4 (by decide) rfl (mT1 60 rfl rfl) rfl hd kk
theorem gf_X2_27 (F : CallFix p m c cc nL s args TS RX2) (X : Wd D ad cs G A s H locs M) {k o : Nat} (hk : G[k]? = some (o, 0, 2, 0)) (hd : decode cc pc = .ok (.getfield 27, 3)) (kk : W p l e R s m args below meth c H locs cells slots Q (F0 m (pc + 3) ls (.int (M o 5 0) :: rest))) : W p l e R s m args below meth c H locs cells slots Q (F0 m pc ls (.ref (ad k) :: rest)) := r_get F X hk (C := RX2) (T := TX2) (N := 9) rfl inT2 5 (by decide) rfl (mT1 61 rfl rfl) rfl hd kk
theorem pf_X2_27 (F : CallFix p m c cc nL s args TS RX2) (X : Wd D ad cs G A s H locs M) {k o : Nat} (hk : G[k]? = some (o, 0, 2, 0)) {v : Int32} (hd : decode cc pc = .ok (.putfield 27, 3)) (kk : ∀ (H : Heap) (locs : List Loc), Wd D ad cs G A s H locs (wr M o 5 0 v) → W p l e R s m args below meth c H locs cells slots Q (F0 m (pc + 3) ls rest)) : W p l e R s m args below meth c H locs cells slots Q (F0 m pc ls (.int v :: .ref (ad k) :: rest)) := r_puti F X hk (C := RX2) (T := TX2) (N := 9) (ty := .int) rfl inT2 tyX2 tyX2_ok nmX2 5 (by decide) rfl (mT1 61 rfl rfl) rfl (by decide +kernel) rfl rfl okL2 rfl hd kk
theorem gf_X7_66 (F : CallFix p m c cc nL s args TS RX7) (X : Wd D ad cs G A s H locs M) {k o : Nat} (hk : G[k]? = some (o, 0, 2, 0)) (hd : decode cc pc = .ok (.getfield 66, 3)) (kk : W p l e R s m args below meth c H locs cells slots Q (F0 m (pc + 3) ls (.int (M o 5 0) :: rest))) : W p l e R s m args below meth c H locs cells slots Q (F0 m pc ls (.ref (ad k) :: rest)) := r_get F X hk (C := RX2) (T := TX2) (N := 9) rfl inT2 5 (by decide) rfl (mT1 62 rfl rfl) rfl hd kk
theorem pf_X7_66 (F : CallFix p m c cc nL s args TS RX7) (X : Wd D ad cs G A s H locs M) {k o : Nat} (hk : G[k]? = some (o, 0, 2, 0)) {v : Int32} (hd : decode cc pc = .ok (.putfield 66, 3)) (kk : ∀ (H : Heap) (locs : List Loc), Wd D ad cs G A s H locs (wr M o 5 0 v) → W p l e R s m args below meth c H locs cells slots Q (F0 m (pc + 3) ls rest)) : W p l e R s m args below meth c H locs cells slots Q (F0 m pc ls (.int v :: .ref (ad k) :: rest)) := r_puti F X hk (C := RX2) (T := TX2) (N := 9) (ty := .int) rfl inT2 tyX2 tyX2_ok nmX2 5 (by decide) rfl (mT1 62 rfl rfl) rfl (by decide +kernel) rfl rfl okL2 rfl hd kk
theorem gf_X0_37 (F : CallFix p m c cc nL s args TS RX0) (X : Wd D ad cs G A s H locs M) {k o : Nat} (hk : G[k]? = some (o, 0, 2, 0)) (hd : decode cc pc = .ok (.getfield 37, 3)) (kk : W p l e R s m args below meth c H locs cells slots Q (F0 m (pc + 3) ls (.int (M o 5 0) :: rest))) : W p l e R s m args below meth c H locs cells slots Q (F0 m pc ls (.ref (ad k) :: rest)) := r_get F X hk (C := RX2) (T := TX2) (N := 9) rfl inT2 5 (by decide) rfl (mT1 63 rfl rfl) rfl hd kk
theorem pf_X0_37 (F : CallFix p m c cc nL s args TS RX0) (X : Wd D ad cs G A s H locs M) {k o : Nat} (hk : G[k]? = some (o, 0, 2, 0)) {v : Int32} (hd : decode cc pc = .ok (.putfield 37, 3)) (kk : ∀ (H : Heap) (locs : List Loc), Wd D ad cs G A s H locs (wr M o 5 0 v) → W p l e R s m args below meth c H locs cells slots Q (F0 m (pc + 3) ls rest)) : W p l e R s m args below meth c H locs cells slots Q (F0 m pc ls (.int v :: .ref (ad k) :: rest)) := r_puti F X hk (C := RX2) (T := TX2) (N := 9) (ty := .int) rfl inT2 tyX2 tyX2_ok nmX2 5 (by decide) rfl (mT1 63 rfl rfl) rfl (by decide +kernel) rfl rfl okL2 rfl hd kk
theorem gf_X9_232 (F : CallFix p m c cc nL s args TS RX9) (X : Wd D ad cs G A s H locs M) {k o : Nat} (hk : G[k]? = some (o, 0, 2, 0)) (hd : decode cc pc = .ok (.getfield 232, 3)) (kk : W p l e R s m args below meth c H locs cells slots Q (F0 m (pc + 3) ls (.int (M o 5 0) :: rest))) : W p l e R s m args below meth c H locs cells slots Q (F0 m pc ls (.ref (ad k) :: rest)) := r_get F X hk (C := RX2) (T := TX2) (N := 9) rfl inT2 5 (by decide) rfl (mT1 64 rfl rfl) rfl hd kk
theorem pf_X9_232 (F : CallFix p m c cc nL s args TS RX9) (X : Wd D ad cs G A s H locs M) {k o : Nat} (hk : G[k]? = some (o, 0, 2, 0)) {v : Int32} (hd : decode cc pc = .ok (.putfield 232, 3)) (kk : ∀ (H : Heap) (locs : List Loc), Wd D ad cs G A s H locs (wr M o 5 0 v) → W p l e R s m args below meth c H locs cells slots Q (F0 m (pc + 3) ls rest)) : W p l e R s m args below meth c H locs cells slots Q (F0 m pc ls (.int v :: .ref (ad k) :: rest)) := r_puti F X hk (C := RX2) (T := TX2) (N := 9) (ty := .int) rfl inT2 tyX2 tyX2_ok nmX2 5 (by decide) rfl (mT1 64 rfl rfl) rfl (by decide +kernel) rfl rfl okL2 rfl hd kk
theorem gf_X2_31 (F : CallFix p m c cc nL s args TS RX2) (X : Wd D ad cs G A s H locs M) {k o : Nat} (hk : G[k]? = some (o, 0, 2, 0)) (hd : decode cc pc = .ok (.getfield 31, 3)) (kk : W p l e R s m args below meth c H locs cells slots Q (F0 m (pc + 3) ls (.int (M o 6 0) :: rest))) : W p l e R s m args below meth c H locs cells slots Q (F0 m pc ls (.ref (ad k) :: rest)) := r_get F X hk (C := RX2) (T := TX2) (N := 9) rfl inT2 6 (by decide) rfl (mT1 65 rfl rfl) rfl hd kk
theorem pf_X2_31 (F : CallFix p m c cc nL s args TS RX2) (X : Wd D ad cs G A s H locs M) {k o : Nat} (hk : G[k]? = some (o, 0, 2, 0)) {v : Int32} (hd : decode cc pc = .ok (.putfield 31, 3)) (kk : ∀ (H : Heap) (locs : List Loc), Wd D ad cs G A s H locs (wr M o 6 0 v) → W p l e R s m args below meth c H locs cells slots Q (F0 m (pc + 3) ls rest)) : W p l e R s m args below meth c H locs cells slots Q (F0 m pc ls (.int v :: .ref (ad k) :: rest)) := r_puti F X hk (C := RX2) (T := TX2) (N := 9) (ty := .int) rfl inT2 tyX2 tyX2_ok nmX2 6 (by decide) rfl (mT1 65 rfl rfl) rfl (by decide +kernel) rfl rfl okL2 rfl hd kk
theorem gf_X5_52 (F : CallFix p m c cc nL s args TS RX5) (X : Wd D ad cs G A s H locs M) {k o : Nat} (hk : G[k]? = some (o, 0, 2, 0)) (hd : decode cc pc = .ok (.getfield 52, 3)) (kk : W p l e R s m args below meth c H locs cells slots Q (F0 m (pc + 3) ls (.int (M o 6 0) :: rest))) : W p l e R s m args below meth c H locs cells slots Q (F0 m pc ls (.ref (ad k) :: rest)) := r_get F X hk (C := RX2) (T := TX2) (N := 9) rfl inT2 6 (by decide) rfl (mT1 66 rfl rfl) rfl hd kk
theorem pf_X5_52 (F : CallFix p m c cc nL s args TS RX5) (X : Wd D ad cs G A s H locs M) {k o : Nat} (hk : G[k]? = some (o, 0, 2, 0)) {v : Int32} (hd : decode cc pc = .ok (.putfield 52, 3)) (kk : ∀ (H : Heap) (locs : List Loc), Wd D ad cs G A s H locs (wr M o 6 0 v) → W p l e R s m args below meth c H locs cells slots Q (F0 m (pc + 3) ls rest)) : W p l e R s m args below meth c H locs cells slots Q (F0 m pc ls (.int v :: .ref (ad k) :: rest)) := r_puti F X hk (C := RX2) (T := TX2) (N := 9) (ty := .int) rfl inT2 tyX2 tyX2_ok nmX2 6 (by decide) rfl (mT1 66 rfl rfl) rfl (by decide +kernel) rfl rfl okL2 rfl hd kk
theorem gf_X6_36 (F : CallFix p m c cc nL s args TS RX6) (X : Wd D ad cs G A s H locs M) {k o : Nat} (hk : G[k]? = some (o, 0, 2, 0)) (hd : decode cc pc = .ok (.getfield 36, 3)) (kk : W p l e R s m args below meth c H locs cells slots Q (F0 m (pc + 3) ls (.int (M o 6 0) :: rest))) : W p l e R s m args below meth c H locs cells slots Q (F0 m pc ls (.ref (ad k) :: rest)) := r_get F X hk (C := RX2) (T := TX2) (N := 9) rfl inT2 6 (by decide) rfl (mT1 67 rfl rfl) rfl hd kk
theorem pf_X6_36 (F : CallFix p m c cc nL s args TS RX6) (X : Wd D ad cs G A s H locs M) {k o : Nat} (hk : G[k]? = some (o, 0, 2, 0)) {v : Int32} (hd : decode cc pc = .ok (.putfield 36, 3)) (kk : ∀ (H : Heap) (locs : List Loc), Wd D ad cs G A s H locs (wr M o 6 0 v) → W p l e R s m args below meth c H locs cells slots Q (F0 m (pc + 3) ls rest)) : W p l e R s m args below meth c H locs cells slots Q (F0 m pc ls (.int v :: .ref (ad k) :: rest)) := r_puti F X hk (C := RX2) (T := TX2) (N := 9) (ty := .int) rfl inT2 tyX2 tyX2_ok nmX2 6 (by decide) rfl (mT1 67 rfl rfl) rfl (by decide +kernel) rfl rfl okL2 rfl hd kk
theorem gf_X8_28 (F : CallFix p m c cc nL s args TS RX8) (X : Wd D ad cs G A s H locs M) {k o : Nat} (hk : G[k]? = some (o, 0, 2, 0)) (hd : decode cc pc = .ok (.getfield 28, 3)) (kk : W p l e R s m args below meth c H locs cells slots Q (F0 m (pc + 3) ls (.int (M o 6 0) :: rest))) : W p l e R s m args below meth c H locs cells slots Q (F0 m pc ls (.ref (ad k) :: rest)) := r_get F X hk (C := RX2) (T := TX2) (N := 9) rfl inT2 6 (by decide) rfl (mT1 68 rfl rfl) rfl hd kk
theorem pf_X8_28 (F : CallFix p m c cc nL s args TS RX8) (X : Wd D ad cs G A s H locs M) {k o : Nat} (hk : G[k]? = some (o, 0, 2, 0)) {v : Int32} (hd : decode cc pc = .ok (.putfield 28, 3)) (kk : ∀ (H : Heap) (locs : List Loc), Wd D ad cs G A s H locs (wr M o 6 0 v) → W p l e R s m args below meth c H locs cells slots Q (F0 m (pc + 3) ls rest)) : W p l e R s m args below meth c H locs cells slots Q (F0 m pc ls (.int v :: .ref (ad k) :: rest)) := r_puti F X hk (C := RX2) (T := TX2) (N := 9) (ty := .int) rfl inT2 tyX2 tyX2_ok nmX2 6 (by decide) rfl (mT1 68 rfl rfl) rfl (by decide +kernel) rfl rfl okL2 rfl hd kk
theorem gf_X9_144 (F : CallFix p m c cc nL s args TS RX9) (X : Wd D ad cs G A s H locs M) {k o : Nat} (hk : G[k]? = some (o, 0, 2, 0)) (hd : decode cc pc = .ok (.getfield 144, 3)) (kk : W p l e R s m args below meth c H locs cells slots Q (F0 m (pc + 3) ls (.int (M o 6 0) :: rest))) : W p l e R s m args below meth c H locs cells slots Q (F0 m pc ls (.ref (ad k) :: rest)) := r_get F X hk (C := RX2) (T := TX2) (N := 9) rfl inT2 6 (by decide) rfl (mT1 69 rfl rfl) rfl hd kk
theorem pf_X9_144 (F : CallFix p m c cc nL s args TS RX9) (X : Wd D ad cs G A s H locs M) {k o : Nat} (hk : G[k]? = some (o, 0, 2, 0)) {v : Int32} (hd : decode cc pc = .ok (.putfield 144, 3)) (kk : ∀ (H : Heap) (locs : List Loc), Wd D ad cs G A s H locs (wr M o 6 0 v) → W p l e R s m args below meth c H locs cells slots Q (F0 m (pc + 3) ls rest)) : W p l e R s m args below meth c H locs cells slots Q (F0 m pc ls (.int v :: .ref (ad k) :: rest)) := r_puti F X hk (C := RX2) (T := TX2) (N := 9) (ty := .int) rfl inT2 tyX2 tyX2_ok nmX2 6 (by decide) rfl (mT1 69 rfl rfl) rfl (by decide +kernel) rfl rfl okL2 rfl hd kk
theorem gf_X2_34 (F : CallFix p m c cc nL s args TS RX2) (X : Wd D ad cs G A s H locs M) {k o : Nat} (hk : G[k]? = some (o, 0, 2, 0)) (hd : decode cc pc = .ok (.getfield 34, 3)) (kk : W p l e R s m args below meth c H locs cells slots Q (F0 m (pc + 3) ls (.int (M o 7 0) :: rest))) : W p l e R s m args below meth c H locs cells slots Q (F0 m pc ls (.ref (ad k) :: rest)) := r_get F X hk (C := RX2) (T := TX2) (N := 9) rfl inT2 7 (by decide) rfl (mT1 70 rfl rfl) rfl hd kk
theorem pf_X2_34 (F : CallFix p m c cc nL s args TS RX2) (X : Wd D ad cs G A s H locs M) {k o : Nat} (hk : G[k]? = some (o, 0, 2, 0)) {v : Int32} (hd : decode cc pc = .ok (.putfield 34, 3)) (kk : ∀ (H : Heap) (locs : List Loc), Wd D ad cs G A s H locs (wr M o 7 0 v) → W p l e R s m args below meth c H locs cells slots Q (F0 m (pc + 3) ls rest)) : W p l e R s m args below meth c H locs cells slots Q (F0 m pc ls (.int v :: .ref (ad k) :: rest)) := r_puti F X hk (C := RX2) (T := TX2) (N := 9) (ty := .int) rfl inT2 tyX2 tyX2_ok nmX2 7 (by decide) rfl (mT1 70 rfl rfl) rfl (by decide +kernel) rfl rfl okL2 rfl hd kk
theorem gf_X9_260 (F : CallFix p m c cc nL s args TS RX9) (X : Wd D ad cs G A s H locs M) {k o : Nat} (hk : G[k]? = some (o, 0, 2, 0)) (hd : decode cc pc = .ok (.getfield 260, 3)) (kk : W p l e R s m args below meth c H locs cells slots Q (F0 m (pc + 3) ls (.int (M o 7 0) :: rest))) : W p l e R s m args below meth c H locs cells slots Q (F0 m pc ls (.ref (ad k) :: rest)) := r_get F X hk (C := RX2) (T := TX2) (N := 9) rfl inT2 7 (by decide) rfl (mT1 71 rfl rfl) rfl hd kk
theorem pf_X9_260 (F : CallFix p m c cc nL s args TS RX9) (X : Wd D ad cs G A s H locs M) {k o : Nat} (hk : G[k]? = some (o, 0, 2, 0)) {v : Int32} (hd : decode cc pc = .ok (.putfield 260, 3)) (kk : ∀ (H : Heap) (locs : List Loc), Wd D ad cs G A s H locs (wr M o 7 0 v) → W p l e R s m args below meth c H locs cells slots Q (F0 m (pc + 3) ls rest)) : W p l e R s m args below meth c H locs cells slots Q (F0 m pc ls (.int v :: .ref (ad k) :: rest)) := r_puti F X hk (C := RX2) (T := TX2) (N := 9) (ty := .int) rfl inT2 tyX2 tyX2_ok nmX2 7 (by decide) rfl (mT1 71 rfl rfl) rfl (by decide +kernel) rfl rfl okL2 rfl hd kk
theorem gf_X2_37 (F : CallFix p m c cc nL s args TS RX2) (X : Wd D ad cs G A s H locs M) {k o : Nat} (hk : G[k]? = some (o, 0, 2, 0)) (hd : decode cc pc = .ok (.getfield 37, 3)) (kk : W p l e R s m args below meth c H locs cells slots Q (F0 m (pc + 3) ls (.int (M o 8 0) :: rest))) : W p l e R s m args below meth c H locs cells slots Q (F0 m pc ls (.ref (ad k) :: rest)) := r_get F X hk (C := RX2) (T := TX2) (N := 9) rfl inT2 8 (by decide) rfl (mT1 72 rfl rfl) rfl hd kk
theorem pf_X2_37 (F : CallFix p m c cc nL s args TS RX2) (X : Wd D ad cs G A s H locs M) {k o : Nat} (hk : G[k]? = some (o, 0, 2, 0)) {v : Int32} (hd : decode cc pc = .ok (.putfield 37, 3)) (kk : ∀ (H : Heap) (locs : List Loc), Wd D ad cs G A s H locs (wr M o 8 0 v) → W p l e R s m args below meth c H locs cells slots Q (F0 m (pc + 3) ls rest)) : W p l e R s m args below meth c H locs cells slots Q (F0 m pc ls (.int v :: .ref (ad k) :: rest)) := r_puti F X hk (C := RX2) (T := TX2) (N := 9) (ty := .int) rfl inT2 tyX2 tyX2_ok nmX2 8 (by decide) rfl (mT1 72 rfl rfl) rfl (by decide +kernel) rfl rfl okL2 rfl hd kk
theorem gf_X7_70 (F : CallFix p m c cc nL s args TS RX7) (X : Wd D ad cs G A s H locs M) {k o : Nat} (hk : G[k]? = some (o, 0, 2, 0)) (hd : decode cc pc = .ok (.getfield 70, 3)) (kk : W p l e R s m args below meth c H locs cells slots Q (F0 m (pc + 3) ls (.int (M o 8 0) :: rest))) : W p l e R s m args below meth c H locs cells slots Q (F0 m pc ls (.ref (ad k) :: rest)) := r_get F X hk (C := RX2) (T := TX2) (N := 9) rfl inT2 8 (by decide) rfl (mT1 73 rfl rfl) rfl hd kk
theorem pf_X7_70 (F : CallFix p m c cc nL s args TS RX7) (X : Wd D ad cs G A s H locs M) {k o : Nat} (hk : G[k]? = some (o, 0, 2, 0)) {v : Int32} (hd : decode cc pc = .ok (.putfield 70, 3)) (kk : ∀ (H : Heap) (locs : List Loc), Wd D ad cs G A s H locs (wr M o 8 0 v) → W p l e R s m args below meth c H locs cells slots Q (F0 m (pc + 3) ls rest)) : W p l e R s m args below meth c H locs cells slots Q (F0 m pc ls (.int v :: .ref (ad k) :: rest)) := r_puti F X hk (C := RX2) (T := TX2) (N := 9) (ty := .int) rfl inT2 tyX2 tyX2_ok nmX2 8 (by decide) rfl (mT1 73 rfl rfl) rfl (by decide +kernel) rfl rfl okL2 rfl hd kk
theorem gf_X9_247 (F : CallFix p m c cc nL s args TS RX9) (X : Wd D ad cs G A s H locs M) {k o : Nat} (hk : G[k]? = some (o, 0, 2, 0)) (hd : decode cc pc = .ok (.getfield 247, 3)) (kk : W p l e R s m args below meth c H locs cells slots Q (F0 m (pc + 3) ls (.int (M o 8 0) :: rest))) : W p l e R s m args below meth c H locs cells slots Q (F0 m pc ls (.ref (ad k) :: rest)) := r_get F X hk (C := RX2) (T := TX2) (N := 9) rfl inT2 8 (by decide) rfl (mT1 74 rfl rfl) rfl hd kk
theorem pf_X9_247 (F : CallFix p m c cc nL s args TS RX9) (X : Wd D ad cs G A s H locs M) {k o : Nat} (hk : G[k]? = some (o, 0, 2, 0)) {v : Int32} (hd : decode cc pc = .ok (.putfield 247, 3)) (kk : ∀ (H : Heap) (locs : List Loc), Wd D ad cs G A s H locs (wr M o 8 0 v) → W p l e R s m args below meth c H locs cells slots Q (F0 m (pc + 3) ls rest)) : W p l e R s m args below meth c H locs cells slots Q (F0 m pc ls (.int v :: .ref (ad k) :: rest)) := r_puti F X hk (C := RX2) (T := TX2) (N := 9) (ty := .int) rfl inT2 tyX2 tyX2_ok nmX2 8 (by decide) rfl (mT1 74 rfl rfl) rfl (by decide +kernel) rfl rfl okL2 rfl hd kk
theorem gf_X7_9 (F : CallFix p m c cc nL s args TS RX7) (X : Wd D ad cs G A s H locs M) {k o : Nat} (hk : G[k]? = some (o, 0, 7, 0)) (hd : decode cc pc = .ok (.getfield 9, 3)) (kk : W p l e R s m args below meth c H locs cells slots Q (F0 m (pc + 3) ls (.ref (ad (k + 1)) :: rest))) : W p l e R s m args below meth c H locs cells slots Q (F0 m pc ls (.ref (ad k) :: rest)) := r_get F X hk (C := RX7) (T := TX7) (N := 12) rfl inT7 0 (by decide) rfl (mT1 106 rfl rfl) rfl hd kk
theorem gf_X5_75 (F : CallFix p m c cc nL s args TS RX5) (X : Wd D ad cs G A s H locs M) {k o : Nat} (hk : G[k]? = some (o, 0, 7, 0)) (hd : decode cc pc = .ok (.getfield 75, 3)) (kk : W p l e R s m args below meth c H locs cells slots Q (F0 m (pc + 3) ls (.ref (ad (k + 1)) :: rest))) : W p l e R s m args below meth c H locs cells slots Q (F0 m pc ls (.ref (ad k) :: rest)) := r_get F X hk (C := RX7) (T := TX7) (N := 12) rfl inT7 0 (by decide) rfl (mT1 107 rfl rfl) rfl hd kk
theorem gf_X0_62 (F : CallFix p m c cc nL s args TS RX0) (X : Wd D ad cs G A s H locs M) {k o : Nat} (hk : G[k]? = some (o, 0, 7, 0)) (hd : decode cc pc = .ok (.getfield 62, 3)) (kk : W p l e R s m args below meth c H locs cells slots Q (F0 m (pc + 3) ls (.ref (ad (k + 1)) :: rest))) : W p l e R s m args below meth c H locs cells slots Q (F0 m pc ls (.ref (ad k) :: rest)) := r_get F X hk (C := RX7) (T := TX7) (N := 12) rfl inT7 0 (by decide) rfl (mT1 108 rfl rfl) rfl hd kk
theorem gf_X9_250 (F : CallFix p m c cc nL s args TS RX9) (X : Wd D ad cs G A s H locs M) {k o : Nat} (hk : G[k]? = some (o, 0, 7, 0)) (hd : decode cc pc = .ok (.getfield 250, 3)) (kk : W p l e R s m args below meth c H locs cells slots Q (F0 m (pc + 3) ls (.ref (ad (k + 1)) :: rest))) : W p l e R s m args below meth c H locs cells slots Q (F0 m pc ls (.ref (ad k) :: rest)) := r_get F X hk (C := RX7) (T := TX7) (N := 12) rfl inT7 0 (by decide) rfl (mT1 109 rfl rfl) rfl hd kk
theorem gf_X7_15 (F : CallFix p m c cc nL s args TS RX7) (X : Wd D ad cs G A s H locs M) {k o : Nat} (hk : G[k]? = some (o, 0, 7, 0)) (hd : decode cc pc = .ok (.getfield 15, 3)) (kk : W p l e R s m args below meth c H locs cells slots Q (F0 m (pc + 3) ls (.ref (ad (k + 2)) :: rest))) : W p l e R s m args below meth c H locs cells slots Q (F0 m pc ls (.ref (ad k) :: rest)) := r_get F X hk (C := RX7) (T := TX7) (N := 12) rfl inT7 1 (by decide) rfl (mT1 110 rfl rfl) rfl hd kk
theorem gf_X5_84 (F : CallFix p m c cc nL s args TS RX5) (X : Wd D ad cs G A s H locs M) {k o : Nat} (hk : G[k]? = some (o, 0, 7, 0)) (hd : decode cc pc = .ok (.getfield 84, 3)) (kk : W p l e R s m args below meth c H locs cells slots Q (F0 m (pc + 3) ls (.ref (ad (k + 2)) :: rest))) : W p l e R s m args below meth c H locs cells slots Q (F0 m pc ls (.ref (ad k) :: rest)) := r_get F X hk (C := RX7) (T := TX7) (N := 12) rfl inT7 1 (by decide) rfl (mT1 111 rfl rfl) rfl hd kk
theorem gf_X7_18 (F : CallFix p m c cc nL s args TS RX7) (X : Wd D ad cs G A s H locs M) {k o : Nat} (hk : G[k]? = some (o, 0, 7, 0)) (hd : decode cc pc = .ok (.getfield 18, 3)) (kk : W p l e R s m args below meth c H locs cells slots Q (F0 m (pc + 3) ls (.ref (ad (k + 3)) :: rest))) : W p l e R s m args below meth c H locs cells slots Q (F0 m pc ls (.ref (ad k) :: rest)) := r_get F X hk (C := RX7) (T := TX7) (N := 12) rfl inT7 2 (by decide) rfl (mT1 112 rfl rfl) rfl hd kk
theorem gf_X5_85 (F : CallFix p m c cc nL s args TS RX5) (X : Wd D ad cs G A s H locs M) {k o : Nat} (hk : G[k]? = some (o, 0, 7, 0)) (hd : decode cc pc = .ok (.getfield 85, 3)) (kk : W p l e R s m args below meth c H locs cells slots Q (F0 m (pc + 3) ls (.ref (ad (k + 3)) :: rest))) : W p l e R s m args below meth c H locs cells slots Q (F0 m pc ls (.ref (ad k) :: rest)) := r_get F X hk (C := RX7) (T := TX7) (N := 12) rfl inT7 2 (by decide) rfl (mT1 113 rfl rfl) rfl hd kk
theorem gf_X7_21 (F : CallFix p m c cc nL s args TS RX7) (X : Wd D ad cs G A s H locs M) {k o : Nat} (hk : G[k]? = some (o, 0, 7, 0)) (hd : decode cc pc = .ok (.getfield 21, 3)) (kk : W p l e R s m args below meth c H locs cells slots Q (F0 m (pc + 3) ls (.int (M o 3 0) :: rest))) : W p l e R s m args below meth c H locs cells slots Q (F0 m pc ls (.ref (ad k) :: rest)) := r_get F X hk (C := RX7) (T := TX7) (N := 12) rfl inT7 3 (by decide) rfl (mT1 114 rfl rfl) rfl hd kk
theorem pf_X7_21 (F : CallFix p m c cc nL s args TS RX7) (X : Wd D ad cs G A s H locs M) {k o : Nat} (hk : G[k]? = some (o, 0, 7, 0)) {v : Int32} (hd : decode cc pc = .ok (.putfield 21, 3)) (kk : ∀ (H : Heap) (locs : List Loc), Wd D ad cs G A s H locs (wr M o 3 0 v) → W p l e R s m args below meth c H locs cells slots Q (F0 m (pc + 3) ls rest)) : W p l e R s m args below meth c H locs cells slots Q (F0 m pc ls (.int v :: .ref (ad k) :: rest)) := r_puti F X hk (C := RX7) (T := TX7) (N := 12) (ty := .int) rfl inT7 tyX7 tyX7_ok nmX7 3 (by decide) rfl (mT1 114 rfl rfl) rfl (by decide +kernel) rfl rfl okL7 rfl hd kk
theorem gf_X7_25 (F : CallFix p m c cc nL s args TS RX7) (X : Wd D ad cs G A s H locs M) {k o : Nat} (hk : G[k]? = some (o, 0, 7, 0)) (hd : decode cc pc = .ok (.getfield 25, 3)) (kk : W p l e R s m args below meth c H locs cells slots Q (F0 m (pc + 3) ls (.int (M o 4 0) :: rest))) : W p l e R s m args below meth c H locs cells slots Q (F0 m pc ls (.ref (ad k) :: rest)) := r_get F X hk (C := RX7) (T := TX7) (N := 12) rfl inT7 4 (by decide) rfl (mT1 115 rfl rfl) rfl hd kk
theorem pf_X7_25 (F : CallFix p m c cc nL s args TS RX7) (X : Wd D ad cs G A s H locs M) {k o : Nat} (hk : G[k]? = some (o, 0, 7, 0)) {v : Int32} (hd : decode cc pc = .ok (.putfield 25, 3)) (kk : ∀ (H : Heap) (locs : List Loc), Wd D ad cs G A s H locs (wr M o 4 0 v) → W p l e R s m args below meth c H locs cells slots Q (F0 m (pc + 3) ls rest)) : W p l e R s m args below meth c H locs cells slots Q (F0 m pc ls (.int v :: .ref (ad k) :: rest)) := r_puti F X hk (C := RX7) (T := TX7) (N := 12) (ty := .int) rfl inT7 tyX7 tyX7_ok nmX7 4 (by decide) rfl (mT1 115 rfl rfl) rfl (by decide +kernel) rfl rfl okL7 rfl hd kk
theorem gf_X9_203 (F : CallFix p m c cc nL s args TS RX9) (X : Wd D ad cs G A s H locs M) {k o : Nat} (hk : G[k]? = some (o, 0, 7, 0)) (hd : decode cc pc = .ok (.getfield 203, 3)) (kk : W p l e R s m args below meth c H locs cells slots Q (F0 m (pc + 3) ls (.int (M o 4 0) :: rest))) : W p l e R s m args below meth c H locs cells slots Q (F0 m pc ls (.ref (ad k) :: rest)) := r_get F X hk (C := RX7) (T := TX7) (N := 12) rfl inT7 4 (by decide) rfl (mT1 116 rfl rfl) rfl hd kk
theorem pf_X9_203 (F : CallFix p m c cc nL s args TS RX9) (X : Wd D ad cs G A s H locs M) {k o : Nat} (hk : G[k]? = some (o, 0, 7, 0)) {v : Int32} (hd : decode cc pc = .ok (.putfield 203, 3)) (kk : ∀ (H : Heap) (locs : List Loc), Wd D ad cs G A s H locs (wr M o 4 0 v) → W p l e R s m args below meth c H locs cells slots Q (F0 m (pc + 3) ls rest)) : W p l e R s m args below meth c H locs cells slots Q (F0 m pc ls (.int v :: .ref (ad k) :: rest)) := r_puti F X hk (C := RX7) (T := TX7) (N := 12) (ty := .int) rfl inT7 tyX7 tyX7_ok nmX7 4 (by decide) rfl (mT1 116 rfl rfl) rfl (by decide +kernel) rfl rfl okL7 rfl hd kk
theorem gf_X7_28 (F : CallFix p m c cc nL s args TS RX7) (X : Wd D ad cs G A s H locs M) {k o : Nat} (hk : G[k]? = some (o, 0, 7, 0)) (hd : decode cc pc = .ok (.getfield 28, 3)) (kk : W p l e R s m args below meth c H locs cells slots Q (F0 m (pc + 3) ls (.int (M o 5 0) :: rest))) : W p l e R s m args below meth c H locs cells slots Q (F0 m pc ls (.ref (ad k) :: rest)) := r_get F X hk (C := RX7) (T := TX7) (N := 12) rfl inT7 5 (by decide) rfl (mT1 117 rfl rfl) rfl hd kk
theorem pf_X7_28 (F : CallFix p m c cc nL s args TS RX7) (X : Wd D ad cs G A s H locs M) {k o : Nat} (hk : G[k]? = some (o, 0, 7, 0)) {v : Int32} (hd : decode cc pc = .ok (.putfield 28, 3)) (kk : ∀ (H : Heap) (locs : List Loc), Wd D ad cs G A s H locs (wr M o 5 0 v) → W p l e R s m args below meth c H locs cells slots Q (F0 m (pc + 3) ls rest)) : W p l e R s m args below meth c H locs cells slots Q (F0 m pc ls (.int v :: .ref (ad k) :: rest)) := r_puti F X hk (C := RX7) (T := TX7) (N := 12) (ty := .int) rfl inT7 tyX7 tyX7_ok nmX7 5 (by decide) rfl (mT1 117 rfl rfl) rfl (by decide +kernel) rfl rfl okL7 rfl hd kk
theorem gf_X5_57 (F : CallFix p m c cc nL s args TS RX5) (X : Wd D ad cs G A s H locs M) {k o : Nat} (hk : G[k]? = some (o, 0, 7, 0)) (hd : decode cc pc = .ok (.getfield 57, 3)) (kk : W p l e R s m args below meth c H locs cells slots Q (F0 m (pc + 3) ls (.int (M o 5 0) :: rest))) : W p l e R s m args below meth c H locs cells slots Q (F0 m pc ls (.ref (ad k) :: rest)) := r_get F X hk (C := RX7) (T := TX7) (N := 12) rfl inT7 5 (by decide) rfl (mT1 118 rfl rfl) rfl hd kk
theorem pf_X5_57 (F : CallFix p m c cc nL s args TS RX5) (X : Wd D ad cs G A s H locs M) {k o : Nat} (hk : G[k]? = some (o, 0, 7, 0)) {v : Int32} (hd : decode cc pc = .ok (.putfield 57, 3)) (kk : ∀ (H : Heap) (locs : List Loc), Wd D ad cs G A s H locs (wr M o 5 0 v) → W p l e R s m args below meth c H locs cells slots Q (F0 m (pc + 3) ls rest)) : W p l e R s m args below meth c H locs cells slots Q (F0 m pc ls (.int v :: .ref (ad k) :: rest)) := r_puti F X hk (C := RX7) (T := TX7) (N := 12) (ty := .int) rfl inT7 tyX7 tyX7_ok nmX7 5 (by decide) rfl (mT1 118 rfl rfl) rfl (by decide +kernel) rfl rfl okL7 rfl hd kk
theorem gf_X7_31 (F : CallFix p m c cc nL s args TS RX7) (X : Wd D ad cs G A s H locs M) {k o : Nat} (hk : G[k]? = some (o, 0, 7, 0)) (hd : decode cc pc = .ok (.getfield 31, 3)) (kk : W p l e R s m args below meth c H locs cells slots Q (F0 m (pc + 3) ls (.int (M o 6 0) :: rest))) : W p l e R s m args below meth c H locs cells slots Q (F0 m pc ls (.ref (ad k) :: rest)) := r_get F X hk (C := RX7) (T := TX7) (N := 12) rfl inT7 6 (by decide) rfl (mT1 119 rfl rfl) rfl hd kk
theorem pf_X7_31 (F : CallFix p m c cc nL s args TS RX7) (X : Wd D ad cs G A s H locs M) {k o : Nat} (hk : G[k]? = some (o, 0, 7, 0)) {v : Int32} (hd : decode cc pc = .ok (.putfield 31, 3)) (kk : ∀ (H : Heap) (locs : List Loc), Wd D ad cs G A s H locs (wr M o 6 0 v) → W p l e R s m args below meth c H locs cells slots Q (F0 m (pc + 3) ls rest)) : W p l e R s m args below meth c H locs cells slots Q (F0 m pc ls (.int v :: .ref (ad k) :: rest)) := r_puti F X hk (C := RX7) (T := TX7) (N := 12) (ty := .int) rfl inT7 tyX7 tyX7_ok nmX7 6 (by decide) rfl (mT1 119 rfl rfl) rfl (by decide +kernel) rfl rfl okL7 rfl hd kk
theorem gf_X9_295 (F : CallFix p m c cc nL s args TS RX9) (X : Wd D ad cs G A s H locs M) {k o : Nat} (hk : G[k]? = some (o, 0, 7, 0)) (hd : decode cc pc = .ok (.getfield 295, 3)) (kk : W p l e R s m args below meth c H locs cells slots Q (F0 m (pc + 3) ls (.int (M o 6 0) :: rest))) : W p l e R s m args below meth c H locs cells slots Q (F0 m pc ls (.ref (ad k) :: rest)) := r_get F X hk (C := RX7) (T := TX7) (N := 12) rfl inT7 6 (by decide) rfl (mT1 120 rfl rfl) rfl hd kk
theorem pf_X9_295 (F : CallFix p m c cc nL s args TS RX9) (X : Wd D ad cs G A s H locs M) {k o : Nat} (hk : G[k]? = some (o, 0, 7, 0)) {v : Int32} (hd : decode cc pc = .ok (.putfield 295, 3)) (kk : ∀ (H : Heap) (locs : List Loc), Wd D ad cs G A s H locs (wr M o 6 0 v) → W p l e R s m args below meth c H locs cells slots Q (F0 m (pc + 3) ls rest)) : W p l e R s m args below meth c H locs cells slots Q (F0 m pc ls (.int v :: .ref (ad k) :: rest)) := r_puti F X hk (C := RX7) (T := TX7) (N := 12) (ty := .int) rfl inT7 tyX7 tyX7_ok nmX7 6 (by decide) rfl (mT1 120 rfl rfl) rfl (by decide +kernel) rfl rfl okL7 rfl hd kk
theorem gf_X7_34 (F : CallFix p m c cc nL s args TS RX7) (X : Wd D ad cs G A s H locs M) {k o : Nat} (hk : G[k]? = some (o, 0, 7, 0)) (hd : decode cc pc = .ok (.getfield 34, 3)) (kk : W p l e R s m args below meth c H locs cells slots Q (F0 m (pc + 3) ls (.int (M o 7 0) :: rest))) : W p l e R s m args below meth c H locs cells slots Q (F0 m pc ls (.ref (ad k) :: rest)) := r_get F X hk (C := RX7) (T := TX7) (N := 12) rfl inT7 7 (by decide) rfl (mT1 121 rfl rfl) rfl hd kk
theorem pf_X7_34 (F : CallFix p m c cc nL s args TS RX7) (X : Wd D ad cs G A s H locs M) {k o : Nat} (hk : G[k]? = some (o, 0, 7, 0)) {v : Int32} (hd : decode cc pc = .ok (.putfield 34, 3)) (kk : ∀ (H : Heap) (locs : List Loc), Wd D ad cs G A s H locs (wr M o 7 0 v) → W p l e R s m args below meth c H locs cells slots Q (F0 m (pc + 3) ls rest)) : W p l e R s m args below meth c H locs cells slots Q (F0 m pc ls (.int v :: .ref (ad k) :: rest)) := r_puti F X hk (C := RX7) (T := TX7) (N := 12) (ty := .int) rfl inT7 tyX7 tyX7_ok nmX7 7 (by decide) rfl (mT1 121 rfl rfl) rfl (by decide +kernel) rfl rfl okL7 rfl hd kk
theorem gf_X9_217 (F : CallFix p m c cc nL s args TS RX9) (X : Wd D ad cs G A s H locs M) {k o : Nat} (hk : G[k]? = some (o, 0, 7, 0)) (hd : decode cc pc = .ok (.getfield 217, 3)) (kk : W p l e R s m args below meth c H locs cells slots Q (F0 m (pc + 3) ls (.int (M o 7 0) :: rest))) : W p l e R s m args below meth c H locs cells slots Q (F0 m pc ls (.ref (ad k) :: rest)) := r_get F X hk (C := RX7) (T := TX7) (N := 12) rfl inT7 7 (by decide) rfl (mT1 122 rfl rfl) rfl hd kk
theorem pf_X9_217 (F : CallFix p m c cc nL s args TS RX9) (X : Wd D ad cs G A s H locs M) {k o : Nat} (hk : G[k]? = some (o, 0, 7, 0)) {v : Int32} (hd : decode cc pc = .ok (.putfield 217, 3)) (kk : ∀ (H : Heap) (locs : List Loc), Wd D ad cs G A s H locs (wr M o 7 0 v) → W p l e R s m args below meth c H locs cells slots Q (F0 m (pc + 3) ls rest)) : W p l e R s m args below meth c H locs cells slots Q (F0 m pc ls (.int v :: .ref (ad k) :: rest)) := r_puti F X hk (C := RX7) (T := TX7) (N := 12) (ty := .int) rfl inT7 tyX7 tyX7_ok nmX7 7 (by decide) rfl (mT1 122 rfl rfl) rfl (by decide +kernel) rfl rfl okL7 rfl hd kk
theorem gf_X7_37 (F : CallFix p m c cc nL s args TS RX7) (X : Wd D ad cs G A s H locs M) {k o : Nat} (hk : G[k]? = some (o, 0, 7, 0)) (hd : decode cc pc = .ok (.getfield 37, 3)) (kk : W p l e R s m args below meth c H locs cells slots Q (F0 m (pc + 3) ls (.int (M o 8 0) :: rest))) : W p l e R s m args below meth c H locs cells slots Q (F0 m pc ls (.ref (ad k) :: rest)) := r_get F X hk (C := RX7) (T := TX7) (N := 12) rfl inT7 8 (by decide) rfl (mT1 123 rfl rfl) rfl hd kk
theorem pf_X7_37 (F : CallFix p m c cc nL s args TS RX7) (X : Wd D ad cs G A s H locs M) {k o : Nat} (hk : G[k]? = some (o, 0, 7, 0)) {v : Int32} (hd : decode cc pc = .ok (.putfield 37, 3)) (kk : ∀ (H : Heap) (locs : List Loc), Wd D ad cs G A s H locs (wr M o 8 0 v) → W p l e R s m args below meth c H locs cells slots Q (F0 m (pc + 3) ls rest)) : W p l e R s m args below meth c H locs cells slots Q (F0 m pc ls (.int v :: .ref (ad k) :: rest)) := r_puti F X hk (C := RX7) (T := TX7) (N := 12) (ty := .int) rfl inT7 tyX7 tyX7_ok nmX7 8 (by decide) rfl (mT1 123 rfl rfl) rfl (by decide +kernel) rfl rfl okL7 rfl hd kk
theorem gf_X5_66 (F : CallFix p m c cc nL s args TS RX5) (X : Wd D ad cs G A s H locs M) {k o : Nat} (hk : G[k]? = some (o, 0, 7, 0)) (hd : decode cc pc = .ok (.getfield 66, 3)) (kk : W p l e R s m args below meth c H locs cells slots Q (F0 m (pc + 3) ls (.int (M o 8 0) :: rest))) : W p l e R s m args below meth c H locs cells slots Q (F0 m pc ls (.ref (ad k) :: rest)) := r_get F X hk (C := RX7) (T := TX7) (N := 12) rfl inT7 8 (by decide) rfl (mT1 124 rfl rfl) rfl hd kk
theorem pf_X5_66 (F : CallFix p m c cc nL s args TS RX5) (X : Wd D ad cs G A s H locs M) {k o : Nat} (hk : G[k]? = some (o, 0, 7, 0)) {v : Int32} (hd : decode cc pc = .ok (.putfield 66, 3)) (kk : ∀ (H : Heap) (locs : List Loc), Wd D ad cs G A s H locs (wr M o 8 0 v) → W p l e R s m args below meth c H locs cells slots Q (F0 m (pc + 3) ls rest)) : W p l e R s m args below meth c H locs cells slots Q (F0 m pc ls (.int v :: .ref (ad k) :: rest)) := r_puti F X hk (C := RX7) (T := TX7) (N := 12) (ty := .int) rfl inT7 tyX7 tyX7_ok nmX7 8 (by decide) rfl (mT1 124 rfl rfl) rfl (by decide +kernel) rfl rfl okL7 rfl hd kk
theorem gf_X6_47 (F : CallFix p m c cc nL s args TS RX6) (X : Wd D ad cs G A s H locs M) {k o : Nat} (hk : G[k]? = some (o, 0, 7, 0)) (hd : decode cc pc = .ok (.getfield 47, 3)) (kk : W p l e R s m args below meth c H locs cells slots Q (F0 m (pc + 3) ls (.int (M o 8 0) :: rest))) : W p l e R s m args below meth c H locs cells slots Q (F0 m pc ls (.ref (ad k) :: rest)) := r_get F X hk (C := RX7) (T := TX7) (N := 12) rfl inT7 8 (by decide) rfl (mT1 125 rfl rfl) rfl hd kk
theorem pf_X6_47 (F : CallFix p m c cc nL s args TS RX6) (X : Wd D ad cs G A s H locs M) {k o : Nat} (hk : G[k]? = some (o, 0, 7, 0)) {v : Int32} (hd : decode cc pc = .ok (.putfield 47, 3)) (kk : ∀ (H : Heap) (locs : List Loc), Wd D ad cs G A s H locs (wr M o 8 0 v) → W p l e R s m args below meth c H locs cells slots Q (F0 m (pc + 3) ls rest)) : W p l e R s m args below meth c H locs cells slots Q (F0 m pc ls (.int v :: .ref (ad k) :: rest)) := r_puti F X hk (C := RX7) (T := TX7) (N := 12) (ty := .int) rfl inT7 tyX7 tyX7_ok nmX7 8 (by decide) rfl (mT1 125 rfl rfl) rfl (by decide +kernel) rfl rfl okL7 rfl hd kk
theorem gf_X7_40 (F : CallFix p m c cc nL s args TS RX7) (X : Wd D ad cs G A s H locs M) {k o : Nat} (hk : G[k]? = some (o, 0, 7, 0)) (hd : decode cc pc = .ok (.getfield 40, 3)) (kk : W p l e R s m args below meth c H locs cells slots Q (F0 m (pc + 3) ls (.int (M o 9 0) :: rest))) : W p l e R s m args below meth c H locs cells slots Q (F0 m pc ls (.ref (ad k) :: rest)) := r_get F X hk (C := RX7) (T := TX7) (N := 12) rfl inT7 9 (by decide) rfl (mT1 126 rfl rfl) rfl hd kk
theorem pf_X7_40 (F : CallFix p m c cc nL s args TS RX7) (X : Wd D ad cs G A s H locs M) {k o : Nat} (hk : G[k]? = some (o, 0, 7, 0)) {v : Int32} (hd : decode cc pc = .ok (.putfield 40, 3)) (kk : ∀ (H : Heap) (locs : List Loc), Wd D ad cs G A s H locs (wr M o 9 0 v) → W p l e R s m args below meth c H locs cells slots Q (F0 m (pc + 3) ls rest)) : W p l e R s m args below meth c H locs cells slots Q (F0 m pc ls (.int v :: .ref (ad k) :: rest)) := r_puti F X hk (C := RX7) (T := TX7) (N := 12) (ty := .int) rfl inT7 tyX7 tyX7_ok nmX7 9 (by decide) rfl (mT1 126 rfl rfl) rfl (by decide +kernel) rfl rfl okL7 rfl hd kk
theorem gf_X5_68 (F : CallFix p m c cc nL s args TS RX5) (X : Wd D ad cs G A s H locs M) {k o : Nat} (hk : G[k]? = some (o, 0, 7, 0)) (hd : decode cc pc = .ok (.getfield 68, 3)) (kk : W p l e R s m args below meth c H locs cells slots Q (F0 m (pc + 3) ls (.int (M o 9 0) :: rest))) : W p l e R s m args below meth c H locs cells slots Q (F0 m pc ls (.ref (ad k) :: rest)) := r_get F X hk (C := RX7) (T := TX7) (N := 12) rfl inT7 9 (by decide) rfl (mT1 127 rfl rfl) rfl hd kk
theorem pf_X5_68 (F : CallFix p m c cc nL s args TS RX5) (X : Wd D ad cs G A s H locs M) {k o : Nat} (hk : G[k]? = some (o, 0, 7, 0)) {v : Int32} (hd : decode cc pc = .ok (.putfield 68, 3)) (kk : ∀ (H : Heap) (locs : List Loc), Wd D ad cs G A s H locs (wr M o 9 0 v) → W p l e R s m args below meth c H locs cells slots Q (F0 m (pc + 3) ls rest)) : W p l e R s m args below meth c H locs cells slots Q (F0 m pc ls (.int v :: .ref (ad k) :: rest)) := r_puti F X hk (C := RX7) (T := TX7) (N := 12) (ty := .int) rfl inT7 tyX7 tyX7_ok nmX7 9 (by decide) rfl (mT1 127 rfl rfl) rfl (by decide +kernel) rfl rfl okL7 rfl hd kk
theorem gf_X7_43 (F : CallFix p m c cc nL s args TS RX7) (X : Wd D ad cs G A s H locs M) {k o : Nat} (hk : G[k]? = some (o, 0, 7, 0)) (hd : decode cc pc = .ok (.getfield 43, 3)) (kk : W p l e R s m args below meth c H locs cells slots Q (F0 m (pc + 3) ls (.int (M o 10 0) :: rest))) : W p l e R s m args below meth c H locs cells slots Q (F0 m pc ls (.ref (ad k) :: rest)) := r_get F X hk (C := RX7) (T := TX7) (N := 12) rfl inT7 10 (by decide) rfl (mT1 128 rfl rfl) rfl hd kk
theorem pf_X7_43 (F : CallFix p m c cc nL s args TS RX7) (X : Wd D ad cs G A s H locs M) {k o : Nat} (hk : G[k]? = some (o, 0, 7, 0)) {v : Int32} (hd : decode cc pc = .ok (.putfield 43, 3)) (kk : ∀ (H : Heap) (locs : List Loc), Wd D ad cs G A s H locs (wr M o 10 0 v) → W p l e R s m args below meth c H locs cells slots Q (F0 m (pc + 3) ls rest)) : W p l e R s m args below meth c H locs cells slots Q (F0 m pc ls (.int v :: .ref (ad k) :: rest)) := r_puti F X hk (C := RX7) (T := TX7) (N := 12) (ty := .int) rfl inT7 tyX7 tyX7_ok nmX7 10 (by decide) rfl (mT1 128 rfl rfl) rfl (by decide +kernel) rfl rfl okL7 rfl hd kk
theorem gf_X5_70 (F : CallFix p m c cc nL s args TS RX5) (X : Wd D ad cs G A s H locs M) {k o : Nat} (hk : G[k]? = some (o, 0, 7, 0)) (hd : decode cc pc = .ok (.getfield 70, 3)) (kk : W p l e R s m args below meth c H locs cells slots Q (F0 m (pc + 3) ls (.int (M o 10 0) :: rest))) : W p l e R s m args below meth c H locs cells slots Q (F0 m pc ls (.ref (ad k) :: rest)) := r_get F X hk (C := RX7) (T := TX7) (N := 12) rfl inT7 10 (by decide) rfl (mT1 129 rfl rfl) rfl hd kk
theorem pf_X5_70 (F : CallFix p m c cc nL s args TS RX5) (X : Wd D ad cs G A s H locs M) {k o : Nat} (hk : G[k]? = some (o, 0, 7, 0)) {v : Int32} (hd : decode cc pc = .ok (.putfield 70, 3)) (kk : ∀ (H : Heap) (locs : List Loc), Wd D ad cs G A s H locs (wr M o 10 0 v) → W p l e R s m args below meth c H locs cells slots Q (F0 m (pc + 3) ls rest)) : W p l e R s m args below meth c H locs cells slots Q (F0 m pc ls (.int v :: .ref (ad k) :: rest)) := r_puti F X hk (C := RX7) (T := TX7) (N := 12) (ty := .int) rfl inT7 tyX7 tyX7_ok nmX7 10 (by decide) rfl (mT1 129 rfl rfl) rfl (by decide +kernel) rfl rfl okL7 rfl hd kk
theorem gf_X7_46 (F : CallFix p m c cc nL s args TS RX7) (X : Wd D ad cs G A s H locs M) {k o : Nat} (hk : G[k]? = some (o, 0, 7, 0)) (hd : decode cc pc = .ok (.getfield 46, 3)) (kk : W p l e R s m args below meth c H locs cells slots Q (F0 m (pc + 3) ls (.int (M o 11 0) :: rest))) : W p l e R s m args below meth c H locs cells slots Q (F0 m pc ls (.ref (ad k) :: rest)) := r_get F X hk (C := RX7) (T := TX7) (N := 12) rfl inT7 11 (by decide) rfl (mT1 130 rfl rfl) rfl hd kk
theorem pf_X7_46 (F : CallFix p m c cc nL s args TS RX7) (X : Wd D ad cs G A s H locs M) {k o : Nat} (hk : G[k]? = some (o, 0, 7, 0)) {v : Int32} (hd : decode cc pc = .ok (.putfield 46, 3)) (kk : ∀ (H : Heap) (locs : List Loc), Wd D ad cs G A s H locs (wr M o 11 0 v) → W p l e R s m args below meth c H locs cells slots Q (F0 m (pc + 3) ls rest)) : W p l e R s m args below meth c H locs cells slots Q (F0 m pc ls (.int v :: .ref (ad k) :: rest)) := r_puti F X hk (C := RX7) (T := TX7) (N := 12) (ty := .int) rfl inT7 tyX7 tyX7_ok nmX7 11 (by decide) rfl (mT1 130 rfl rfl) rfl (by decide +kernel) rfl rfl okL7 rfl hd kk
theorem gf_X5_72 (F : CallFix p m c cc nL s args TS RX5) (X : Wd D ad cs G A s H locs M) {k o : Nat} (hk : G[k]? = some (o, 0, 7, 0)) (hd : decode cc pc = .ok (.getfield 72, 3)) (kk : W p l e R s m args below meth c H locs cells slots Q (F0 m (pc + 3) ls (.int (M o 11 0) :: rest))) : W p l e R s m args below meth c H locs cells slots Q (F0 m pc ls (.ref (ad k) :: rest)) := r_get F X hk (C := RX7) (T := TX7) (N := 12) rfl inT7 11 (by decide) rfl (mT1 131 rfl rfl) rfl hd kk
theorem pf_X5_72 (F : CallFix p m c cc nL s args TS RX5) (X : Wd D ad cs G A s H locs M) {k o : Nat} (hk : G[k]? = some (o, 0, 7, 0)) {v : Int32} (hd : decode cc pc = .ok (.putfield 72, 3)) (kk : ∀ (H : Heap) (locs : List Loc), Wd D ad cs G A s H locs (wr M o 11 0 v) → W p l e R s m args below meth c H locs cells slots Q (F0 m (pc + 3) ls rest)) : W p l e R s m args below meth c H locs cells slots Q (F0 m pc ls (.int v :: .ref (ad k) :: rest)) := r_puti F X hk (C := RX7) (T := TX7) (N := 12) (ty := .int) rfl inT7 tyX7 tyX7_ok nmX7 11 (by decide) rfl (mT1 131 rfl rfl) rfl (by decide +kernel) rfl rfl okL7 rfl hd kk
theorem gf_X5_12 (F : CallFix p m c cc nL s args TS RX5) (X : Wd D ad cs G A s H locs M) {k o : Nat} (hk : G[k]? = some (o, 0, 5, 0)) (hd : decode cc pc = .ok (.getfield 12, 3)) (kk : W p l e R s m args below meth c H locs cells slots Q (F0 m (pc + 3) ls (.ref (ad (cO G 5)) :: rest))) : W p l e R s m args below meth c H locs cells slots Q (F0 m pc ls (.ref (ad k) :: rest)) := r_get F X hk (C := RX5) (T := TX5) (N := 9) rfl inT5 0 (by decide) rfl (mT1 157 rfl rfl) rfl hd kk
theorem gf_X9_199 (F : CallFix p m c cc nL s args TS RX9) (X : Wd D ad cs G A s H locs M) {k o : Nat} (hk : G[k]? = some (o, 0, 5, 0)) (hd : decode cc pc = .ok (.getfield 199, 3)) (kk : W p l e R s m args below meth c H locs cells slots Q (F0 m (pc + 3) ls (.ref (ad (cO G 5)) :: rest))) : W p l e R s m args below meth c H locs cells slots Q (F0 m pc ls (.ref (ad k) :: rest)) := r_get F X hk (C := RX5) (T := TX5) (N := 9) rfl inT5 0 (by decide) rfl (mT1 158 rfl rfl) rfl hd kk
theorem gf_X5_18 (F : CallFix p m c cc nL s args TS RX5) (X : Wd D ad cs G A s H locs M) {k o : Nat} (hk : G[k]? = some (o, 0, 5, 0)) (hd : decode cc pc = .ok (.getfield 18, 3)) (kk : W p l e R s m args below meth c H locs cells slots Q (F0 m (pc + 3) ls (.ref (ad (k + 1)) :: rest))) : W p l e R s m args below meth c H locs cells slots Q (F0 m pc ls (.ref (ad k) :: rest)) := r_get F X hk (C := RX5) (T := TX5) (N := 9) rfl inT5 1 (by decide) rfl (mT1 159 rfl rfl) rfl hd kk
theorem gf_X9_178 (F : CallFix p m c cc nL s args TS RX9) (X : Wd D ad cs G A s H locs M) {k o : Nat} (hk : G[k]? = some (o, 0, 5, 0)) (hd : decode cc pc = .ok (.getfield 178, 3)) (kk : W p l e R s m args below meth c H locs cells slots Q (F0 m (pc + 3) ls (.ref (ad (k + 1)) :: rest))) : W p l e R s m args below meth c H locs cells slots Q (F0 m pc ls (.ref (ad k) :: rest)) := r_get F X hk (C := RX5) (T := TX5) (N := 9) rfl inT5 1 (by decide) rfl (mT1 160 rfl rfl) rfl hd kk
theorem gf_X5_22 (F : CallFix p m c cc nL s args TS RX5) (X : Wd D ad cs G A s H locs M) {k o : Nat} (hk : G[k]? = some (o, 0, 5, 0)) (hd : decode cc pc = .ok (.getfield 22, 3)) (kk : W p l e R s m args below meth c H locs cells slots Q (F0 m (pc + 3) ls (.ref (ad (k + 2)) :: rest))) : W p l e R s m args below meth c H locs cells slots Q (F0 m pc ls (.ref (ad k) :: rest)) := r_get F X hk (C := RX5) (T := TX5) (N := 9) rfl inT5 2 (by decide) rfl (mT1 161 rfl rfl) rfl hd kk
theorem gf_X9_181 (F : CallFix p m c cc nL s args TS RX9) (X : Wd D ad cs G A s H locs M) {k o : Nat} (hk : G[k]? = some (o, 0, 5, 0)) (hd : decode cc pc = .ok (.getfield 181, 3)) (kk : W p l e R s m args below meth c H locs cells slots Q (F0 m (pc + 3) ls (.ref (ad (k + 2)) :: rest))) : W p l e R s m args below meth c H locs cells slots Q (F0 m pc ls (.ref (ad k) :: rest)) := r_get F X hk (C := RX5) (T := TX5) (N := 9) rfl inT5 2 (by decide) rfl (mT1 162 rfl rfl) rfl hd kk
theorem gf_X5_25 (F : CallFix p m c cc nL s args TS RX5) (X : Wd D ad cs G A s H locs M) {k o : Nat} (hk : G[k]? = some (o, 0, 5, 0)) (hd : decode cc pc = .ok (.getfield 25, 3)) (kk : W p l e R s m args below meth c H locs cells slots Q (F0 m (pc + 3) ls (.ref (ad (k + 3)) :: rest))) : W p l e R s m args below meth c H locs cells slots Q (F0 m pc ls (.ref (ad k) :: rest)) := r_get F X hk (C := RX5) (T := TX5) (N := 9) rfl inT5 3 (by decide) rfl (mT1 163 rfl rfl) rfl hd kk
theorem gf_X9_184 (F : CallFix p m c cc nL s args TS RX9) (X : Wd D ad cs G A s H locs M) {k o : Nat} (hk : G[k]? = some (o, 0, 5, 0)) (hd : decode cc pc = .ok (.getfield 184, 3)) (kk : W p l e R s m args below meth c H locs cells slots Q (F0 m (pc + 3) ls (.ref (ad (k + 3)) :: rest))) : W p l e R s m args below meth c H locs cells slots Q (F0 m pc ls (.ref (ad k) :: rest)) := r_get F X hk (C := RX5) (T := TX5) (N := 9) rfl inT5 3 (by decide) rfl (mT1 164 rfl rfl) rfl hd kk
theorem gf_X5_28 (F : CallFix p m c cc nL s args TS RX5) (X : Wd D ad cs G A s H locs M) {k o : Nat} (hk : G[k]? = some (o, 0, 5, 0)) (hd : decode cc pc = .ok (.getfield 28, 3)) (kk : W p l e R s m args below meth c H locs cells slots Q (F0 m (pc + 3) ls (.ref (ad (k + 4)) :: rest))) : W p l e R s m args below meth c H locs cells slots Q (F0 m pc ls (.ref (ad k) :: rest)) := r_get F X hk (C := RX5) (T := TX5) (N := 9) rfl inT5 4 (by decide) rfl (mT1 165 rfl rfl) rfl hd kk
theorem gf_X9_187 (F : CallFix p m c cc nL s args TS RX9) (X : Wd D ad cs G A s H locs M) {k o : Nat} (hk : G[k]? = some (o, 0, 5, 0)) (hd : decode cc pc = .ok (.getfield 187, 3)) (kk : W p l e R s m args below meth c H locs cells slots Q (F0 m (pc + 3) ls (.ref (ad (k + 4)) :: rest))) : W p l e R s m args below meth c H locs cells slots Q (F0 m pc ls (.ref (ad k) :: rest)) := r_get F X hk (C := RX5) (T := TX5) (N := 9) rfl inT5 4 (by decide) rfl (mT1 166 rfl rfl) rfl hd kk
theorem gf_X5_31 (F : CallFix p m c cc nL s args TS RX5) (X : Wd D ad cs G A s H locs M) {k o : Nat} (hk : G[k]? = some (o, 0, 5, 0)) (hd : decode cc pc = .ok (.getfield 31, 3)) (kk : W p l e R s m args below meth c H locs cells slots Q (F0 m (pc + 3) ls (.ref (ad (k + 5)) :: rest))) : W p l e R s m args below meth c H locs cells slots Q (F0 m pc ls (.ref (ad k) :: rest)) := r_get F X hk (C := RX5) (T := TX5) (N := 9) rfl inT5 5 (by decide) rfl (mT1 167 rfl rfl) rfl hd kk
theorem gf_X9_190 (F : CallFix p m c cc nL s args TS RX9) (X : Wd D ad cs G A s H locs M) {k o : Nat} (hk : G[k]? = some (o, 0, 5, 0)) (hd : decode cc pc = .ok (.getfield 190, 3)) (kk : W p l e R s m args below meth c H locs cells slots Q (F0 m (pc + 3) ls (.ref (ad (k + 5)) :: rest))) : W p l e R s m args below meth c H locs cells slots Q (F0 m pc ls (.ref (ad k) :: rest)) := r_get F X hk (C := RX5) (T := TX5) (N := 9) rfl inT5 5 (by decide) rfl (mT1 168 rfl rfl) rfl hd kk
theorem gf_X5_34 (F : CallFix p m c cc nL s args TS RX5) (X : Wd D ad cs G A s H locs M) {k o : Nat} (hk : G[k]? = some (o, 0, 5, 0)) (hd : decode cc pc = .ok (.getfield 34, 3)) (kk : W p l e R s m args below meth c H locs cells slots Q (F0 m (pc + 3) ls (.ref (ad (k + 6)) :: rest))) : W p l e R s m args below meth c H locs cells slots Q (F0 m pc ls (.ref (ad k) :: rest)) := r_get F X hk (C := RX5) (T := TX5) (N := 9) rfl inT5 6 (by decide) rfl (mT1 169 rfl rfl) rfl hd kk
theorem gf_X9_193 (F : CallFix p m c cc nL s args TS RX9) (X : Wd D ad cs G A s H locs M) {k o : Nat} (hk : G[k]? = some (o, 0, 5, 0)) (hd : decode cc pc = .ok (.getfield 193, 3)) (kk : W p l e R s m args below meth c H locs cells slots Q (F0 m (pc + 3) ls (.ref (ad (k + 6)) :: rest))) : W p l e R s m args below meth c H locs cells slots Q (F0 m pc ls (.ref (ad k) :: rest)) := r_get F X hk (C := RX5) (T := TX5) (N := 9) rfl inT5 6 (by decide) rfl (mT1 170 rfl rfl) rfl hd kk
theorem gf_X5_37 (F : CallFix p m c cc nL s args TS RX5) (X : Wd D ad cs G A s H locs M) {k o : Nat} (hk : G[k]? = some (o, 0, 5, 0)) (hd : decode cc pc = .ok (.getfield 37, 3)) (kk : W p l e R s m args below meth c H locs cells slots Q (F0 m (pc + 3) ls (.ref (ad (k + 7)) :: rest))) : W p l e R s m args below meth c H locs cells slots Q (F0 m pc ls (.ref (ad k) :: rest)) := r_get F X hk (C := RX5) (T := TX5) (N := 9) rfl inT5 7 (by decide) rfl (mT1 171 rfl rfl) rfl hd kk
theorem gf_X9_196 (F : CallFix p m c cc nL s args TS RX9) (X : Wd D ad cs G A s H locs M) {k o : Nat} (hk : G[k]? = some (o, 0, 5, 0)) (hd : decode cc pc = .ok (.getfield 196, 3)) (kk : W p l e R s m args below meth c H locs cells slots Q (F0 m (pc + 3) ls (.ref (ad (k + 7)) :: rest))) : W p l e R s m args below meth c H locs cells slots Q (F0 m pc ls (.ref (ad k) :: rest)) := r_get F X hk (C := RX5) (T := TX5) (N := 9) rfl inT5 7 (by decide) rfl (mT1 172 rfl rfl) rfl hd kk
theorem gf_X5_40 (F : CallFix p m c cc nL s args TS RX5) (X : Wd D ad cs G A s H locs M) {k o : Nat} (hk : G[k]? = some (o, 0, 5, 0)) (hd : decode cc pc = .ok (.getfield 40, 3)) (kk : W p l e R s m args below meth c H locs cells slots Q (F0 m (pc + 3) ls (.int (M o 8 0) :: rest))) : W p l e R s m args below meth c H locs cells slots Q (F0 m pc ls (.ref (ad k) :: rest)) := r_get F X hk (C := RX5) (T := TX5) (N := 9) rfl inT5 8 (by decide) rfl (mT1 173 rfl rfl) rfl hd kk
theorem pf_X5_40 (F : CallFix p m c cc nL s args TS RX5) (X : Wd D ad cs G A s H locs M) {k o : Nat} (hk : G[k]? = some (o, 0, 5, 0)) {v : Int32} (hd : decode cc pc = .ok (.putfield 40, 3)) (kk : ∀ (H : Heap) (locs : List Loc), Wd D ad cs G A s H locs (wr M o 8 0 v) → W p l e R s m args below meth c H locs cells slots Q (F0 m (pc + 3) ls rest)) : W p l e R s m args below meth c H locs cells slots Q (F0 m pc ls (.int v :: .ref (ad k) :: rest)) := r_puti F X hk (C := RX5) (T := TX5) (N := 9) (ty := .int) rfl inT5 tyX5 tyX5_ok nmX5 8 (by decide) rfl (mT1 173 rfl rfl) rfl (by decide +kernel) rfl rfl okL5 rfl hd kk
theorem gf_X9_214 (F : CallFix p m c cc nL s args TS RX9) (X : Wd D ad cs G A s H locs M) {k o : Nat} (hk : G[k]? = some (o, 0, 5, 0)) (hd : decode cc pc = .ok (.getfield 214, 3)) (kk : W p l e R s m args below meth c H locs cells slots Q (F0 m (pc + 3) ls (.int (M o 8 0) :: rest))) : W p l e R s m args below meth c H locs cells slots Q (F0 m pc ls (.ref (ad k) :: rest)) := r_get F X hk (C := RX5) (T := TX5) (N := 9) rfl inT5 8 (by decide) rfl (mT1 174 rfl rfl) rfl hd kk
theorem pf_X9_214 (F : CallFix p m c cc nL s args TS RX9) (X : Wd D ad cs G A s H locs M) {k o : Nat} (hk : G[k]? = some (o, 0, 5, 0)) {v : Int32} (hd : decode cc pc = .ok (.putfield 214, 3)) (kk : ∀ (H : Heap) (locs : List Loc), Wd D ad cs G A s H locs (wr M o 8 0 v) → W p l e R s m args below meth c H locs cells slots Q (F0 m (pc + 3) ls rest)) : W p l e R s m args below meth c H locs cells slots Q (F0 m pc ls (.int v :: .ref (ad k) :: rest)) := r_puti F X hk (C := RX5) (T := TX5) (N := 9) (ty := .int) rfl inT5 tyX5 tyX5_ok nmX5 8 (by decide) rfl (mT1 174 rfl rfl) rfl (by decide +kernel) rfl rfl okL5 rfl hd kk
theorem gf_X6_12 (F : CallFix p m c cc nL s args TS RX6) (X : Wd D ad cs G A s H locs M) {k o : Nat} (hk : G[k]? = some (o, 0, 6, 0)) (hd : decode cc pc = .ok (.getfield 12, 3)) (kk : W p l e R s m args below meth c H locs cells slots Q (F0 m (pc + 3) ls (.ref (ad (cO G 7)) :: rest))) : W p l e R s m args below meth c H locs cells slots Q (F0 m pc ls (.ref (ad k) :: rest)) := r_get F X hk (C := RX6) (T := TX6) (N := 3) rfl inT6 0 (by decide) rfl (mT1 204 rfl rfl) rfl hd kk
theorem gf_X8_22 (F : CallFix p m c cc nL s args TS RX8) (X : Wd D ad cs G A s H locs M) {k o : Nat} (hk : G[k]? = some (o, 0, 6, 0)) (hd : decode cc pc = .ok (.getfield 22, 3)) (kk : W p l e R s m args below meth c H locs cells slots Q (F0 m (pc + 3) ls (.ref (ad (cO G 7)) :: rest))) : W p l e R s m args below meth c H locs cells slots Q (F0 m pc ls (.ref (ad k) :: rest)) := r_get F X hk (C := RX6) (T := TX6) (N := 3) rfl inT6 0 (by decide) rfl (mT1 205 rfl rfl) rfl hd kk
theorem gf_X9_224 (F : CallFix p m c cc nL s args TS RX9) (X : Wd D ad cs G A s H locs M) {k o : Nat} (hk : G[k]? = some (o, 0, 6, 0)) (hd : decode cc pc = .ok (.getfield 224, 3)) (kk : W p l e R s m args below meth c H locs cells slots Q (F0 m (pc + 3) ls (.ref (ad (cO G 7)) :: rest))) : W p l e R s m args below meth c H locs cells slots Q (F0 m pc ls (.ref (ad k) :: rest)) := r_get F X hk (C := RX6) (T := TX6) (N := 3) rfl inT6 0 (by decide) rfl (mT1 206 rfl rfl) rfl hd kk
theorem gf_X6_21 (F : CallFix p m c cc nL s args TS RX6) (X : Wd D ad cs G A s H locs M) {k o : Nat} (hk : G[k]? = some (o, 0, 6, 0)) (hd : decode cc pc = .ok (.getfield 21, 3)) (kk : W p l e R s m args below meth c H locs cells slots Q (F0 m (pc + 3) ls (.ref (ad (cO G 8)) :: rest))) : W p l e R s m args below meth c H locs cells slots Q (F0 m pc ls (.ref (ad k) :: rest)) := r_get F X hk (C := RX6) (T := TX6) (N := 3) rfl inT6 1 (by decide) rfl (mT1 207 rfl rfl) rfl hd kk
theorem gf_X9_228 (F : CallFix p m c cc nL s args TS RX9) (X : Wd D ad cs G A s H locs M) {k o : Nat} (hk : G[k]? = some (o, 0, 6, 0)) (hd : decode cc pc = .ok (.getfield 228, 3)) (kk : W p l e R s m args below meth c H locs cells slots Q (F0 m (pc + 3) ls (.ref (ad (cO G 8)) :: rest))) : W p l e R s m args below meth c H locs cells slots Q (F0 m pc ls (.ref (ad k) :: rest)) := r_get F X hk (C := RX6) (T := TX6) (N := 3) rfl inT6 1 (by decide) rfl (mT1 208 rfl rfl) rfl hd kk
theorem gf_X6_25 (F : CallFix p m c cc nL s args TS RX6) (X : Wd D ad cs G A s H locs M) {k o : Nat} (hk : G[k]? = some (o, 0, 6, 0)) (hd : decode cc pc = .ok (.getfield 25, 3)) (kk : W p l e R s m args below meth c H locs cells slots Q (F0 m (pc + 3) ls (.ref (ad (k + 1)) :: rest))) : W p l e R s m args below meth c H locs cells slots Q (F0 m pc ls (.ref (ad k) :: rest)) := r_get F X hk (C := RX6) (T := TX6) (N := 3) rfl inT6 2 (by decide) rfl (mT1 209 rfl rfl) rfl hd kk
theorem gf_X8_32 (F : CallFix p m c cc nL s args TS RX8) (X : Wd D ad cs G A s H locs M) {k o : Nat} (hk : G[k]? = some (o, 0, 6, 0)) (hd : decode cc pc = .ok (.getfield 32, 3)) (kk : W p l e R s m args below meth c H locs cells slots Q (F0 m (pc + 3) ls (.ref (ad (k + 1)) :: rest))) : W p l e R s m args below meth c H locs cells slots Q (F0 m pc ls (.ref (ad k) :: rest)) := r_get F X hk (C := RX6) (T := TX6) (N := 3) rfl inT6 2 (by decide) rfl (mT1 210 rfl rfl) rfl hd kk
theorem gf_X9_414 (F : CallFix p m c cc nL s args TS RX9) (X : Wd D ad cs G A s H locs M) {k o : Nat} (hk : G[k]? = some (o, 0, 6, 0)) (hd : decode cc pc = .ok (.getfield 414, 3)) (kk : W p l e R s m args below meth c H locs cells slots Q (F0 m (pc + 3) ls (.ref (ad (k + 1)) :: rest))) : W p l e R s m args below meth c H locs cells slots Q (F0 m pc ls (.ref (ad k) :: rest)) := r_get F X hk (C := RX6) (T := TX6) (N := 3) rfl inT6 2 (by decide) rfl (mT1 211 rfl rfl) rfl hd kk
theorem gf_X1_9 (F : CallFix p m c cc nL s args TS RX1) (X : Wd D ad cs G A s H locs M) {k o : Nat} (hk : G[k]? = some (o, 0, 1, 0)) (hd : decode cc pc = .ok (.getfield 9, 3)) (kk : W p l e R s m args below meth c H locs cells slots Q (F0 m (pc + 3) ls (.ref (ad (k + 1)) :: rest))) : W p l e R s m args below meth c H locs cells slots Q (F0 m pc ls (.ref (ad k) :: rest)) := r_get F X hk (C := RX1) (T := TX1) (N := 2) rfl inT1 0 (by decide) rfl (mT1 225 rfl rfl) rfl hd kk
theorem gf_X1_15 (F : CallFix p m c cc nL s args TS RX1) (X : Wd D ad cs G A s H locs M) {k o : Nat} (hk : G[k]? = some (o, 0, 1, 0)) (hd : decode cc pc = .ok (.getfield 15, 3)) (kk : W p l e R s m args below meth c H locs cells slots Q (F0 m (pc + 3) ls (.int (M o 1 0) :: rest))) : W p l e R s m args below meth c H locs cells slots Q (F0 m pc ls (.ref (ad k) :: rest)) := r_get F X hk (C := RX1) (T := TX1) (N := 2) rfl inT1 1 (by decide) rfl (mT1 226 rfl rfl) rfl hd kk
theorem pf_X1_15 (F : CallFix p m c cc nL s args TS RX1) (X : Wd D ad cs G A s H locs M) {k o : Nat} (hk : G[k]? = some (o, 0, 1, 0)) {v : Int32} (hd : decode cc pc = .ok (.putfield 15, 3)) (kk : ∀ (H : Heap) (locs : List Loc), Wd D ad cs G A s H locs (wr M o 1 0 v) → W p l e R s m args below meth c H locs cells slots Q (F0 m (pc + 3) ls rest)) : W p l e R s m args below meth c H locs cells slots Q (F0 m pc ls (.int v :: .ref (ad k) :: rest)) := r_puti F X hk (C := RX1) (T := TX1) (N := 2) (ty := .int) rfl inT1 tyX1 tyX1_ok nmX1 1 (by decide) rfl (mT1 226 rfl rfl) rfl (by decide +kernel) rfl rfl okL1 rfl hd kk
theorem gf_X9_156 (F : CallFix p m c cc nL s args TS RX9) (X : Wd D ad cs G A s H locs M) {k o : Nat} (hk : G[k]? = some (o, 0, 1, 0)) (hd : decode cc pc = .ok (.getfield 156, 3)) (kk : W p l e R s m args below meth c H locs cells slots Q (F0 m (pc + 3) ls (.int (M o 1 0) :: rest))) : W p l e R s m args below meth c H locs cells slots Q (F0 m pc ls (.ref (ad k) :: rest)) := r_get F X hk (C := RX1) (T := TX1) (N := 2) rfl inT1 1 (by decide) rfl (mT1 227 rfl rfl) rfl hd kk
theorem pf_X9_156 (F : CallFix p m c cc nL s args TS RX9) (X : Wd D ad cs G A s H locs M) {k o : Nat} (hk : G[k]? = some (o, 0, 1, 0)) {v : Int32} (hd : decode cc pc = .ok (.putfield 156, 3)) (kk : ∀ (H : Heap) (locs : List Loc), Wd D ad cs G A s H locs (wr M o 1 0 v) → W p l e R s m args below meth c H locs cells slots Q (F0 m (pc + 3) ls rest)) : W p l e R s m args below meth c H locs cells slots Q (F0 m pc ls (.int v :: .ref (ad k) :: rest)) := r_puti F X hk (C := RX1) (T := TX1) (N := 2) (ty := .int) rfl inT1 tyX1 tyX1_ok nmX1 1 (by decide) rfl (mT1 227 rfl rfl) rfl (by decide +kernel) rfl rfl okL1 rfl hd kk
theorem gf_X8_9 (F : CallFix p m c cc nL s args TS RX8) (X : Wd D ad cs G A s H locs M) {k o : Nat} (hk : G[k]? = some (o, 0, 8, 0)) (hd : decode cc pc = .ok (.getfield 9, 3)) (kk : W p l e R s m args below meth c H locs cells slots Q (F0 m (pc + 3) ls (.ref (ad (k + 1)) :: rest))) : W p l e R s m args below meth c H locs cells slots Q (F0 m pc ls (.ref (ad k) :: rest)) := r_get F X hk (C := RX8) (T := TX8) (N := 3) rfl inT8 0 (by decide) rfl (mT1 239 rfl rfl) rfl hd kk
theorem gf_X8_15 (F : CallFix p m c cc nL s args TS RX8) (X : Wd D ad cs G A s H locs M) {k o : Nat} (hk : G[k]? = some (o, 0, 8, 0)) (hd : decode cc pc = .ok (.getfield 15, 3)) (kk : W p l e R s m args below meth c H locs cells slots Q (F0 m (pc + 3) ls (.ref (ad (k + 2)) :: rest))) : W p l e R s m args below meth c H locs cells slots Q (F0 m pc ls (.ref (ad k) :: rest)) := r_get F X hk (C := RX8) (T := TX8) (N := 3) rfl inT8 1 (by decide) rfl (mT2 0 rfl rfl) rfl hd kk
theorem gf_X8_18 (F : CallFix p m c cc nL s args TS RX8) (X : Wd D ad cs G A s H locs M) {k o : Nat} (hk : G[k]? = some (o, 0, 8, 0)) (hd : decode cc pc = .ok (.getfield 18, 3)) (kk : W p l e R s m args below meth c H locs cells slots Q (F0 m (pc + 3) ls (.int (M o 2 0) :: rest))) : W p l e R s m args below meth c H locs cells slots Q (F0 m pc ls (.ref (ad k) :: rest)) := r_get F X hk (C := RX8) (T := TX8) (N := 3) rfl inT8 2 (by decide) rfl (mT2 1 rfl rfl) rfl hd kk
theorem pf_X8_18 (F : CallFix p m c cc nL s args TS RX8) (X : Wd D ad cs G A s H locs M) {k o : Nat} (hk : G[k]? = some (o, 0, 8, 0)) {v : Int32} (hd : decode cc pc = .ok (.putfield 18, 3)) (kk : ∀ (H : Heap) (locs : List Loc), Wd D ad cs G A s H locs (wr M o 2 0 v) → W p l e R s m args below meth c H locs cells slots Q (F0 m (pc + 3) ls rest)) : W p l e R s m args below meth c H locs cells slots Q (F0 m pc ls (.int v :: .ref (ad k) :: rest)) := r_puti F X hk (C := RX8) (T := TX8) (N := 3) (ty := .int) rfl inT8 tyX8 tyX8_ok nmX8 2 (by decide) rfl (mT2 1 rfl rfl) rfl (by decide +kernel) rfl rfl okL8 rfl hd kk
theorem gf_X9_253 (F : CallFix p m c cc nL s args TS RX9) (X : Wd D ad cs G A s H locs M) {k o : Nat} (hk : G[k]? = some (o, 0, 8, 0)) (hd : decode cc pc = .ok (.getfield 253, 3)) (kk : W p l e R s m args below meth c H locs cells slots Q (F0 m (pc + 3) ls (.int (M o 2 0) :: rest))) : W p l e R s m args below meth c H locs cells slots Q (F0 m pc ls (.ref (ad k) :: rest)) := r_get F X hk (C := RX8) (T := TX8) (N := 3) rfl inT8 2 (by decide) rfl (mT2 2 rfl rfl) rfl hd kk
theorem pf_X9_253 (F : CallFix p m c cc nL s args TS RX9) (X : Wd D ad cs G A s H locs M) {k o : Nat} (hk : G[k]? = some (o, 0, 8, 0)) {v : Int32} (hd : decode cc pc = .ok (.putfield 253, 3)) (kk : ∀ (H : Heap) (locs : List Loc), Wd D ad cs G A s H locs (wr M o 2 0 v) → W p l e R s m args below meth c H locs cells slots Q (F0 m (pc + 3) ls rest)) : W p l e R s m args below meth c H locs cells slots Q (F0 m pc ls (.int v :: .ref (ad k) :: rest)) := r_puti F X hk (C := RX8) (T := TX8) (N := 3) (ty := .int) rfl inT8 tyX8 tyX8_ok nmX8 2 (by decide) rfl (mT2 2 rfl rfl) rfl (by decide +kernel) rfl rfl okL8 rfl hd kk
theorem gf_X0_11 (F : CallFix p m c cc nL s args TS RX0) (X : Wd D ad cs G A s H locs M) {k o : Nat} (hk : G[k]? = some (o, 0, 0, 0)) (hd : decode cc pc = .ok (.getfield 11, 3)) (kk : W p l e R s m args below meth c H locs cells slots Q (F0 m (pc + 3) ls (.ref (ad (k + 1)) :: rest))) : W p l e R s m args below meth c H locs cells slots Q (F0 m pc ls (.ref (ad k) :: rest)) := r_get F X hk (C := RX0) (T := TX0) (N := 4) rfl inT0 0 (by decide) rfl (mT2 19 rfl rfl) rfl hd kk
theorem gf_X0_17 (F : CallFix p m c cc nL s args TS RX0) (X : Wd D ad cs G A s H locs M) {k o : Nat} (hk : G[k]? = some (o, 0, 0, 0)) (hd : decode cc pc = .ok (.getfield 17, 3)) (kk : W p l e R s m args below meth c H locs cells slots Q (F0 m (pc + 3) ls (.ref (ad (k + 2)) :: rest))) : W p l e R s m args below meth c H locs cells slots Q (F0 m pc ls (.ref (ad k) :: rest)) := r_get F X hk (C := RX0) (T := TX0) (N := 4) rfl inT0 1 (by decide) rfl (mT2 20 rfl rfl) rfl hd kk
theorem gf_X0_21 (F : CallFix p m c cc nL s args TS RX0) (X : Wd D ad cs G A s H locs M) {k o : Nat} (hk : G[k]? = some (o, 0, 0, 0)) (hd : decode cc pc = .ok (.getfield 21, 3)) (kk : W p l e R s m args below meth c H locs cells slots Q (F0 m (pc + 3) ls (.ref (ad (k + 3)) :: rest))) : W p l e R s m args below meth c H locs cells slots Q (F0 m pc ls (.ref (ad k) :: rest)) := r_get F X hk (C := RX0) (T := TX0) (N := 4) rfl inT0 2 (by decide) rfl (mT2 21 rfl rfl) rfl hd kk
theorem gf_X9_241 (F : CallFix p m c cc nL s args TS RX9) (X : Wd D ad cs G A s H locs M) {k o : Nat} (hk : G[k]? = some (o, 0, 0, 0)) (hd : decode cc pc = .ok (.getfield 241, 3)) (kk : W p l e R s m args below meth c H locs cells slots Q (F0 m (pc + 3) ls (.ref (ad (k + 3)) :: rest))) : W p l e R s m args below meth c H locs cells slots Q (F0 m pc ls (.ref (ad k) :: rest)) := r_get F X hk (C := RX0) (T := TX0) (N := 4) rfl inT0 2 (by decide) rfl (mT2 22 rfl rfl) rfl hd kk
theorem gf_X0_24 (F : CallFix p m c cc nL s args TS RX0) (X : Wd D ad cs G A s H locs M) {k o : Nat} (hk : G[k]? = some (o, 0, 0, 0)) (hd : decode cc pc = .ok (.getfield 24, 3)) (kk : W p l e R s m args below meth c H locs cells slots Q (F0 m (pc + 3) ls (.int (M o 3 0) :: rest))) : W p l e R s m args below meth c H locs cells slots Q (F0 m pc ls (.ref (ad k) :: rest)) := r_get F X hk (C := RX0) (T := TX0) (N := 4) rfl inT0 3 (by decide) rfl (mT2 23 rfl rfl) rfl hd kk
theorem pf_X0_24 (F : CallFix p m c cc nL s args TS RX0) (X : Wd D ad cs G A s H locs M) {k o : Nat} (hk : G[k]? = some (o, 0, 0, 0)) {v : Int32} (hd : decode cc pc = .ok (.putfield 24, 3)) (kk : ∀ (H : Heap) (locs : List Loc), Wd D ad cs G A s H locs (wr M o 3 0 v) → W p l e R s m args below meth c H locs cells slots Q (F0 m (pc + 3) ls rest)) : W p l e R s m args below meth c H locs cells slots Q (F0 m pc ls (.int v :: .ref (ad k) :: rest)) := r_puti F X hk (C := RX0) (T := TX0) (N := 4) (ty := .int) rfl inT0 tyX0 tyX0_ok nmX0 3 (by decide) rfl (mT2 23 rfl rfl) rfl (by decide +kernel) rfl rfl okL0 rfl hd kk
theorem gf_X9_238 (F : CallFix p m c cc nL s args TS RX9) (X : Wd D ad cs G A s H locs M) {k o : Nat} (hk : G[k]? = some (o, 0, 0, 0)) (hd : decode cc pc = .ok (.getfield 238, 3)) (kk : W p l e R s m args below meth c H locs cells slots Q (F0 m (pc + 3) ls (.int (M o 3 0) :: rest))) : W p l e R s m args below meth c H locs cells slots Q (F0 m pc ls (.ref (ad k) :: rest)) := r_get F X hk (C := RX0) (T := TX0) (N := 4) rfl inT0 3 (by decide) rfl (mT2 24 rfl rfl) rfl hd kk
theorem pf_X9_238 (F : CallFix p m c cc nL s args TS RX9) (X : Wd D ad cs G A s H locs M) {k o : Nat} (hk : G[k]? = some (o, 0, 0, 0)) {v : Int32} (hd : decode cc pc = .ok (.putfield 238, 3)) (kk : ∀ (H : Heap) (locs : List Loc), Wd D ad cs G A s H locs (wr M o 3 0 v) → W p l e R s m args below meth c H locs cells slots Q (F0 m (pc + 3) ls rest)) : W p l e R s m args below meth c H locs cells slots Q (F0 m pc ls (.int v :: .ref (ad k) :: rest)) := r_puti F X hk (C := RX0) (T := TX0) (N := 4) (ty := .int) rfl inT0 tyX0 tyX0_ok nmX0 3 (by decide) rfl (mT2 24 rfl rfl) rfl (by decide +kernel) rfl rfl okL0 rfl hd kk
theorem gf_X4_9 (F : CallFix p m c cc nL s args TS RX4) (X : Wd D ad cs G A s H locs M) {k o : Nat} (hk : G[k]? = some (o, 0, 4, 0)) (hd : decode cc pc = .ok (.getfield 9, 3)) (kk : W p l e R s m args below meth c H locs cells slots Q (F0 m (pc + 3) ls (.ref (ad (k + 1)) :: rest))) : W p l e R s m args below meth c H locs cells slots Q (F0 m pc ls (.ref (ad k) :: rest)) := r_get F X hk (C := RX4) (T := TX4) (N := 4) rfl inT4 0 (by decide) rfl (mT2 41 rfl rfl) rfl hd kk
theorem gf_X9_172 (F : CallFix p m c cc nL s args TS RX9) (X : Wd D ad cs G A s H locs M) {k o : Nat} (hk : G[k]? = some (o, 0, 4, 0)) (hd : decode cc pc = .ok (.getfield 172, 3)) (kk : W p l e R s m args below meth c H locs cells slots Q (F0 m (pc + 3) ls (.ref (ad (k + 1)) :: rest))) : W p l e R s m args below meth c H locs cells slots Q (F0 m pc ls (.ref (ad k) :: rest)) := r_get F X hk (C := RX4) (T := TX4) (N := 4) rfl inT4 0 (by decide) rfl (mT2 42 rfl rfl) rfl hd kk
theorem gf_X4_15 (F : CallFix p m c cc nL s args TS RX4) (X : Wd D ad cs G A s H locs M) {k o : Nat} (hk : G[k]? = some (o, 0, 4, 0)) (hd : decode cc pc = .ok (.getfield 15, 3)) (kk : W p l e R s m args below meth c H locs cells slots Q (F0 m (pc + 3) ls (.int (M o 1 0) :: rest))) : W p l e R s m args below meth c H locs cells slots Q (F0 m pc ls (.ref (ad k) :: rest)) := r_get F X hk (C := RX4) (T := TX4) (N := 4) rfl inT4 1 (by decide) rfl (mT2 43 rfl rfl) rfl hd kk
theorem pf_X4_15 (F : CallFix p m c cc nL s args TS RX4) (X : Wd D ad cs G A s H locs M) {k o : Nat} (hk : G[k]? = some (o, 0, 4, 0)) {v : Int32} (hv : v = 0 ∨ v = 1) (hd : decode cc pc = .ok (.putfield 15, 3)) (kk : ∀ (H : Heap) (locs : List Loc), Wd D ad cs G A s H locs (wr M o 1 0 v) → W p l e R s m args below meth c H locs cells slots Q (F0 m (pc + 3) ls rest)) : W p l e R s m args below meth c H locs cells slots Q (F0 m pc ls (.int v :: .ref (ad k) :: rest)) := r_puti F X hk (C := RX4) (T := TX4) (N := 4) (ty := .boolean) rfl inT4 tyX4 tyX4_ok nmX4 1 (by decide) rfl (mT2 43 rfl rfl) rfl (by decide +kernel) (by rcases hv with rfl | rfl <;> rfl) (by rcases hv with rfl | rfl <;> rfl) okL4 rfl hd kk
theorem gf_X9_164 (F : CallFix p m c cc nL s args TS RX9) (X : Wd D ad cs G A s H locs M) {k o : Nat} (hk : G[k]? = some (o, 0, 4, 0)) (hd : decode cc pc = .ok (.getfield 164, 3)) (kk : W p l e R s m args below meth c H locs cells slots Q (F0 m (pc + 3) ls (.int (M o 1 0) :: rest))) : W p l e R s m args below meth c H locs cells slots Q (F0 m pc ls (.ref (ad k) :: rest)) := r_get F X hk (C := RX4) (T := TX4) (N := 4) rfl inT4 1 (by decide) rfl (mT2 44 rfl rfl) rfl hd kk
theorem pf_X9_164 (F : CallFix p m c cc nL s args TS RX9) (X : Wd D ad cs G A s H locs M) {k o : Nat} (hk : G[k]? = some (o, 0, 4, 0)) {v : Int32} (hv : v = 0 ∨ v = 1) (hd : decode cc pc = .ok (.putfield 164, 3)) (kk : ∀ (H : Heap) (locs : List Loc), Wd D ad cs G A s H locs (wr M o 1 0 v) → W p l e R s m args below meth c H locs cells slots Q (F0 m (pc + 3) ls rest)) : W p l e R s m args below meth c H locs cells slots Q (F0 m pc ls (.int v :: .ref (ad k) :: rest)) := r_puti F X hk (C := RX4) (T := TX4) (N := 4) (ty := .boolean) rfl inT4 tyX4 tyX4_ok nmX4 1 (by decide) rfl (mT2 44 rfl rfl) rfl (by decide +kernel) (by rcases hv with rfl | rfl <;> rfl) (by rcases hv with rfl | rfl <;> rfl) okL4 rfl hd kk
theorem gf_X4_19 (F : CallFix p m c cc nL s args TS RX4) (X : Wd D ad cs G A s H locs M) {k o : Nat} (hk : G[k]? = some (o, 0, 4, 0)) (hd : decode cc pc = .ok (.getfield 19, 3)) (kk : W p l e R s m args below meth c H locs cells slots Q (F0 m (pc + 3) ls (.int (M o 2 0) :: rest))) : W p l e R s m args below meth c H locs cells slots Q (F0 m pc ls (.ref (ad k) :: rest)) := r_get F X hk (C := RX4) (T := TX4) (N := 4) rfl inT4 2 (by decide) rfl (mT2 45 rfl rfl) rfl hd kk
theorem pf_X4_19 (F : CallFix p m c cc nL s args TS RX4) (X : Wd D ad cs G A s H locs M) {k o : Nat} (hk : G[k]? = some (o, 0, 4, 0)) {v : Int32} (hd : decode cc pc = .ok (.putfield 19, 3)) (kk : ∀ (H : Heap) (locs : List Loc), Wd D ad cs G A s H locs (wr M o 2 0 v) → W p l e R s m args below meth c H locs cells slots Q (F0 m (pc + 3) ls rest)) : W p l e R s m args below meth c H locs cells slots Q (F0 m pc ls (.int v :: .ref (ad k) :: rest)) := r_puti F X hk (C := RX4) (T := TX4) (N := 4) (ty := .int) rfl inT4 tyX4 tyX4_ok nmX4 2 (by decide) rfl (mT2 45 rfl rfl) rfl (by decide +kernel) rfl rfl okL4 rfl hd kk
theorem gf_X9_314 (F : CallFix p m c cc nL s args TS RX9) (X : Wd D ad cs G A s H locs M) {k o : Nat} (hk : G[k]? = some (o, 0, 4, 0)) (hd : decode cc pc = .ok (.getfield 314, 3)) (kk : W p l e R s m args below meth c H locs cells slots Q (F0 m (pc + 3) ls (.int (M o 2 0) :: rest))) : W p l e R s m args below meth c H locs cells slots Q (F0 m pc ls (.ref (ad k) :: rest)) := r_get F X hk (C := RX4) (T := TX4) (N := 4) rfl inT4 2 (by decide) rfl (mT2 46 rfl rfl) rfl hd kk
theorem pf_X9_314 (F : CallFix p m c cc nL s args TS RX9) (X : Wd D ad cs G A s H locs M) {k o : Nat} (hk : G[k]? = some (o, 0, 4, 0)) {v : Int32} (hd : decode cc pc = .ok (.putfield 314, 3)) (kk : ∀ (H : Heap) (locs : List Loc), Wd D ad cs G A s H locs (wr M o 2 0 v) → W p l e R s m args below meth c H locs cells slots Q (F0 m (pc + 3) ls rest)) : W p l e R s m args below meth c H locs cells slots Q (F0 m pc ls (.int v :: .ref (ad k) :: rest)) := r_puti F X hk (C := RX4) (T := TX4) (N := 4) (ty := .int) rfl inT4 tyX4 tyX4_ok nmX4 2 (by decide) rfl (mT2 46 rfl rfl) rfl (by decide +kernel) rfl rfl okL4 rfl hd kk
theorem gf_X4_23 (F : CallFix p m c cc nL s args TS RX4) (X : Wd D ad cs G A s H locs M) {k o : Nat} (hk : G[k]? = some (o, 0, 4, 0)) (hd : decode cc pc = .ok (.getfield 23, 3)) (kk : W p l e R s m args below meth c H locs cells slots Q (F0 m (pc + 3) ls (.int (M o 3 0) :: rest))) : W p l e R s m args below meth c H locs cells slots Q (F0 m pc ls (.ref (ad k) :: rest)) := r_get F X hk (C := RX4) (T := TX4) (N := 4) rfl inT4 3 (by decide) rfl (mT2 47 rfl rfl) rfl hd kk
theorem pf_X4_23 (F : CallFix p m c cc nL s args TS RX4) (X : Wd D ad cs G A s H locs M) {k o : Nat} (hk : G[k]? = some (o, 0, 4, 0)) {v : Int32} (hd : decode cc pc = .ok (.putfield 23, 3)) (kk : ∀ (H : Heap) (locs : List Loc), Wd D ad cs G A s H locs (wr M o 3 0 v) → W p l e R s m args below meth c H locs cells slots Q (F0 m (pc + 3) ls rest)) : W p l e R s m args below meth c H locs cells slots Q (F0 m pc ls (.int v :: .ref (ad k) :: rest)) := r_puti F X hk (C := RX4) (T := TX4) (N := 4) (ty := .int) rfl inT4 tyX4 tyX4_ok nmX4 3 (by decide) rfl (mT2 47 rfl rfl) rfl (by decide +kernel) rfl rfl okL4 rfl hd kk
theorem gf_X9_171 (F : CallFix p m c cc nL s args TS RX9) (X : Wd D ad cs G A s H locs M) {k o : Nat} (hk : G[k]? = some (o, 0, 4, 0)) (hd : decode cc pc = .ok (.getfield 171, 3)) (kk : W p l e R s m args below meth c H locs cells slots Q (F0 m (pc + 3) ls (.int (M o 3 0) :: rest))) : W p l e R s m args below meth c H locs cells slots Q (F0 m pc ls (.ref (ad k) :: rest)) := r_get F X hk (C := RX4) (T := TX4) (N := 4) rfl inT4 3 (by decide) rfl (mT2 48 rfl rfl) rfl hd kk
theorem pf_X9_171 (F : CallFix p m c cc nL s args TS RX9) (X : Wd D ad cs G A s H locs M) {k o : Nat} (hk : G[k]? = some (o, 0, 4, 0)) {v : Int32} (hd : decode cc pc = .ok (.putfield 171, 3)) (kk : ∀ (H : Heap) (locs : List Loc), Wd D ad cs G A s H locs (wr M o 3 0 v) → W p l e R s m args below meth c H locs cells slots Q (F0 m (pc + 3) ls rest)) : W p l e R s m args below meth c H locs cells slots Q (F0 m pc ls (.int v :: .ref (ad k) :: rest)) := r_puti F X hk (C := RX4) (T := TX4) (N := 4) (ty := .int) rfl inT4 tyX4 tyX4_ok nmX4 3 (by decide) rfl (mT2 48 rfl rfl) rfl (by decide +kernel) rfl rfl okL4 rfl hd kk
theorem gf_X9_14 (F : CallFix p m c cc nL s args TS RX9) (X : Wd D ad cs G A s H locs M) {k o : Nat} (hk : G[k]? = some (o, 0, 9, 0)) (hd : decode cc pc = .ok (.getfield 14, 3)) (kk : W p l e R s m args below meth c H locs cells slots Q (F0 m (pc + 3) ls (.ref (ad (cO G 1)) :: rest))) : W p l e R s m args below meth c H locs cells slots Q (F0 m pc ls (.ref (ad k) :: rest)) := r_get F X hk (C := RX9) (T := TX9) (N := 14) rfl inT9 0 (by decide) rfl (mT2 63 rfl rfl) rfl hd kk
theorem gf_X9_18 (F : CallFix p m c cc nL s args TS RX9) (X : Wd D ad cs G A s H locs M) {k o : Nat} (hk : G[k]? = some (o, 0, 9, 0)) (hd : decode cc pc = .ok (.getfield 18, 3)) (kk : W p l e R s m args below meth c H locs cells slots Q (F0 m (pc + 3) ls (.ref (ad (cO G 2)) :: rest))) : W p l e R s m args below meth c H locs cells slots Q (F0 m pc ls (.ref (ad k) :: rest)) := r_get F X hk (C := RX9) (T := TX9) (N := 14) rfl inT9 1 (by decide) rfl (mT2 64 rfl rfl) rfl hd kk
theorem gf_X9_24 (F : CallFix p m c cc nL s args TS RX9) (X : Wd D ad cs G A s H locs M) {k o : Nat} (hk : G[k]? = some (o, 0, 9, 0)) (hd : decode cc pc = .ok (.getfield 24, 3)) (kk : W p l e R s m args below meth c H locs cells slots Q (F0 m (pc + 3) ls (.ref (ad (cO G 3)) :: rest))) : W p l e R s m args below meth c H locs cells slots Q (F0 m pc ls (.ref (ad k) :: rest)) := r_get F X hk (C := RX9) (T := TX9) (N := 14) rfl inT9 2 (by decide) rfl (mT2 65 rfl rfl) rfl hd kk
theorem gf_X9_31 (F : CallFix p m c cc nL s args TS RX9) (X : Wd D ad cs G A s H locs M) {k o : Nat} (hk : G[k]? = some (o, 0, 9, 0)) (hd : decode cc pc = .ok (.getfield 31, 3)) (kk : W p l e R s m args below meth c H locs cells slots Q (F0 m (pc + 3) ls (.ref (ad (cO G 4)) :: rest))) : W p l e R s m args below meth c H locs cells slots Q (F0 m pc ls (.ref (ad k) :: rest)) := r_get F X hk (C := RX9) (T := TX9) (N := 14) rfl inT9 3 (by decide) rfl (mT2 66 rfl rfl) rfl hd kk
theorem gf_X9_38 (F : CallFix p m c cc nL s args TS RX9) (X : Wd D ad cs G A s H locs M) {k o : Nat} (hk : G[k]? = some (o, 0, 9, 0)) (hd : decode cc pc = .ok (.getfield 38, 3)) (kk : W p l e R s m args below meth c H locs cells slots Q (F0 m (pc + 3) ls (.ref (ad (cO G 6)) :: rest))) : W p l e R s m args below meth c H locs cells slots Q (F0 m pc ls (.ref (ad k) :: rest)) := r_get F X hk (C := RX9) (T := TX9) (N := 14) rfl inT9 4 (by decide) rfl (mT2 67 rfl rfl) rfl hd kk
theorem gf_X9_45 (F : CallFix p m c cc nL s args TS RX9) (X : Wd D ad cs G A s H locs M) {k o : Nat} (hk : G[k]? = some (o, 0, 9, 0)) (hd : decode cc pc = .ok (.getfield 45, 3)) (kk : W p l e R s m args below meth c H locs cells slots Q (F0 m (pc + 3) ls (.ref (ad (cO G 9)) :: rest))) : W p l e R s m args below meth c H locs cells slots Q (F0 m pc ls (.ref (ad k) :: rest)) := r_get F X hk (C := RX9) (T := TX9) (N := 14) rfl inT9 5 (by decide) rfl (mT2 68 rfl rfl) rfl hd kk
theorem gf_X9_52 (F : CallFix p m c cc nL s args TS RX9) (X : Wd D ad cs G A s H locs M) {k o : Nat} (hk : G[k]? = some (o, 0, 9, 0)) (hd : decode cc pc = .ok (.getfield 52, 3)) (kk : W p l e R s m args below meth c H locs cells slots Q (F0 m (pc + 3) ls (.ref (ad (cO G 10)) :: rest))) : W p l e R s m args below meth c H locs cells slots Q (F0 m pc ls (.ref (ad k) :: rest)) := r_get F X hk (C := RX9) (T := TX9) (N := 14) rfl inT9 6 (by decide) rfl (mT2 69 rfl rfl) rfl hd kk
theorem gf_X9_59 (F : CallFix p m c cc nL s args TS RX9) (X : Wd D ad cs G A s H locs M) {k o : Nat} (hk : G[k]? = some (o, 0, 9, 0)) (hd : decode cc pc = .ok (.getfield 59, 3)) (kk : W p l e R s m args below meth c H locs cells slots Q (F0 m (pc + 3) ls (.ref (ad (cO G 11)) :: rest))) : W p l e R s m args below meth c H locs cells slots Q (F0 m pc ls (.ref (ad k) :: rest)) := r_get F X hk (C := RX9) (T := TX9) (N := 14) rfl inT9 7 (by decide) rfl (mT2 70 rfl rfl) rfl hd kk
theorem gf_X9_63 (F : CallFix p m c cc nL s args TS RX9) (X : Wd D ad cs G A s H locs M) {k o : Nat} (hk : G[k]? = some (o, 0, 9, 0)) (hd : decode cc pc = .ok (.getfield 63, 3)) (kk : W p l e R s m args below meth c H locs cells slots Q (F0 m (pc + 3) ls (.ref (ad (k + 1)) :: rest))) : W p l e R s m args below meth c H locs cells slots Q (F0 m pc ls (.ref (ad k) :: rest)) := r_get F X hk (C := RX9) (T := TX9) (N := 14) rfl inT9 8 (by decide) rfl (mT2 71 rfl rfl) rfl hd kk
theorem gf_X9_67 (F : CallFix p m c cc nL s args TS RX9) (X : Wd D ad cs G A s H locs M) {k o : Nat} (hk : G[k]? = some (o, 0, 9, 0)) (hd : decode cc pc = .ok (.getfield 67, 3)) (kk : W p l e R s m args below meth c H locs cells slots Q (F0 m (pc + 3) ls (.ref (ad (k + 2)) :: rest))) : W p l e R s m args below meth c H locs cells slots Q (F0 m pc ls (.ref (ad k) :: rest)) := r_get F X hk (C := RX9) (T := TX9) (N := 14) rfl inT9 9 (by decide) rfl (mT2 72 rfl rfl) rfl hd kk
theorem gf_X9_72 (F : CallFix p m c cc nL s args TS RX9) (X : Wd D ad cs G A s H locs M) {k o : Nat} (hk : G[k]? = some (o, 0, 9, 0)) (hd : decode cc pc = .ok (.getfield 72, 3)) (kk : W p l e R s m args below meth c H locs cells slots Q (F0 m (pc + 3) ls (.ref (ad (k + 3)) :: rest))) : W p l e R s m args below meth c H locs cells slots Q (F0 m pc ls (.ref (ad k) :: rest)) := r_get F X hk (C := RX9) (T := TX9) (N := 14) rfl inT9 10 (by decide) rfl (mT2 73 rfl rfl) rfl hd kk
theorem gf_X9_76 (F : CallFix p m c cc nL s args TS RX9) (X : Wd D ad cs G A s H locs M) {k o : Nat} (hk : G[k]? = some (o, 0, 9, 0)) (hd : decode cc pc = .ok (.getfield 76, 3)) (kk : W p l e R s m args below meth c H locs cells slots Q (F0 m (pc + 3) ls (.int (M o 11 0) :: rest))) : W p l e R s m args below meth c H locs cells slots Q (F0 m pc ls (.ref (ad k) :: rest)) := r_get F X hk (C := RX9) (T := TX9) (N := 14) rfl inT9 11 (by decide) rfl (mT2 74 rfl rfl) rfl hd kk
theorem pf_X9_76 (F : CallFix p m c cc nL s args TS RX9) (X : Wd D ad cs G A s H locs M) {k o : Nat} (hk : G[k]? = some (o, 0, 9, 0)) {v : Int32} (hv : v = 0 ∨ v = 1) (hd : decode cc pc = .ok (.putfield 76, 3)) (kk : ∀ (H : Heap) (locs : List Loc), Wd D ad cs G A s H locs (wr M o 11 0 v) → W p l e R s m args below meth c H locs cells slots Q (F0 m (pc + 3) ls rest)) : W p l e R s m args below meth c H locs cells slots Q (F0 m pc ls (.int v :: .ref (ad k) :: rest)) := r_puti F X hk (C := RX9) (T := TX9) (N := 14) (ty := .boolean) rfl inT9 tyX9 tyX9_ok nmX9 11 (by decide) rfl (mT2 74 rfl rfl) rfl (by decide +kernel) (by rcases hv with rfl | rfl <;> rfl) (by rcases hv with rfl | rfl <;> rfl) okL9 rfl hd kk
theorem gf_X9_80 (F : CallFix p m c cc nL s args TS RX9) (X : Wd D ad cs G A s H locs M) {k o : Nat} (hk : G[k]? = some (o, 0, 9, 0)) (hd : decode cc pc = .ok (.getfield 80, 3)) (kk : W p l e R s m args below meth c H locs cells slots Q (F0 m (pc + 3) ls (.int (M o 12 0) :: rest))) : W p l e R s m args below meth c H locs cells slots Q (F0 m pc ls (.ref (ad k) :: rest)) := r_get F X hk (C := RX9) (T := TX9) (N := 14) rfl inT9 12 (by decide) rfl (mT2 75 rfl rfl) rfl hd kk
theorem pf_X9_80 (F : CallFix p m c cc nL s args TS RX9) (X : Wd D ad cs G A s H locs M) {k o : Nat} (hk : G[k]? = some (o, 0, 9, 0)) {v : Int32} (hv : v = 0 ∨ v = 1) (hd : decode cc pc = .ok (.putfield 80, 3)) (kk : ∀ (H : Heap) (locs : List Loc), Wd D ad cs G A s H locs (wr M o 12 0 v) → W p l e R s m args below meth c H locs cells slots Q (F0 m (pc + 3) ls rest)) : W p l e R s m args below meth c H locs cells slots Q (F0 m pc ls (.int v :: .ref (ad k) :: rest)) := r_puti F X hk (C := RX9) (T := TX9) (N := 14) (ty := .boolean) rfl inT9 tyX9 tyX9_ok nmX9 12 (by decide) rfl (mT2 75 rfl rfl) rfl (by decide +kernel) (by rcases hv with rfl | rfl <;> rfl) (by rcases hv with rfl | rfl <;> rfl) okL9 rfl hd kk
theorem gf_X9_83 (F : CallFix p m c cc nL s args TS RX9) (X : Wd D ad cs G A s H locs M) {k o : Nat} (hk : G[k]? = some (o, 0, 9, 0)) (hd : decode cc pc = .ok (.getfield 83, 3)) (kk : W p l e R s m args below meth c H locs cells slots Q (F0 m (pc + 3) ls (.int (M o 13 0) :: rest))) : W p l e R s m args below meth c H locs cells slots Q (F0 m pc ls (.ref (ad k) :: rest)) := r_get F X hk (C := RX9) (T := TX9) (N := 14) rfl inT9 13 (by decide) rfl (mT2 76 rfl rfl) rfl hd kk
theorem pf_X9_83 (F : CallFix p m c cc nL s args TS RX9) (X : Wd D ad cs G A s H locs M) {k o : Nat} (hk : G[k]? = some (o, 0, 9, 0)) {v : Int32} (hd : decode cc pc = .ok (.putfield 83, 3)) (kk : ∀ (H : Heap) (locs : List Loc), Wd D ad cs G A s H locs (wr M o 13 0 v) → W p l e R s m args below meth c H locs cells slots Q (F0 m (pc + 3) ls rest)) : W p l e R s m args below meth c H locs cells slots Q (F0 m pc ls (.int v :: .ref (ad k) :: rest)) := r_puti F X hk (C := RX9) (T := TX9) (N := 14) (ty := .int) rfl inT9 tyX9 tyX9_ok nmX9 13 (by decide) rfl (mT2 76 rfl rfl) rfl (by decide +kernel) rfl rfl okL9 rfl hd kk
theorem gf_X10_7 (F : CallFix p m c cc nL s args TS RX10) (X : Wd D ad cs G A s H locs M) {k o : Nat} (hk : G[k]? = some (o, 0, 10, 0)) (hd : decode cc pc = .ok (.getfield 7, 3)) (kk : W p l e R s m args below meth c H locs cells slots Q (F0 m (pc + 3) ls (.ref (ad (k + 1)) :: rest))) : W p l e R s m args below meth c H locs cells slots Q (F0 m pc ls (.ref (ad k) :: rest)) := r_get F X hk (C := RX10) (T := TX10) (N := 42) rfl inT10 0 (by decide) rfl (mT4 56 rfl rfl) rfl hd kk
theorem gf_X10_13 (F : CallFix p m c cc nL s args TS RX10) (X : Wd D ad cs G A s H locs M) {k o : Nat} (hk : G[k]? = some (o, 0, 10, 0)) (hd : decode cc pc = .ok (.getfield 13, 3)) (kk : W p l e R s m args below meth c H locs cells slots Q (F0 m (pc + 3) ls (.ref (ad (k + 2)) :: rest))) : W p l e R s m args below meth c H locs cells slots Q (F0 m pc ls (.ref (ad k) :: rest)) := r_get F X hk (C := RX10) (T := TX10) (N := 42) rfl inT10 1 (by decide) rfl (mT4 57 rfl rfl) rfl hd kk
theorem gf_X10_109 (F : CallFix p m c cc nL s args TS RX10) (X : Wd D ad cs G A s H locs M) {k o : Nat} (hk : G[k]? = some (o, 0, 10, 0)) (hd : decode cc pc = .ok (.getfield 109, 3)) (kk : W p l e R s m args below meth c H locs cells slots Q (F0 m (pc + 3) ls (.int (M o 2 0) :: rest))) : W p l e R s m args below meth c H locs cells slots Q (F0 m pc ls (.ref (ad k) :: rest)) := r_get F X hk (C := RX10) (T := TX10) (N := 42) rfl inT10 2 (by decide) rfl (mT4 58 rfl rfl) rfl hd kk
theorem pf_X10_109 (F : CallFix p m c cc nL s args TS RX10) (X : Wd D ad cs G A s H locs M) {k o : Nat} (hk : G[k]? = some (o, 0, 10, 0)) {v : Int32} (hd : decode cc pc = .ok (.putfield 109, 3)) (kk : ∀ (H : Heap) (locs : List Loc), Wd D ad cs G A s H locs (wr M o 2 0 v) → W p l e R s m args below meth c H locs cells slots Q (F0 m (pc + 3) ls rest)) : W p l e R s m args below meth c H locs cells slots Q (F0 m pc ls (.int v :: .ref (ad k) :: rest)) := r_puti F X hk (C := RX10) (T := TX10) (N := 42) (ty := .int) rfl inT10 tyX10 tyX10_ok nmX10 2 (by decide) rfl (mT4 58 rfl rfl) rfl (by decide +kernel) rfl rfl okL10 rfl hd kk
theorem gf_X10_16 (F : CallFix p m c cc nL s args TS RX10) (X : Wd D ad cs G A s H locs M) {k o : Nat} (hk : G[k]? = some (o, 0, 10, 0)) (hd : decode cc pc = .ok (.getfield 16, 3)) (kk : W p l e R s m args below meth c H locs cells slots Q (F0 m (pc + 3) ls (.ref (ad (k + 3)) :: rest))) : W p l e R s m args below meth c H locs cells slots Q (F0 m pc ls (.ref (ad k) :: rest)) := r_get F X hk (C := RX10) (T := TX10) (N := 42) rfl inT10 3 (by decide) rfl (mT4 59 rfl rfl) rfl hd kk
theorem gf_X10_19 (F : CallFix p m c cc nL s args TS RX10) (X : Wd D ad cs G A s H locs M) {k o : Nat} (hk : G[k]? = some (o, 0, 10, 0)) (hd : decode cc pc = .ok (.getfield 19, 3)) (kk : W p l e R s m args below meth c H locs cells slots Q (F0 m (pc + 3) ls (.ref (ad (k + 4)) :: rest))) : W p l e R s m args below meth c H locs cells slots Q (F0 m pc ls (.ref (ad k) :: rest)) := r_get F X hk (C := RX10) (T := TX10) (N := 42) rfl inT10 4 (by decide) rfl (mT4 60 rfl rfl) rfl hd kk
theorem gf_X10_22 (F : CallFix p m c cc nL s args TS RX10) (X : Wd D ad cs G A s H locs M) {k o : Nat} (hk : G[k]? = some (o, 0, 10, 0)) (hd : decode cc pc = .ok (.getfield 22, 3)) (kk : W p l e R s m args below meth c H locs cells slots Q (F0 m (pc + 3) ls (.ref (ad (k + 5)) :: rest))) : W p l e R s m args below meth c H locs cells slots Q (F0 m pc ls (.ref (ad k) :: rest)) := r_get F X hk (C := RX10) (T := TX10) (N := 42) rfl inT10 5 (by decide) rfl (mT4 61 rfl rfl) rfl hd kk
theorem gf_X10_117 (F : CallFix p m c cc nL s args TS RX10) (X : Wd D ad cs G A s H locs M) {k o : Nat} (hk : G[k]? = some (o, 0, 10, 0)) (hd : decode cc pc = .ok (.getfield 117, 3)) (kk : W p l e R s m args below meth c H locs cells slots Q (F0 m (pc + 3) ls (.int (M o 6 0) :: rest))) : W p l e R s m args below meth c H locs cells slots Q (F0 m pc ls (.ref (ad k) :: rest)) := r_get F X hk (C := RX10) (T := TX10) (N := 42) rfl inT10 6 (by decide) rfl (mT4 62 rfl rfl) rfl hd kk
theorem pf_X10_117 (F : CallFix p m c cc nL s args TS RX10) (X : Wd D ad cs G A s H locs M) {k o : Nat} (hk : G[k]? = some (o, 0, 10, 0)) {v : Int32} (hd : decode cc pc = .ok (.putfield 117, 3)) (kk : ∀ (H : Heap) (locs : List Loc), Wd D ad cs G A s H locs (wr M o 6 0 v) → W p l e R s m args below meth c H locs cells slots Q (F0 m (pc + 3) ls rest)) : W p l e R s m args below meth c H locs cells slots Q (F0 m pc ls (.int v :: .ref (ad k) :: rest)) := r_puti F X hk (C := RX10) (T := TX10) (N := 42) (ty := .int) rfl inT10 tyX10 tyX10_ok nmX10 6 (by decide) rfl (mT4 62 rfl rfl) rfl (by decide +kernel) rfl rfl okL10 rfl hd kk
theorem gf_X10_25 (F : CallFix p m c cc nL s args TS RX10) (X : Wd D ad cs G A s H locs M) {k o : Nat} (hk : G[k]? = some (o, 0, 10, 0)) (hd : decode cc pc = .ok (.getfield 25, 3)) (kk : W p l e R s m args below meth c H locs cells slots Q (F0 m (pc + 3) ls (.ref (ad (k + 6)) :: rest))) : W p l e R s m args below meth c H locs cells slots Q (F0 m pc ls (.ref (ad k) :: rest)) := r_get F X hk (C := RX10) (T := TX10) (N := 42) rfl inT10 7 (by decide) rfl (mT4 63 rfl rfl) rfl hd kk
theorem gf_X10_28 (F : CallFix p m c cc nL s args TS RX10) (X : Wd D ad cs G A s H locs M) {k o : Nat} (hk : G[k]? = some (o, 0, 10, 0)) (hd : decode cc pc = .ok (.getfield 28, 3)) (kk : W p l e R s m args below meth c H locs cells slots Q (F0 m (pc + 3) ls (.ref (ad (k + 7)) :: rest))) : W p l e R s m args below meth c H locs cells slots Q (F0 m pc ls (.ref (ad k) :: rest)) := r_get F X hk (C := RX10) (T := TX10) (N := 42) rfl inT10 8 (by decide) rfl (mT4 64 rfl rfl) rfl hd kk
theorem gf_X10_145 (F : CallFix p m c cc nL s args TS RX10) (X : Wd D ad cs G A s H locs M) {k o : Nat} (hk : G[k]? = some (o, 0, 10, 0)) (hd : decode cc pc = .ok (.getfield 145, 3)) (kk : W p l e R s m args below meth c H locs cells slots Q (F0 m (pc + 3) ls (.int (M o 9 0) :: rest))) : W p l e R s m args below meth c H locs cells slots Q (F0 m pc ls (.ref (ad k) :: rest)) := r_get F X hk (C := RX10) (T := TX10) (N := 42) rfl inT10 9 (by decide) rfl (mT4 65 rfl rfl) rfl hd kk
theorem pf_X10_145 (F : CallFix p m c cc nL s args TS RX10) (X : Wd D ad cs G A s H locs M) {k o : Nat} (hk : G[k]? = some (o, 0, 10, 0)) {v : Int32} (hd : decode cc pc = .ok (.putfield 145, 3)) (kk : ∀ (H : Heap) (locs : List Loc), Wd D ad cs G A s H locs (wr M o 9 0 v) → W p l e R s m args below meth c H locs cells slots Q (F0 m (pc + 3) ls rest)) : W p l e R s m args below meth c H locs cells slots Q (F0 m pc ls (.int v :: .ref (ad k) :: rest)) := r_puti F X hk (C := RX10) (T := TX10) (N := 42) (ty := .int) rfl inT10 tyX10 tyX10_ok nmX10 9 (by decide) rfl (mT4 65 rfl rfl) rfl (by decide +kernel) rfl rfl okL10 rfl hd kk
theorem gf_X10_31 (F : CallFix p m c cc nL s args TS RX10) (X : Wd D ad cs G A s H locs M) {k o : Nat} (hk : G[k]? = some (o, 0, 10, 0)) (hd : decode cc pc = .ok (.getfield 31, 3)) (kk : W p l e R s m args below meth c H locs cells slots Q (F0 m (pc + 3) ls (.ref (ad (k + 8)) :: rest))) : W p l e R s m args below meth c H locs cells slots Q (F0 m pc ls (.ref (ad k) :: rest)) := r_get F X hk (C := RX10) (T := TX10) (N := 42) rfl inT10 10 (by decide) rfl (mT4 66 rfl rfl) rfl hd kk
theorem gf_X10_161 (F : CallFix p m c cc nL s args TS RX10) (X : Wd D ad cs G A s H locs M) {k o : Nat} (hk : G[k]? = some (o, 0, 10, 0)) (hd : decode cc pc = .ok (.getfield 161, 3)) (kk : W p l e R s m args below meth c H locs cells slots Q (F0 m (pc + 3) ls (.int (M o 11 0) :: rest))) : W p l e R s m args below meth c H locs cells slots Q (F0 m pc ls (.ref (ad k) :: rest)) := r_get F X hk (C := RX10) (T := TX10) (N := 42) rfl inT10 11 (by decide) rfl (mT4 67 rfl rfl) rfl hd kk
theorem pf_X10_161 (F : CallFix p m c cc nL s args TS RX10) (X : Wd D ad cs G A s H locs M) {k o : Nat} (hk : G[k]? = some (o, 0, 10, 0)) {v : Int32} (hd : decode cc pc = .ok (.putfield 161, 3)) (kk : ∀ (H : Heap) (locs : List Loc), Wd D ad cs G A s H locs (wr M o 11 0 v) → W p l e R s m args below meth c H locs cells slots Q (F0 m (pc + 3) ls rest)) : W p l e R s m args below meth c H locs cells slots Q (F0 m pc ls (.int v :: .ref (ad k) :: rest)) := r_puti F X hk (C := RX10) (T := TX10) (N := 42) (ty := .int) rfl inT10 tyX10 tyX10_ok nmX10 11 (by decide) rfl (mT4 67 rfl rfl) rfl (by decide +kernel) rfl rfl okL10 rfl hd kk
theorem gf_X10_34 (F : CallFix p m c cc nL s args TS RX10) (X : Wd D ad cs G A s H locs M) {k o : Nat} (hk : G[k]? = some (o, 0, 10, 0)) (hd : decode cc pc = .ok (.getfield 34, 3)) (kk : W p l e R s m args below meth c H locs cells slots Q (F0 m (pc + 3) ls (.ref (ad (k + 9)) :: rest))) : W p l e R s m args below meth c H locs cells slots Q (F0 m pc ls (.ref (ad k) :: rest)) := r_get F X hk (C := RX10) (T := TX10) (N := 42) rfl inT10 12 (by decide) rfl (mT4 68 rfl rfl) rfl hd kk
theorem gf_X10_167 (F : CallFix p m c cc nL s args TS RX10) (X : Wd D ad cs G A s H locs M) {k o : Nat} (hk : G[k]? = some (o, 0, 10, 0)) (hd : decode cc pc = .ok (.getfield 167, 3)) (kk : W p l e R s m args below meth c H locs cells slots Q (F0 m (pc + 3) ls (.int (M o 13 0) :: rest))) : W p l e R s m args below meth c H locs cells slots Q (F0 m pc ls (.ref (ad k) :: rest)) := r_get F X hk (C := RX10) (T := TX10) (N := 42) rfl inT10 13 (by decide) rfl (mT4 69 rfl rfl) rfl hd kk
theorem pf_X10_167 (F : CallFix p m c cc nL s args TS RX10) (X : Wd D ad cs G A s H locs M) {k o : Nat} (hk : G[k]? = some (o, 0, 10, 0)) {v : Int32} (hd : decode cc pc = .ok (.putfield 167, 3)) (kk : ∀ (H : Heap) (locs : List Loc), Wd D ad cs G A s H locs (wr M o 13 0 v) → W p l e R s m args below meth c H locs cells slots Q (F0 m (pc + 3) ls rest)) : W p l e R s m args below meth c H locs cells slots Q (F0 m pc ls (.int v :: .ref (ad k) :: rest)) := r_puti F X hk (C := RX10) (T := TX10) (N := 42) (ty := .int) rfl inT10 tyX10 tyX10_ok nmX10 13 (by decide) rfl (mT4 69 rfl rfl) rfl (by decide +kernel) rfl rfl okL10 rfl hd kk
theorem gf_X10_170 (F : CallFix p m c cc nL s args TS RX10) (X : Wd D ad cs G A s H locs M) {k o : Nat} (hk : G[k]? = some (o, 0, 10, 0)) (hd : decode cc pc = .ok (.getfield 170, 3)) (kk : W p l e R s m args below meth c H locs cells slots Q (F0 m (pc + 3) ls (.int (M o 14 0) :: rest))) : W p l e R s m args below meth c H locs cells slots Q (F0 m pc ls (.ref (ad k) :: rest)) := r_get F X hk (C := RX10) (T := TX10) (N := 42) rfl inT10 14 (by decide) rfl (mT4 70 rfl rfl) rfl hd kk
theorem pf_X10_170 (F : CallFix p m c cc nL s args TS RX10) (X : Wd D ad cs G A s H locs M) {k o : Nat} (hk : G[k]? = some (o, 0, 10, 0)) {v : Int32} (hd : decode cc pc = .ok (.putfield 170, 3)) (kk : ∀ (H : Heap) (locs : List Loc), Wd D ad cs G A s H locs (wr M o 14 0 v) → W p l e R s m args below meth c H locs cells slots Q (F0 m (pc + 3) ls rest)) : W p l e R s m args below meth c H locs cells slots Q (F0 m pc ls (.int v :: .ref (ad k) :: rest)) := r_puti F X hk (C := RX10) (T := TX10) (N := 42) (ty := .int) rfl inT10 tyX10 tyX10_ok nmX10 14 (by decide) rfl (mT4 70 rfl rfl) rfl (by decide +kernel) rfl rfl okL10 rfl hd kk
theorem gf_X10_182 (F : CallFix p m c cc nL s args TS RX10) (X : Wd D ad cs G A s H locs M) {k o : Nat} (hk : G[k]? = some (o, 0, 10, 0)) (hd : decode cc pc = .ok (.getfield 182, 3)) (kk : W p l e R s m args below meth c H locs cells slots Q (F0 m (pc + 3) ls (.int (M o 15 0) :: rest))) : W p l e R s m args below meth c H locs cells slots Q (F0 m pc ls (.ref (ad k) :: rest)) := r_get F X hk (C := RX10) (T := TX10) (N := 42) rfl inT10 15 (by decide) rfl (mT4 71 rfl rfl) rfl hd kk
theorem pf_X10_182 (F : CallFix p m c cc nL s args TS RX10) (X : Wd D ad cs G A s H locs M) {k o : Nat} (hk : G[k]? = some (o, 0, 10, 0)) {v : Int32} (hd : decode cc pc = .ok (.putfield 182, 3)) (kk : ∀ (H : Heap) (locs : List Loc), Wd D ad cs G A s H locs (wr M o 15 0 v) → W p l e R s m args below meth c H locs cells slots Q (F0 m (pc + 3) ls rest)) : W p l e R s m args below meth c H locs cells slots Q (F0 m pc ls (.int v :: .ref (ad k) :: rest)) := r_puti F X hk (C := RX10) (T := TX10) (N := 42) (ty := .int) rfl inT10 tyX10 tyX10_ok nmX10 15 (by decide) rfl (mT4 71 rfl rfl) rfl (by decide +kernel) rfl rfl okL10 rfl hd kk
theorem gf_X10_188 (F : CallFix p m c cc nL s args TS RX10) (X : Wd D ad cs G A s H locs M) {k o : Nat} (hk : G[k]? = some (o, 0, 10, 0)) (hd : decode cc pc = .ok (.getfield 188, 3)) (kk : W p l e R s m args below meth c H locs cells slots Q (F0 m (pc + 3) ls (.int (M o 16 0) :: rest))) : W p l e R s m args below meth c H locs cells slots Q (F0 m pc ls (.ref (ad k) :: rest)) := r_get F X hk (C := RX10) (T := TX10) (N := 42) rfl inT10 16 (by decide) rfl (mT4 72 rfl rfl) rfl hd kk
theorem pf_X10_188 (F : CallFix p m c cc nL s args TS RX10) (X : Wd D ad cs G A s H locs M) {k o : Nat} (hk : G[k]? = some (o, 0, 10, 0)) {v : Int32} (hd : decode cc pc = .ok (.putfield 188, 3)) (kk : ∀ (H : Heap) (locs : List Loc), Wd D ad cs G A s H locs (wr M o 16 0 v) → W p l e R s m args below meth c H locs cells slots Q (F0 m (pc + 3) ls rest)) : W p l e R s m args below meth c H locs cells slots Q (F0 m pc ls (.int v :: .ref (ad k) :: rest)) := r_puti F X hk (C := RX10) (T := TX10) (N := 42) (ty := .int) rfl inT10 tyX10 tyX10_ok nmX10 16 (by decide) rfl (mT4 72 rfl rfl) rfl (by decide +kernel) rfl rfl okL10 rfl hd kk
theorem gf_X10_173 (F : CallFix p m c cc nL s args TS RX10) (X : Wd D ad cs G A s H locs M) {k o : Nat} (hk : G[k]? = some (o, 0, 10, 0)) (hd : decode cc pc = .ok (.getfield 173, 3)) (kk : W p l e R s m args below meth c H locs cells slots Q (F0 m (pc + 3) ls (.int (M o 17 0) :: rest))) : W p l e R s m args below meth c H locs cells slots Q (F0 m pc ls (.ref (ad k) :: rest)) := r_get F X hk (C := RX10) (T := TX10) (N := 42) rfl inT10 17 (by decide) rfl (mT4 73 rfl rfl) rfl hd kk
theorem pf_X10_173 (F : CallFix p m c cc nL s args TS RX10) (X : Wd D ad cs G A s H locs M) {k o : Nat} (hk : G[k]? = some (o, 0, 10, 0)) {v : Int32} (hd : decode cc pc = .ok (.putfield 173, 3)) (kk : ∀ (H : Heap) (locs : List Loc), Wd D ad cs G A s H locs (wr M o 17 0 v) → W p l e R s m args below meth c H locs cells slots Q (F0 m (pc + 3) ls rest)) : W p l e R s m args below meth c H locs cells slots Q (F0 m pc ls (.int v :: .ref (ad k) :: rest)) := r_puti F X hk (C := RX10) (T := TX10) (N := 42) (ty := .int) rfl inT10 tyX10 tyX10_ok nmX10 17 (by decide) rfl (mT4 73 rfl rfl) rfl (by decide +kernel) rfl rfl okL10 rfl hd kk
theorem gf_X10_179 (F : CallFix p m c cc nL s args TS RX10) (X : Wd D ad cs G A s H locs M) {k o : Nat} (hk : G[k]? = some (o, 0, 10, 0)) (hd : decode cc pc = .ok (.getfield 179, 3)) (kk : W p l e R s m args below meth c H locs cells slots Q (F0 m (pc + 3) ls (.int (M o 18 0) :: rest))) : W p l e R s m args below meth c H locs cells slots Q (F0 m pc ls (.ref (ad k) :: rest)) := r_get F X hk (C := RX10) (T := TX10) (N := 42) rfl inT10 18 (by decide) rfl (mT4 74 rfl rfl) rfl hd kk
theorem pf_X10_179 (F : CallFix p m c cc nL s args TS RX10) (X : Wd D ad cs G A s H locs M) {k o : Nat} (hk : G[k]? = some (o, 0, 10, 0)) {v : Int32} (hd : decode cc pc = .ok (.putfield 179, 3)) (kk : ∀ (H : Heap) (locs : List Loc), Wd D ad cs G A s H locs (wr M o 18 0 v) → W p l e R s m args below meth c H locs cells slots Q (F0 m (pc + 3) ls rest)) : W p l e R s m args below meth c H locs cells slots Q (F0 m pc ls (.int v :: .ref (ad k) :: rest)) := r_puti F X hk (C := RX10) (T := TX10) (N := 42) (ty := .int) rfl inT10 tyX10 tyX10_ok nmX10 18 (by decide) rfl (mT4 74 rfl rfl) rfl (by decide +kernel) rfl rfl okL10 rfl hd kk
theorem gf_X10_176 (F : CallFix p m c cc nL s args TS RX10) (X : Wd D ad cs G A s H locs M) {k o : Nat} (hk : G[k]? = some (o, 0, 10, 0)) (hd : decode cc pc = .ok (.getfield 176, 3)) (kk : W p l e R s m args below meth c H locs cells slots Q (F0 m (pc + 3) ls (.int (M o 19 0) :: rest))) : W p l e R s m args below meth c H locs cells slots Q (F0 m pc ls (.ref (ad k) :: rest)) := r_get F X hk (C := RX10) (T := TX10) (N := 42) rfl inT10 19 (by decide) rfl (mT4 75 rfl rfl) rfl hd kk
theorem pf_X10_176 (F : CallFix p m c cc nL s args TS RX10) (X : Wd D ad cs G A s H locs M) {k o : Nat} (hk : G[k]? = some (o, 0, 10, 0)) {v : Int32} (hd : decode cc pc = .ok (.putfield 176, 3)) (kk : ∀ (H : Heap) (locs : List Loc), Wd D ad cs G A s H locs (wr M o 19 0 v) → W p l e R s m args below meth c H locs cells slots Q (F0 m (pc + 3) ls rest)) : W p l e R s m args below meth c H locs cells slots Q (F0 m pc ls (.int v :: .ref (ad k) :: rest)) := r_puti F X hk (C := RX10) (T := TX10) (N := 42) (ty := .int) rfl inT10 tyX10 tyX10_ok nmX10 19 (by decide) rfl (mT4 75 rfl rfl) rfl (by decide +kernel) rfl rfl okL10 rfl hd kk
theorem gf_X10_37 (F : CallFix p m c cc nL s args TS RX10) (X : Wd D ad cs G A s H locs M) {k o : Nat} (hk : G[k]? = some (o, 0, 10, 0)) (hd : decode cc pc = .ok (.getfield 37, 3)) (kk : W p l e R s m args below meth c H locs cells slots Q (F0 m (pc + 3) ls (.ref (ad (k + 10)) :: rest))) : W p l e R s m args below meth c H locs cells slots Q (F0 m pc ls (.ref (ad k) :: rest)) := r_get F X hk (C := RX10) (T := TX10) (N := 42) rfl inT10 20 (by decide) rfl (mT4 76 rfl rfl) rfl hd kk
theorem gf_X10_40 (F : CallFix p m c cc nL s args TS RX10) (X : Wd D ad cs G A s H locs M) {k o : Nat} (hk : G[k]? = some (o, 0, 10, 0)) (hd : decode cc pc = .ok (.getfield 40, 3)) (kk : W p l e R s m args below meth c H locs cells slots Q (F0 m (pc + 3) ls (.ref (ad (k + 11)) :: rest))) : W p l e R s m args below meth c H locs cells slots Q (F0 m pc ls (.ref (ad k) :: rest)) := r_get F X hk (C := RX10) (T := TX10) (N := 42) rfl inT10 21 (by decide) rfl (mT4 77 rfl rfl) rfl hd kk
theorem gf_X10_43 (F : CallFix p m c cc nL s args TS RX10) (X : Wd D ad cs G A s H locs M) {k o : Nat} (hk : G[k]? = some (o, 0, 10, 0)) (hd : decode cc pc = .ok (.getfield 43, 3)) (kk : W p l e R s m args below meth c H locs cells slots Q (F0 m (pc + 3) ls (.ref (ad (k + 12)) :: rest))) : W p l e R s m args below meth c H locs cells slots Q (F0 m pc ls (.ref (ad k) :: rest)) := r_get F X hk (C := RX10) (T := TX10) (N := 42) rfl inT10 22 (by decide) rfl (mT4 78 rfl rfl) rfl hd kk
theorem gf_X10_191 (F : CallFix p m c cc nL s args TS RX10) (X : Wd D ad cs G A s H locs M) {k o : Nat} (hk : G[k]? = some (o, 0, 10, 0)) (hd : decode cc pc = .ok (.getfield 191, 3)) (kk : W p l e R s m args below meth c H locs cells slots Q (F0 m (pc + 3) ls (.int (M o 23 0) :: rest))) : W p l e R s m args below meth c H locs cells slots Q (F0 m pc ls (.ref (ad k) :: rest)) := r_get F X hk (C := RX10) (T := TX10) (N := 42) rfl inT10 23 (by decide) rfl (mT4 79 rfl rfl) rfl hd kk
theorem pf_X10_191 (F : CallFix p m c cc nL s args TS RX10) (X : Wd D ad cs G A s H locs M) {k o : Nat} (hk : G[k]? = some (o, 0, 10, 0)) {v : Int32} (hd : decode cc pc = .ok (.putfield 191, 3)) (kk : ∀ (H : Heap) (locs : List Loc), Wd D ad cs G A s H locs (wr M o 23 0 v) → W p l e R s m args below meth c H locs cells slots Q (F0 m (pc + 3) ls rest)) : W p l e R s m args below meth c H locs cells slots Q (F0 m pc ls (.int v :: .ref (ad k) :: rest)) := r_puti F X hk (C := RX10) (T := TX10) (N := 42) (ty := .int) rfl inT10 tyX10 tyX10_ok nmX10 23 (by decide) rfl (mT4 79 rfl rfl) rfl (by decide +kernel) rfl rfl okL10 rfl hd kk
theorem gf_X10_46 (F : CallFix p m c cc nL s args TS RX10) (X : Wd D ad cs G A s H locs M) {k o : Nat} (hk : G[k]? = some (o, 0, 10, 0)) (hd : decode cc pc = .ok (.getfield 46, 3)) (kk : W p l e R s m args below meth c H locs cells slots Q (F0 m (pc + 3) ls (.ref (ad (k + 13)) :: rest))) : W p l e R s m args below meth c H locs cells slots Q (F0 m pc ls (.ref (ad k) :: rest)) := r_get F X hk (C := RX10) (T := TX10) (N := 42) rfl inT10 24 (by decide) rfl (mT4 80 rfl rfl) rfl hd kk
theorem gf_X10_49 (F : CallFix p m c cc nL s args TS RX10) (X : Wd D ad cs G A s H locs M) {k o : Nat} (hk : G[k]? = some (o, 0, 10, 0)) (hd : decode cc pc = .ok (.getfield 49, 3)) (kk : W p l e R s m args below meth c H locs cells slots Q (F0 m (pc + 3) ls (.ref (ad (k + 14)) :: rest))) : W p l e R s m args below meth c H locs cells slots Q (F0 m pc ls (.ref (ad k) :: rest)) := r_get F X hk (C := RX10) (T := TX10) (N := 42) rfl inT10 25 (by decide) rfl (mT4 81 rfl rfl) rfl hd kk
theorem gf_X10_52 (F : CallFix p m c cc nL s args TS RX10) (X : Wd D ad cs G A s H locs M) {k o : Nat} (hk : G[k]? = some (o, 0, 10, 0)) (hd : decode cc pc = .ok (.getfield 52, 3)) (kk : W p l e R s m args below meth c H locs cells slots Q (F0 m (pc + 3) ls (.ref (ad (k + 15)) :: rest))) : W p l e R s m args below meth c H locs cells slots Q (F0 m pc ls (.ref (ad k) :: rest)) := r_get F X hk (C := RX10) (T := TX10) (N := 42) rfl inT10 26 (by decide) rfl (mT4 82 rfl rfl) rfl hd kk
theorem gf_X10_55 (F : CallFix p m c cc nL s args TS RX10) (X : Wd D ad cs G A s H locs M) {k o : Nat} (hk : G[k]? = some (o, 0, 10, 0)) (hd : decode cc pc = .ok (.getfield 55, 3)) (kk : W p l e R s m args below meth c H locs cells slots Q (F0 m (pc + 3) ls (.ref (ad (k + 16)) :: rest))) : W p l e R s m args below meth c H locs cells slots Q (F0 m pc ls (.ref (ad k) :: rest)) := r_get F X hk (C := RX10) (T := TX10) (N := 42) rfl inT10 27 (by decide) rfl (mT4 83 rfl rfl) rfl hd kk
theorem gf_X10_58 (F : CallFix p m c cc nL s args TS RX10) (X : Wd D ad cs G A s H locs M) {k o : Nat} (hk : G[k]? = some (o, 0, 10, 0)) (hd : decode cc pc = .ok (.getfield 58, 3)) (kk : W p l e R s m args below meth c H locs cells slots Q (F0 m (pc + 3) ls (.ref (ad (k + 17)) :: rest))) : W p l e R s m args below meth c H locs cells slots Q (F0 m pc ls (.ref (ad k) :: rest)) := r_get F X hk (C := RX10) (T := TX10) (N := 42) rfl inT10 28 (by decide) rfl (mT4 84 rfl rfl) rfl hd kk
theorem gf_X10_61 (F : CallFix p m c cc nL s args TS RX10) (X : Wd D ad cs G A s H locs M) {k o : Nat} (hk : G[k]? = some (o, 0, 10, 0)) (hd : decode cc pc = .ok (.getfield 61, 3)) (kk : W p l e R s m args below meth c H locs cells slots Q (F0 m (pc + 3) ls (.ref (ad (k + 18)) :: rest))) : W p l e R s m args below meth c H locs cells slots Q (F0 m pc ls (.ref (ad k) :: rest)) := r_get F X hk (C := RX10) (T := TX10) (N := 42) rfl inT10 29 (by decide) rfl (mT4 85 rfl rfl) rfl hd kk
theorem gf_X10_64 (F : CallFix p m c cc nL s args TS RX10) (X : Wd D ad cs G A s H locs M) {k o : Nat} (hk : G[k]? = some (o, 0, 10, 0)) (hd : decode cc pc = .ok (.getfield 64, 3)) (kk : W p l e R s m args below meth c H locs cells slots Q (F0 m (pc + 3) ls (.ref (ad (k + 19)) :: rest))) : W p l e R s m args below meth c H locs cells slots Q (F0 m pc ls (.ref (ad k) :: rest)) := r_get F X hk (C := RX10) (T := TX10) (N := 42) rfl inT10 30 (by decide) rfl (mT4 86 rfl rfl) rfl hd kk
theorem gf_X10_67 (F : CallFix p m c cc nL s args TS RX10) (X : Wd D ad cs G A s H locs M) {k o : Nat} (hk : G[k]? = some (o, 0, 10, 0)) (hd : decode cc pc = .ok (.getfield 67, 3)) (kk : W p l e R s m args below meth c H locs cells slots Q (F0 m (pc + 3) ls (.ref (ad (k + 20)) :: rest))) : W p l e R s m args below meth c H locs cells slots Q (F0 m pc ls (.ref (ad k) :: rest)) := r_get F X hk (C := RX10) (T := TX10) (N := 42) rfl inT10 31 (by decide) rfl (mT4 87 rfl rfl) rfl hd kk
theorem gf_X10_274 (F : CallFix p m c cc nL s args TS RX10) (X : Wd D ad cs G A s H locs M) {k o : Nat} (hk : G[k]? = some (o, 0, 10, 0)) (hd : decode cc pc = .ok (.getfield 274, 3)) (kk : W p l e R s m args below meth c H locs cells slots Q (F0 m (pc + 3) ls (.int (M o 32 0) :: rest))) : W p l e R s m args below meth c H locs cells slots Q (F0 m pc ls (.ref (ad k) :: rest)) := r_get F X hk (C := RX10) (T := TX10) (N := 42) rfl inT10 32 (by decide) rfl (mT4 88 rfl rfl) rfl hd kk
theorem pf_X10_274 (F : CallFix p m c cc nL s args TS RX10) (X : Wd D ad cs G A s H locs M) {k o : Nat} (hk : G[k]? = some (o, 0, 10, 0)) {v : Int32} (hd : decode cc pc = .ok (.putfield 274, 3)) (kk : ∀ (H : Heap) (locs : List Loc), Wd D ad cs G A s H locs (wr M o 32 0 v) → W p l e R s m args below meth c H locs cells slots Q (F0 m (pc + 3) ls rest)) : W p l e R s m args below meth c H locs cells slots Q (F0 m pc ls (.int v :: .ref (ad k) :: rest)) := r_puti F X hk (C := RX10) (T := TX10) (N := 42) (ty := .int) rfl inT10 tyX10 tyX10_ok nmX10 32 (by decide) rfl (mT4 88 rfl rfl) rfl (by decide +kernel) rfl rfl okL10 rfl hd kk
theorem gf_X10_70 (F : CallFix p m c cc nL s args TS RX10) (X : Wd D ad cs G A s H locs M) {k o : Nat} (hk : G[k]? = some (o, 0, 10, 0)) (hd : decode cc pc = .ok (.getfield 70, 3)) (kk : W p l e R s m args below meth c H locs cells slots Q (F0 m (pc + 3) ls (.ref (ad (k + 21)) :: rest))) : W p l e R s m args below meth c H locs cells slots Q (F0 m pc ls (.ref (ad k) :: rest)) := r_get F X hk (C := RX10) (T := TX10) (N := 42) rfl inT10 33 (by decide) rfl (mT4 89 rfl rfl) rfl hd kk
theorem gf_X10_73 (F : CallFix p m c cc nL s args TS RX10) (X : Wd D ad cs G A s H locs M) {k o : Nat} (hk : G[k]? = some (o, 0, 10, 0)) (hd : decode cc pc = .ok (.getfield 73, 3)) (kk : W p l e R s m args below meth c H locs cells slots Q (F0 m (pc + 3) ls (.ref (ad (k + 22)) :: rest))) : W p l e R s m args below meth c H locs cells slots Q (F0 m pc ls (.ref (ad k) :: rest)) := r_get F X hk (C := RX10) (T := TX10) (N := 42) rfl inT10 34 (by decide) rfl (mT4 90 rfl rfl) rfl hd kk
theorem gf_X10_76 (F : CallFix p m c cc nL s args TS RX10) (X : Wd D ad cs G A s H locs M) {k o : Nat} (hk : G[k]? = some (o, 0, 10, 0)) (hd : decode cc pc = .ok (.getfield 76, 3)) (kk : W p l e R s m args below meth c H locs cells slots Q (F0 m (pc + 3) ls (.ref (ad (k + 23)) :: rest))) : W p l e R s m args below meth c H locs cells slots Q (F0 m pc ls (.ref (ad k) :: rest)) := r_get F X hk (C := RX10) (T := TX10) (N := 42) rfl inT10 35 (by decide) rfl (mT4 91 rfl rfl) rfl hd kk
theorem gf_X10_79 (F : CallFix p m c cc nL s args TS RX10) (X : Wd D ad cs G A s H locs M) {k o : Nat} (hk : G[k]? = some (o, 0, 10, 0)) (hd : decode cc pc = .ok (.getfield 79, 3)) (kk : W p l e R s m args below meth c H locs cells slots Q (F0 m (pc + 3) ls (.ref (ad (k + 24)) :: rest))) : W p l e R s m args below meth c H locs cells slots Q (F0 m pc ls (.ref (ad k) :: rest)) := r_get F X hk (C := RX10) (T := TX10) (N := 42) rfl inT10 36 (by decide) rfl (mT4 92 rfl rfl) rfl hd kk
theorem gf_X10_83 (F : CallFix p m c cc nL s args TS RX10) (X : Wd D ad cs G A s H locs M) {k o : Nat} (hk : G[k]? = some (o, 0, 10, 0)) (hd : decode cc pc = .ok (.getfield 83, 3)) (kk : W p l e R s m args below meth c H locs cells slots Q (F0 m (pc + 3) ls (.ref (ad (k + 25)) :: rest))) : W p l e R s m args below meth c H locs cells slots Q (F0 m pc ls (.ref (ad k) :: rest)) := r_get F X hk (C := RX10) (T := TX10) (N := 42) rfl inT10 37 (by decide) rfl (mT4 93 rfl rfl) rfl hd kk
theorem gf_X10_86 (F : CallFix p m c cc nL s args TS RX10) (X : Wd D ad cs G A s H locs M) {k o : Nat} (hk : G[k]? = some (o, 0, 10, 0)) (hd : decode cc pc = .ok (.getfield 86, 3)) (kk : W p l e R s m args below meth c H locs cells slots Q (F0 m (pc + 3) ls (.ref (ad (k + 26)) :: rest))) : W p l e R s m args below meth c H locs cells slots Q (F0 m pc ls (.ref (ad k) :: rest)) := r_get F X hk (C := RX10) (T := TX10) (N := 42) rfl inT10 38 (by decide) rfl (mT4 94 rfl rfl) rfl hd kk
theorem gf_X10_89 (F : CallFix p m c cc nL s args TS RX10) (X : Wd D ad cs G A s H locs M) {k o : Nat} (hk : G[k]? = some (o, 0, 10, 0)) (hd : decode cc pc = .ok (.getfield 89, 3)) (kk : W p l e R s m args below meth c H locs cells slots Q (F0 m (pc + 3) ls (.ref (ad (k + 27)) :: rest))) : W p l e R s m args below meth c H locs cells slots Q (F0 m pc ls (.ref (ad k) :: rest)) := r_get F X hk (C := RX10) (T := TX10) (N := 42) rfl inT10 39 (by decide) rfl (mT4 95 rfl rfl) rfl hd kk
theorem gf_X10_92 (F : CallFix p m c cc nL s args TS RX10) (X : Wd D ad cs G A s H locs M) {k o : Nat} (hk : G[k]? = some (o, 0, 10, 0)) (hd : decode cc pc = .ok (.getfield 92, 3)) (kk : W p l e R s m args below meth c H locs cells slots Q (F0 m (pc + 3) ls (.ref (ad (k + 28)) :: rest))) : W p l e R s m args below meth c H locs cells slots Q (F0 m pc ls (.ref (ad k) :: rest)) := r_get F X hk (C := RX10) (T := TX10) (N := 42) rfl inT10 40 (by decide) rfl (mT4 96 rfl rfl) rfl hd kk
theorem gf_X10_305 (F : CallFix p m c cc nL s args TS RX10) (X : Wd D ad cs G A s H locs M) {k o : Nat} (hk : G[k]? = some (o, 0, 10, 0)) (hd : decode cc pc = .ok (.getfield 305, 3)) (kk : W p l e R s m args below meth c H locs cells slots Q (F0 m (pc + 3) ls (.int (M o 41 0) :: rest))) : W p l e R s m args below meth c H locs cells slots Q (F0 m pc ls (.ref (ad k) :: rest)) := r_get F X hk (C := RX10) (T := TX10) (N := 42) rfl inT10 41 (by decide) rfl (mT4 97 rfl rfl) rfl hd kk
theorem pf_X10_305 (F : CallFix p m c cc nL s args TS RX10) (X : Wd D ad cs G A s H locs M) {k o : Nat} (hk : G[k]? = some (o, 0, 10, 0)) {v : Int32} (hd : decode cc pc = .ok (.putfield 305, 3)) (kk : ∀ (H : Heap) (locs : List Loc), Wd D ad cs G A s H locs (wr M o 41 0 v) → W p l e R s m args below meth c H locs cells slots Q (F0 m (pc + 3) ls rest)) : W p l e R s m args below meth c H locs cells slots Q (F0 m pc ls (.int v :: .ref (ad k) :: rest)) := r_puti F X hk (C := RX10) (T := TX10) (N := 42) (ty := .int) rfl inT10 tyX10 tyX10_ok nmX10 41 (by decide) rfl (mT4 97 rfl rfl) rfl (by decide +kernel) rfl rfl okL10 rfl hd kk
end Links
theorem gm_L_13 : GoodIn TS (wsV RL 13 RX9 yX9_type (wsU yX9_type cX9_type 4 (some .int))) := gV (mT2 106 rfl rfl) (mT2 107 rfl rfl) (mT2 108 rfl rfl) (mT1 1 rfl rfl) (mT2 109 rfl rfl)
theorem gm_X9_100 : GoodIn TS (va_wsS RX9 100 yX9_isText (wsU yX9_isText cX9_isText 1 (some .boolean))) := gS (mT2 110 rfl rfl) (mT2 111 rfl rfl) (mT1 1 rfl rfl) (mT2 112 rfl rfl)
theorem gm_X9_104 : GoodIn TS (va_wsS RX9 104 yX9_within (wsU yX9_within cX9_within 2 (some .boolean))) := gS (mT2 113 rfl rfl) (mT2 114 rfl rfl) (mT1 1 rfl rfl) (mT2 115 rfl rfl)
theorem gm_X9_108 : GoodIn TS (wsV RX9 108 RX9 yX9_scriptOf (wsU yX9_scriptOf cX9_scriptOf 2 (some (.object "DonkeyExecutor$Script")))) := gV (mT2 116 rfl rfl) (mT2 118 rfl rfl) (mTp 0 rfl rfl) (mT1 1 rfl rfl) (mT2 119 rfl rfl)
theorem gm_X9_112 : GoodIn TS (wsV RX9 112 RX3 yX3_isFull (wsU yX3_isFull cX3_isFull 1 (some .boolean))) := gV (mT2 120 rfl rfl) (mT2 121 rfl rfl) (mT2 122 rfl rfl) (mT1 2 rfl rfl) (mT2 123 rfl rfl)
theorem gm_X9_116 : GoodIn TS (wsV RX9 116 RX3 yX3_append (wsU yX3_append cX3_append 2 none)) := gV (mT2 124 rfl rfl) (mT2 125 rfl rfl) (mT2 126 rfl rfl) (mT1 2 rfl rfl) (mT2 127 rfl rfl)
theorem gm_X3_19 : GoodIn TS (wsV RX3 19 RX3 yX3_isFull (wsU yX3_isFull cX3_isFull 1 (some .boolean))) := gV (mT2 128 rfl rfl) (mT2 121 rfl rfl) (mT2 122 rfl rfl) (mT1 2 rfl rfl) (mT2 123 rfl rfl)
theorem gm_X9_119 : GoodIn TS (wsV RX9 119 RX9 yX9_takeText (wsU yX9_takeText cX9_takeText 2 none)) := gV (mT2 129 rfl rfl) (mT2 131 rfl rfl) (mTp 1 rfl rfl) (mT1 1 rfl rfl) (mT2 132 rfl rfl)
theorem gm_X9_401 : GoodIn TS (wsV RX9 401 RX2 yX2_takeHeirs (wsU yX2_takeHeirs cX2_takeHeirs 4 none)) := gV (mT2 133 rfl rfl) (mT2 134 rfl rfl) (mT2 135 rfl rfl) (mT1 3 rfl rfl) (mT2 136 rfl rfl)
theorem gm_X2_40 : GoodIn TS (wsV RX2 40 RX3 yX3_faultAsHeirs (wsU yX3_faultAsHeirs cX3_faultAsHeirs 2 (some .int))) := gV (mT2 137 rfl rfl) (mT2 138 rfl rfl) (mT2 139 rfl rfl) (mT1 2 rfl rfl) (mT2 140 rfl rfl)
theorem gm_X3_23 : GoodIn TS (va_wsS RX3 23 yX3_fitsHeirs (wsU yX3_fitsHeirs cX3_fitsHeirs 2 (some .boolean))) := gS (mT2 141 rfl rfl) (mT2 142 rfl rfl) (mT1 2 rfl rfl) (mT2 143 rfl rfl)
theorem gm_X2_52 : GoodIn TS (va_wsS RX2 52 yX2_sortOf (wsU yX2_sortOf cX2_sortOf 1 (some .int))) := gS (mT2 144 rfl rfl) (mT2 145 rfl rfl) (mT1 3 rfl rfl) (mT2 146 rfl rfl)
theorem gm_X9_405 : GoodIn TS (wsV RX9 405 RX2 yX2_takeRound (wsU yX2_takeRound cX2_takeRound 3 none)) := gV (mT2 147 rfl rfl) (mT2 148 rfl rfl) (mT2 149 rfl rfl) (mT1 3 rfl rfl) (mT2 150 rfl rfl)
theorem gm_X2_56 : GoodIn TS (wsV RX2 56 RX3 yX3_faultAsRound (wsU yX3_faultAsRound cX3_faultAsRound 2 (some .int))) := gV (mT2 151 rfl rfl) (mT2 152 rfl rfl) (mT2 153 rfl rfl) (mT1 2 rfl rfl) (mT2 154 rfl rfl)
theorem gm_X9_153 : GoodIn TS (wsV RX9 153 RX9 yX9_retell (wsU yX9_retell cX9_retell 1 none)) := gV (mT2 155 rfl rfl) (mT2 157 rfl rfl) (mTp 2 rfl rfl) (mT1 1 rfl rfl) (mT2 158 rfl rfl)
theorem gm_X9_411 : GoodIn TS (wsV RX9 411 RX5 yX5_tell (wsU yX5_tell cX5_tell 4 none)) := gV (mT2 159 rfl rfl) (mT2 160 rfl rfl) (mT2 161 rfl rfl) (mT1 4 rfl rfl) (mT2 162 rfl rfl)
theorem gm_X5_44 : GoodIn TS (wsV RX5 44 RX7 yX7_begin (wsU yX7_begin cX7_begin 2 none)) := gV (mT2 163 rfl rfl) (mT2 164 rfl rfl) (mT2 165 rfl rfl) (mT1 5 rfl rfl) (mT2 166 rfl rfl)
theorem gm_X7_49 : GoodIn TS (va_wsS RX7 49 yJ7_fill_53178 (wsU yJ7_fill_53178 cJ7_fill_53178 4 none)) := gS (mT2 167 rfl rfl) (mT2 168 rfl rfl) (mT1 13 rfl rfl) (mT2 169 rfl rfl)
theorem gm_X5_48 : GoodIn TS (wsV RX5 48 RX5 yX5_keep (wsU yX5_keep cX5_keep 2 none)) := gV (mT2 171 rfl rfl) (mT2 173 rfl rfl) (mTp 3 rfl rfl) (mT1 4 rfl rfl) (mT2 174 rfl rfl)
theorem gm_X5_62 : GoodIn TS (wsV RX5 62 RX7 yX7_visit (wsU yX7_visit cX7_visit 4 none)) := gV (mT2 176 rfl rfl) (mT2 177 rfl rfl) (mT2 178 rfl rfl) (mT1 5 rfl rfl) (mT2 179 rfl rfl)
theorem gm_X7_73 : GoodIn TS (wsV RX7 73 RX7 yX7_isOut (wsU yX7_isOut cX7_isOut 2 (some .boolean))) := gV (mT2 180 rfl rfl) (mT2 181 rfl rfl) (mT2 182 rfl rfl) (mT1 5 rfl rfl) (mT2 183 rfl rfl)
theorem gm_X7_77 : GoodIn TS (wsV RX7 77 RX7 yX7_meet (wsU yX7_meet cX7_meet 5 none)) := gV (mT2 184 rfl rfl) (mT2 186 rfl rfl) (mTp 4 rfl rfl) (mT1 5 rfl rfl) (mT2 187 rfl rfl)
theorem gm_X7_90 : GoodIn TS (wsV RX7 90 RX2 yX2_dreadAt (wsU yX2_dreadAt cX2_dreadAt 4 (some .int))) := gV (mT2 191 rfl rfl) (mT2 192 rfl rfl) (mT2 193 rfl rfl) (mT1 3 rfl rfl) (mT2 194 rfl rfl)
theorem gm_X7_93 : GoodIn TS (wsV RX7 93 RX7 yX7_disinherit (wsU yX7_disinherit cX7_disinherit 2 none)) := gV (mT2 195 rfl rfl) (mT2 197 rfl rfl) (mTp 5 rfl rfl) (mT1 5 rfl rfl) (mT2 198 rfl rfl)
theorem gm_X7_97 : GoodIn TS (wsV RX7 97 RX7 yX7_halveShares (wsU yX7_halveShares cX7_halveShares 3 none)) := gV (mT2 199 rfl rfl) (mT2 201 rfl rfl) (mTp 6 rfl rfl) (mT1 5 rfl rfl) (mT2 202 rfl rfl)
theorem gm_X7_100 : GoodIn TS (wsV RX7 100 RX7 yX7_bestow (wsU yX7_bestow cX7_bestow 2 none)) := gV (mT2 203 rfl rfl) (mT2 205 rfl rfl) (mTp 7 rfl rfl) (mT1 5 rfl rfl) (mT2 206 rfl rfl)
theorem gm_L_18 : GoodIn TS (wsV RL 18 RX9 yX9_wipe (wsU yX9_wipe cX9_wipe 4 (some .int))) := gV (mT2 207 rfl rfl) (mT2 208 rfl rfl) (mT2 209 rfl rfl) (mT1 1 rfl rfl) (mT2 210 rfl rfl)
theorem gm_L_23 : GoodIn TS (wsV RL 23 RX9 yX9_undo (wsU yX9_undo cX9_undo 3 (some .int))) := gV (mT2 211 rfl rfl) (mT2 212 rfl rfl) (mT2 213 rfl rfl) (mT1 1 rfl rfl) (mT2 214 rfl rfl)
theorem gm_L_27 : GoodIn TS (wsV RL 27 RX9 yX9_fault (wsU yX9_fault cX9_fault 2 (some .int))) := gV (mT2 215 rfl rfl) (mT2 216 rfl rfl) (mT2 217 rfl rfl) (mT1 1 rfl rfl) (mT2 218 rfl rfl)
theorem gm_X9_125 : GoodIn TS (wsV RX9 125 RX3 yX3_faultAsHeirs (wsU yX3_faultAsHeirs cX3_faultAsHeirs 2 (some .int))) := gV (mT2 219 rfl rfl) (mT2 138 rfl rfl) (mT2 139 rfl rfl) (mT1 2 rfl rfl) (mT2 140 rfl rfl)
theorem gm_X9_129 : GoodIn TS (wsV RX9 129 RX3 yX3_faultAsRound (wsU yX3_faultAsRound cX3_faultAsRound 2 (some .int))) := gV (mT2 220 rfl rfl) (mT2 152 rfl rfl) (mT2 153 rfl rfl) (mT1 2 rfl rfl) (mT2 154 rfl rfl)
theorem gm_L_31 : GoodIn TS (wsV RL 31 RX9 yX9_heir (wsU yX9_heir cX9_heir 3 (some .int))) := gV (mT2 221 rfl rfl) (mT2 222 rfl rfl) (mT2 223 rfl rfl) (mT1 1 rfl rfl) (mT2 224 rfl rfl)
theorem gm_X9_132 : GoodIn TS (wsV RX9 132 RX9 yX9_isHeir (wsU yX9_isHeir cX9_isHeir 2 (some .boolean))) := gV (mT2 225 rfl rfl) (mT2 227 rfl rfl) (mTp 8 rfl rfl) (mT1 1 rfl rfl) (mT2 228 rfl rfl)
theorem gm_L_35 : GoodIn TS (wsV RL 35 RX9 yX9_round (wsU yX9_round cX9_round 2 (some .int))) := gV (mT2 229 rfl rfl) (mT2 230 rfl rfl) (mT2 231 rfl rfl) (mT1 1 rfl rfl) (mT2 232 rfl rfl)
theorem gm_L_39 : GoodIn TS (wsV RL 39 RX9 yX9_set (wsU yX9_set cX9_set 4 (some .int))) := gV (mT2 233 rfl rfl) (mT2 234 rfl rfl) (mT2 235 rfl rfl) (mT1 1 rfl rfl) (mT2 236 rfl rfl)
theorem gm_L_43 : GoodIn TS (wsV RL 43 RX9 yX9_fly (wsU yX9_fly cX9_fly 2 (some .int))) := gV (mT2 239 rfl rfl) (mT3 0 rfl rfl) (mT3 1 rfl rfl) (mT1 1 rfl rfl) (mT3 2 rfl rfl)
theorem gm_X9_157 : GoodIn TS (wsV RX9 157 RX1 yX1_append (wsU yX1_append cX1_append 2 none)) := gV (mT3 3 rfl rfl) (mT3 4 rfl rfl) (mT3 5 rfl rfl) (mT1 7 rfl rfl) (mT3 6 rfl rfl)
theorem gm_X9_158 : GoodIn TS (wsV RX9 158 RX9 yX9_takeFlies (wsU yX9_takeFlies cX9_takeFlies 1 none)) := gV (mT3 7 rfl rfl) (mT3 9 rfl rfl) (mTp 9 rfl rfl) (mT1 1 rfl rfl) (mT3 10 rfl rfl)
theorem gm_X9_408 : GoodIn TS (wsV RX9 408 RX1 yX1_stopsOf (wsU yX1_stopsOf cX1_stopsOf 4 (some .int))) := gV (mT3 11 rfl rfl) (mT3 12 rfl rfl) (mT3 13 rfl rfl) (mT1 7 rfl rfl) (mT3 14 rfl rfl)
theorem gm_L_47 : GoodIn TS (wsV RL 47 RX9 yX9_back (wsU yX9_back cX9_back 1 (some .int))) := gV (mT3 15 rfl rfl) (mT3 16 rfl rfl) (mT3 17 rfl rfl) (mT1 1 rfl rfl) (mT3 18 rfl rfl)
theorem gm_L_52 : GoodIn TS (wsV RL 52 RX9 yX9_read (wsU yX9_read cX9_read 5 (some .int))) := gV (mT3 19 rfl rfl) (mT3 20 rfl rfl) (mT3 21 rfl rfl) (mT1 1 rfl rfl) (mT3 22 rfl rfl)
theorem gm_X9_161 : GoodIn TS (va_wsS RX9 161 yX9_isSheet (wsU yX9_isSheet cX9_isSheet 1 (some .boolean))) := gS (mT3 23 rfl rfl) (mT3 24 rfl rfl) (mT1 1 rfl rfl) (mT3 25 rfl rfl)
theorem gm_X9_167 : GoodIn TS (wsV RX9 167 RX9 yX9_found (wsU yX9_found cX9_found 2 (some .int))) := gV (mT3 26 rfl rfl) (mT3 28 rfl rfl) (mTp 10 rfl rfl) (mT1 1 rfl rfl) (mT3 29 rfl rfl)
theorem gm_X9_175 : GoodIn TS (wsV RX9 175 RX9 yX9_mayFly (wsU yX9_mayFly cX9_mayFly 2 (some .boolean))) := gV (mT3 30 rfl rfl) (mT3 32 rfl rfl) (mTp 11 rfl rfl) (mT1 1 rfl rfl) (mT3 33 rfl rfl)
theorem gm_L_56 : GoodIn TS (wsV RL 56 RX9 yX9_does (wsU yX9_does cX9_does 3 (some .int))) := gV (mT3 34 rfl rfl) (mT3 35 rfl rfl) (mT3 36 rfl rfl) (mT1 1 rfl rfl) (mT3 37 rfl rfl)
theorem gm_L_60 : GoodIn TS (wsV RL 60 RX9 yX9_share (wsU yX9_share cX9_share 5 (some .int))) := gV (mT3 38 rfl rfl) (mT3 39 rfl rfl) (mT3 40 rfl rfl) (mT1 1 rfl rfl) (mT3 41 rfl rfl)
theorem gm_L_65 : GoodIn TS (wsV RL 65 RX9 yX9_out (wsU yX9_out cX9_out 1 (some .int))) := gV (mT3 42 rfl rfl) (mT3 43 rfl rfl) (mT3 44 rfl rfl) (mT1 1 rfl rfl) (mT3 45 rfl rfl)
theorem gm_L_69 : GoodIn TS (wsV RL 69 RX9 yX9_estate (wsU yX9_estate cX9_estate 1 (some .int))) := gV (mT3 46 rfl rfl) (mT3 47 rfl rfl) (mT3 48 rfl rfl) (mT1 1 rfl rfl) (mT3 49 rfl rfl)
theorem gm_X9_208 : GoodIn TS (wsV RX9 208 RX7 yX7_allShares (wsU yX7_allShares cX7_allShares 3 (some .int))) := gV (mT3 50 rfl rfl) (mT3 51 rfl rfl) (mT3 52 rfl rfl) (mT1 5 rfl rfl) (mT3 53 rfl rfl)
theorem gm_L_73 : GoodIn TS (wsV RL 73 RX9 yX9_richest (wsU yX9_richest cX9_richest 1 (some .int))) := gV (mT3 54 rfl rfl) (mT3 55 rfl rfl) (mT3 56 rfl rfl) (mT1 1 rfl rfl) (mT3 57 rfl rfl)
theorem gm_X9_211 : GoodIn TS (wsV RX9 211 RX7 yX7_richestHeir (wsU yX7_richestHeir cX7_richestHeir 4 (some .int))) := gV (mT3 58 rfl rfl) (mT3 59 rfl rfl) (mT3 60 rfl rfl) (mT1 5 rfl rfl) (mT3 61 rfl rfl)
theorem gm_L_77 : GoodIn TS (wsV RL 77 RX9 yX9_longest (wsU yX9_longest cX9_longest 1 (some .int))) := gV (mT3 62 rfl rfl) (mT3 63 rfl rfl) (mT3 64 rfl rfl) (mT1 1 rfl rfl) (mT3 65 rfl rfl)
theorem gm_L_81 : GoodIn TS (wsV RL 81 RX9 yX9_ditch (wsU yX9_ditch cX9_ditch 1 (some .int))) := gV (mT3 66 rfl rfl) (mT3 67 rfl rfl) (mT3 68 rfl rfl) (mT1 1 rfl rfl) (mT3 69 rfl rfl)
theorem gm_L_85 : GoodIn TS (wsV RL 85 RX9 yX9_bait (wsU yX9_bait cX9_bait 3 (some .int))) := gV (mT3 70 rfl rfl) (mT3 71 rfl rfl) (mT3 72 rfl rfl) (mT1 1 rfl rfl) (mT3 73 rfl rfl)
theorem gm_X9_220 : GoodIn TS (wsV RX9 220 RX6 yX6_prepare (wsU yX6_prepare cX6_prepare 2 none)) := gV (mT3 74 rfl rfl) (mT3 75 rfl rfl) (mT3 76 rfl rfl) (mT1 6 rfl rfl) (mT3 77 rfl rfl)
theorem gm_X6_29 : GoodIn TS (wsV RX6 29 RX2 yX2_copyFrom (wsU yX2_copyFrom cX2_copyFrom 2 none)) := gV (mT3 78 rfl rfl) (mT3 79 rfl rfl) (mT3 80 rfl rfl) (mT1 3 rfl rfl) (mT3 81 rfl rfl)
theorem gm_X9_225 : GoodIn TS (wsV RX9 225 RX6 yX6_run (wsU yX6_run cX6_run 2 none)) := gV (mT3 83 rfl rfl) (mT3 84 rfl rfl) (mT3 85 rfl rfl) (mT1 6 rfl rfl) (mT3 86 rfl rfl)
theorem gm_X6_33 : GoodIn TS (wsV RX6 33 RX7 yX7_begin (wsU yX7_begin cX7_begin 2 none)) := gV (mT3 87 rfl rfl) (mT2 164 rfl rfl) (mT2 165 rfl rfl) (mT1 5 rfl rfl) (mT2 166 rfl rfl)
theorem gm_X6_43 : GoodIn TS (wsV RX6 43 RX7 yX7_visit (wsU yX7_visit cX7_visit 4 none)) := gV (mT3 88 rfl rfl) (mT2 177 rfl rfl) (mT2 178 rfl rfl) (mT1 5 rfl rfl) (mT2 179 rfl rfl)
theorem gm_X9_229 : GoodIn TS (wsV RX9 229 RX7 yX7_hasMost (wsU yX7_hasMost cX7_hasMost 3 (some .boolean))) := gV (mT3 89 rfl rfl) (mT3 90 rfl rfl) (mT3 91 rfl rfl) (mT1 5 rfl rfl) (mT3 92 rfl rfl)
theorem gm_L_89 : GoodIn TS (wsV RL 89 RX9 yX9_fair (wsU yX9_fair cX9_fair 2 (some .int))) := gV (mT3 93 rfl rfl) (mT3 94 rfl rfl) (mT3 95 rfl rfl) (mT1 1 rfl rfl) (mT3 96 rfl rfl)
theorem gm_X9_235 : GoodIn TS (wsV RX9 235 RX0 yX0_find (wsU yX0_find cX0_find 2 none)) := gV (mT3 97 rfl rfl) (mT3 98 rfl rfl) (mT3 99 rfl rfl) (mT1 9 rfl rfl) (mT3 100 rfl rfl)
theorem gm_X0_29 : GoodIn TS (wsV RX0 29 RX7 yX7_begin (wsU yX7_begin cX7_begin 2 none)) := gV (mT3 101 rfl rfl) (mT2 164 rfl rfl) (mT2 165 rfl rfl) (mT1 5 rfl rfl) (mT2 166 rfl rfl)
theorem gm_X0_33 : GoodIn TS (wsV RX0 33 RX0 yX0_seek (wsU yX0_seek cX0_seek 7 none)) := gV (mT3 102 rfl rfl) (mT3 104 rfl rfl) (mTp 12 rfl rfl) (mT1 9 rfl rfl) (mT3 105 rfl rfl)
theorem gm_X0_42 : GoodIn TS (va_wsS RX0 42 yX0_hope (wsU yX0_hope cX0_hope 6 (some .int))) := gS (mT3 106 rfl rfl) (mT3 107 rfl rfl) (mT1 9 rfl rfl) (mT3 108 rfl rfl)
theorem gm_X0_65 : GoodIn TS (wsV RX0 65 RX2 yX2_mostGain (wsU yX2_mostGain cX2_mostGain 4 (some .int))) := gV (mT3 110 rfl rfl) (mT3 111 rfl rfl) (mT3 112 rfl rfl) (mT1 3 rfl rfl) (mT3 113 rfl rfl)
theorem gm_X0_52 : GoodIn TS (wsV RX0 52 RX7 yX7_copyFrom (wsU yX7_copyFrom cX7_copyFrom 2 none)) := gV (mT3 117 rfl rfl) (mT3 118 rfl rfl) (mT3 119 rfl rfl) (mT1 5 rfl rfl) (mT3 120 rfl rfl)
theorem gm_X0_56 : GoodIn TS (wsV RX0 56 RX7 yX7_visit (wsU yX7_visit cX7_visit 4 none)) := gV (mT3 121 rfl rfl) (mT2 177 rfl rfl) (mT2 178 rfl rfl) (mT1 5 rfl rfl) (mT2 179 rfl rfl)
theorem gm_L_93 : GoodIn TS (wsV RL 93 RX9 yX9_care (wsU yX9_care cX9_care 3 (some .int))) := gV (mT3 122 rfl rfl) (mT3 123 rfl rfl) (mT3 124 rfl rfl) (mT1 1 rfl rfl) (mT3 125 rfl rfl)
theorem gm_X9_244 : GoodIn TS (wsV RX9 244 RX7 yX7_isOut (wsU yX7_isOut cX7_isOut 2 (some .boolean))) := gV (mT3 126 rfl rfl) (mT2 181 rfl rfl) (mT2 182 rfl rfl) (mT1 5 rfl rfl) (mT2 183 rfl rfl)
theorem gm_L_97 : GoodIn TS (wsV RL 97 RX9 yX9_skip (wsU yX9_skip cX9_skip 6 (some .int))) := gV (mT3 127 rfl rfl) (mT3 128 rfl rfl) (mT3 129 rfl rfl) (mT1 1 rfl rfl) (mT3 130 rfl rfl)
theorem gm_L_101 : GoodIn TS (wsV RL 101 RX9 yX9_seen (wsU yX9_seen cX9_seen 3 (some .int))) := gV (mT3 131 rfl rfl) (mT3 132 rfl rfl) (mT3 133 rfl rfl) (mT1 1 rfl rfl) (mT3 134 rfl rfl)
theorem gm_X9_254 : GoodIn TS (wsV RX9 254 RX8 yX8_append (wsU yX8_append cX8_append 3 none)) := gV (mT3 135 rfl rfl) (mT3 136 rfl rfl) (mT3 137 rfl rfl) (mT1 8 rfl rfl) (mT3 138 rfl rfl)
theorem gm_L_105 : GoodIn TS (wsV RL 105 RX9 yX9_forget (wsU yX9_forget cX9_forget 2 (some .int))) := gV (mT3 139 rfl rfl) (mT3 140 rfl rfl) (mT3 141 rfl rfl) (mT1 1 rfl rfl) (mT3 142 rfl rfl)
theorem gm_L_109 : GoodIn TS (wsV RL 109 RX9 yX9_never (wsU yX9_never cX9_never 3 (some .int))) := gV (mT3 143 rfl rfl) (mT3 144 rfl rfl) (mT3 145 rfl rfl) (mT1 1 rfl rfl) (mT3 146 rfl rfl)
theorem gm_X9_257 : GoodIn TS (wsV RX9 257 RX1 yX1_stopsWithout (wsU yX1_stopsWithout cX1_stopsWithout 2 (some .int))) := gV (mT3 147 rfl rfl) (mT3 148 rfl rfl) (mT3 149 rfl rfl) (mT1 7 rfl rfl) (mT3 150 rfl rfl)
theorem gm_X1_19 : GoodIn TS (wsV RX1 19 RX1 yX1_stopsOf (wsU yX1_stopsOf cX1_stopsOf 4 (some .int))) := gV (mT3 151 rfl rfl) (mT3 12 rfl rfl) (mT3 13 rfl rfl) (mT1 7 rfl rfl) (mT3 14 rfl rfl)
theorem gm_X9_263 : GoodIn TS (wsV RX9 263 RX8 yX8_agrees (wsU yX8_agrees cX8_agrees 3 (some .boolean))) := gV (mT3 152 rfl rfl) (mT3 153 rfl rfl) (mT3 154 rfl rfl) (mT1 8 rfl rfl) (mT3 155 rfl rfl)
theorem gm_L_113 : GoodIn TS (wsV RL 113 RX9 yX9_was (wsU yX9_was cX9_was 6 (some .int))) := gV (mT3 156 rfl rfl) (mT3 157 rfl rfl) (mT3 158 rfl rfl) (mT1 1 rfl rfl) (mT3 159 rfl rfl)
theorem gm_L_117 : GoodIn TS (wsV RL 117 RX9 yX9_ask (wsU yX9_ask cX9_ask 6 (some .int))) := gV (mT3 160 rfl rfl) (mT3 161 rfl rfl) (mT3 162 rfl rfl) (mT1 1 rfl rfl) (mT3 163 rfl rfl)
theorem gm_X9_267 : GoodIn TS (va_wsS RX9 267 yJ7_fill_53178 (wsU yJ7_fill_53178 cJ7_fill_53178 4 none)) := gS (mT3 164 rfl rfl) (mT2 168 rfl rfl) (mT1 13 rfl rfl) (mT2 169 rfl rfl)
theorem gm_X9_273 : GoodIn TS (wsV RX9 273 RX9 yX9_tallyTrial (wsU yX9_tallyTrial cX9_tallyTrial 2 none)) := gV (mT3 165 rfl rfl) (mT3 167 rfl rfl) (mTp 13 rfl rfl) (mT1 1 rfl rfl) (mT3 168 rfl rfl)
theorem gm_X9_276 : GoodIn TS (wsV RX9 276 RX9 yX9_mostAlike (wsU yX9_mostAlike cX9_mostAlike 4 (some .int))) := gV (mT3 169 rfl rfl) (mT3 171 rfl rfl) (mTp 14 rfl rfl) (mT1 1 rfl rfl) (mT3 172 rfl rfl)
theorem gm_L_121 : GoodIn TS (wsV RL 121 RX9 yX9_swarm (wsU yX9_swarm cX9_swarm 7 (some .long))) := gV (mT3 176 rfl rfl) (mT3 177 rfl rfl) (mT3 178 rfl rfl) (mT1 1 rfl rfl) (mT3 179 rfl rfl)
theorem gm_X9_283 : GoodIn TS (wsV RX9 283 RX9 yX9_tellRichestBySet (wsU yX9_tellRichestBySet cX9_tellRichestBySet 2 none)) := gV (mT3 181 rfl rfl) (mT3 183 rfl rfl) (mTp 15 rfl rfl) (mT1 1 rfl rfl) (mT3 184 rfl rfl)
theorem gm_X9_286 : GoodIn TS (wsV RX9 286 RX9 yX9_weightOf (wsU yX9_weightOf cX9_weightOf 6 (some .long))) := gV (mT3 185 rfl rfl) (mT3 187 rfl rfl) (mTp 16 rfl rfl) (mT1 1 rfl rfl) (mT3 188 rfl rfl)
theorem gm_L_126 : GoodIn TS (wsV RL 126 RX9 yX9_again (wsU yX9_again cX9_again 4 (some .int))) := gV (mT3 190 rfl rfl) (mT3 191 rfl rfl) (mT3 192 rfl rfl) (mT1 1 rfl rfl) (mT3 193 rfl rfl)
theorem gm_X9_292 : GoodIn TS (wsV RX9 292 RX2 yX2_drawRound (wsU yX2_drawRound cX2_drawRound 5 none)) := gV (mT3 194 rfl rfl) (mT3 195 rfl rfl) (mT3 196 rfl rfl) (mT1 3 rfl rfl) (mT3 197 rfl rfl)
theorem gm_L_130 : GoodIn TS (wsV RL 130 RX9 yX9_sheet (wsU yX9_sheet cX9_sheet 4 (some .int))) := gV (mT3 199 rfl rfl) (mT3 200 rfl rfl) (mT3 201 rfl rfl) (mT1 1 rfl rfl) (mT3 202 rfl rfl)
theorem gm_X9_298 : GoodIn TS (va_wsS RX9 298 yX9_isForm (wsU yX9_isForm cX9_isForm 1 (some .boolean))) := gS (mT3 203 rfl rfl) (mT3 204 rfl rfl) (mT1 1 rfl rfl) (mT3 205 rfl rfl)
theorem gm_X9_301 : GoodIn TS (wsV RX9 301 RX4 yX4_renew (wsU yX4_renew cX4_renew 3 none)) := gV (mT3 206 rfl rfl) (mT3 207 rfl rfl) (mT3 208 rfl rfl) (mT1 10 rfl rfl) (mT3 209 rfl rfl)
theorem gm_X4_26 : GoodIn TS (va_wsS RX4 26 yJ7_fill_53178 (wsU yJ7_fill_53178 cJ7_fill_53178 4 none)) := gS (mT3 210 rfl rfl) (mT2 168 rfl rfl) (mT1 13 rfl rfl) (mT2 169 rfl rfl)
theorem gm_L_134 : GoodIn TS (wsV RL 134 RX9 yX9_lose (wsU yX9_lose cX9_lose 2 (some .int))) := gV (mT3 211 rfl rfl) (mT3 212 rfl rfl) (mT3 213 rfl rfl) (mT1 1 rfl rfl) (mT3 214 rfl rfl)
theorem gm_L_138 : GoodIn TS (wsV RL 138 RX9 yX9_put (wsU yX9_put cX9_put 6 (some .int))) := gV (mT3 215 rfl rfl) (mT3 216 rfl rfl) (mT3 217 rfl rfl) (mT1 1 rfl rfl) (mT3 218 rfl rfl)
theorem gm_X9_304 : GoodIn TS (wsV RX9 304 RX4 yX4_faultOf (wsU yX4_faultOf cX4_faultOf 3 (some .int))) := gV (mT3 219 rfl rfl) (mT3 220 rfl rfl) (mT3 221 rfl rfl) (mT1 10 rfl rfl) (mT3 222 rfl rfl)
theorem gm_X9_308 : GoodIn TS (wsV RX9 308 RX4 yX4_store (wsU yX4_store cX4_store 3 none)) := gV (mT3 223 rfl rfl) (mT3 224 rfl rfl) (mT3 225 rfl rfl) (mT1 10 rfl rfl) (mT3 226 rfl rfl)
theorem gm_L_143 : GoodIn TS (wsV RL 143 RX9 yX9_get (wsU yX9_get cX9_get 5 (some .int))) := gV (mT3 227 rfl rfl) (mT3 228 rfl rfl) (mT3 229 rfl rfl) (mT1 1 rfl rfl) (mT3 230 rfl rfl)
theorem gm_L_147 : GoodIn TS (wsV RL 147 RX9 yX9_copy (wsU yX9_copy cX9_copy 8 (some .int))) := gV (mT3 232 rfl rfl) (mT3 233 rfl rfl) (mT3 234 rfl rfl) (mT1 1 rfl rfl) (mT3 235 rfl rfl)
theorem gm_X9_317 : GoodIn TS (wsV RX9 317 RX4 yX4_hasRange (wsU yX4_hasRange cX4_hasRange 3 (some .boolean))) := gV (mT3 236 rfl rfl) (mT3 237 rfl rfl) (mT3 238 rfl rfl) (mT1 10 rfl rfl) (mT3 239 rfl rfl)
theorem gm_L_152 : GoodIn TS (wsV RL 152 RX9 yX9_write (wsU yX9_write cX9_write 6 (some .int))) := gV (mT4 0 rfl rfl) (mT4 1 rfl rfl) (mT4 2 rfl rfl) (mT1 1 rfl rfl) (mT4 3 rfl rfl)
theorem gm_L_156 : GoodIn TS (wsV RL 156 RX9 yX9_count (wsU yX9_count cX9_count 2 (some .int))) := gV (mT4 5 rfl rfl) (mT4 6 rfl rfl) (mT4 7 rfl rfl) (mT1 1 rfl rfl) (mT4 8 rfl rfl)
theorem gm_X9_325 : GoodIn TS (wsV RX9 325 RX7 yX7_allFields (wsU yX7_allFields cX7_allFields 3 (some .int))) := gV (mT4 9 rfl rfl) (mT4 10 rfl rfl) (mT4 11 rfl rfl) (mT1 5 rfl rfl) (mT4 12 rfl rfl)
theorem gm_L_160 : GoodIn TS (wsV RL 160 RX9 yX9_digest (wsU yX9_digest cX9_digest 4 (some .long))) := gV (mT4 13 rfl rfl) (mT4 14 rfl rfl) (mT4 15 rfl rfl) (mT1 1 rfl rfl) (mT4 16 rfl rfl)
theorem gm_X9_330 : GoodIn TS (wsV RX9 330 RX9 yX9_count (wsU yX9_count cX9_count 2 (some .int))) := gV (mT4 18 rfl rfl) (mT4 6 rfl rfl) (mT4 7 rfl rfl) (mT1 1 rfl rfl) (mT4 8 rfl rfl)
theorem gm_X9_333 : GoodIn TS (va_wsS RX9 333 yX9_mixed (wsU yX9_mixed cX9_mixed 4 (some .long))) := gS (mT4 19 rfl rfl) (mT4 20 rfl rfl) (mT1 1 rfl rfl) (mT4 21 rfl rfl)
theorem gm_X9_337 : GoodIn TS (wsV RX9 337 RX9 yX9_fault (wsU yX9_fault cX9_fault 2 (some .int))) := gV (mT4 23 rfl rfl) (mT2 216 rfl rfl) (mT2 217 rfl rfl) (mT1 1 rfl rfl) (mT2 218 rfl rfl)
theorem gm_X9_340 : GoodIn TS (wsV RX9 340 RX9 yX9_mixHeir (wsU yX9_mixHeir cX9_mixHeir 7 (some .long))) := gV (mT4 24 rfl rfl) (mT4 26 rfl rfl) (mTp 17 rfl rfl) (mT1 1 rfl rfl) (mT4 27 rfl rfl)
theorem gm_X9_369 : GoodIn TS (wsV RX9 369 RX9 yX9_heir (wsU yX9_heir cX9_heir 3 (some .int))) := gV (mT4 28 rfl rfl) (mT2 222 rfl rfl) (mT2 223 rfl rfl) (mT1 1 rfl rfl) (mT2 224 rfl rfl)
theorem gm_X9_372 : GoodIn TS (wsV RX9 372 RX9 yX9_share (wsU yX9_share cX9_share 5 (some .int))) := gV (mT4 29 rfl rfl) (mT3 39 rfl rfl) (mT3 40 rfl rfl) (mT1 1 rfl rfl) (mT3 41 rfl rfl)
theorem gm_X9_374 : GoodIn TS (wsV RX9 374 RX9 yX9_bait (wsU yX9_bait cX9_bait 3 (some .int))) := gV (mT4 30 rfl rfl) (mT3 71 rfl rfl) (mT3 72 rfl rfl) (mT1 1 rfl rfl) (mT3 73 rfl rfl)
theorem gm_X9_377 : GoodIn TS (wsV RX9 377 RX9 yX9_care (wsU yX9_care cX9_care 3 (some .int))) := gV (mT4 31 rfl rfl) (mT3 123 rfl rfl) (mT3 124 rfl rfl) (mT1 1 rfl rfl) (mT3 125 rfl rfl)
theorem gm_X9_380 : GoodIn TS (wsV RX9 380 RX9 yX9_skip (wsU yX9_skip cX9_skip 6 (some .int))) := gV (mT4 32 rfl rfl) (mT3 128 rfl rfl) (mT3 129 rfl rfl) (mT1 1 rfl rfl) (mT3 130 rfl rfl)
theorem gm_X9_383 : GoodIn TS (wsV RX9 383 RX9 yX9_was (wsU yX9_was cX9_was 6 (some .int))) := gV (mT4 33 rfl rfl) (mT3 157 rfl rfl) (mT3 158 rfl rfl) (mT1 1 rfl rfl) (mT3 159 rfl rfl)
theorem gm_X9_386 : GoodIn TS (wsV RX9 386 RX9 yX9_ask (wsU yX9_ask cX9_ask 6 (some .int))) := gV (mT4 34 rfl rfl) (mT3 161 rfl rfl) (mT3 162 rfl rfl) (mT1 1 rfl rfl) (mT3 163 rfl rfl)
theorem gm_X9_389 : GoodIn TS (wsV RX9 389 RX9 yX9_swarm (wsU yX9_swarm cX9_swarm 7 (some .long))) := gV (mT4 35 rfl rfl) (mT3 177 rfl rfl) (mT3 178 rfl rfl) (mT1 1 rfl rfl) (mT3 179 rfl rfl)
theorem gm_X9_344 : GoodIn TS (wsV RX9 344 RX9 yX9_mixStop (wsU yX9_mixStop cX9_mixStop 7 (some .long))) := gV (mT4 36 rfl rfl) (mT4 38 rfl rfl) (mTp 18 rfl rfl) (mT1 1 rfl rfl) (mT4 39 rfl rfl)
theorem gm_X9_393 : GoodIn TS (wsV RX9 393 RX9 yX9_round (wsU yX9_round cX9_round 2 (some .int))) := gV (mT4 40 rfl rfl) (mT2 230 rfl rfl) (mT2 231 rfl rfl) (mT1 1 rfl rfl) (mT2 232 rfl rfl)
theorem gm_X9_396 : GoodIn TS (wsV RX9 396 RX9 yX9_does (wsU yX9_does cX9_does 3 (some .int))) := gV (mT4 41 rfl rfl) (mT3 35 rfl rfl) (mT3 36 rfl rfl) (mT1 1 rfl rfl) (mT3 37 rfl rfl)
theorem gm_X9_347 : GoodIn TS (wsV RX9 347 RX9 yX9_out (wsU yX9_out cX9_out 1 (some .int))) := gV (mT4 42 rfl rfl) (mT3 43 rfl rfl) (mT3 44 rfl rfl) (mT1 1 rfl rfl) (mT3 45 rfl rfl)
theorem gm_X9_349 : GoodIn TS (wsV RX9 349 RX9 yX9_estate (wsU yX9_estate cX9_estate 1 (some .int))) := gV (mT4 43 rfl rfl) (mT3 47 rfl rfl) (mT3 48 rfl rfl) (mT1 1 rfl rfl) (mT3 49 rfl rfl)
theorem gm_X9_352 : GoodIn TS (wsV RX9 352 RX9 yX9_richest (wsU yX9_richest cX9_richest 1 (some .int))) := gV (mT4 44 rfl rfl) (mT3 55 rfl rfl) (mT3 56 rfl rfl) (mT1 1 rfl rfl) (mT3 57 rfl rfl)
theorem gm_X9_355 : GoodIn TS (wsV RX9 355 RX9 yX9_longest (wsU yX9_longest cX9_longest 1 (some .int))) := gV (mT4 45 rfl rfl) (mT3 63 rfl rfl) (mT3 64 rfl rfl) (mT1 1 rfl rfl) (mT3 65 rfl rfl)
theorem gm_X9_357 : GoodIn TS (wsV RX9 357 RX9 yX9_ditch (wsU yX9_ditch cX9_ditch 1 (some .int))) := gV (mT4 46 rfl rfl) (mT3 67 rfl rfl) (mT3 68 rfl rfl) (mT1 1 rfl rfl) (mT3 69 rfl rfl)
theorem gm_X9_359 : GoodIn TS (wsV RX9 359 RX9 yX9_fair (wsU yX9_fair cX9_fair 2 (some .int))) := gV (mT4 47 rfl rfl) (mT3 94 rfl rfl) (mT3 95 rfl rfl) (mT1 1 rfl rfl) (mT3 96 rfl rfl)
theorem gm_X9_362 : GoodIn TS (wsV RX9 362 RX9 yX9_never (wsU yX9_never cX9_never 3 (some .int))) := gV (mT4 48 rfl rfl) (mT3 144 rfl rfl) (mT3 145 rfl rfl) (mT1 1 rfl rfl) (mT3 146 rfl rfl)
theorem gm_X9_365 : GoodIn TS (wsV RX9 365 RX9 yX9_again (wsU yX9_again cX9_again 4 (some .int))) := gV (mT4 49 rfl rfl) (mT3 191 rfl rfl) (mT3 192 rfl rfl) (mT1 1 rfl rfl) (mT3 193 rfl rfl)
theorem gm_L_17 : GoodIn TS (wsV RL 17 RX10 yX10_type (wsU yX10_type cX10_type 3 (some .int))) := gV (mT4 184 rfl rfl) (mT4 185 rfl rfl) (mT4 186 rfl rfl) (mT1 12 rfl rfl) (mT4 187 rfl rfl)
theorem gm_X10_101 : GoodIn TS (va_wsS RX10 101 yX10_isText (wsU yX10_isText cX10_isText 1 (some .boolean))) := gS (mT4 188 rfl rfl) (mT4 189 rfl rfl) (mT1 12 rfl rfl) (mT4 190 rfl rfl)
theorem gm_X10_97 : GoodIn TS (va_wsS RX10 97 yX10_in (wsU yX10_in cX10_in 3 (some .boolean))) := gS (mT4 191 rfl rfl) (mT4 192 rfl rfl) (mT1 12 rfl rfl) (mT4 193 rfl rfl)
theorem gm_L_22 : GoodIn TS (wsV RL 22 RX10 yX10_wipe (wsU yX10_wipe cX10_wipe 3 (some .int))) := gV (mT4 194 rfl rfl) (mT4 195 rfl rfl) (mT4 196 rfl rfl) (mT1 12 rfl rfl) (mT4 197 rfl rfl)
theorem gm_L_26 : GoodIn TS (wsV RL 26 RX10 yX10_undo (wsU yX10_undo cX10_undo 2 (some .int))) := gV (mT4 198 rfl rfl) (mT4 199 rfl rfl) (mT4 200 rfl rfl) (mT1 12 rfl rfl) (mT4 201 rfl rfl)
theorem gm_L_30 : GoodIn TS (wsV RL 30 RX10 yX10_fault (wsU yX10_fault cX10_fault 2 (some .int))) := gV (mT4 202 rfl rfl) (mT4 203 rfl rfl) (mT4 204 rfl rfl) (mT1 12 rfl rfl) (mT4 205 rfl rfl)
theorem gm_X10_127 : GoodIn TS (wsV RX10 127 RX10 yX10_faultOf (wsU yX10_faultOf cX10_faultOf 4 (some .int))) := gV (mT4 206 rfl rfl) (mT4 208 rfl rfl) (mTp 19 rfl rfl) (mT1 12 rfl rfl) (mT4 209 rfl rfl)
theorem gm_X10_120 : GoodIn TS (wsV RX10 120 RX10 yX10_readsHeirs (wsU yX10_readsHeirs cX10_readsHeirs 4 (some .int))) := gV (mT4 210 rfl rfl) (mT4 212 rfl rfl) (mTp 20 rfl rfl) (mT1 12 rfl rfl) (mT4 213 rfl rfl)
theorem gm_X10_113 : GoodIn TS (wsV RX10 113 RX10 yX10_readsHeir (wsU yX10_readsHeir cX10_readsHeir 7 (some .int))) := gV (mT4 214 rfl rfl) (mT4 216 rfl rfl) (mTp 21 rfl rfl) (mT1 12 rfl rfl) (mT4 217 rfl rfl)
theorem gm_X10_105 : GoodIn TS (wsV RX10 105 RX10 yX10_byteAt (wsU yX10_byteAt cX10_byteAt 2 (some .int))) := gV (mT4 218 rfl rfl) (mT4 220 rfl rfl) (mTp 22 rfl rfl) (mT1 12 rfl rfl) (mT4 221 rfl rfl)
theorem gm_X10_124 : GoodIn TS (wsV RX10 124 RX10 yX10_readsRound (wsU yX10_readsRound cX10_readsRound 2 (some .int))) := gV (mT4 222 rfl rfl) (mT4 224 rfl rfl) (mTp 23 rfl rfl) (mT1 12 rfl rfl) (mT4 225 rfl rfl)
theorem gm_L_34 : GoodIn TS (wsV RL 34 RX10 yX10_heir (wsU yX10_heir cX10_heir 3 (some .int))) := gV (mT4 226 rfl rfl) (mT4 227 rfl rfl) (mT4 228 rfl rfl) (mT1 12 rfl rfl) (mT4 229 rfl rfl)
theorem gm_X10_133 : GoodIn TS (wsV RX10 133 RX10 yX10_isHeir (wsU yX10_isHeir cX10_isHeir 2 (some .boolean))) := gV (mT4 230 rfl rfl) (mT4 232 rfl rfl) (mTp 24 rfl rfl) (mT1 12 rfl rfl) (mT4 233 rfl rfl)
theorem gm_X10_130 : GoodIn TS (wsV RX10 130 RX10 yX10_reads (wsU yX10_reads cX10_reads 2 none)) := gV (mT4 234 rfl rfl) (mT4 236 rfl rfl) (mTp 25 rfl rfl) (mT1 12 rfl rfl) (mT4 237 rfl rfl)
theorem gm_X10_136 : GoodIn TS (wsV RX10 136 RX10 yX10_heirOf (wsU yX10_heirOf cX10_heirOf 3 (some .int))) := gV (mT4 238 rfl rfl) (mT5 0 rfl rfl) (mTp 26 rfl rfl) (mT1 12 rfl rfl) (mT5 1 rfl rfl)
theorem gm_L_38 : GoodIn TS (wsV RL 38 RX10 yX10_round (wsU yX10_round cX10_round 2 (some .int))) := gV (mT5 2 rfl rfl) (mT5 3 rfl rfl) (mT5 4 rfl rfl) (mT1 12 rfl rfl) (mT5 5 rfl rfl)
theorem gm_X10_139 : GoodIn TS (va_wsS RX10 139 yX10_isStop (wsU yX10_isStop cX10_isStop 1 (some .boolean))) := gS (mT5 6 rfl rfl) (mT5 7 rfl rfl) (mT1 12 rfl rfl) (mT5 8 rfl rfl)
theorem gm_X10_142 : GoodIn TS (wsV RX10 142 RX10 yX10_roundOf (wsU yX10_roundOf cX10_roundOf 2 (some .int))) := gV (mT5 9 rfl rfl) (mT5 11 rfl rfl) (mTp 27 rfl rfl) (mT1 12 rfl rfl) (mT5 12 rfl rfl)
theorem gm_L_42 : GoodIn TS (wsV RL 42 RX10 yX10_set (wsU yX10_set cX10_set 4 (some .int))) := gV (mT5 13 rfl rfl) (mT5 14 rfl rfl) (mT5 15 rfl rfl) (mT1 12 rfl rfl) (mT5 16 rfl rfl)
theorem gm_L_46 : GoodIn TS (wsV RL 46 RX10 yX10_fly (wsU yX10_fly cX10_fly 2 (some .int))) := gV (mT5 17 rfl rfl) (mT5 18 rfl rfl) (mT5 19 rfl rfl) (mT1 12 rfl rfl) (mT5 20 rfl rfl)
theorem gm_L_51 : GoodIn TS (wsV RL 51 RX10 yX10_back (wsU yX10_back cX10_back 1 (some .int))) := gV (mT5 21 rfl rfl) (mT5 22 rfl rfl) (mT5 23 rfl rfl) (mT1 12 rfl rfl) (mT5 24 rfl rfl)
theorem gm_L_55 : GoodIn TS (wsV RL 55 RX10 yX10_read (wsU yX10_read cX10_read 3 (some .int))) := gV (mT5 25 rfl rfl) (mT5 26 rfl rfl) (mT5 27 rfl rfl) (mT1 12 rfl rfl) (mT5 28 rfl rfl)
theorem gm_X10_148 : GoodIn TS (va_wsS RX10 148 yX10_isSheet (wsU yX10_isSheet cX10_isSheet 1 (some .boolean))) := gS (mT5 29 rfl rfl) (mT5 30 rfl rfl) (mT1 12 rfl rfl) (mT5 31 rfl rfl)
theorem gm_X10_151 : GoodIn TS (wsV RX10 151 RX10 yX10_meets (wsU yX10_meets cX10_meets 2 (some .int))) := gV (mT5 32 rfl rfl) (mT5 34 rfl rfl) (mTp 28 rfl rfl) (mT1 12 rfl rfl) (mT5 35 rfl rfl)
theorem gm_X10_154 : GoodIn TS (wsV RX10 154 RX10 yX10_fly (wsU yX10_fly cX10_fly 2 (some .int))) := gV (mT5 36 rfl rfl) (mT5 18 rfl rfl) (mT5 19 rfl rfl) (mT1 12 rfl rfl) (mT5 20 rfl rfl)
theorem gm_L_59 : GoodIn TS (wsV RL 59 RX10 yX10_does (wsU yX10_does cX10_does 3 (some .int))) := gV (mT5 37 rfl rfl) (mT5 38 rfl rfl) (mT5 39 rfl rfl) (mT1 12 rfl rfl) (mT5 40 rfl rfl)
theorem gm_X10_218 : GoodIn TS (wsV RX10 218 RX10 yX10_stopsMany (wsU yX10_stopsMany cX10_stopsMany 1 (some .int))) := gV (mT5 41 rfl rfl) (mT5 43 rfl rfl) (mTp 29 rfl rfl) (mT1 12 rfl rfl) (mT5 44 rfl rfl)
theorem gm_X10_221 : GoodIn TS (wsV RX10 221 RX10 yX10_doesOf (wsU yX10_doesOf cX10_doesOf 3 (some .int))) := gV (mT5 45 rfl rfl) (mT5 47 rfl rfl) (mTp 30 rfl rfl) (mT1 12 rfl rfl) (mT5 48 rfl rfl)
theorem gm_X10_215 : GoodIn TS (wsV RX10 215 RX10 yX10_runsTold (wsU yX10_runsTold cX10_runsTold 1 none)) := gV (mT5 49 rfl rfl) (mT5 51 rfl rfl) (mTp 31 rfl rfl) (mT1 12 rfl rfl) (mT5 52 rfl rfl)
theorem gm_X10_209 : GoodIn TS (wsV RX10 209 RX10 yX10_asTold (wsU yX10_asTold cX10_asTold 2 none)) := gV (mT5 53 rfl rfl) (mT5 55 rfl rfl) (mTp 32 rfl rfl) (mT1 12 rfl rfl) (mT5 56 rfl rfl)
theorem gm_X10_164 : GoodIn TS (wsV RX10 164 RX10 yX10_fliesBut (wsU yX10_fliesBut cX10_fliesBut 4 (some .int))) := gV (mT5 57 rfl rfl) (mT5 59 rfl rfl) (mTp 33 rfl rfl) (mT1 12 rfl rfl) (mT5 60 rfl rfl)
theorem gm_X10_157 : GoodIn TS (va_wsS RX10 157 yX10_isIn (wsU yX10_isIn cX10_isIn 2 (some .boolean))) := gS (mT5 61 rfl rfl) (mT5 62 rfl rfl) (mT1 12 rfl rfl) (mT5 63 rfl rfl)
theorem gm_X10_212 : GoodIn TS (wsV RX10 212 RX10 yX10_runs (wsU yX10_runs cX10_runs 3 none)) := gV (mT5 64 rfl rfl) (mT5 66 rfl rfl) (mTp 34 rfl rfl) (mT1 12 rfl rfl) (mT5 67 rfl rfl)
theorem gm_X10_201 : GoodIn TS (wsV RX10 201 RX10 yX10_keepsAt (wsU yX10_keepsAt cX10_keepsAt 3 none)) := gV (mT5 68 rfl rfl) (mT5 70 rfl rfl) (mTp 35 rfl rfl) (mT1 12 rfl rfl) (mT5 71 rfl rfl)
theorem gm_X10_205 : GoodIn TS (wsV RX10 205 RX10 yX10_visits (wsU yX10_visits cX10_visits 5 none)) := gV (mT5 72 rfl rfl) (mT5 74 rfl rfl) (mTp 36 rfl rfl) (mT1 12 rfl rfl) (mT5 75 rfl rfl)
theorem gm_X10_185 : GoodIn TS (wsV RX10 185 RX10 yX10_afraid (wsU yX10_afraid cX10_afraid 4 (some .int))) := gV (mT5 76 rfl rfl) (mT5 78 rfl rfl) (mTp 37 rfl rfl) (mT1 12 rfl rfl) (mT5 79 rfl rfl)
theorem gm_X10_194 : GoodIn TS (wsV RX10 194 RX10 yX10_goesBack (wsU yX10_goesBack cX10_goesBack 2 none)) := gV (mT5 80 rfl rfl) (mT5 82 rfl rfl) (mTp 38 rfl rfl) (mT1 12 rfl rfl) (mT5 83 rfl rfl)
theorem gm_X10_197 : GoodIn TS (wsV RX10 197 RX10 yX10_stays (wsU yX10_stays cX10_stays 6 none)) := gV (mT5 84 rfl rfl) (mT5 86 rfl rfl) (mTp 39 rfl rfl) (mT1 12 rfl rfl) (mT5 87 rfl rfl)
theorem gm_L_64 : GoodIn TS (wsV RL 64 RX10 yX10_share (wsU yX10_share cX10_share 4 (some .int))) := gV (mT5 88 rfl rfl) (mT5 89 rfl rfl) (mT5 90 rfl rfl) (mT1 12 rfl rfl) (mT5 91 rfl rfl)
theorem gm_X10_224 : GoodIn TS (wsV RX10 224 RX10 yX10_shareOf (wsU yX10_shareOf cX10_shareOf 4 (some .int))) := gV (mT5 92 rfl rfl) (mT5 94 rfl rfl) (mTp 40 rfl rfl) (mT1 12 rfl rfl) (mT5 95 rfl rfl)
theorem gm_L_68 : GoodIn TS (wsV RL 68 RX10 yX10_out (wsU yX10_out cX10_out 1 (some .int))) := gV (mT5 96 rfl rfl) (mT5 97 rfl rfl) (mT5 98 rfl rfl) (mT1 12 rfl rfl) (mT5 99 rfl rfl)
theorem gm_X10_228 : GoodIn TS (wsV RX10 228 RX10 yX10_outOf (wsU yX10_outOf cX10_outOf 1 (some .int))) := gV (mT5 100 rfl rfl) (mT5 102 rfl rfl) (mTp 41 rfl rfl) (mT1 12 rfl rfl) (mT5 103 rfl rfl)
theorem gm_L_72 : GoodIn TS (wsV RL 72 RX10 yX10_estate (wsU yX10_estate cX10_estate 1 (some .int))) := gV (mT5 104 rfl rfl) (mT5 105 rfl rfl) (mT5 106 rfl rfl) (mT1 12 rfl rfl) (mT5 107 rfl rfl)
theorem gm_X10_234 : GoodIn TS (wsV RX10 234 RX10 yX10_estateOf (wsU yX10_estateOf cX10_estateOf 1 (some .int))) := gV (mT5 108 rfl rfl) (mT5 110 rfl rfl) (mTp 42 rfl rfl) (mT1 12 rfl rfl) (mT5 111 rfl rfl)
theorem gm_X10_231 : GoodIn TS (wsV RX10 231 RX10 yX10_estateNow (wsU yX10_estateNow cX10_estateNow 3 (some .int))) := gV (mT5 112 rfl rfl) (mT5 114 rfl rfl) (mTp 43 rfl rfl) (mT1 12 rfl rfl) (mT5 115 rfl rfl)
theorem gm_L_76 : GoodIn TS (wsV RL 76 RX10 yX10_richest (wsU yX10_richest cX10_richest 1 (some .int))) := gV (mT5 116 rfl rfl) (mT5 117 rfl rfl) (mT5 118 rfl rfl) (mT1 12 rfl rfl) (mT5 119 rfl rfl)
theorem gm_X10_240 : GoodIn TS (wsV RX10 240 RX10 yX10_richestOf (wsU yX10_richestOf cX10_richestOf 1 (some .int))) := gV (mT5 120 rfl rfl) (mT5 122 rfl rfl) (mTp 44 rfl rfl) (mT1 12 rfl rfl) (mT5 123 rfl rfl)
theorem gm_X10_237 : GoodIn TS (wsV RX10 237 RX10 yX10_richestNow (wsU yX10_richestNow cX10_richestNow 4 (some .int))) := gV (mT5 124 rfl rfl) (mT5 126 rfl rfl) (mTp 45 rfl rfl) (mT1 12 rfl rfl) (mT5 127 rfl rfl)
theorem gm_L_80 : GoodIn TS (wsV RL 80 RX10 yX10_longest (wsU yX10_longest cX10_longest 1 (some .int))) := gV (mT5 128 rfl rfl) (mT5 129 rfl rfl) (mT5 130 rfl rfl) (mT1 12 rfl rfl) (mT5 131 rfl rfl)
theorem gm_X10_243 : GoodIn TS (wsV RX10 243 RX10 yX10_longestOf (wsU yX10_longestOf cX10_longestOf 1 (some .int))) := gV (mT5 132 rfl rfl) (mT5 134 rfl rfl) (mTp 46 rfl rfl) (mT1 12 rfl rfl) (mT5 135 rfl rfl)
theorem gm_L_84 : GoodIn TS (wsV RL 84 RX10 yX10_ditch (wsU yX10_ditch cX10_ditch 1 (some .int))) := gV (mT5 136 rfl rfl) (mT5 137 rfl rfl) (mT5 138 rfl rfl) (mT1 12 rfl rfl) (mT5 139 rfl rfl)
theorem gm_X10_246 : GoodIn TS (wsV RX10 246 RX10 yX10_ditchOf (wsU yX10_ditchOf cX10_ditchOf 1 (some .int))) := gV (mT5 140 rfl rfl) (mT5 142 rfl rfl) (mTp 47 rfl rfl) (mT1 12 rfl rfl) (mT5 143 rfl rfl)
theorem gm_L_88 : GoodIn TS (wsV RL 88 RX10 yX10_bait (wsU yX10_bait cX10_bait 2 (some .int))) := gV (mT5 144 rfl rfl) (mT5 145 rfl rfl) (mT5 146 rfl rfl) (mT1 12 rfl rfl) (mT5 147 rfl rfl)
theorem gm_X10_252 : GoodIn TS (wsV RX10 252 RX10 yX10_baitOf (wsU yX10_baitOf cX10_baitOf 5 (some .int))) := gV (mT5 148 rfl rfl) (mT5 150 rfl rfl) (mTp 48 rfl rfl) (mT1 12 rfl rfl) (mT5 151 rfl rfl)
theorem gm_X10_249 : GoodIn TS (wsV RX10 249 RX10 yX10_isFirst (wsU yX10_isFirst cX10_isFirst 4 (some .boolean))) := gV (mT5 152 rfl rfl) (mT5 154 rfl rfl) (mTp 49 rfl rfl) (mT1 12 rfl rfl) (mT5 155 rfl rfl)
theorem gm_L_92 : GoodIn TS (wsV RL 92 RX10 yX10_fair (wsU yX10_fair cX10_fair 2 (some .int))) := gV (mT5 156 rfl rfl) (mT5 157 rfl rfl) (mT5 158 rfl rfl) (mT1 12 rfl rfl) (mT5 159 rfl rfl)
theorem gm_X10_265 : GoodIn TS (wsV RX10 265 RX10 yX10_fairOf (wsU yX10_fairOf cX10_fairOf 3 (some .int))) := gV (mT5 160 rfl rfl) (mT5 162 rfl rfl) (mTp 50 rfl rfl) (mT1 12 rfl rfl) (mT5 163 rfl rfl)
theorem gm_X10_262 : GoodIn TS (wsV RX10 262 RX10 yX10_fairBy (wsU yX10_fairBy cX10_fairBy 5 (some .int))) := gV (mT5 164 rfl rfl) (mT5 166 rfl rfl) (mTp 51 rfl rfl) (mT1 12 rfl rfl) (mT5 167 rfl rfl)
theorem gm_X10_255 : GoodIn TS (wsV RX10 255 RX10 yX10_leastNow (wsU yX10_leastNow cX10_leastNow 3 (some .int))) := gV (mT5 168 rfl rfl) (mT5 170 rfl rfl) (mTp 52 rfl rfl) (mT1 12 rfl rfl) (mT5 171 rfl rfl)
theorem gm_X10_258 : GoodIn TS (wsV RX10 258 RX10 yX10_nextRow (wsU yX10_nextRow cX10_nextRow 7 (some .boolean))) := gV (mT5 172 rfl rfl) (mT5 174 rfl rfl) (mTp 53 rfl rfl) (mT1 12 rfl rfl) (mT5 175 rfl rfl)
theorem gm_L_96 : GoodIn TS (wsV RL 96 RX10 yX10_care (wsU yX10_care cX10_care 2 (some .int))) := gV (mT5 176 rfl rfl) (mT5 177 rfl rfl) (mT5 178 rfl rfl) (mT1 12 rfl rfl) (mT5 179 rfl rfl)
theorem gm_X10_268 : GoodIn TS (wsV RX10 268 RX10 yX10_careOf (wsU yX10_careOf cX10_careOf 5 (some .int))) := gV (mT5 180 rfl rfl) (mT5 182 rfl rfl) (mTp 54 rfl rfl) (mT1 12 rfl rfl) (mT5 183 rfl rfl)
theorem gm_L_100 : GoodIn TS (wsV RL 100 RX10 yX10_skip (wsU yX10_skip cX10_skip 3 (some .int))) := gV (mT5 184 rfl rfl) (mT5 185 rfl rfl) (mT5 186 rfl rfl) (mT1 12 rfl rfl) (mT5 187 rfl rfl)
theorem gm_X10_271 : GoodIn TS (wsV RX10 271 RX10 yX10_skipOf (wsU yX10_skipOf cX10_skipOf 6 (some .int))) := gV (mT5 188 rfl rfl) (mT5 190 rfl rfl) (mTp 55 rfl rfl) (mT1 12 rfl rfl) (mT5 191 rfl rfl)
theorem gm_L_104 : GoodIn TS (wsV RL 104 RX10 yX10_seen (wsU yX10_seen cX10_seen 3 (some .int))) := gV (mT5 192 rfl rfl) (mT5 193 rfl rfl) (mT5 194 rfl rfl) (mT1 12 rfl rfl) (mT5 195 rfl rfl)
theorem gm_L_108 : GoodIn TS (wsV RL 108 RX10 yX10_forget (wsU yX10_forget cX10_forget 2 (some .int))) := gV (mT5 196 rfl rfl) (mT5 197 rfl rfl) (mT5 198 rfl rfl) (mT1 12 rfl rfl) (mT5 199 rfl rfl)
theorem gm_L_112 : GoodIn TS (wsV RL 112 RX10 yX10_never (wsU yX10_never cX10_never 1 (some .int))) := gV (mT5 200 rfl rfl) (mT5 201 rfl rfl) (mT5 202 rfl rfl) (mT1 12 rfl rfl) (mT5 203 rfl rfl)
theorem gm_X10_280 : GoodIn TS (wsV RX10 280 RX10 yX10_neverNow (wsU yX10_neverNow cX10_neverNow 3 (some .int))) := gV (mT5 204 rfl rfl) (mT5 206 rfl rfl) (mTp 56 rfl rfl) (mT1 12 rfl rfl) (mT5 207 rfl rfl)
theorem gm_X10_277 : GoodIn TS (wsV RX10 277 RX10 yX10_isSeen (wsU yX10_isSeen cX10_isSeen 3 (some .boolean))) := gV (mT5 208 rfl rfl) (mT5 210 rfl rfl) (mTp 57 rfl rfl) (mT1 12 rfl rfl) (mT5 211 rfl rfl)
theorem gm_L_116 : GoodIn TS (wsV RL 116 RX10 yX10_was (wsU yX10_was cX10_was 3 (some .int))) := gV (mT5 212 rfl rfl) (mT5 213 rfl rfl) (mT5 214 rfl rfl) (mT1 12 rfl rfl) (mT5 215 rfl rfl)
theorem gm_X10_283 : GoodIn TS (wsV RX10 283 RX10 yX10_wasBy (wsU yX10_wasBy cX10_wasBy 8 (some .int))) := gV (mT5 216 rfl rfl) (mT5 218 rfl rfl) (mTp 58 rfl rfl) (mT1 12 rfl rfl) (mT5 219 rfl rfl)
theorem gm_L_120 : GoodIn TS (wsV RL 120 RX10 yX10_ask (wsU yX10_ask cX10_ask 2 (some .int))) := gV (mT5 220 rfl rfl) (mT5 221 rfl rfl) (mT5 222 rfl rfl) (mT1 12 rfl rfl) (mT5 223 rfl rfl)
theorem gm_X10_286 : GoodIn TS (wsV RX10 286 RX10 yX10_askOf (wsU yX10_askOf cX10_askOf 10 (some .int))) := gV (mT5 224 rfl rfl) (mT5 226 rfl rfl) (mTp 59 rfl rfl) (mT1 12 rfl rfl) (mT5 227 rfl rfl)
theorem gm_L_125 : GoodIn TS (wsV RL 125 RX10 yX10_swarm (wsU yX10_swarm cX10_swarm 4 (some .long))) := gV (mT5 228 rfl rfl) (mT5 229 rfl rfl) (mT5 230 rfl rfl) (mT1 12 rfl rfl) (mT5 231 rfl rfl)
theorem gm_X10_293 : GoodIn TS (wsV RX10 293 RX10 yX10_swarmOf (wsU yX10_swarmOf cX10_swarmOf 10 (some .long))) := gV (mT5 232 rfl rfl) (mT5 234 rfl rfl) (mTp 60 rfl rfl) (mT1 12 rfl rfl) (mT5 235 rfl rfl)
theorem gm_X10_289 : GoodIn TS (va_wsS RX10 289 yX10_lowest (wsU yX10_lowest cX10_lowest 11 (some .long))) := gS (mT5 236 rfl rfl) (mT5 237 rfl rfl) (mT1 12 rfl rfl) (mT5 238 rfl rfl)
theorem gm_X10_297 : GoodIn TS (va_wsS RX10 297 yX10_no (wsU yX10_no cX10_no 1 (some .long))) := gS (mT5 239 rfl rfl) (mT6 0 rfl rfl) (mT1 12 rfl rfl) (mT6 1 rfl rfl)
theorem gm_L_129 : GoodIn TS (wsV RL 129 RX10 yX10_again (wsU yX10_again cX10_again 4 (some .int))) := gV (mT6 3 rfl rfl) (mT6 4 rfl rfl) (mT6 5 rfl rfl) (mT1 12 rfl rfl) (mT6 6 rfl rfl)
theorem gm_X10_302 : GoodIn TS (wsV RX10 302 RX10 yX10_againOf (wsU yX10_againOf cX10_againOf 6 (some .int))) := gV (mT6 7 rfl rfl) (mT6 9 rfl rfl) (mTp 61 rfl rfl) (mT1 12 rfl rfl) (mT6 10 rfl rfl)
theorem gm_L_133 : GoodIn TS (wsV RL 133 RX10 yX10_sheet (wsU yX10_sheet cX10_sheet 5 (some .int))) := gV (mT6 12 rfl rfl) (mT6 13 rfl rfl) (mT6 14 rfl rfl) (mT1 12 rfl rfl) (mT6 15 rfl rfl)
theorem gm_L_137 : GoodIn TS (wsV RL 137 RX10 yX10_lose (wsU yX10_lose cX10_lose 2 (some .int))) := gV (mT6 16 rfl rfl) (mT6 17 rfl rfl) (mT6 18 rfl rfl) (mT1 12 rfl rfl) (mT6 19 rfl rfl)
theorem gm_L_142 : GoodIn TS (wsV RL 142 RX10 yX10_put (wsU yX10_put cX10_put 6 (some .int))) := gV (mT6 20 rfl rfl) (mT6 21 rfl rfl) (mT6 22 rfl rfl) (mT1 12 rfl rfl) (mT6 23 rfl rfl)
theorem gm_X10_308 : GoodIn TS (wsV RX10 308 RX10 yX10_lacks (wsU yX10_lacks cX10_lacks 4 (some .int))) := gV (mT6 24 rfl rfl) (mT6 26 rfl rfl) (mTp 62 rfl rfl) (mT1 12 rfl rfl) (mT6 27 rfl rfl)
theorem gm_X10_311 : GoodIn TS (wsV RX10 311 RX10 yX10_keep (wsU yX10_keep cX10_keep 4 none)) := gV (mT6 28 rfl rfl) (mT6 30 rfl rfl) (mTp 63 rfl rfl) (mT1 12 rfl rfl) (mT6 31 rfl rfl)
theorem gm_L_146 : GoodIn TS (wsV RL 146 RX10 yX10_get (wsU yX10_get cX10_get 5 (some .int))) := gV (mT6 32 rfl rfl) (mT6 33 rfl rfl) (mT6 34 rfl rfl) (mT1 12 rfl rfl) (mT6 35 rfl rfl)
theorem gm_L_151 : GoodIn TS (wsV RL 151 RX10 yX10_copy (wsU yX10_copy cX10_copy 7 (some .int))) := gV (mT6 37 rfl rfl) (mT6 38 rfl rfl) (mT6 39 rfl rfl) (mT1 12 rfl rfl) (mT6 40 rfl rfl)
theorem gm_L_155 : GoodIn TS (wsV RL 155 RX10 yX10_write (wsU yX10_write cX10_write 4 (some .int))) := gV (mT6 41 rfl rfl) (mT6 42 rfl rfl) (mT6 43 rfl rfl) (mT1 12 rfl rfl) (mT6 44 rfl rfl)
theorem gm_L_159 : GoodIn TS (wsV RL 159 RX10 yX10_count (wsU yX10_count cX10_count 2 (some .int))) := gV (mT6 45 rfl rfl) (mT6 46 rfl rfl) (mT6 47 rfl rfl) (mT1 12 rfl rfl) (mT6 48 rfl rfl)
theorem gm_X10_316 : GoodIn TS (wsV RX10 316 RX10 yX10_sumOf (wsU yX10_sumOf cX10_sumOf 4 (some .int))) := gV (mT6 49 rfl rfl) (mT6 51 rfl rfl) (mTp 64 rfl rfl) (mT1 12 rfl rfl) (mT6 52 rfl rfl)
theorem gm_L_164 : GoodIn TS (wsV RL 164 RX10 yX10_digest (wsU yX10_digest cX10_digest 5 (some .long))) := gV (mT6 53 rfl rfl) (mT6 54 rfl rfl) (mT6 55 rfl rfl) (mT1 12 rfl rfl) (mT6 56 rfl rfl)
theorem gm_X10_323 : GoodIn TS (wsV RX10 323 RX10 yX10_count (wsU yX10_count cX10_count 2 (some .int))) := gV (mT6 59 rfl rfl) (mT6 46 rfl rfl) (mT6 47 rfl rfl) (mT1 12 rfl rfl) (mT6 48 rfl rfl)
theorem gm_X10_326 : GoodIn TS (wsV RX10 326 RX10 yX10_heirDigest (wsU yX10_heirDigest cX10_heirDigest 7 (some .long))) := gV (mT6 60 rfl rfl) (mT6 62 rfl rfl) (mTp 65 rfl rfl) (mT1 12 rfl rfl) (mT6 63 rfl rfl)
theorem gm_X10_330 : GoodIn TS (wsV RX10 330 RX10 yX10_stopDigest (wsU yX10_stopDigest cX10_stopDigest 7 (some .long))) := gV (mT6 64 rfl rfl) (mT6 66 rfl rfl) (mTp 66 rfl rfl) (mT1 12 rfl rfl) (mT6 67 rfl rfl)
theorem hd_X0_find : yX0_find.cls = RX0 ∧ yX0_find.cls ≠ "java/lang/invoke/MethodHandle" ∧ yX0_find.cls ≠ "java/lang/invoke/VarHandle" ∧ (parseMethodDescriptor yX0_find.desc).map (fun d => d.parameters.length) = some 1 := by decide +kernel
theorem hd_X0_seek : yX0_seek.cls = RX0 ∧ yX0_seek.cls ≠ "java/lang/invoke/MethodHandle" ∧ yX0_seek.cls ≠ "java/lang/invoke/VarHandle" ∧ (parseMethodDescriptor yX0_seek.desc).map (fun d => d.parameters.length) = some 3 := by decide +kernel
theorem hd_X0_hope : yX0_hope.cls ≠ "java/lang/invoke/MethodHandle" ∧ yX0_hope.cls ≠ "java/lang/invoke/VarHandle" ∧ (parseMethodDescriptor yX0_hope.desc).map (fun d => d.parameters.length) = some 3 := by decide +kernel
theorem hd_X1_append : yX1_append.cls = RX1 ∧ yX1_append.cls ≠ "java/lang/invoke/MethodHandle" ∧ yX1_append.cls ≠ "java/lang/invoke/VarHandle" ∧ (parseMethodDescriptor yX1_append.desc).map (fun d => d.parameters.length) = some 1 := by decide +kernel
theorem hd_X1_stopsOf : yX1_stopsOf.cls = RX1 ∧ yX1_stopsOf.cls ≠ "java/lang/invoke/MethodHandle" ∧ yX1_stopsOf.cls ≠ "java/lang/invoke/VarHandle" ∧ (parseMethodDescriptor yX1_stopsOf.desc).map (fun d => d.parameters.length) = some 1 := by decide +kernel
theorem hd_X1_stopsWithout : yX1_stopsWithout.cls = RX1 ∧ yX1_stopsWithout.cls ≠ "java/lang/invoke/MethodHandle" ∧ yX1_stopsWithout.cls ≠ "java/lang/invoke/VarHandle" ∧ (parseMethodDescriptor yX1_stopsWithout.desc).map (fun d => d.parameters.length) = some 1 := by decide +kernel
theorem hd_X2_takeHeirs : yX2_takeHeirs.cls = RX2 ∧ yX2_takeHeirs.cls ≠ "java/lang/invoke/MethodHandle" ∧ yX2_takeHeirs.cls ≠ "java/lang/invoke/VarHandle" ∧ (parseMethodDescriptor yX2_takeHeirs.desc).map (fun d => d.parameters.length) = some 1 := by decide +kernel
theorem hd_X2_takeRound : yX2_takeRound.cls = RX2 ∧ yX2_takeRound.cls ≠ "java/lang/invoke/MethodHandle" ∧ yX2_takeRound.cls ≠ "java/lang/invoke/VarHandle" ∧ (parseMethodDescriptor yX2_takeRound.desc).map (fun d => d.parameters.length) = some 1 := by decide +kernel
theorem hd_X2_drawRound : yX2_drawRound.cls = RX2 ∧ yX2_drawRound.cls ≠ "java/lang/invoke/MethodHandle" ∧ yX2_drawRound.cls ≠ "java/lang/invoke/VarHandle" ∧ (parseMethodDescriptor yX2_drawRound.desc).map (fun d => d.parameters.length) = some 2 := by decide +kernel
theorem hd_X2_copyFrom : yX2_copyFrom.cls = RX2 ∧ yX2_copyFrom.cls ≠ "java/lang/invoke/MethodHandle" ∧ yX2_copyFrom.cls ≠ "java/lang/invoke/VarHandle" ∧ (parseMethodDescriptor yX2_copyFrom.desc).map (fun d => d.parameters.length) = some 1 := by decide +kernel
theorem hd_X2_dreadAt : yX2_dreadAt.cls = RX2 ∧ yX2_dreadAt.cls ≠ "java/lang/invoke/MethodHandle" ∧ yX2_dreadAt.cls ≠ "java/lang/invoke/VarHandle" ∧ (parseMethodDescriptor yX2_dreadAt.desc).map (fun d => d.parameters.length) = some 2 := by decide +kernel
theorem hd_X2_mostGain : yX2_mostGain.cls = RX2 ∧ yX2_mostGain.cls ≠ "java/lang/invoke/MethodHandle" ∧ yX2_mostGain.cls ≠ "java/lang/invoke/VarHandle" ∧ (parseMethodDescriptor yX2_mostGain.desc).map (fun d => d.parameters.length) = some 1 := by decide +kernel
theorem hd_X2_sortOf : yX2_sortOf.cls ≠ "java/lang/invoke/MethodHandle" ∧ yX2_sortOf.cls ≠ "java/lang/invoke/VarHandle" ∧ (parseMethodDescriptor yX2_sortOf.desc).map (fun d => d.parameters.length) = some 1 := by decide +kernel
theorem hd_X3_isFull : yX3_isFull.cls = RX3 ∧ yX3_isFull.cls ≠ "java/lang/invoke/MethodHandle" ∧ yX3_isFull.cls ≠ "java/lang/invoke/VarHandle" ∧ (parseMethodDescriptor yX3_isFull.desc).map (fun d => d.parameters.length) = some 0 := by decide +kernel
theorem hd_X3_append : yX3_append.cls = RX3 ∧ yX3_append.cls ≠ "java/lang/invoke/MethodHandle" ∧ yX3_append.cls ≠ "java/lang/invoke/VarHandle" ∧ (parseMethodDescriptor yX3_append.desc).map (fun d => d.parameters.length) = some 1 := by decide +kernel
theorem hd_X3_faultAsHeirs : yX3_faultAsHeirs.cls = RX3 ∧ yX3_faultAsHeirs.cls ≠ "java/lang/invoke/MethodHandle" ∧ yX3_faultAsHeirs.cls ≠ "java/lang/invoke/VarHandle" ∧ (parseMethodDescriptor yX3_faultAsHeirs.desc).map (fun d => d.parameters.length) = some 0 := by decide +kernel
theorem hd_X3_faultAsRound : yX3_faultAsRound.cls = RX3 ∧ yX3_faultAsRound.cls ≠ "java/lang/invoke/MethodHandle" ∧ yX3_faultAsRound.cls ≠ "java/lang/invoke/VarHandle" ∧ (parseMethodDescriptor yX3_faultAsRound.desc).map (fun d => d.parameters.length) = some 0 := by decide +kernel
theorem hd_X3_fitsHeirs : yX3_fitsHeirs.cls ≠ "java/lang/invoke/MethodHandle" ∧ yX3_fitsHeirs.cls ≠ "java/lang/invoke/VarHandle" ∧ (parseMethodDescriptor yX3_fitsHeirs.desc).map (fun d => d.parameters.length) = some 2 := by decide +kernel
theorem hd_X4_renew : yX4_renew.cls = RX4 ∧ yX4_renew.cls ≠ "java/lang/invoke/MethodHandle" ∧ yX4_renew.cls ≠ "java/lang/invoke/VarHandle" ∧ (parseMethodDescriptor yX4_renew.desc).map (fun d => d.parameters.length) = some 2 := by decide +kernel
theorem hd_X4_faultOf : yX4_faultOf.cls = RX4 ∧ yX4_faultOf.cls ≠ "java/lang/invoke/MethodHandle" ∧ yX4_faultOf.cls ≠ "java/lang/invoke/VarHandle" ∧ (parseMethodDescriptor yX4_faultOf.desc).map (fun d => d.parameters.length) = some 2 := by decide +kernel
theorem hd_X4_hasRange : yX4_hasRange.cls = RX4 ∧ yX4_hasRange.cls ≠ "java/lang/invoke/MethodHandle" ∧ yX4_hasRange.cls ≠ "java/lang/invoke/VarHandle" ∧ (parseMethodDescriptor yX4_hasRange.desc).map (fun d => d.parameters.length) = some 2 := by decide +kernel
theorem hd_X4_store : yX4_store.cls = RX4 ∧ yX4_store.cls ≠ "java/lang/invoke/MethodHandle" ∧ yX4_store.cls ≠ "java/lang/invoke/VarHandle" ∧ (parseMethodDescriptor yX4_store.desc).map (fun d => d.parameters.length) = some 2 := by decide +kernel
theorem hd_X5_tell : yX5_tell.cls = RX5 ∧ yX5_tell.cls ≠ "java/lang/invoke/MethodHandle" ∧ yX5_tell.cls ≠ "java/lang/invoke/VarHandle" ∧ (parseMethodDescriptor yX5_tell.desc).map (fun d => d.parameters.length) = some 1 := by decide +kernel
theorem hd_X5_keep : yX5_keep.cls = RX5 ∧ yX5_keep.cls ≠ "java/lang/invoke/MethodHandle" ∧ yX5_keep.cls ≠ "java/lang/invoke/VarHandle" ∧ (parseMethodDescriptor yX5_keep.desc).map (fun d => d.parameters.length) = some 1 := by decide +kernel
theorem hd_X6_prepare : yX6_prepare.cls = RX6 ∧ yX6_prepare.cls ≠ "java/lang/invoke/MethodHandle" ∧ yX6_prepare.cls ≠ "java/lang/invoke/VarHandle" ∧ (parseMethodDescriptor yX6_prepare.desc).map (fun d => d.parameters.length) = some 1 := by decide +kernel
theorem hd_X6_run : yX6_run.cls = RX6 ∧ yX6_run.cls ≠ "java/lang/invoke/MethodHandle" ∧ yX6_run.cls ≠ "java/lang/invoke/VarHandle" ∧ (parseMethodDescriptor yX6_run.desc).map (fun d => d.parameters.length) = some 0 := by decide +kernel
theorem hd_X7_begin : yX7_begin.cls = RX7 ∧ yX7_begin.cls ≠ "java/lang/invoke/MethodHandle" ∧ yX7_begin.cls ≠ "java/lang/invoke/VarHandle" ∧ (parseMethodDescriptor yX7_begin.desc).map (fun d => d.parameters.length) = some 1 := by decide +kernel
theorem hd_X7_copyFrom : yX7_copyFrom.cls = RX7 ∧ yX7_copyFrom.cls ≠ "java/lang/invoke/MethodHandle" ∧ yX7_copyFrom.cls ≠ "java/lang/invoke/VarHandle" ∧ (parseMethodDescriptor yX7_copyFrom.desc).map (fun d => d.parameters.length) = some 1 := by decide +kernel
theorem hd_X7_visit : yX7_visit.cls = RX7 ∧ yX7_visit.cls ≠ "java/lang/invoke/MethodHandle" ∧ yX7_visit.cls ≠ "java/lang/invoke/VarHandle" ∧ (parseMethodDescriptor yX7_visit.desc).map (fun d => d.parameters.length) = some 3 := by decide +kernel
theorem hd_X7_meet : yX7_meet.cls = RX7 ∧ yX7_meet.cls ≠ "java/lang/invoke/MethodHandle" ∧ yX7_meet.cls ≠ "java/lang/invoke/VarHandle" ∧ (parseMethodDescriptor yX7_meet.desc).map (fun d => d.parameters.length) = some 3 := by decide +kernel
theorem hd_X7_disinherit : yX7_disinherit.cls = RX7 ∧ yX7_disinherit.cls ≠ "java/lang/invoke/MethodHandle" ∧ yX7_disinherit.cls ≠ "java/lang/invoke/VarHandle" ∧ (parseMethodDescriptor yX7_disinherit.desc).map (fun d => d.parameters.length) = some 1 := by decide +kernel
theorem hd_X7_halveShares : yX7_halveShares.cls = RX7 ∧ yX7_halveShares.cls ≠ "java/lang/invoke/MethodHandle" ∧ yX7_halveShares.cls ≠ "java/lang/invoke/VarHandle" ∧ (parseMethodDescriptor yX7_halveShares.desc).map (fun d => d.parameters.length) = some 0 := by decide +kernel
theorem hd_X7_bestow : yX7_bestow.cls = RX7 ∧ yX7_bestow.cls ≠ "java/lang/invoke/MethodHandle" ∧ yX7_bestow.cls ≠ "java/lang/invoke/VarHandle" ∧ (parseMethodDescriptor yX7_bestow.desc).map (fun d => d.parameters.length) = some 1 := by decide +kernel
theorem hd_X7_isOut : yX7_isOut.cls = RX7 ∧ yX7_isOut.cls ≠ "java/lang/invoke/MethodHandle" ∧ yX7_isOut.cls ≠ "java/lang/invoke/VarHandle" ∧ (parseMethodDescriptor yX7_isOut.desc).map (fun d => d.parameters.length) = some 1 := by decide +kernel
theorem hd_X7_allShares : yX7_allShares.cls = RX7 ∧ yX7_allShares.cls ≠ "java/lang/invoke/MethodHandle" ∧ yX7_allShares.cls ≠ "java/lang/invoke/VarHandle" ∧ (parseMethodDescriptor yX7_allShares.desc).map (fun d => d.parameters.length) = some 0 := by decide +kernel
theorem hd_X7_allFields : yX7_allFields.cls = RX7 ∧ yX7_allFields.cls ≠ "java/lang/invoke/MethodHandle" ∧ yX7_allFields.cls ≠ "java/lang/invoke/VarHandle" ∧ (parseMethodDescriptor yX7_allFields.desc).map (fun d => d.parameters.length) = some 0 := by decide +kernel
theorem hd_X7_richestHeir : yX7_richestHeir.cls = RX7 ∧ yX7_richestHeir.cls ≠ "java/lang/invoke/MethodHandle" ∧ yX7_richestHeir.cls ≠ "java/lang/invoke/VarHandle" ∧ (parseMethodDescriptor yX7_richestHeir.desc).map (fun d => d.parameters.length) = some 0 := by decide +kernel
theorem hd_X7_hasMost : yX7_hasMost.cls = RX7 ∧ yX7_hasMost.cls ≠ "java/lang/invoke/MethodHandle" ∧ yX7_hasMost.cls ≠ "java/lang/invoke/VarHandle" ∧ (parseMethodDescriptor yX7_hasMost.desc).map (fun d => d.parameters.length) = some 1 := by decide +kernel
theorem hd_X8_append : yX8_append.cls = RX8 ∧ yX8_append.cls ≠ "java/lang/invoke/MethodHandle" ∧ yX8_append.cls ≠ "java/lang/invoke/VarHandle" ∧ (parseMethodDescriptor yX8_append.desc).map (fun d => d.parameters.length) = some 2 := by decide +kernel
theorem hd_X8_agrees : yX8_agrees.cls = RX8 ∧ yX8_agrees.cls ≠ "java/lang/invoke/MethodHandle" ∧ yX8_agrees.cls ≠ "java/lang/invoke/VarHandle" ∧ (parseMethodDescriptor yX8_agrees.desc).map (fun d => d.parameters.length) = some 1 := by decide +kernel
theorem hd_X9_type : yX9_type.cls = RX9 ∧ yX9_type.cls ≠ "java/lang/invoke/MethodHandle" ∧ yX9_type.cls ≠ "java/lang/invoke/VarHandle" ∧ (parseMethodDescriptor yX9_type.desc).map (fun d => d.parameters.length) = some 2 := by decide +kernel
theorem hd_X9_wipe : yX9_wipe.cls = RX9 ∧ yX9_wipe.cls ≠ "java/lang/invoke/MethodHandle" ∧ yX9_wipe.cls ≠ "java/lang/invoke/VarHandle" ∧ (parseMethodDescriptor yX9_wipe.desc).map (fun d => d.parameters.length) = some 1 := by decide +kernel
theorem hd_X9_undo : yX9_undo.cls = RX9 ∧ yX9_undo.cls ≠ "java/lang/invoke/MethodHandle" ∧ yX9_undo.cls ≠ "java/lang/invoke/VarHandle" ∧ (parseMethodDescriptor yX9_undo.desc).map (fun d => d.parameters.length) = some 1 := by decide +kernel
theorem hd_X9_fault : yX9_fault.cls = RX9 ∧ yX9_fault.cls ≠ "java/lang/invoke/MethodHandle" ∧ yX9_fault.cls ≠ "java/lang/invoke/VarHandle" ∧ (parseMethodDescriptor yX9_fault.desc).map (fun d => d.parameters.length) = some 1 := by decide +kernel
theorem hd_X9_heir : yX9_heir.cls = RX9 ∧ yX9_heir.cls ≠ "java/lang/invoke/MethodHandle" ∧ yX9_heir.cls ≠ "java/lang/invoke/VarHandle" ∧ (parseMethodDescriptor yX9_heir.desc).map (fun d => d.parameters.length) = some 2 := by decide +kernel
theorem hd_X9_round : yX9_round.cls = RX9 ∧ yX9_round.cls ≠ "java/lang/invoke/MethodHandle" ∧ yX9_round.cls ≠ "java/lang/invoke/VarHandle" ∧ (parseMethodDescriptor yX9_round.desc).map (fun d => d.parameters.length) = some 1 := by decide +kernel
theorem hd_X9_set : yX9_set.cls = RX9 ∧ yX9_set.cls ≠ "java/lang/invoke/MethodHandle" ∧ yX9_set.cls ≠ "java/lang/invoke/VarHandle" ∧ (parseMethodDescriptor yX9_set.desc).map (fun d => d.parameters.length) = some 2 := by decide +kernel
theorem hd_X9_fly : yX9_fly.cls = RX9 ∧ yX9_fly.cls ≠ "java/lang/invoke/MethodHandle" ∧ yX9_fly.cls ≠ "java/lang/invoke/VarHandle" ∧ (parseMethodDescriptor yX9_fly.desc).map (fun d => d.parameters.length) = some 1 := by decide +kernel
theorem hd_X9_back : yX9_back.cls = RX9 ∧ yX9_back.cls ≠ "java/lang/invoke/MethodHandle" ∧ yX9_back.cls ≠ "java/lang/invoke/VarHandle" ∧ (parseMethodDescriptor yX9_back.desc).map (fun d => d.parameters.length) = some 0 := by decide +kernel
theorem hd_X9_read : yX9_read.cls = RX9 ∧ yX9_read.cls ≠ "java/lang/invoke/MethodHandle" ∧ yX9_read.cls ≠ "java/lang/invoke/VarHandle" ∧ (parseMethodDescriptor yX9_read.desc).map (fun d => d.parameters.length) = some 1 := by decide +kernel
theorem hd_X9_does : yX9_does.cls = RX9 ∧ yX9_does.cls ≠ "java/lang/invoke/MethodHandle" ∧ yX9_does.cls ≠ "java/lang/invoke/VarHandle" ∧ (parseMethodDescriptor yX9_does.desc).map (fun d => d.parameters.length) = some 2 := by decide +kernel
theorem hd_X9_share : yX9_share.cls = RX9 ∧ yX9_share.cls ≠ "java/lang/invoke/MethodHandle" ∧ yX9_share.cls ≠ "java/lang/invoke/VarHandle" ∧ (parseMethodDescriptor yX9_share.desc).map (fun d => d.parameters.length) = some 3 := by decide +kernel
theorem hd_X9_out : yX9_out.cls = RX9 ∧ yX9_out.cls ≠ "java/lang/invoke/MethodHandle" ∧ yX9_out.cls ≠ "java/lang/invoke/VarHandle" ∧ (parseMethodDescriptor yX9_out.desc).map (fun d => d.parameters.length) = some 0 := by decide +kernel
theorem hd_X9_estate : yX9_estate.cls = RX9 ∧ yX9_estate.cls ≠ "java/lang/invoke/MethodHandle" ∧ yX9_estate.cls ≠ "java/lang/invoke/VarHandle" ∧ (parseMethodDescriptor yX9_estate.desc).map (fun d => d.parameters.length) = some 0 := by decide +kernel
theorem hd_X9_richest : yX9_richest.cls = RX9 ∧ yX9_richest.cls ≠ "java/lang/invoke/MethodHandle" ∧ yX9_richest.cls ≠ "java/lang/invoke/VarHandle" ∧ (parseMethodDescriptor yX9_richest.desc).map (fun d => d.parameters.length) = some 0 := by decide +kernel
theorem hd_X9_longest : yX9_longest.cls = RX9 ∧ yX9_longest.cls ≠ "java/lang/invoke/MethodHandle" ∧ yX9_longest.cls ≠ "java/lang/invoke/VarHandle" ∧ (parseMethodDescriptor yX9_longest.desc).map (fun d => d.parameters.length) = some 0 := by decide +kernel
theorem hd_X9_ditch : yX9_ditch.cls = RX9 ∧ yX9_ditch.cls ≠ "java/lang/invoke/MethodHandle" ∧ yX9_ditch.cls ≠ "java/lang/invoke/VarHandle" ∧ (parseMethodDescriptor yX9_ditch.desc).map (fun d => d.parameters.length) = some 0 := by decide +kernel
theorem hd_X9_bait : yX9_bait.cls = RX9 ∧ yX9_bait.cls ≠ "java/lang/invoke/MethodHandle" ∧ yX9_bait.cls ≠ "java/lang/invoke/VarHandle" ∧ (parseMethodDescriptor yX9_bait.desc).map (fun d => d.parameters.length) = some 1 := by decide +kernel
theorem hd_X9_fair : yX9_fair.cls = RX9 ∧ yX9_fair.cls ≠ "java/lang/invoke/MethodHandle" ∧ yX9_fair.cls ≠ "java/lang/invoke/VarHandle" ∧ (parseMethodDescriptor yX9_fair.desc).map (fun d => d.parameters.length) = some 1 := by decide +kernel
theorem hd_X9_care : yX9_care.cls = RX9 ∧ yX9_care.cls ≠ "java/lang/invoke/MethodHandle" ∧ yX9_care.cls ≠ "java/lang/invoke/VarHandle" ∧ (parseMethodDescriptor yX9_care.desc).map (fun d => d.parameters.length) = some 1 := by decide +kernel
theorem hd_X9_skip : yX9_skip.cls = RX9 ∧ yX9_skip.cls ≠ "java/lang/invoke/MethodHandle" ∧ yX9_skip.cls ≠ "java/lang/invoke/VarHandle" ∧ (parseMethodDescriptor yX9_skip.desc).map (fun d => d.parameters.length) = some 2 := by decide +kernel
theorem hd_X9_seen : yX9_seen.cls = RX9 ∧ yX9_seen.cls ≠ "java/lang/invoke/MethodHandle" ∧ yX9_seen.cls ≠ "java/lang/invoke/VarHandle" ∧ (parseMethodDescriptor yX9_seen.desc).map (fun d => d.parameters.length) = some 2 := by decide +kernel
theorem hd_X9_forget : yX9_forget.cls = RX9 ∧ yX9_forget.cls ≠ "java/lang/invoke/MethodHandle" ∧ yX9_forget.cls ≠ "java/lang/invoke/VarHandle" ∧ (parseMethodDescriptor yX9_forget.desc).map (fun d => d.parameters.length) = some 0 := by decide +kernel
theorem hd_X9_never : yX9_never.cls = RX9 ∧ yX9_never.cls ≠ "java/lang/invoke/MethodHandle" ∧ yX9_never.cls ≠ "java/lang/invoke/VarHandle" ∧ (parseMethodDescriptor yX9_never.desc).map (fun d => d.parameters.length) = some 0 := by decide +kernel
theorem hd_X9_was : yX9_was.cls = RX9 ∧ yX9_was.cls ≠ "java/lang/invoke/MethodHandle" ∧ yX9_was.cls ≠ "java/lang/invoke/VarHandle" ∧ (parseMethodDescriptor yX9_was.desc).map (fun d => d.parameters.length) = some 2 := by decide +kernel
theorem hd_X9_ask : yX9_ask.cls = RX9 ∧ yX9_ask.cls ≠ "java/lang/invoke/MethodHandle" ∧ yX9_ask.cls ≠ "java/lang/invoke/VarHandle" ∧ (parseMethodDescriptor yX9_ask.desc).map (fun d => d.parameters.length) = some 1 := by decide +kernel
theorem hd_X9_swarm : yX9_swarm.cls = RX9 ∧ yX9_swarm.cls ≠ "java/lang/invoke/MethodHandle" ∧ yX9_swarm.cls ≠ "java/lang/invoke/VarHandle" ∧ (parseMethodDescriptor yX9_swarm.desc).map (fun d => d.parameters.length) = some 3 := by decide +kernel
theorem hd_X9_again : yX9_again.cls = RX9 ∧ yX9_again.cls ≠ "java/lang/invoke/MethodHandle" ∧ yX9_again.cls ≠ "java/lang/invoke/VarHandle" ∧ (parseMethodDescriptor yX9_again.desc).map (fun d => d.parameters.length) = some 3 := by decide +kernel
theorem hd_X9_sheet : yX9_sheet.cls = RX9 ∧ yX9_sheet.cls ≠ "java/lang/invoke/MethodHandle" ∧ yX9_sheet.cls ≠ "java/lang/invoke/VarHandle" ∧ (parseMethodDescriptor yX9_sheet.desc).map (fun d => d.parameters.length) = some 3 := by decide +kernel
theorem hd_X9_lose : yX9_lose.cls = RX9 ∧ yX9_lose.cls ≠ "java/lang/invoke/MethodHandle" ∧ yX9_lose.cls ≠ "java/lang/invoke/VarHandle" ∧ (parseMethodDescriptor yX9_lose.desc).map (fun d => d.parameters.length) = some 1 := by decide +kernel
theorem hd_X9_put : yX9_put.cls = RX9 ∧ yX9_put.cls ≠ "java/lang/invoke/MethodHandle" ∧ yX9_put.cls ≠ "java/lang/invoke/VarHandle" ∧ (parseMethodDescriptor yX9_put.desc).map (fun d => d.parameters.length) = some 4 := by decide +kernel
theorem hd_X9_get : yX9_get.cls = RX9 ∧ yX9_get.cls ≠ "java/lang/invoke/MethodHandle" ∧ yX9_get.cls ≠ "java/lang/invoke/VarHandle" ∧ (parseMethodDescriptor yX9_get.desc).map (fun d => d.parameters.length) = some 3 := by decide +kernel
theorem hd_X9_copy : yX9_copy.cls = RX9 ∧ yX9_copy.cls ≠ "java/lang/invoke/MethodHandle" ∧ yX9_copy.cls ≠ "java/lang/invoke/VarHandle" ∧ (parseMethodDescriptor yX9_copy.desc).map (fun d => d.parameters.length) = some 5 := by decide +kernel
theorem hd_X9_write : yX9_write.cls = RX9 ∧ yX9_write.cls ≠ "java/lang/invoke/MethodHandle" ∧ yX9_write.cls ≠ "java/lang/invoke/VarHandle" ∧ (parseMethodDescriptor yX9_write.desc).map (fun d => d.parameters.length) = some 2 := by decide +kernel
theorem hd_X9_count : yX9_count.cls = RX9 ∧ yX9_count.cls ≠ "java/lang/invoke/MethodHandle" ∧ yX9_count.cls ≠ "java/lang/invoke/VarHandle" ∧ (parseMethodDescriptor yX9_count.desc).map (fun d => d.parameters.length) = some 1 := by decide +kernel
theorem hd_X9_digest : yX9_digest.cls = RX9 ∧ yX9_digest.cls ≠ "java/lang/invoke/MethodHandle" ∧ yX9_digest.cls ≠ "java/lang/invoke/VarHandle" ∧ (parseMethodDescriptor yX9_digest.desc).map (fun d => d.parameters.length) = some 0 := by decide +kernel
theorem hd_X9_mixHeir : yX9_mixHeir.cls = RX9 ∧ yX9_mixHeir.cls ≠ "java/lang/invoke/MethodHandle" ∧ yX9_mixHeir.cls ≠ "java/lang/invoke/VarHandle" ∧ (parseMethodDescriptor yX9_mixHeir.desc).map (fun d => d.parameters.length) = some 2 := by decide +kernel
theorem hd_X9_mixStop : yX9_mixStop.cls = RX9 ∧ yX9_mixStop.cls ≠ "java/lang/invoke/MethodHandle" ∧ yX9_mixStop.cls ≠ "java/lang/invoke/VarHandle" ∧ (parseMethodDescriptor yX9_mixStop.desc).map (fun d => d.parameters.length) = some 2 := by decide +kernel
theorem hd_X9_mixed : yX9_mixed.cls ≠ "java/lang/invoke/MethodHandle" ∧ yX9_mixed.cls ≠ "java/lang/invoke/VarHandle" ∧ (parseMethodDescriptor yX9_mixed.desc).map (fun d => d.parameters.length) = some 2 := by decide +kernel
theorem hd_X9_within : yX9_within.cls ≠ "java/lang/invoke/MethodHandle" ∧ yX9_within.cls ≠ "java/lang/invoke/VarHandle" ∧ (parseMethodDescriptor yX9_within.desc).map (fun d => d.parameters.length) = some 2 := by decide +kernel
theorem hd_X9_isText : yX9_isText.cls ≠ "java/lang/invoke/MethodHandle" ∧ yX9_isText.cls ≠ "java/lang/invoke/VarHandle" ∧ (parseMethodDescriptor yX9_isText.desc).map (fun d => d.parameters.length) = some 1 := by decide +kernel
theorem hd_X9_isSheet : yX9_isSheet.cls ≠ "java/lang/invoke/MethodHandle" ∧ yX9_isSheet.cls ≠ "java/lang/invoke/VarHandle" ∧ (parseMethodDescriptor yX9_isSheet.desc).map (fun d => d.parameters.length) = some 1 := by decide +kernel
theorem hd_X9_isForm : yX9_isForm.cls ≠ "java/lang/invoke/MethodHandle" ∧ yX9_isForm.cls ≠ "java/lang/invoke/VarHandle" ∧ (parseMethodDescriptor yX9_isForm.desc).map (fun d => d.parameters.length) = some 1 := by decide +kernel
theorem hd_X9_isHeir : yX9_isHeir.cls = RX9 ∧ yX9_isHeir.cls ≠ "java/lang/invoke/MethodHandle" ∧ yX9_isHeir.cls ≠ "java/lang/invoke/VarHandle" ∧ (parseMethodDescriptor yX9_isHeir.desc).map (fun d => d.parameters.length) = some 1 := by decide +kernel
theorem hd_X9_mayFly : yX9_mayFly.cls = RX9 ∧ yX9_mayFly.cls ≠ "java/lang/invoke/MethodHandle" ∧ yX9_mayFly.cls ≠ "java/lang/invoke/VarHandle" ∧ (parseMethodDescriptor yX9_mayFly.desc).map (fun d => d.parameters.length) = some 1 := by decide +kernel
theorem hd_X9_scriptOf : yX9_scriptOf.cls = RX9 ∧ yX9_scriptOf.cls ≠ "java/lang/invoke/MethodHandle" ∧ yX9_scriptOf.cls ≠ "java/lang/invoke/VarHandle" ∧ (parseMethodDescriptor yX9_scriptOf.desc).map (fun d => d.parameters.length) = some 1 := by decide +kernel
theorem hd_X9_found : yX9_found.cls = RX9 ∧ yX9_found.cls ≠ "java/lang/invoke/MethodHandle" ∧ yX9_found.cls ≠ "java/lang/invoke/VarHandle" ∧ (parseMethodDescriptor yX9_found.desc).map (fun d => d.parameters.length) = some 1 := by decide +kernel
theorem hd_X9_takeText : yX9_takeText.cls = RX9 ∧ yX9_takeText.cls ≠ "java/lang/invoke/MethodHandle" ∧ yX9_takeText.cls ≠ "java/lang/invoke/VarHandle" ∧ (parseMethodDescriptor yX9_takeText.desc).map (fun d => d.parameters.length) = some 1 := by decide +kernel
theorem hd_X9_takeFlies : yX9_takeFlies.cls = RX9 ∧ yX9_takeFlies.cls ≠ "java/lang/invoke/MethodHandle" ∧ yX9_takeFlies.cls ≠ "java/lang/invoke/VarHandle" ∧ (parseMethodDescriptor yX9_takeFlies.desc).map (fun d => d.parameters.length) = some 0 := by decide +kernel
theorem hd_X9_retell : yX9_retell.cls = RX9 ∧ yX9_retell.cls ≠ "java/lang/invoke/MethodHandle" ∧ yX9_retell.cls ≠ "java/lang/invoke/VarHandle" ∧ (parseMethodDescriptor yX9_retell.desc).map (fun d => d.parameters.length) = some 0 := by decide +kernel
theorem hd_X9_tellRichestBySet : yX9_tellRichestBySet.cls = RX9 ∧ yX9_tellRichestBySet.cls ≠ "java/lang/invoke/MethodHandle" ∧ yX9_tellRichestBySet.cls ≠ "java/lang/invoke/VarHandle" ∧ (parseMethodDescriptor yX9_tellRichestBySet.desc).map (fun d => d.parameters.length) = some 0 := by decide +kernel
theorem hd_X9_weightOf : yX9_weightOf.cls = RX9 ∧ yX9_weightOf.cls ≠ "java/lang/invoke/MethodHandle" ∧ yX9_weightOf.cls ≠ "java/lang/invoke/VarHandle" ∧ (parseMethodDescriptor yX9_weightOf.desc).map (fun d => d.parameters.length) = some 2 := by decide +kernel
theorem hd_X9_tallyTrial : yX9_tallyTrial.cls = RX9 ∧ yX9_tallyTrial.cls ≠ "java/lang/invoke/MethodHandle" ∧ yX9_tallyTrial.cls ≠ "java/lang/invoke/VarHandle" ∧ (parseMethodDescriptor yX9_tallyTrial.desc).map (fun d => d.parameters.length) = some 0 := by decide +kernel
theorem hd_X9_mostAlike : yX9_mostAlike.cls = RX9 ∧ yX9_mostAlike.cls ≠ "java/lang/invoke/MethodHandle" ∧ yX9_mostAlike.cls ≠ "java/lang/invoke/VarHandle" ∧ (parseMethodDescriptor yX9_mostAlike.desc).map (fun d => d.parameters.length) = some 1 := by decide +kernel
theorem hd_X10_in : yX10_in.cls ≠ "java/lang/invoke/MethodHandle" ∧ yX10_in.cls ≠ "java/lang/invoke/VarHandle" ∧ (parseMethodDescriptor yX10_in.desc).map (fun d => d.parameters.length) = some 3 := by decide +kernel
theorem hd_X10_isIn : yX10_isIn.cls ≠ "java/lang/invoke/MethodHandle" ∧ yX10_isIn.cls ≠ "java/lang/invoke/VarHandle" ∧ (parseMethodDescriptor yX10_isIn.desc).map (fun d => d.parameters.length) = some 2 := by decide +kernel
theorem hd_X10_no : yX10_no.cls ≠ "java/lang/invoke/MethodHandle" ∧ yX10_no.cls ≠ "java/lang/invoke/VarHandle" ∧ (parseMethodDescriptor yX10_no.desc).map (fun d => d.parameters.length) = some 1 := by decide +kernel
theorem hd_X10_lowest : yX10_lowest.cls ≠ "java/lang/invoke/MethodHandle" ∧ yX10_lowest.cls ≠ "java/lang/invoke/VarHandle" ∧ (parseMethodDescriptor yX10_lowest.desc).map (fun d => d.parameters.length) = some 3 := by decide +kernel
theorem hd_X10_isText : yX10_isText.cls ≠ "java/lang/invoke/MethodHandle" ∧ yX10_isText.cls ≠ "java/lang/invoke/VarHandle" ∧ (parseMethodDescriptor yX10_isText.desc).map (fun d => d.parameters.length) = some 1 := by decide +kernel
theorem hd_X10_isStop : yX10_isStop.cls ≠ "java/lang/invoke/MethodHandle" ∧ yX10_isStop.cls ≠ "java/lang/invoke/VarHandle" ∧ (parseMethodDescriptor yX10_isStop.desc).map (fun d => d.parameters.length) = some 1 := by decide +kernel
theorem hd_X10_type : yX10_type.cls = RX10 ∧ yX10_type.cls ≠ "java/lang/invoke/MethodHandle" ∧ yX10_type.cls ≠ "java/lang/invoke/VarHandle" ∧ (parseMethodDescriptor yX10_type.desc).map (fun d => d.parameters.length) = some 2 := by decide +kernel
theorem hd_X10_wipe : yX10_wipe.cls = RX10 ∧ yX10_wipe.cls ≠ "java/lang/invoke/MethodHandle" ∧ yX10_wipe.cls ≠ "java/lang/invoke/VarHandle" ∧ (parseMethodDescriptor yX10_wipe.desc).map (fun d => d.parameters.length) = some 1 := by decide +kernel
theorem hd_X10_undo : yX10_undo.cls = RX10 ∧ yX10_undo.cls ≠ "java/lang/invoke/MethodHandle" ∧ yX10_undo.cls ≠ "java/lang/invoke/VarHandle" ∧ (parseMethodDescriptor yX10_undo.desc).map (fun d => d.parameters.length) = some 1 := by decide +kernel
theorem hd_X10_byteAt : yX10_byteAt.cls = RX10 ∧ yX10_byteAt.cls ≠ "java/lang/invoke/MethodHandle" ∧ yX10_byteAt.cls ≠ "java/lang/invoke/VarHandle" ∧ (parseMethodDescriptor yX10_byteAt.desc).map (fun d => d.parameters.length) = some 1 := by decide +kernel
theorem hd_X10_readsHeir : yX10_readsHeir.cls = RX10 ∧ yX10_readsHeir.cls ≠ "java/lang/invoke/MethodHandle" ∧ yX10_readsHeir.cls ≠ "java/lang/invoke/VarHandle" ∧ (parseMethodDescriptor yX10_readsHeir.desc).map (fun d => d.parameters.length) = some 2 := by decide +kernel
theorem hd_X10_readsHeirs : yX10_readsHeirs.cls = RX10 ∧ yX10_readsHeirs.cls ≠ "java/lang/invoke/MethodHandle" ∧ yX10_readsHeirs.cls ≠ "java/lang/invoke/VarHandle" ∧ (parseMethodDescriptor yX10_readsHeirs.desc).map (fun d => d.parameters.length) = some 0 := by decide +kernel
theorem hd_X10_readsRound : yX10_readsRound.cls = RX10 ∧ yX10_readsRound.cls ≠ "java/lang/invoke/MethodHandle" ∧ yX10_readsRound.cls ≠ "java/lang/invoke/VarHandle" ∧ (parseMethodDescriptor yX10_readsRound.desc).map (fun d => d.parameters.length) = some 0 := by decide +kernel
theorem hd_X10_faultOf : yX10_faultOf.cls = RX10 ∧ yX10_faultOf.cls ≠ "java/lang/invoke/MethodHandle" ∧ yX10_faultOf.cls ≠ "java/lang/invoke/VarHandle" ∧ (parseMethodDescriptor yX10_faultOf.desc).map (fun d => d.parameters.length) = some 1 := by decide +kernel
theorem hd_X10_reads : yX10_reads.cls = RX10 ∧ yX10_reads.cls ≠ "java/lang/invoke/MethodHandle" ∧ yX10_reads.cls ≠ "java/lang/invoke/VarHandle" ∧ (parseMethodDescriptor yX10_reads.desc).map (fun d => d.parameters.length) = some 0 := by decide +kernel
theorem hd_X10_fault : yX10_fault.cls = RX10 ∧ yX10_fault.cls ≠ "java/lang/invoke/MethodHandle" ∧ yX10_fault.cls ≠ "java/lang/invoke/VarHandle" ∧ (parseMethodDescriptor yX10_fault.desc).map (fun d => d.parameters.length) = some 1 := by decide +kernel
theorem hd_X10_isHeir : yX10_isHeir.cls = RX10 ∧ yX10_isHeir.cls ≠ "java/lang/invoke/MethodHandle" ∧ yX10_isHeir.cls ≠ "java/lang/invoke/VarHandle" ∧ (parseMethodDescriptor yX10_isHeir.desc).map (fun d => d.parameters.length) = some 1 := by decide +kernel
theorem hd_X10_heirOf : yX10_heirOf.cls = RX10 ∧ yX10_heirOf.cls ≠ "java/lang/invoke/MethodHandle" ∧ yX10_heirOf.cls ≠ "java/lang/invoke/VarHandle" ∧ (parseMethodDescriptor yX10_heirOf.desc).map (fun d => d.parameters.length) = some 2 := by decide +kernel
theorem hd_X10_heir : yX10_heir.cls = RX10 ∧ yX10_heir.cls ≠ "java/lang/invoke/MethodHandle" ∧ yX10_heir.cls ≠ "java/lang/invoke/VarHandle" ∧ (parseMethodDescriptor yX10_heir.desc).map (fun d => d.parameters.length) = some 2 := by decide +kernel
theorem hd_X10_roundOf : yX10_roundOf.cls = RX10 ∧ yX10_roundOf.cls ≠ "java/lang/invoke/MethodHandle" ∧ yX10_roundOf.cls ≠ "java/lang/invoke/VarHandle" ∧ (parseMethodDescriptor yX10_roundOf.desc).map (fun d => d.parameters.length) = some 1 := by decide +kernel
theorem hd_X10_round : yX10_round.cls = RX10 ∧ yX10_round.cls ≠ "java/lang/invoke/MethodHandle" ∧ yX10_round.cls ≠ "java/lang/invoke/VarHandle" ∧ (parseMethodDescriptor yX10_round.desc).map (fun d => d.parameters.length) = some 1 := by decide +kernel
theorem hd_X10_set : yX10_set.cls = RX10 ∧ yX10_set.cls ≠ "java/lang/invoke/MethodHandle" ∧ yX10_set.cls ≠ "java/lang/invoke/VarHandle" ∧ (parseMethodDescriptor yX10_set.desc).map (fun d => d.parameters.length) = some 2 := by decide +kernel
theorem hd_X10_fly : yX10_fly.cls = RX10 ∧ yX10_fly.cls ≠ "java/lang/invoke/MethodHandle" ∧ yX10_fly.cls ≠ "java/lang/invoke/VarHandle" ∧ (parseMethodDescriptor yX10_fly.desc).map (fun d => d.parameters.length) = some 1 := by decide +kernel
theorem hd_X10_back : yX10_back.cls = RX10 ∧ yX10_back.cls ≠ "java/lang/invoke/MethodHandle" ∧ yX10_back.cls ≠ "java/lang/invoke/VarHandle" ∧ (parseMethodDescriptor yX10_back.desc).map (fun d => d.parameters.length) = some 0 := by decide +kernel
theorem hd_X10_read : yX10_read.cls = RX10 ∧ yX10_read.cls ≠ "java/lang/invoke/MethodHandle" ∧ yX10_read.cls ≠ "java/lang/invoke/VarHandle" ∧ (parseMethodDescriptor yX10_read.desc).map (fun d => d.parameters.length) = some 1 := by decide +kernel
theorem hd_X10_fliesBut : yX10_fliesBut.cls = RX10 ∧ yX10_fliesBut.cls ≠ "java/lang/invoke/MethodHandle" ∧ yX10_fliesBut.cls ≠ "java/lang/invoke/VarHandle" ∧ (parseMethodDescriptor yX10_fliesBut.desc).map (fun d => d.parameters.length) = some 1 := by decide +kernel
theorem hd_X10_asTold : yX10_asTold.cls = RX10 ∧ yX10_asTold.cls ≠ "java/lang/invoke/MethodHandle" ∧ yX10_asTold.cls ≠ "java/lang/invoke/VarHandle" ∧ (parseMethodDescriptor yX10_asTold.desc).map (fun d => d.parameters.length) = some 0 := by decide +kernel
theorem hd_X10_keepsAt : yX10_keepsAt.cls = RX10 ∧ yX10_keepsAt.cls ≠ "java/lang/invoke/MethodHandle" ∧ yX10_keepsAt.cls ≠ "java/lang/invoke/VarHandle" ∧ (parseMethodDescriptor yX10_keepsAt.desc).map (fun d => d.parameters.length) = some 1 := by decide +kernel
theorem hd_X10_afraid : yX10_afraid.cls = RX10 ∧ yX10_afraid.cls ≠ "java/lang/invoke/MethodHandle" ∧ yX10_afraid.cls ≠ "java/lang/invoke/VarHandle" ∧ (parseMethodDescriptor yX10_afraid.desc).map (fun d => d.parameters.length) = some 2 := by decide +kernel
theorem hd_X10_goesBack : yX10_goesBack.cls = RX10 ∧ yX10_goesBack.cls ≠ "java/lang/invoke/MethodHandle" ∧ yX10_goesBack.cls ≠ "java/lang/invoke/VarHandle" ∧ (parseMethodDescriptor yX10_goesBack.desc).map (fun d => d.parameters.length) = some 0 := by decide +kernel
theorem hd_X10_stays : yX10_stays.cls = RX10 ∧ yX10_stays.cls ≠ "java/lang/invoke/MethodHandle" ∧ yX10_stays.cls ≠ "java/lang/invoke/VarHandle" ∧ (parseMethodDescriptor yX10_stays.desc).map (fun d => d.parameters.length) = some 4 := by decide +kernel
theorem hd_X10_visits : yX10_visits.cls = RX10 ∧ yX10_visits.cls ≠ "java/lang/invoke/MethodHandle" ∧ yX10_visits.cls ≠ "java/lang/invoke/VarHandle" ∧ (parseMethodDescriptor yX10_visits.desc).map (fun d => d.parameters.length) = some 2 := by decide +kernel
theorem hd_X10_runs : yX10_runs.cls = RX10 ∧ yX10_runs.cls ≠ "java/lang/invoke/MethodHandle" ∧ yX10_runs.cls ≠ "java/lang/invoke/VarHandle" ∧ (parseMethodDescriptor yX10_runs.desc).map (fun d => d.parameters.length) = some 0 := by decide +kernel
theorem hd_X10_runsTold : yX10_runsTold.cls = RX10 ∧ yX10_runsTold.cls ≠ "java/lang/invoke/MethodHandle" ∧ yX10_runsTold.cls ≠ "java/lang/invoke/VarHandle" ∧ (parseMethodDescriptor yX10_runsTold.desc).map (fun d => d.parameters.length) = some 0 := by decide +kernel
theorem hd_X10_stopsMany : yX10_stopsMany.cls = RX10 ∧ yX10_stopsMany.cls ≠ "java/lang/invoke/MethodHandle" ∧ yX10_stopsMany.cls ≠ "java/lang/invoke/VarHandle" ∧ (parseMethodDescriptor yX10_stopsMany.desc).map (fun d => d.parameters.length) = some 0 := by decide +kernel
theorem hd_X10_doesOf : yX10_doesOf.cls = RX10 ∧ yX10_doesOf.cls ≠ "java/lang/invoke/MethodHandle" ∧ yX10_doesOf.cls ≠ "java/lang/invoke/VarHandle" ∧ (parseMethodDescriptor yX10_doesOf.desc).map (fun d => d.parameters.length) = some 2 := by decide +kernel
theorem hd_X10_does : yX10_does.cls = RX10 ∧ yX10_does.cls ≠ "java/lang/invoke/MethodHandle" ∧ yX10_does.cls ≠ "java/lang/invoke/VarHandle" ∧ (parseMethodDescriptor yX10_does.desc).map (fun d => d.parameters.length) = some 2 := by decide +kernel
theorem hd_X10_shareOf : yX10_shareOf.cls = RX10 ∧ yX10_shareOf.cls ≠ "java/lang/invoke/MethodHandle" ∧ yX10_shareOf.cls ≠ "java/lang/invoke/VarHandle" ∧ (parseMethodDescriptor yX10_shareOf.desc).map (fun d => d.parameters.length) = some 3 := by decide +kernel
theorem hd_X10_share : yX10_share.cls = RX10 ∧ yX10_share.cls ≠ "java/lang/invoke/MethodHandle" ∧ yX10_share.cls ≠ "java/lang/invoke/VarHandle" ∧ (parseMethodDescriptor yX10_share.desc).map (fun d => d.parameters.length) = some 3 := by decide +kernel
theorem hd_X10_outOf : yX10_outOf.cls = RX10 ∧ yX10_outOf.cls ≠ "java/lang/invoke/MethodHandle" ∧ yX10_outOf.cls ≠ "java/lang/invoke/VarHandle" ∧ (parseMethodDescriptor yX10_outOf.desc).map (fun d => d.parameters.length) = some 0 := by decide +kernel
theorem hd_X10_out : yX10_out.cls = RX10 ∧ yX10_out.cls ≠ "java/lang/invoke/MethodHandle" ∧ yX10_out.cls ≠ "java/lang/invoke/VarHandle" ∧ (parseMethodDescriptor yX10_out.desc).map (fun d => d.parameters.length) = some 0 := by decide +kernel
theorem hd_X10_estateNow : yX10_estateNow.cls = RX10 ∧ yX10_estateNow.cls ≠ "java/lang/invoke/MethodHandle" ∧ yX10_estateNow.cls ≠ "java/lang/invoke/VarHandle" ∧ (parseMethodDescriptor yX10_estateNow.desc).map (fun d => d.parameters.length) = some 0 := by decide +kernel
theorem hd_X10_estateOf : yX10_estateOf.cls = RX10 ∧ yX10_estateOf.cls ≠ "java/lang/invoke/MethodHandle" ∧ yX10_estateOf.cls ≠ "java/lang/invoke/VarHandle" ∧ (parseMethodDescriptor yX10_estateOf.desc).map (fun d => d.parameters.length) = some 0 := by decide +kernel
theorem hd_X10_estate : yX10_estate.cls = RX10 ∧ yX10_estate.cls ≠ "java/lang/invoke/MethodHandle" ∧ yX10_estate.cls ≠ "java/lang/invoke/VarHandle" ∧ (parseMethodDescriptor yX10_estate.desc).map (fun d => d.parameters.length) = some 0 := by decide +kernel
theorem hd_X10_richestNow : yX10_richestNow.cls = RX10 ∧ yX10_richestNow.cls ≠ "java/lang/invoke/MethodHandle" ∧ yX10_richestNow.cls ≠ "java/lang/invoke/VarHandle" ∧ (parseMethodDescriptor yX10_richestNow.desc).map (fun d => d.parameters.length) = some 0 := by decide +kernel
theorem hd_X10_richestOf : yX10_richestOf.cls = RX10 ∧ yX10_richestOf.cls ≠ "java/lang/invoke/MethodHandle" ∧ yX10_richestOf.cls ≠ "java/lang/invoke/VarHandle" ∧ (parseMethodDescriptor yX10_richestOf.desc).map (fun d => d.parameters.length) = some 0 := by decide +kernel
theorem hd_X10_richest : yX10_richest.cls = RX10 ∧ yX10_richest.cls ≠ "java/lang/invoke/MethodHandle" ∧ yX10_richest.cls ≠ "java/lang/invoke/VarHandle" ∧ (parseMethodDescriptor yX10_richest.desc).map (fun d => d.parameters.length) = some 0 := by decide +kernel
theorem hd_X10_longestOf : yX10_longestOf.cls = RX10 ∧ yX10_longestOf.cls ≠ "java/lang/invoke/MethodHandle" ∧ yX10_longestOf.cls ≠ "java/lang/invoke/VarHandle" ∧ (parseMethodDescriptor yX10_longestOf.desc).map (fun d => d.parameters.length) = some 0 := by decide +kernel
theorem hd_X10_longest : yX10_longest.cls = RX10 ∧ yX10_longest.cls ≠ "java/lang/invoke/MethodHandle" ∧ yX10_longest.cls ≠ "java/lang/invoke/VarHandle" ∧ (parseMethodDescriptor yX10_longest.desc).map (fun d => d.parameters.length) = some 0 := by decide +kernel
theorem hd_X10_ditchOf : yX10_ditchOf.cls = RX10 ∧ yX10_ditchOf.cls ≠ "java/lang/invoke/MethodHandle" ∧ yX10_ditchOf.cls ≠ "java/lang/invoke/VarHandle" ∧ (parseMethodDescriptor yX10_ditchOf.desc).map (fun d => d.parameters.length) = some 0 := by decide +kernel
theorem hd_X10_ditch : yX10_ditch.cls = RX10 ∧ yX10_ditch.cls ≠ "java/lang/invoke/MethodHandle" ∧ yX10_ditch.cls ≠ "java/lang/invoke/VarHandle" ∧ (parseMethodDescriptor yX10_ditch.desc).map (fun d => d.parameters.length) = some 0 := by decide +kernel
theorem hd_X10_isFirst : yX10_isFirst.cls = RX10 ∧ yX10_isFirst.cls ≠ "java/lang/invoke/MethodHandle" ∧ yX10_isFirst.cls ≠ "java/lang/invoke/VarHandle" ∧ (parseMethodDescriptor yX10_isFirst.desc).map (fun d => d.parameters.length) = some 1 := by decide +kernel
theorem hd_X10_baitOf : yX10_baitOf.cls = RX10 ∧ yX10_baitOf.cls ≠ "java/lang/invoke/MethodHandle" ∧ yX10_baitOf.cls ≠ "java/lang/invoke/VarHandle" ∧ (parseMethodDescriptor yX10_baitOf.desc).map (fun d => d.parameters.length) = some 1 := by decide +kernel
theorem hd_X10_bait : yX10_bait.cls = RX10 ∧ yX10_bait.cls ≠ "java/lang/invoke/MethodHandle" ∧ yX10_bait.cls ≠ "java/lang/invoke/VarHandle" ∧ (parseMethodDescriptor yX10_bait.desc).map (fun d => d.parameters.length) = some 1 := by decide +kernel
theorem hd_X10_leastNow : yX10_leastNow.cls = RX10 ∧ yX10_leastNow.cls ≠ "java/lang/invoke/MethodHandle" ∧ yX10_leastNow.cls ≠ "java/lang/invoke/VarHandle" ∧ (parseMethodDescriptor yX10_leastNow.desc).map (fun d => d.parameters.length) = some 0 := by decide +kernel
theorem hd_X10_nextRow : yX10_nextRow.cls = RX10 ∧ yX10_nextRow.cls ≠ "java/lang/invoke/MethodHandle" ∧ yX10_nextRow.cls ≠ "java/lang/invoke/VarHandle" ∧ (parseMethodDescriptor yX10_nextRow.desc).map (fun d => d.parameters.length) = some 0 := by decide +kernel
theorem hd_X10_fairBy : yX10_fairBy.cls = RX10 ∧ yX10_fairBy.cls ≠ "java/lang/invoke/MethodHandle" ∧ yX10_fairBy.cls ≠ "java/lang/invoke/VarHandle" ∧ (parseMethodDescriptor yX10_fairBy.desc).map (fun d => d.parameters.length) = some 0 := by decide +kernel
theorem hd_X10_fairOf : yX10_fairOf.cls = RX10 ∧ yX10_fairOf.cls ≠ "java/lang/invoke/MethodHandle" ∧ yX10_fairOf.cls ≠ "java/lang/invoke/VarHandle" ∧ (parseMethodDescriptor yX10_fairOf.desc).map (fun d => d.parameters.length) = some 1 := by decide +kernel
theorem hd_X10_fair : yX10_fair.cls = RX10 ∧ yX10_fair.cls ≠ "java/lang/invoke/MethodHandle" ∧ yX10_fair.cls ≠ "java/lang/invoke/VarHandle" ∧ (parseMethodDescriptor yX10_fair.desc).map (fun d => d.parameters.length) = some 1 := by decide +kernel
theorem hd_X10_careOf : yX10_careOf.cls = RX10 ∧ yX10_careOf.cls ≠ "java/lang/invoke/MethodHandle" ∧ yX10_careOf.cls ≠ "java/lang/invoke/VarHandle" ∧ (parseMethodDescriptor yX10_careOf.desc).map (fun d => d.parameters.length) = some 1 := by decide +kernel
theorem hd_X10_care : yX10_care.cls = RX10 ∧ yX10_care.cls ≠ "java/lang/invoke/MethodHandle" ∧ yX10_care.cls ≠ "java/lang/invoke/VarHandle" ∧ (parseMethodDescriptor yX10_care.desc).map (fun d => d.parameters.length) = some 1 := by decide +kernel
theorem hd_X10_skipOf : yX10_skipOf.cls = RX10 ∧ yX10_skipOf.cls ≠ "java/lang/invoke/MethodHandle" ∧ yX10_skipOf.cls ≠ "java/lang/invoke/VarHandle" ∧ (parseMethodDescriptor yX10_skipOf.desc).map (fun d => d.parameters.length) = some 2 := by decide +kernel
theorem hd_X10_skip : yX10_skip.cls = RX10 ∧ yX10_skip.cls ≠ "java/lang/invoke/MethodHandle" ∧ yX10_skip.cls ≠ "java/lang/invoke/VarHandle" ∧ (parseMethodDescriptor yX10_skip.desc).map (fun d => d.parameters.length) = some 2 := by decide +kernel
theorem hd_X10_seen : yX10_seen.cls = RX10 ∧ yX10_seen.cls ≠ "java/lang/invoke/MethodHandle" ∧ yX10_seen.cls ≠ "java/lang/invoke/VarHandle" ∧ (parseMethodDescriptor yX10_seen.desc).map (fun d => d.parameters.length) = some 2 := by decide +kernel
theorem hd_X10_forget : yX10_forget.cls = RX10 ∧ yX10_forget.cls ≠ "java/lang/invoke/MethodHandle" ∧ yX10_forget.cls ≠ "java/lang/invoke/VarHandle" ∧ (parseMethodDescriptor yX10_forget.desc).map (fun d => d.parameters.length) = some 0 := by decide +kernel
theorem hd_X10_isSeen : yX10_isSeen.cls = RX10 ∧ yX10_isSeen.cls ≠ "java/lang/invoke/MethodHandle" ∧ yX10_isSeen.cls ≠ "java/lang/invoke/VarHandle" ∧ (parseMethodDescriptor yX10_isSeen.desc).map (fun d => d.parameters.length) = some 0 := by decide +kernel
theorem hd_X10_neverNow : yX10_neverNow.cls = RX10 ∧ yX10_neverNow.cls ≠ "java/lang/invoke/MethodHandle" ∧ yX10_neverNow.cls ≠ "java/lang/invoke/VarHandle" ∧ (parseMethodDescriptor yX10_neverNow.desc).map (fun d => d.parameters.length) = some 0 := by decide +kernel
theorem hd_X10_never : yX10_never.cls = RX10 ∧ yX10_never.cls ≠ "java/lang/invoke/MethodHandle" ∧ yX10_never.cls ≠ "java/lang/invoke/VarHandle" ∧ (parseMethodDescriptor yX10_never.desc).map (fun d => d.parameters.length) = some 0 := by decide +kernel
theorem hd_X10_wasBy : yX10_wasBy.cls = RX10 ∧ yX10_wasBy.cls ≠ "java/lang/invoke/MethodHandle" ∧ yX10_wasBy.cls ≠ "java/lang/invoke/VarHandle" ∧ (parseMethodDescriptor yX10_wasBy.desc).map (fun d => d.parameters.length) = some 2 := by decide +kernel
theorem hd_X10_was : yX10_was.cls = RX10 ∧ yX10_was.cls ≠ "java/lang/invoke/MethodHandle" ∧ yX10_was.cls ≠ "java/lang/invoke/VarHandle" ∧ (parseMethodDescriptor yX10_was.desc).map (fun d => d.parameters.length) = some 2 := by decide +kernel
theorem hd_X10_askOf : yX10_askOf.cls = RX10 ∧ yX10_askOf.cls ≠ "java/lang/invoke/MethodHandle" ∧ yX10_askOf.cls ≠ "java/lang/invoke/VarHandle" ∧ (parseMethodDescriptor yX10_askOf.desc).map (fun d => d.parameters.length) = some 1 := by decide +kernel
theorem hd_X10_ask : yX10_ask.cls = RX10 ∧ yX10_ask.cls ≠ "java/lang/invoke/MethodHandle" ∧ yX10_ask.cls ≠ "java/lang/invoke/VarHandle" ∧ (parseMethodDescriptor yX10_ask.desc).map (fun d => d.parameters.length) = some 1 := by decide +kernel
theorem hd_X10_swarmOf : yX10_swarmOf.cls = RX10 ∧ yX10_swarmOf.cls ≠ "java/lang/invoke/MethodHandle" ∧ yX10_swarmOf.cls ≠ "java/lang/invoke/VarHandle" ∧ (parseMethodDescriptor yX10_swarmOf.desc).map (fun d => d.parameters.length) = some 3 := by decide +kernel
theorem hd_X10_swarm : yX10_swarm.cls = RX10 ∧ yX10_swarm.cls ≠ "java/lang/invoke/MethodHandle" ∧ yX10_swarm.cls ≠ "java/lang/invoke/VarHandle" ∧ (parseMethodDescriptor yX10_swarm.desc).map (fun d => d.parameters.length) = some 3 := by decide +kernel
theorem hd_X10_againOf : yX10_againOf.cls = RX10 ∧ yX10_againOf.cls ≠ "java/lang/invoke/MethodHandle" ∧ yX10_againOf.cls ≠ "java/lang/invoke/VarHandle" ∧ (parseMethodDescriptor yX10_againOf.desc).map (fun d => d.parameters.length) = some 3 := by decide +kernel
theorem hd_X10_again : yX10_again.cls = RX10 ∧ yX10_again.cls ≠ "java/lang/invoke/MethodHandle" ∧ yX10_again.cls ≠ "java/lang/invoke/VarHandle" ∧ (parseMethodDescriptor yX10_again.desc).map (fun d => d.parameters.length) = some 3 := by decide +kernel
theorem hd_X10_meets : yX10_meets.cls = RX10 ∧ yX10_meets.cls ≠ "java/lang/invoke/MethodHandle" ∧ yX10_meets.cls ≠ "java/lang/invoke/VarHandle" ∧ (parseMethodDescriptor yX10_meets.desc).map (fun d => d.parameters.length) = some 1 := by decide +kernel
theorem hd_X10_isSheet : yX10_isSheet.cls ≠ "java/lang/invoke/MethodHandle" ∧ yX10_isSheet.cls ≠ "java/lang/invoke/VarHandle" ∧ (parseMethodDescriptor yX10_isSheet.desc).map (fun d => d.parameters.length) = some 1 := by decide +kernel
theorem hd_X10_sheet : yX10_sheet.cls = RX10 ∧ yX10_sheet.cls ≠ "java/lang/invoke/MethodHandle" ∧ yX10_sheet.cls ≠ "java/lang/invoke/VarHandle" ∧ (parseMethodDescriptor yX10_sheet.desc).map (fun d => d.parameters.length) = some 3 := by decide +kernel
theorem hd_X10_lose : yX10_lose.cls = RX10 ∧ yX10_lose.cls ≠ "java/lang/invoke/MethodHandle" ∧ yX10_lose.cls ≠ "java/lang/invoke/VarHandle" ∧ (parseMethodDescriptor yX10_lose.desc).map (fun d => d.parameters.length) = some 1 := by decide +kernel
theorem hd_X10_lacks : yX10_lacks.cls = RX10 ∧ yX10_lacks.cls ≠ "java/lang/invoke/MethodHandle" ∧ yX10_lacks.cls ≠ "java/lang/invoke/VarHandle" ∧ (parseMethodDescriptor yX10_lacks.desc).map (fun d => d.parameters.length) = some 3 := by decide +kernel
theorem hd_X10_keep : yX10_keep.cls = RX10 ∧ yX10_keep.cls ≠ "java/lang/invoke/MethodHandle" ∧ yX10_keep.cls ≠ "java/lang/invoke/VarHandle" ∧ (parseMethodDescriptor yX10_keep.desc).map (fun d => d.parameters.length) = some 3 := by decide +kernel
theorem hd_X10_put : yX10_put.cls = RX10 ∧ yX10_put.cls ≠ "java/lang/invoke/MethodHandle" ∧ yX10_put.cls ≠ "java/lang/invoke/VarHandle" ∧ (parseMethodDescriptor yX10_put.desc).map (fun d => d.parameters.length) = some 4 := by decide +kernel
theorem hd_X10_get : yX10_get.cls = RX10 ∧ yX10_get.cls ≠ "java/lang/invoke/MethodHandle" ∧ yX10_get.cls ≠ "java/lang/invoke/VarHandle" ∧ (parseMethodDescriptor yX10_get.desc).map (fun d => d.parameters.length) = some 3 := by decide +kernel
theorem hd_X10_copy : yX10_copy.cls = RX10 ∧ yX10_copy.cls ≠ "java/lang/invoke/MethodHandle" ∧ yX10_copy.cls ≠ "java/lang/invoke/VarHandle" ∧ (parseMethodDescriptor yX10_copy.desc).map (fun d => d.parameters.length) = some 5 := by decide +kernel
theorem hd_X10_write : yX10_write.cls = RX10 ∧ yX10_write.cls ≠ "java/lang/invoke/MethodHandle" ∧ yX10_write.cls ≠ "java/lang/invoke/VarHandle" ∧ (parseMethodDescriptor yX10_write.desc).map (fun d => d.parameters.length) = some 2 := by decide +kernel
theorem hd_X10_sumOf : yX10_sumOf.cls = RX10 ∧ yX10_sumOf.cls ≠ "java/lang/invoke/MethodHandle" ∧ yX10_sumOf.cls ≠ "java/lang/invoke/VarHandle" ∧ (parseMethodDescriptor yX10_sumOf.desc).map (fun d => d.parameters.length) = some 1 := by decide +kernel
theorem hd_X10_count : yX10_count.cls = RX10 ∧ yX10_count.cls ≠ "java/lang/invoke/MethodHandle" ∧ yX10_count.cls ≠ "java/lang/invoke/VarHandle" ∧ (parseMethodDescriptor yX10_count.desc).map (fun d => d.parameters.length) = some 1 := by decide +kernel
theorem hd_X10_heirDigest : yX10_heirDigest.cls = RX10 ∧ yX10_heirDigest.cls ≠ "java/lang/invoke/MethodHandle" ∧ yX10_heirDigest.cls ≠ "java/lang/invoke/VarHandle" ∧ (parseMethodDescriptor yX10_heirDigest.desc).map (fun d => d.parameters.length) = some 2 := by decide +kernel
theorem hd_X10_stopDigest : yX10_stopDigest.cls = RX10 ∧ yX10_stopDigest.cls ≠ "java/lang/invoke/MethodHandle" ∧ yX10_stopDigest.cls ≠ "java/lang/invoke/VarHandle" ∧ (parseMethodDescriptor yX10_stopDigest.desc).map (fun d => d.parameters.length) = some 2 := by decide +kernel
theorem hd_X10_digest : yX10_digest.cls = RX10 ∧ yX10_digest.cls ≠ "java/lang/invoke/MethodHandle" ∧ yX10_digest.cls ≠ "java/lang/invoke/VarHandle" ∧ (parseMethodDescriptor yX10_digest.desc).map (fun d => d.parameters.length) = some 0 := by decide +kernel
theorem hd_J7_fill_53178 : yJ7_fill_53178.cls ≠ "java/lang/invoke/MethodHandle" ∧ yJ7_fill_53178.cls ≠ "java/lang/invoke/VarHandle" ∧ (parseMethodDescriptor yJ7_fill_53178.desc).map (fun d => d.parameters.length) = some 2 := by decide +kernel
theorem ar_X0_0 {o : Nat} (h : GC[cO GC o]? = some (o, 0, 0, 0)) : GC[cO GC o + 1]? = some (o, 3, 12, 9) := by
  have ho : o < 25 := tb_lt h
  exact tb_key (n := 25) (rhs := fun o => (o, 3, 12, 9)) (by decide +kernel) ho h
theorem ar_X0_1 {o : Nat} (h : GC[cO GC o]? = some (o, 0, 0, 0)) : GC[cO GC o + 2]? = some (o, 1, 1, 8) := by
  have ho : o < 25 := tb_lt h
  exact tb_key (n := 25) (rhs := fun o => (o, 1, 1, 8)) (by decide +kernel) ho h
theorem ar_X0_2 {o : Nat} (h : GC[cO GC o]? = some (o, 0, 0, 0)) : GC[cO GC o + 3]? = some (o, 1, 2, 8) := by
  have ho : o < 25 := tb_lt h
  exact tb_key (n := 25) (rhs := fun o => (o, 1, 2, 8)) (by decide +kernel) ho h
theorem ar_X1_0 {o : Nat} (h : GC[cO GC o]? = some (o, 0, 1, 0)) : GC[cO GC o + 1]? = some (o, 1, 0, 6) := by
  have ho : o < 25 := tb_lt h
  exact tb_key (n := 25) (rhs := fun o => (o, 1, 0, 6)) (by decide +kernel) ho h
theorem ar_X2_0 {o : Nat} (h : GC[cO GC o]? = some (o, 0, 2, 0)) : GC[cO GC o + 1]? = some (o, 1, 0, 8) := by
  have ho : o < 25 := tb_lt h
  exact tb_key (n := 25) (rhs := fun o => (o, 1, 0, 8)) (by decide +kernel) ho h
theorem ar_X2_1 {o : Nat} (h : GC[cO GC o]? = some (o, 0, 2, 0)) : GC[cO GC o + 2]? = some (o, 1, 1, 8) := by
  have ho : o < 25 := tb_lt h
  exact tb_key (n := 25) (rhs := fun o => (o, 1, 1, 8)) (by decide +kernel) ho h
theorem ar_X2_2 {o : Nat} (h : GC[cO GC o]? = some (o, 0, 2, 0)) : GC[cO GC o + 3]? = some (o, 1, 2, 8) := by
  have ho : o < 25 := tb_lt h
  exact tb_key (n := 25) (rhs := fun o => (o, 1, 2, 8)) (by decide +kernel) ho h
theorem ar_X2_3 {o : Nat} (h : GC[cO GC o]? = some (o, 0, 2, 0)) : GC[cO GC o + 4]? = some (o, 1, 3, 4) := by
  have ho : o < 25 := tb_lt h
  exact tb_key (n := 25) (rhs := fun o => (o, 1, 3, 4)) (by decide +kernel) ho h
theorem ar_X2_4 {o : Nat} (h : GC[cO GC o]? = some (o, 0, 2, 0)) : GC[cO GC o + 5]? = some (o, 1, 4, 20) := by
  have ho : o < 25 := tb_lt h
  exact tb_key (n := 25) (rhs := fun o => (o, 1, 4, 20)) (by decide +kernel) ho h
theorem ar_X3_0 {o : Nat} (h : GC[cO GC o]? = some (o, 0, 3, 0)) : GC[cO GC o + 1]? = some (o, 1, 0, (if o = 1 then 31 else 20)) := by
  have ho : o < 25 := tb_lt h
  exact tb_key (n := 25) (rhs := fun o => (o, 1, 0, (if o = 1 then 31 else 20))) (by decide +kernel) ho h
theorem ar_X4_0 {o : Nat} (h : GC[cO GC o]? = some (o, 0, 4, 0)) : GC[cO GC o + 1]? = some (o, 1, 0, 60) := by
  have ho : o < 25 := tb_lt h
  exact tb_key (n := 25) (rhs := fun o => (o, 1, 0, 60)) (by decide +kernel) ho h
theorem ar_X5_1 {o : Nat} (h : GC[cO GC o]? = some (o, 0, 5, 0)) : GC[cO GC o + 1]? = some (o, 1, 1, 20) := by
  have ho : o < 25 := tb_lt h
  exact tb_key (n := 25) (rhs := fun o => (o, 1, 1, 20)) (by decide +kernel) ho h
theorem ar_X5_2 {o : Nat} (h : GC[cO GC o]? = some (o, 0, 5, 0)) : GC[cO GC o + 2]? = some (o, 1, 2, 20) := by
  have ho : o < 25 := tb_lt h
  exact tb_key (n := 25) (rhs := fun o => (o, 1, 2, 20)) (by decide +kernel) ho h
theorem ar_X5_3 {o : Nat} (h : GC[cO GC o]? = some (o, 0, 5, 0)) : GC[cO GC o + 3]? = some (o, 1, 3, 20) := by
  have ho : o < 25 := tb_lt h
  exact tb_key (n := 25) (rhs := fun o => (o, 1, 3, 20)) (by decide +kernel) ho h
theorem ar_X5_4 {o : Nat} (h : GC[cO GC o]? = some (o, 0, 5, 0)) : GC[cO GC o + 4]? = some (o, 1, 4, 20) := by
  have ho : o < 25 := tb_lt h
  exact tb_key (n := 25) (rhs := fun o => (o, 1, 4, 20)) (by decide +kernel) ho h
theorem ar_X5_5 {o : Nat} (h : GC[cO GC o]? = some (o, 0, 5, 0)) : GC[cO GC o + 5]? = some (o, 1, 5, 168) := by
  have ho : o < 25 := tb_lt h
  exact tb_key (n := 25) (rhs := fun o => (o, 1, 5, 168)) (by decide +kernel) ho h
theorem ar_X5_6 {o : Nat} (h : GC[cO GC o]? = some (o, 0, 5, 0)) : GC[cO GC o + 6]? = some (o, 1, 6, 168) := by
  have ho : o < 25 := tb_lt h
  exact tb_key (n := 25) (rhs := fun o => (o, 1, 6, 168)) (by decide +kernel) ho h
theorem ar_X5_7 {o : Nat} (h : GC[cO GC o]? = some (o, 0, 5, 0)) : GC[cO GC o + 7]? = some (o, 1, 7, 168) := by
  have ho : o < 25 := tb_lt h
  exact tb_key (n := 25) (rhs := fun o => (o, 1, 7, 168)) (by decide +kernel) ho h
theorem ar_X6_2 {o : Nat} (h : GC[cO GC o]? = some (o, 0, 6, 0)) : GC[cO GC o + 1]? = some (o, 1, 2, 20) := by
  have ho : o < 25 := tb_lt h
  exact tb_key (n := 25) (rhs := fun o => (o, 1, 2, 20)) (by decide +kernel) ho h
theorem ar_X7_0 {o : Nat} (h : GC[cO GC o]? = some (o, 0, 7, 0)) : GC[cO GC o + 1]? = some (o, 1, 0, 8) := by
  have ho : o < 25 := tb_lt h
  exact tb_key (n := 25) (rhs := fun o => (o, 1, 0, 8)) (by decide +kernel) ho h
theorem ar_X7_1 {o : Nat} (h : GC[cO GC o]? = some (o, 0, 7, 0)) : GC[cO GC o + 2]? = some (o, 1, 1, 8) := by
  have ho : o < 25 := tb_lt h
  exact tb_key (n := 25) (rhs := fun o => (o, 1, 1, 8)) (by decide +kernel) ho h
theorem ar_X7_2 {o : Nat} (h : GC[cO GC o]? = some (o, 0, 7, 0)) : GC[cO GC o + 3]? = some (o, 1, 2, 8) := by
  have ho : o < 25 := tb_lt h
  exact tb_key (n := 25) (rhs := fun o => (o, 1, 2, 8)) (by decide +kernel) ho h
theorem ar_X8_0 {o : Nat} (h : GC[cO GC o]? = some (o, 0, 8, 0)) : GC[cO GC o + 1]? = some (o, 1, 0, 8) := by
  have ho : o < 25 := tb_lt h
  exact tb_key (n := 25) (rhs := fun o => (o, 1, 0, 8)) (by decide +kernel) ho h
theorem ar_X8_1 {o : Nat} (h : GC[cO GC o]? = some (o, 0, 8, 0)) : GC[cO GC o + 2]? = some (o, 1, 1, 8) := by
  have ho : o < 25 := tb_lt h
  exact tb_key (n := 25) (rhs := fun o => (o, 1, 1, 8)) (by decide +kernel) ho h
theorem ar_X9_8 {o : Nat} (h : GC[cO GC o]? = some (o, 0, 9, 0)) : GC[cO GC o + 1]? = some (o, 1, 8, 64) := by
  have ho : o < 25 := tb_lt h
  exact tb_key (n := 25) (rhs := fun o => (o, 1, 8, 64)) (by decide +kernel) ho h
theorem ar_X9_9 {o : Nat} (h : GC[cO GC o]? = some (o, 0, 9, 0)) : GC[cO GC o + 2]? = some (o, 1, 9, 100) := by
  have ho : o < 25 := tb_lt h
  exact tb_key (n := 25) (rhs := fun o => (o, 1, 9, 100)) (by decide +kernel) ho h
theorem ar_X9_10 {o : Nat} (h : GC[cO GC o]? = some (o, 0, 9, 0)) : GC[cO GC o + 3]? = some (o, 4, 21, 4) := by
  have ho : o < 25 := tb_lt h
  exact tb_key (n := 25) (rhs := fun o => (o, 4, 21, 4)) (by decide +kernel) ho h
theorem ar_X10_0 {o : Nat} (h : GM[cO GM o]? = some (o, 0, 10, 0)) : GM[cO GM o + 1]? = some (o, 1, 0, 2) := by
  have ho : o < 1 := tm_lt h
  exact tb_key (n := 1) (rhs := fun o => (o, 1, 0, 2)) (by decide +kernel) ho h
theorem ar_X10_1 {o : Nat} (h : GM[cO GM o]? = some (o, 0, 10, 0)) : GM[cO GM o + 2]? = some (o, 1, 1, 62) := by
  have ho : o < 1 := tm_lt h
  exact tb_key (n := 1) (rhs := fun o => (o, 1, 1, 62)) (by decide +kernel) ho h
theorem ar_X10_3 {o : Nat} (h : GM[cO GM o]? = some (o, 0, 10, 0)) : GM[cO GM o + 3]? = some (o, 1, 3, 9) := by
  have ho : o < 1 := tm_lt h
  exact tb_key (n := 1) (rhs := fun o => (o, 1, 3, 9)) (by decide +kernel) ho h
theorem ar_X10_4 {o : Nat} (h : GM[cO GM o]? = some (o, 0, 10, 0)) : GM[cO GM o + 4]? = some (o, 1, 4, 9) := by
  have ho : o < 1 := tm_lt h
  exact tb_key (n := 1) (rhs := fun o => (o, 1, 4, 9)) (by decide +kernel) ho h
theorem ar_X10_5 {o : Nat} (h : GM[cO GM o]? = some (o, 0, 10, 0)) : GM[cO GM o + 5]? = some (o, 1, 5, 9) := by
  have ho : o < 1 := tm_lt h
  exact tb_key (n := 1) (rhs := fun o => (o, 1, 5, 9)) (by decide +kernel) ho h
theorem ar_X10_7 {o : Nat} (h : GM[cO GM o]? = some (o, 0, 10, 0)) : GM[cO GM o + 6]? = some (o, 1, 7, 20) := by
  have ho : o < 1 := tm_lt h
  exact tb_key (n := 1) (rhs := fun o => (o, 1, 7, 20)) (by decide +kernel) ho h
theorem ar_X10_8 {o : Nat} (h : GM[cO GM o]? = some (o, 0, 10, 0)) : GM[cO GM o + 7]? = some (o, 1, 8, 4) := by
  have ho : o < 1 := tm_lt h
  exact tb_key (n := 1) (rhs := fun o => (o, 1, 8, 4)) (by decide +kernel) ho h
theorem ar_X10_10 {o : Nat} (h : GM[cO GM o]? = some (o, 0, 10, 0)) : GM[cO GM o + 8]? = some (o, 1, 10, 6) := by
  have ho : o < 1 := tm_lt h
  exact tb_key (n := 1) (rhs := fun o => (o, 1, 10, 6)) (by decide +kernel) ho h
theorem ar_X10_12 {o : Nat} (h : GM[cO GM o]? = some (o, 0, 10, 0)) : GM[cO GM o + 9]? = some (o, 1, 12, 20) := by
  have ho : o < 1 := tm_lt h
  exact tb_key (n := 1) (rhs := fun o => (o, 1, 12, 20)) (by decide +kernel) ho h
theorem ar_X10_20 {o : Nat} (h : GM[cO GM o]? = some (o, 0, 10, 0)) : GM[cO GM o + 10]? = some (o, 1, 20, 8) := by
  have ho : o < 1 := tm_lt h
  exact tb_key (n := 1) (rhs := fun o => (o, 1, 20, 8)) (by decide +kernel) ho h
theorem ar_X10_21 {o : Nat} (h : GM[cO GM o]? = some (o, 0, 10, 0)) : GM[cO GM o + 11]? = some (o, 1, 21, 8) := by
  have ho : o < 1 := tm_lt h
  exact tb_key (n := 1) (rhs := fun o => (o, 1, 21, 8)) (by decide +kernel) ho h
theorem ar_X10_22 {o : Nat} (h : GM[cO GM o]? = some (o, 0, 10, 0)) : GM[cO GM o + 12]? = some (o, 1, 22, 8) := by
  have ho : o < 1 := tm_lt h
  exact tb_key (n := 1) (rhs := fun o => (o, 1, 22, 8)) (by decide +kernel) ho h
theorem ar_X10_24 {o : Nat} (h : GM[cO GM o]? = some (o, 0, 10, 0)) : GM[cO GM o + 13]? = some (o, 1, 24, 20) := by
  have ho : o < 1 := tm_lt h
  exact tb_key (n := 1) (rhs := fun o => (o, 1, 24, 20)) (by decide +kernel) ho h
theorem ar_X10_25 {o : Nat} (h : GM[cO GM o]? = some (o, 0, 10, 0)) : GM[cO GM o + 14]? = some (o, 1, 25, 20) := by
  have ho : o < 1 := tm_lt h
  exact tb_key (n := 1) (rhs := fun o => (o, 1, 25, 20)) (by decide +kernel) ho h
theorem ar_X10_26 {o : Nat} (h : GM[cO GM o]? = some (o, 0, 10, 0)) : GM[cO GM o + 15]? = some (o, 1, 26, 20) := by
  have ho : o < 1 := tm_lt h
  exact tb_key (n := 1) (rhs := fun o => (o, 1, 26, 20)) (by decide +kernel) ho h
theorem ar_X10_27 {o : Nat} (h : GM[cO GM o]? = some (o, 0, 10, 0)) : GM[cO GM o + 16]? = some (o, 1, 27, 20) := by
  have ho : o < 1 := tm_lt h
  exact tb_key (n := 1) (rhs := fun o => (o, 1, 27, 20)) (by decide +kernel) ho h
theorem ar_X10_28 {o : Nat} (h : GM[cO GM o]? = some (o, 0, 10, 0)) : GM[cO GM o + 17]? = some (o, 1, 28, 168) := by
  have ho : o < 1 := tm_lt h
  exact tb_key (n := 1) (rhs := fun o => (o, 1, 28, 168)) (by decide +kernel) ho h
theorem ar_X10_29 {o : Nat} (h : GM[cO GM o]? = some (o, 0, 10, 0)) : GM[cO GM o + 18]? = some (o, 1, 29, 168) := by
  have ho : o < 1 := tm_lt h
  exact tb_key (n := 1) (rhs := fun o => (o, 1, 29, 168)) (by decide +kernel) ho h
theorem ar_X10_30 {o : Nat} (h : GM[cO GM o]? = some (o, 0, 10, 0)) : GM[cO GM o + 19]? = some (o, 1, 30, 168) := by
  have ho : o < 1 := tm_lt h
  exact tb_key (n := 1) (rhs := fun o => (o, 1, 30, 168)) (by decide +kernel) ho h
theorem ar_X10_31 {o : Nat} (h : GM[cO GM o]? = some (o, 0, 10, 0)) : GM[cO GM o + 20]? = some (o, 1, 31, 8) := by
  have ho : o < 1 := tm_lt h
  exact tb_key (n := 1) (rhs := fun o => (o, 1, 31, 8)) (by decide +kernel) ho h
theorem ar_X10_33 {o : Nat} (h : GM[cO GM o]? = some (o, 0, 10, 0)) : GM[cO GM o + 21]? = some (o, 1, 33, 8) := by
  have ho : o < 1 := tm_lt h
  exact tb_key (n := 1) (rhs := fun o => (o, 1, 33, 8)) (by decide +kernel) ho h
theorem ar_X10_34 {o : Nat} (h : GM[cO GM o]? = some (o, 0, 10, 0)) : GM[cO GM o + 22]? = some (o, 1, 34, 8) := by
  have ho : o < 1 := tm_lt h
  exact tb_key (n := 1) (rhs := fun o => (o, 1, 34, 8)) (by decide +kernel) ho h
theorem ar_X10_35 {o : Nat} (h : GM[cO GM o]? = some (o, 0, 10, 0)) : GM[cO GM o + 23]? = some (o, 1, 35, 200) := by
  have ho : o < 1 := tm_lt h
  exact tb_key (n := 1) (rhs := fun o => (o, 1, 35, 200)) (by decide +kernel) ho h
theorem ar_X10_36 {o : Nat} (h : GM[cO GM o]? = some (o, 0, 10, 0)) : GM[cO GM o + 24]? = some (o, 2, 36, 4) := by
  have ho : o < 1 := tm_lt h
  exact tb_key (n := 1) (rhs := fun o => (o, 2, 36, 4)) (by decide +kernel) ho h
theorem ar_X10_37 {o : Nat} (h : GM[cO GM o]? = some (o, 0, 10, 0)) : GM[cO GM o + 25]? = some (o, 1, 37, 4) := by
  have ho : o < 1 := tm_lt h
  exact tb_key (n := 1) (rhs := fun o => (o, 1, 37, 4)) (by decide +kernel) ho h
theorem ar_X10_38 {o : Nat} (h : GM[cO GM o]? = some (o, 0, 10, 0)) : GM[cO GM o + 26]? = some (o, 1, 38, 4) := by
  have ho : o < 1 := tm_lt h
  exact tb_key (n := 1) (rhs := fun o => (o, 1, 38, 4)) (by decide +kernel) ho h
theorem ar_X10_39 {o : Nat} (h : GM[cO GM o]? = some (o, 0, 10, 0)) : GM[cO GM o + 27]? = some (o, 1, 39, 240) := by
  have ho : o < 1 := tm_lt h
  exact tb_key (n := 1) (rhs := fun o => (o, 1, 39, 240)) (by decide +kernel) ho h
theorem ar_X10_40 {o : Nat} (h : GM[cO GM o]? = some (o, 0, 10, 0)) : GM[cO GM o + 28]? = some (o, 1, 40, 60) := by
  have ho : o < 1 := tm_lt h
  exact tb_key (n := 1) (rhs := fun o => (o, 1, 40, 60)) (by decide +kernel) ho h
theorem qC0 : GC[cO GC 0]? = some (0, 0, 9, 0) := by decide +kernel
theorem qC1 : GC[cO GC 1]? = some (1, 0, 3, 0) := by decide +kernel
theorem qC2 : GC[cO GC 2]? = some (2, 0, 3, 0) := by decide +kernel
theorem qC3 : GC[cO GC 3]? = some (3, 0, 2, 0) := by decide +kernel
theorem qC4 : GC[cO GC 4]? = some (4, 0, 5, 0) := by decide +kernel
theorem qC5 : GC[cO GC 5]? = some (5, 0, 7, 0) := by decide +kernel
theorem qC6 : GC[cO GC 6]? = some (6, 0, 6, 0) := by decide +kernel
theorem qC7 : GC[cO GC 7]? = some (7, 0, 2, 0) := by decide +kernel
theorem qC8 : GC[cO GC 8]? = some (8, 0, 7, 0) := by decide +kernel
theorem qC9 : GC[cO GC 9]? = some (9, 0, 1, 0) := by decide +kernel
theorem qC10 : GC[cO GC 10]? = some (10, 0, 8, 0) := by decide +kernel
theorem qC11 : GC[cO GC 11]? = some (11, 0, 0, 0) := by decide +kernel
theorem qC12 : GC[cO GC 12]? = some (12, 0, 7, 0) := by decide +kernel
theorem qC13 : GC[cO GC 13]? = some (13, 0, 7, 0) := by decide +kernel
theorem qC14 : GC[cO GC 14]? = some (14, 0, 7, 0) := by decide +kernel
theorem qC15 : GC[cO GC 15]? = some (15, 0, 7, 0) := by decide +kernel
theorem qC16 : GC[cO GC 16]? = some (16, 0, 7, 0) := by decide +kernel
theorem qC17 : GC[cO GC 17]? = some (17, 0, 7, 0) := by decide +kernel
theorem qC18 : GC[cO GC 18]? = some (18, 0, 7, 0) := by decide +kernel
theorem qC19 : GC[cO GC 19]? = some (19, 0, 7, 0) := by decide +kernel
theorem qC20 : GC[cO GC 20]? = some (20, 0, 7, 0) := by decide +kernel
theorem qC21 : GC[cO GC 21]? = some (21, 0, 4, 0) := by decide +kernel
theorem qC22 : GC[cO GC 22]? = some (22, 0, 4, 0) := by decide +kernel
theorem qC23 : GC[cO GC 23]? = some (23, 0, 4, 0) := by decide +kernel
theorem qC24 : GC[cO GC 24]? = some (24, 0, 4, 0) := by decide +kernel
theorem qM0 : GM[cO GM 0]? = some (0, 0, 10, 0) := by decide +kernel
theorem q_sheet {i : Int32} (h : vp_in i 4) : GC[cO GC (21 + i.toNatClampNeg)]? = some (21 + i.toNatClampNeg, 0, 4, 0) := by
  have hlt : i.toNatClampNeg < 4 := Nat.not_le.mp fun q => h (Or.inr q)
  generalize i.toNatClampNeg = n at hlt ⊢
  revert n
  decide +kernel
theorem q_walk {i : Int32} (h : vp_in i 9) : GC[cO GC (12 + i.toNatClampNeg)]? = some (12 + i.toNatClampNeg, 0, 7, 0) := by
  have hlt : i.toNatClampNeg < 9 := Nat.not_le.mp fun q => h (Or.inr q)
  generalize i.toNatClampNeg = n at hlt ⊢
  revert n
  decide +kernel
end
