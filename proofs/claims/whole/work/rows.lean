section
-- ===== PART A: goes FIRST, ahead of the names: the tables' words, and 'selects' of the private methods out of them =====
/-- a private method of a class that the tables say can be made, by its rows of tables_1 -/
def lw_okq (q : MethodName × Nat) : Prop := (q.1.cls ≠ "java/lang/invoke/MethodHandle" ∧ q.1.cls ≠ "java/lang/invoke/VarHandle") ∧ Cond.instantiable q.1.cls q.2 ∈ tables_1 ∧ Cond.privateMethod q.1 ∈ tables_1 ∧ Cond.instanceMethod q.1 ∈ tables_1
theorem lw_p0 : lw_okq (⟨"FoldedVoices", "sumOver", "(I)I"⟩, 8) := ⟨⟨by decide +kernel, by decide +kernel⟩, List.mem_of_getElem? (i := 22) (by decide +kernel), List.mem_of_getElem? (i := 383) (by decide +kernel), List.mem_of_getElem? (i := 384) (by decide +kernel)⟩
theorem lw_p1 : lw_okq (⟨"FoldedVoices", "shareOfLost", "()F"⟩, 8) := ⟨⟨by decide +kernel, by decide +kernel⟩, List.mem_of_getElem? (i := 22) (by decide +kernel), List.mem_of_getElem? (i := 395) (by decide +kernel), List.mem_of_getElem? (i := 396) (by decide +kernel)⟩
theorem lw_p2 : lw_okq (⟨"FoldedVoices", "tellCount", "(I)I"⟩, 8) := ⟨⟨by decide +kernel, by decide +kernel⟩, List.mem_of_getElem? (i := 22) (by decide +kernel), List.mem_of_getElem? (i := 404) (by decide +kernel), List.mem_of_getElem? (i := 405) (by decide +kernel)⟩
theorem lw_p3 : lw_okq (⟨"FoldedVoices", "tellWhy", "(LFoldedVoices$Voice;)I"⟩, 8) := ⟨⟨by decide +kernel, by decide +kernel⟩, List.mem_of_getElem? (i := 22) (by decide +kernel), List.mem_of_getElem? (i := 408) (by decide +kernel), List.mem_of_getElem? (i := 409) (by decide +kernel)⟩
theorem lw_p4 : lw_okq (⟨"FoldedVoices", "letAllCome", "(LFoldedVoices$Voice;)V"⟩, 8) := ⟨⟨by decide +kernel, by decide +kernel⟩, List.mem_of_getElem? (i := 22) (by decide +kernel), List.mem_of_getElem? (i := 412) (by decide +kernel), List.mem_of_getElem? (i := 413) (by decide +kernel)⟩
theorem lw_p5 : lw_okq (⟨"FoldedVoices$HearingEnd", "moveTo", "(LFoldedVoices$End;)V"⟩, 10) := ⟨⟨by decide +kernel, by decide +kernel⟩, List.mem_of_getElem? (i := 164) (by decide +kernel), List.mem_of_getElem? (i := 425) (by decide +kernel), List.mem_of_getElem? (i := 426) (by decide +kernel)⟩
theorem lw_p6 : lw_okq (⟨"FoldedVoices$HearingEnd", "noteHeard", "(I)V"⟩, 10) := ⟨⟨by decide +kernel, by decide +kernel⟩, List.mem_of_getElem? (i := 164) (by decide +kernel), List.mem_of_getElem? (i := 464) (by decide +kernel), List.mem_of_getElem? (i := 465) (by decide +kernel)⟩
theorem lw_p7 : lw_okq (⟨"FoldedVoices", "wouldAgree", "(LFoldedVoices$Voice;)Z"⟩, 8) := ⟨⟨by decide +kernel, by decide +kernel⟩, List.mem_of_getElem? (i := 22) (by decide +kernel), List.mem_of_getElem? (i := 468) (by decide +kernel), List.mem_of_getElem? (i := 469) (by decide +kernel)⟩
theorem lw_p8 : lw_okq (⟨"FoldedVoices", "withVoice", "(JLFoldedVoices$Voice;)J"⟩, 8) := ⟨⟨by decide +kernel, by decide +kernel⟩, List.mem_of_getElem? (i := 22) (by decide +kernel), List.mem_of_getElem? (i := 488) (by decide +kernel), List.mem_of_getElem? (i := 489) (by decide +kernel)⟩
theorem lw_p9 : lw_okq (⟨"FoldedVoices", "tellSaying", "(LFoldedVoices$Voice;I)I"⟩, 8) := ⟨⟨by decide +kernel, by decide +kernel⟩, List.mem_of_getElem? (i := 22) (by decide +kernel), List.mem_of_getElem? (i := 492) (by decide +kernel), List.mem_of_getElem? (i := 493) (by decide +kernel)⟩
theorem lw_p10 : lw_okq (⟨"FoldedVoices", "tellHearing", "(LFoldedVoices$Voice;I)I"⟩, 8) := ⟨⟨by decide +kernel, by decide +kernel⟩, List.mem_of_getElem? (i := 22) (by decide +kernel), List.mem_of_getElem? (i := 503) (by decide +kernel), List.mem_of_getElem? (i := 504) (by decide +kernel)⟩
theorem lw_p11 : lw_okq (⟨"FoldedVoices$Packet", "codesAsOne", "()I"⟩, 6) := ⟨⟨by decide +kernel, by decide +kernel⟩, List.mem_of_getElem? (i := 80) (by decide +kernel), List.mem_of_getElem? (i := 519) (by decide +kernel), List.mem_of_getElem? (i := 520) (by decide +kernel)⟩
theorem lw_p12 : lw_okq (⟨"FoldedVoices", "tellCode", "(LFoldedVoices$Voice;II)I"⟩, 8) := ⟨⟨by decide +kernel, by decide +kernel⟩, List.mem_of_getElem? (i := 22) (by decide +kernel), List.mem_of_getElem? (i := 524) (by decide +kernel), List.mem_of_getElem? (i := 525) (by decide +kernel)⟩
theorem lw_p13 : lw_okq (⟨"FoldedVoices", "codesToComeNear", "(LFoldedVoices$Voice;II)I"⟩, 8) := ⟨⟨by decide +kernel, by decide +kernel⟩, List.mem_of_getElem? (i := 22) (by decide +kernel), List.mem_of_getElem? (i := 538) (by decide +kernel), List.mem_of_getElem? (i := 539) (by decide +kernel)⟩
theorem lw_p14 : lw_okq (⟨"FoldedVoices", "tellIfAllCame", "(LFoldedVoices$Voice;I)I"⟩, 8) := ⟨⟨by decide +kernel, by decide +kernel⟩, List.mem_of_getElem? (i := 22) (by decide +kernel), List.mem_of_getElem? (i := 543) (by decide +kernel), List.mem_of_getElem? (i := 544) (by decide +kernel)⟩
theorem lw_p15 : lw_okq (⟨"FoldedVoices", "voiceOf", "(I)LFoldedVoices$Voice;"⟩, 8) := ⟨⟨by decide +kernel, by decide +kernel⟩, List.mem_of_getElem? (i := 22) (by decide +kernel), List.mem_of_getElem? (i := 573) (by decide +kernel), List.mem_of_getElem? (i := 574) (by decide +kernel)⟩
def lw_privs_1 : List (MethodName × Nat) := [(⟨"FoldedVoices", "sumOver", "(I)I"⟩, 8), (⟨"FoldedVoices", "shareOfLost", "()F"⟩, 8), (⟨"FoldedVoices", "tellCount", "(I)I"⟩, 8), (⟨"FoldedVoices", "tellWhy", "(LFoldedVoices$Voice;)I"⟩, 8), (⟨"FoldedVoices", "letAllCome", "(LFoldedVoices$Voice;)V"⟩, 8), (⟨"FoldedVoices$HearingEnd", "moveTo", "(LFoldedVoices$End;)V"⟩, 10), (⟨"FoldedVoices$HearingEnd", "noteHeard", "(I)V"⟩, 10), (⟨"FoldedVoices", "wouldAgree", "(LFoldedVoices$Voice;)Z"⟩, 8), (⟨"FoldedVoices", "withVoice", "(JLFoldedVoices$Voice;)J"⟩, 8), (⟨"FoldedVoices", "tellSaying", "(LFoldedVoices$Voice;I)I"⟩, 8), (⟨"FoldedVoices", "tellHearing", "(LFoldedVoices$Voice;I)I"⟩, 8), (⟨"FoldedVoices$Packet", "codesAsOne", "()I"⟩, 6), (⟨"FoldedVoices", "tellCode", "(LFoldedVoices$Voice;II)I"⟩, 8), (⟨"FoldedVoices", "codesToComeNear", "(LFoldedVoices$Voice;II)I"⟩, 8), (⟨"FoldedVoices", "tellIfAllCame", "(LFoldedVoices$Voice;I)I"⟩, 8), (⟨"FoldedVoices", "voiceOf", "(I)LFoldedVoices$Voice;"⟩, 8)]
theorem lw_r1 : ∀ q ∈ lw_privs_1, lw_okq q := List.forall_mem_cons.mpr ⟨lw_p0, List.forall_mem_cons.mpr ⟨lw_p1, List.forall_mem_cons.mpr ⟨lw_p2, List.forall_mem_cons.mpr ⟨lw_p3, List.forall_mem_cons.mpr ⟨lw_p4, List.forall_mem_cons.mpr ⟨lw_p5, List.forall_mem_cons.mpr ⟨lw_p6, List.forall_mem_cons.mpr ⟨lw_p7, List.forall_mem_cons.mpr ⟨lw_p8, List.forall_mem_cons.mpr ⟨lw_p9, List.forall_mem_cons.mpr ⟨lw_p10, List.forall_mem_cons.mpr ⟨lw_p11, List.forall_mem_cons.mpr ⟨lw_p12, List.forall_mem_cons.mpr ⟨lw_p13, List.forall_mem_cons.mpr ⟨lw_p14, List.forall_mem_cons.mpr ⟨lw_p15, fun _ h => absurd h List.not_mem_nil⟩⟩⟩⟩⟩⟩⟩⟩⟩⟩⟩⟩⟩⟩⟩⟩
theorem lw_p16 : lw_okq (⟨"java/lang/Throwable", "fillInStackTrace", "(I)Ljava/lang/Throwable;"⟩, 6) := ⟨⟨by decide +kernel, by decide +kernel⟩, List.mem_of_getElem? (i := 615) (by decide +kernel), List.mem_of_getElem? (i := 613) (by decide +kernel), List.mem_of_getElem? (i := 614) (by decide +kernel)⟩
theorem lw_p17 : lw_okq (⟨"FoldedVoices", "saveLive", "()V"⟩, 8) := ⟨⟨by decide +kernel, by decide +kernel⟩, List.mem_of_getElem? (i := 22) (by decide +kernel), List.mem_of_getElem? (i := 693) (by decide +kernel), List.mem_of_getElem? (i := 694) (by decide +kernel)⟩
theorem lw_p18 : lw_okq (⟨"FoldedVoices", "dropOldestSaved", "()V"⟩, 8) := ⟨⟨by decide +kernel, by decide +kernel⟩, List.mem_of_getElem? (i := 22) (by decide +kernel), List.mem_of_getElem? (i := 697) (by decide +kernel), List.mem_of_getElem? (i := 698) (by decide +kernel)⟩
theorem lw_p19 : lw_okq (⟨"FoldedVoices$SayingEnd", "rememberSinceHead", "(LFoldedVoices$Packet;)V"⟩, 11) := ⟨⟨by decide +kernel, by decide +kernel⟩, List.mem_of_getElem? (i := 54) (by decide +kernel), List.mem_of_getElem? (i := 732) (by decide +kernel), List.mem_of_getElem? (i := 733) (by decide +kernel)⟩
theorem lw_p20 : lw_okq (⟨"FoldedVoices$Voice", "takeFirstOff", "()V"⟩, 5) := ⟨⟨by decide +kernel, by decide +kernel⟩, List.mem_of_getElem? (i := 48) (by decide +kernel), List.mem_of_getElem? (i := 763) (by decide +kernel), List.mem_of_getElem? (i := 764) (by decide +kernel)⟩
theorem lw_p21 : lw_okq (⟨"FoldedVoices$TalkText", "readSample", "()V"⟩, 7) := ⟨⟨by decide +kernel, by decide +kernel⟩, List.mem_of_getElem? (i := 244) (by decide +kernel), List.mem_of_getElem? (i := 850) (by decide +kernel), List.mem_of_getElem? (i := 851) (by decide +kernel)⟩
theorem lw_p22 : lw_okq (⟨"FoldedVoices", "canDo", "(CLFoldedVoices$Voice;)Z"⟩, 8) := ⟨⟨by decide +kernel, by decide +kernel⟩, List.mem_of_getElem? (i := 22) (by decide +kernel), List.mem_of_getElem? (i := 854) (by decide +kernel), List.mem_of_getElem? (i := 855) (by decide +kernel)⟩
theorem lw_p23 : lw_okq (⟨"FoldedVoices", "doDeed", "(CLFoldedVoices$Voice;I)V"⟩, 8) := ⟨⟨by decide +kernel, by decide +kernel⟩, List.mem_of_getElem? (i := 22) (by decide +kernel), List.mem_of_getElem? (i := 858) (by decide +kernel), List.mem_of_getElem? (i := 859) (by decide +kernel)⟩
theorem lw_p24 : lw_okq (⟨"FoldedVoicesModel", "fails", "(I)I"⟩, 16) := ⟨⟨by decide +kernel, by decide +kernel⟩, List.mem_of_getElem? (i := 958) (by decide +kernel), List.mem_of_getElem? (i := 1027) (by decide +kernel), List.mem_of_getElem? (i := 1028) (by decide +kernel)⟩
theorem lw_p25 : lw_okq (⟨"FoldedVoicesModel", "canSay", "(I)Z"⟩, 16) := ⟨⟨by decide +kernel, by decide +kernel⟩, List.mem_of_getElem? (i := 958) (by decide +kernel), List.mem_of_getElem? (i := 1034) (by decide +kernel), List.mem_of_getElem? (i := 1035) (by decide +kernel)⟩
theorem lw_p26 : lw_okq (⟨"FoldedVoicesModel", "of", "(II)I"⟩, 16) := ⟨⟨by decide +kernel, by decide +kernel⟩, List.mem_of_getElem? (i := 958) (by decide +kernel), List.mem_of_getElem? (i := 1038) (by decide +kernel), List.mem_of_getElem? (i := 1039) (by decide +kernel)⟩
theorem lw_p27 : lw_okq (⟨"FoldedVoicesModel", "makesCode", "(I)Z"⟩, 16) := ⟨⟨by decide +kernel, by decide +kernel⟩, List.mem_of_getElem? (i := 958) (by decide +kernel), List.mem_of_getElem? (i := 1042) (by decide +kernel), List.mem_of_getElem? (i := 1043) (by decide +kernel)⟩
theorem lw_p28 : lw_okq (⟨"FoldedVoicesModel", "save", "()V"⟩, 16) := ⟨⟨by decide +kernel, by decide +kernel⟩, List.mem_of_getElem? (i := 958) (by decide +kernel), List.mem_of_getElem? (i := 1046) (by decide +kernel), List.mem_of_getElem? (i := 1047) (by decide +kernel)⟩
theorem lw_p29 : lw_okq (⟨"FoldedVoicesModel", "sayNow", "(II)I"⟩, 16) := ⟨⟨by decide +kernel, by decide +kernel⟩, List.mem_of_getElem? (i := 958) (by decide +kernel), List.mem_of_getElem? (i := 1050) (by decide +kernel), List.mem_of_getElem? (i := 1051) (by decide +kernel)⟩
theorem lw_p30 : lw_okq (⟨"FoldedVoicesModel", "add", "(III)V"⟩, 16) := ⟨⟨by decide +kernel, by decide +kernel⟩, List.mem_of_getElem? (i := 958) (by decide +kernel), List.mem_of_getElem? (i := 1054) (by decide +kernel), List.mem_of_getElem? (i := 1055) (by decide +kernel)⟩
theorem lw_p31 : lw_okq (⟨"FoldedVoicesModel", "makeCode", "(I)I"⟩, 16) := ⟨⟨by decide +kernel, by decide +kernel⟩, List.mem_of_getElem? (i := 958) (by decide +kernel), List.mem_of_getElem? (i := 1058) (by decide +kernel), List.mem_of_getElem? (i := 1059) (by decide +kernel)⟩
def lw_privs_2 : List (MethodName × Nat) := [(⟨"java/lang/Throwable", "fillInStackTrace", "(I)Ljava/lang/Throwable;"⟩, 6), (⟨"FoldedVoices", "saveLive", "()V"⟩, 8), (⟨"FoldedVoices", "dropOldestSaved", "()V"⟩, 8), (⟨"FoldedVoices$SayingEnd", "rememberSinceHead", "(LFoldedVoices$Packet;)V"⟩, 11), (⟨"FoldedVoices$Voice", "takeFirstOff", "()V"⟩, 5), (⟨"FoldedVoices$TalkText", "readSample", "()V"⟩, 7), (⟨"FoldedVoices", "canDo", "(CLFoldedVoices$Voice;)Z"⟩, 8), (⟨"FoldedVoices", "doDeed", "(CLFoldedVoices$Voice;I)V"⟩, 8), (⟨"FoldedVoicesModel", "fails", "(I)I"⟩, 16), (⟨"FoldedVoicesModel", "canSay", "(I)Z"⟩, 16), (⟨"FoldedVoicesModel", "of", "(II)I"⟩, 16), (⟨"FoldedVoicesModel", "makesCode", "(I)Z"⟩, 16), (⟨"FoldedVoicesModel", "save", "()V"⟩, 16), (⟨"FoldedVoicesModel", "sayNow", "(II)I"⟩, 16), (⟨"FoldedVoicesModel", "add", "(III)V"⟩, 16), (⟨"FoldedVoicesModel", "makeCode", "(I)I"⟩, 16)]
theorem lw_r2 : ∀ q ∈ lw_privs_2, lw_okq q := List.forall_mem_cons.mpr ⟨lw_p16, List.forall_mem_cons.mpr ⟨lw_p17, List.forall_mem_cons.mpr ⟨lw_p18, List.forall_mem_cons.mpr ⟨lw_p19, List.forall_mem_cons.mpr ⟨lw_p20, List.forall_mem_cons.mpr ⟨lw_p21, List.forall_mem_cons.mpr ⟨lw_p22, List.forall_mem_cons.mpr ⟨lw_p23, List.forall_mem_cons.mpr ⟨lw_p24, List.forall_mem_cons.mpr ⟨lw_p25, List.forall_mem_cons.mpr ⟨lw_p26, List.forall_mem_cons.mpr ⟨lw_p27, List.forall_mem_cons.mpr ⟨lw_p28, List.forall_mem_cons.mpr ⟨lw_p29, List.forall_mem_cons.mpr ⟨lw_p30, List.forall_mem_cons.mpr ⟨lw_p31, fun _ h => absurd h List.not_mem_nil⟩⟩⟩⟩⟩⟩⟩⟩⟩⟩⟩⟩⟩⟩⟩⟩
theorem lw_p32 : lw_okq (⟨"FoldedVoicesModel", "put", "(III)V"⟩, 16) := ⟨⟨by decide +kernel, by decide +kernel⟩, List.mem_of_getElem? (i := 958) (by decide +kernel), List.mem_of_getElem? (i := 1065) (by decide +kernel), List.mem_of_getElem? (i := 1066) (by decide +kernel)⟩
theorem lw_p33 : lw_okq (⟨"FoldedVoicesModel", "codeOf", "(III)I"⟩, 16) := ⟨⟨by decide +kernel, by decide +kernel⟩, List.mem_of_getElem? (i := 958) (by decide +kernel), List.mem_of_getElem? (i := 1069) (by decide +kernel), List.mem_of_getElem? (i := 1070) (by decide +kernel)⟩
theorem lw_p34 : lw_okq (⟨"FoldedVoicesModel", "follow", "(III)V"⟩, 16) := ⟨⟨by decide +kernel, by decide +kernel⟩, List.mem_of_getElem? (i := 958) (by decide +kernel), List.mem_of_getElem? (i := 1073) (by decide +kernel), List.mem_of_getElem? (i := 1074) (by decide +kernel)⟩
theorem lw_p35 : lw_okq (⟨"FoldedVoicesModel", "guessBehind", "(III)I"⟩, 16) := ⟨⟨by decide +kernel, by decide +kernel⟩, List.mem_of_getElem? (i := 958) (by decide +kernel), List.mem_of_getElem? (i := 1077) (by decide +kernel), List.mem_of_getElem? (i := 1078) (by decide +kernel)⟩
theorem lw_p36 : lw_okq (⟨"FoldedVoicesModel", "makePacket", "(I)V"⟩, 16) := ⟨⟨by decide +kernel, by decide +kernel⟩, List.mem_of_getElem? (i := 958) (by decide +kernel), List.mem_of_getElem? (i := 1084) (by decide +kernel), List.mem_of_getElem? (i := 1085) (by decide +kernel)⟩
theorem lw_p37 : lw_okq (⟨"FoldedVoicesModel", "deliverNow", "(I)I"⟩, 16) := ⟨⟨by decide +kernel, by decide +kernel⟩, List.mem_of_getElem? (i := 958) (by decide +kernel), List.mem_of_getElem? (i := 1099) (by decide +kernel), List.mem_of_getElem? (i := 1100) (by decide +kernel)⟩
theorem lw_p38 : lw_okq (⟨"FoldedVoicesModel", "takeFirst", "(I)V"⟩, 16) := ⟨⟨by decide +kernel, by decide +kernel⟩, List.mem_of_getElem? (i := 958) (by decide +kernel), List.mem_of_getElem? (i := 1103) (by decide +kernel), List.mem_of_getElem? (i := 1104) (by decide +kernel)⟩
theorem lw_p39 : lw_okq (⟨"FoldedVoicesModel", "takeHead", "(III)V"⟩, 16) := ⟨⟨by decide +kernel, by decide +kernel⟩, List.mem_of_getElem? (i := 958) (by decide +kernel), List.mem_of_getElem? (i := 1107) (by decide +kernel), List.mem_of_getElem? (i := 1108) (by decide +kernel)⟩
theorem lw_p40 : lw_okq (⟨"FoldedVoicesModel", "hear", "(III)V"⟩, 16) := ⟨⟨by decide +kernel, by decide +kernel⟩, List.mem_of_getElem? (i := 958) (by decide +kernel), List.mem_of_getElem? (i := 1111) (by decide +kernel), List.mem_of_getElem? (i := 1112) (by decide +kernel)⟩
theorem lw_p41 : lw_okq (⟨"FoldedVoicesModel", "loseNow", "(I)I"⟩, 16) := ⟨⟨by decide +kernel, by decide +kernel⟩, List.mem_of_getElem? (i := 958) (by decide +kernel), List.mem_of_getElem? (i := 1119) (by decide +kernel), List.mem_of_getElem? (i := 1120) (by decide +kernel)⟩
theorem lw_p42 : lw_okq (⟨"FoldedVoicesModel", "swapNow", "(I)I"⟩, 16) := ⟨⟨by decide +kernel, by decide +kernel⟩, List.mem_of_getElem? (i := 958) (by decide +kernel), List.mem_of_getElem? (i := 1127) (by decide +kernel), List.mem_of_getElem? (i := 1128) (by decide +kernel)⟩
theorem lw_p43 : lw_okq (⟨"FoldedVoicesModel", "isTalk", "()Z"⟩, 16) := ⟨⟨by decide +kernel, by decide +kernel⟩, List.mem_of_getElem? (i := 958) (by decide +kernel), List.mem_of_getElem? (i := 1150) (by decide +kernel), List.mem_of_getElem? (i := 1151) (by decide +kernel)⟩
theorem lw_p44 : lw_okq (⟨"FoldedVoicesModel", "readPart", "()Z"⟩, 16) := ⟨⟨by decide +kernel, by decide +kernel⟩, List.mem_of_getElem? (i := 958) (by decide +kernel), List.mem_of_getElem? (i := 1154) (by decide +kernel), List.mem_of_getElem? (i := 1155) (by decide +kernel)⟩
theorem lw_p45 : lw_okq (⟨"FoldedVoicesModel", "takes", "(II)Z"⟩, 16) := ⟨⟨by decide +kernel, by decide +kernel⟩, List.mem_of_getElem? (i := 958) (by decide +kernel), List.mem_of_getElem? (i := 1158) (by decide +kernel), List.mem_of_getElem? (i := 1159) (by decide +kernel)⟩
theorem lw_p46 : lw_okq (⟨"FoldedVoicesModel", "isAt", "(II)Z"⟩, 16) := ⟨⟨by decide +kernel, by decide +kernel⟩, List.mem_of_getElem? (i := 958) (by decide +kernel), List.mem_of_getElem? (i := 1162) (by decide +kernel), List.mem_of_getElem? (i := 1163) (by decide +kernel)⟩
theorem lw_p47 : lw_okq (⟨"FoldedVoicesModel", "readSamples", "()Z"⟩, 16) := ⟨⟨by decide +kernel, by decide +kernel⟩, List.mem_of_getElem? (i := 958) (by decide +kernel), List.mem_of_getElem? (i := 1166) (by decide +kernel), List.mem_of_getElem? (i := 1167) (by decide +kernel)⟩
def lw_privs_3 : List (MethodName × Nat) := [(⟨"FoldedVoicesModel", "put", "(III)V"⟩, 16), (⟨"FoldedVoicesModel", "codeOf", "(III)I"⟩, 16), (⟨"FoldedVoicesModel", "follow", "(III)V"⟩, 16), (⟨"FoldedVoicesModel", "guessBehind", "(III)I"⟩, 16), (⟨"FoldedVoicesModel", "makePacket", "(I)V"⟩, 16), (⟨"FoldedVoicesModel", "deliverNow", "(I)I"⟩, 16), (⟨"FoldedVoicesModel", "takeFirst", "(I)V"⟩, 16), (⟨"FoldedVoicesModel", "takeHead", "(III)V"⟩, 16), (⟨"FoldedVoicesModel", "hear", "(III)V"⟩, 16), (⟨"FoldedVoicesModel", "loseNow", "(I)I"⟩, 16), (⟨"FoldedVoicesModel", "swapNow", "(I)I"⟩, 16), (⟨"FoldedVoicesModel", "isTalk", "()Z"⟩, 16), (⟨"FoldedVoicesModel", "readPart", "()Z"⟩, 16), (⟨"FoldedVoicesModel", "takes", "(II)Z"⟩, 16), (⟨"FoldedVoicesModel", "isAt", "(II)Z"⟩, 16), (⟨"FoldedVoicesModel", "readSamples", "()Z"⟩, 16)]
theorem lw_r3 : ∀ q ∈ lw_privs_3, lw_okq q := List.forall_mem_cons.mpr ⟨lw_p32, List.forall_mem_cons.mpr ⟨lw_p33, List.forall_mem_cons.mpr ⟨lw_p34, List.forall_mem_cons.mpr ⟨lw_p35, List.forall_mem_cons.mpr ⟨lw_p36, List.forall_mem_cons.mpr ⟨lw_p37, List.forall_mem_cons.mpr ⟨lw_p38, List.forall_mem_cons.mpr ⟨lw_p39, List.forall_mem_cons.mpr ⟨lw_p40, List.forall_mem_cons.mpr ⟨lw_p41, List.forall_mem_cons.mpr ⟨lw_p42, List.forall_mem_cons.mpr ⟨lw_p43, List.forall_mem_cons.mpr ⟨lw_p44, List.forall_mem_cons.mpr ⟨lw_p45, List.forall_mem_cons.mpr ⟨lw_p46, List.forall_mem_cons.mpr ⟨lw_p47, fun _ h => absurd h List.not_mem_nil⟩⟩⟩⟩⟩⟩⟩⟩⟩⟩⟩⟩⟩⟩⟩⟩
theorem lw_p48 : lw_okq (⟨"FoldedVoicesModel", "readSample", "(I)Z"⟩, 16) := ⟨⟨by decide +kernel, by decide +kernel⟩, List.mem_of_getElem? (i := 958) (by decide +kernel), List.mem_of_getElem? (i := 1170) (by decide +kernel), List.mem_of_getElem? (i := 1171) (by decide +kernel)⟩
theorem lw_p49 : lw_okq (⟨"FoldedVoicesModel", "addDeed", "(III)V"⟩, 16) := ⟨⟨by decide +kernel, by decide +kernel⟩, List.mem_of_getElem? (i := 958) (by decide +kernel), List.mem_of_getElem? (i := 1174) (by decide +kernel), List.mem_of_getElem? (i := 1175) (by decide +kernel)⟩
theorem lw_p50 : lw_okq (⟨"FoldedVoicesModel", "canDo", "(I)Z"⟩, 16) := ⟨⟨by decide +kernel, by decide +kernel⟩, List.mem_of_getElem? (i := 958) (by decide +kernel), List.mem_of_getElem? (i := 1182) (by decide +kernel), List.mem_of_getElem? (i := 1183) (by decide +kernel)⟩
theorem lw_p51 : lw_okq (⟨"FoldedVoicesModel", "doDeed", "(I)I"⟩, 16) := ⟨⟨by decide +kernel, by decide +kernel⟩, List.mem_of_getElem? (i := 958) (by decide +kernel), List.mem_of_getElem? (i := 1186) (by decide +kernel), List.mem_of_getElem? (i := 1187) (by decide +kernel)⟩
theorem lw_p52 : lw_okq (⟨"FoldedVoicesModel", "ofSaying", "(II)I"⟩, 16) := ⟨⟨by decide +kernel, by decide +kernel⟩, List.mem_of_getElem? (i := 958) (by decide +kernel), List.mem_of_getElem? (i := 1206) (by decide +kernel), List.mem_of_getElem? (i := 1207) (by decide +kernel)⟩
theorem lw_p53 : lw_okq (⟨"FoldedVoicesModel", "ofHearing", "(II)I"⟩, 16) := ⟨⟨by decide +kernel, by decide +kernel⟩, List.mem_of_getElem? (i := 958) (by decide +kernel), List.mem_of_getElem? (i := 1214) (by decide +kernel), List.mem_of_getElem? (i := 1215) (by decide +kernel)⟩
theorem lw_p54 : lw_okq (⟨"FoldedVoicesModel", "ofPacket", "(III)I"⟩, 16) := ⟨⟨by decide +kernel, by decide +kernel⟩, List.mem_of_getElem? (i := 958) (by decide +kernel), List.mem_of_getElem? (i := 1222) (by decide +kernel), List.mem_of_getElem? (i := 1223) (by decide +kernel)⟩
theorem lw_p55 : lw_okq (⟨"FoldedVoicesModel", "reason", "(I)I"⟩, 16) := ⟨⟨by decide +kernel, by decide +kernel⟩, List.mem_of_getElem? (i := 958) (by decide +kernel), List.mem_of_getElem? (i := 1230) (by decide +kernel), List.mem_of_getElem? (i := 1231) (by decide +kernel)⟩
theorem lw_p56 : lw_okq (⟨"FoldedVoicesModel", "putAside", "()V"⟩, 16) := ⟨⟨by decide +kernel, by decide +kernel⟩, List.mem_of_getElem? (i := 958) (by decide +kernel), List.mem_of_getElem? (i := 1234) (by decide +kernel), List.mem_of_getElem? (i := 1235) (by decide +kernel)⟩
theorem lw_p57 : lw_okq (⟨"FoldedVoicesModel", "deliverAll", "(I)V"⟩, 16) := ⟨⟨by decide +kernel, by decide +kernel⟩, List.mem_of_getElem? (i := 958) (by decide +kernel), List.mem_of_getElem? (i := 1238) (by decide +kernel), List.mem_of_getElem? (i := 1239) (by decide +kernel)⟩
theorem lw_p58 : lw_okq (⟨"FoldedVoicesModel", "putBack", "()V"⟩, 16) := ⟨⟨by decide +kernel, by decide +kernel⟩, List.mem_of_getElem? (i := 958) (by decide +kernel), List.mem_of_getElem? (i := 1242) (by decide +kernel), List.mem_of_getElem? (i := 1243) (by decide +kernel)⟩
theorem lw_p59 : lw_okq (⟨"FoldedVoicesModel", "number", "(I)I"⟩, 16) := ⟨⟨by decide +kernel, by decide +kernel⟩, List.mem_of_getElem? (i := 958) (by decide +kernel), List.mem_of_getElem? (i := 1250) (by decide +kernel), List.mem_of_getElem? (i := 1251) (by decide +kernel)⟩
theorem lw_p60 : lw_okq (⟨"FoldedVoicesModel", "sum", "(I)I"⟩, 16) := ⟨⟨by decide +kernel, by decide +kernel⟩, List.mem_of_getElem? (i := 958) (by decide +kernel), List.mem_of_getElem? (i := 1254) (by decide +kernel), List.mem_of_getElem? (i := 1255) (by decide +kernel)⟩
theorem lw_p61 : lw_okq (⟨"FoldedVoicesModel", "agreeing", "()I"⟩, 16) := ⟨⟨by decide +kernel, by decide +kernel⟩, List.mem_of_getElem? (i := 958) (by decide +kernel), List.mem_of_getElem? (i := 1258) (by decide +kernel), List.mem_of_getElem? (i := 1259) (by decide +kernel)⟩
theorem lw_p62 : lw_okq (⟨"FoldedVoicesModel", "ofCode", "(III)I"⟩, 16) := ⟨⟨by decide +kernel, by decide +kernel⟩, List.mem_of_getElem? (i := 958) (by decide +kernel), List.mem_of_getElem? (i := 1270) (by decide +kernel), List.mem_of_getElem? (i := 1271) (by decide +kernel)⟩
theorem lw_p63 : lw_okq (⟨"FoldedVoicesModel", "nearestCode", "(III)I"⟩, 16) := ⟨⟨by decide +kernel, by decide +kernel⟩, List.mem_of_getElem? (i := 958) (by decide +kernel), List.mem_of_getElem? (i := 1274) (by decide +kernel), List.mem_of_getElem? (i := 1275) (by decide +kernel)⟩
def lw_privs_4 : List (MethodName × Nat) := [(⟨"FoldedVoicesModel", "readSample", "(I)Z"⟩, 16), (⟨"FoldedVoicesModel", "addDeed", "(III)V"⟩, 16), (⟨"FoldedVoicesModel", "canDo", "(I)Z"⟩, 16), (⟨"FoldedVoicesModel", "doDeed", "(I)I"⟩, 16), (⟨"FoldedVoicesModel", "ofSaying", "(II)I"⟩, 16), (⟨"FoldedVoicesModel", "ofHearing", "(II)I"⟩, 16), (⟨"FoldedVoicesModel", "ofPacket", "(III)I"⟩, 16), (⟨"FoldedVoicesModel", "reason", "(I)I"⟩, 16), (⟨"FoldedVoicesModel", "putAside", "()V"⟩, 16), (⟨"FoldedVoicesModel", "deliverAll", "(I)V"⟩, 16), (⟨"FoldedVoicesModel", "putBack", "()V"⟩, 16), (⟨"FoldedVoicesModel", "number", "(I)I"⟩, 16), (⟨"FoldedVoicesModel", "sum", "(I)I"⟩, 16), (⟨"FoldedVoicesModel", "agreeing", "()I"⟩, 16), (⟨"FoldedVoicesModel", "ofCode", "(III)I"⟩, 16), (⟨"FoldedVoicesModel", "nearestCode", "(III)I"⟩, 16)]
theorem lw_r4 : ∀ q ∈ lw_privs_4, lw_okq q := List.forall_mem_cons.mpr ⟨lw_p48, List.forall_mem_cons.mpr ⟨lw_p49, List.forall_mem_cons.mpr ⟨lw_p50, List.forall_mem_cons.mpr ⟨lw_p51, List.forall_mem_cons.mpr ⟨lw_p52, List.forall_mem_cons.mpr ⟨lw_p53, List.forall_mem_cons.mpr ⟨lw_p54, List.forall_mem_cons.mpr ⟨lw_p55, List.forall_mem_cons.mpr ⟨lw_p56, List.forall_mem_cons.mpr ⟨lw_p57, List.forall_mem_cons.mpr ⟨lw_p58, List.forall_mem_cons.mpr ⟨lw_p59, List.forall_mem_cons.mpr ⟨lw_p60, List.forall_mem_cons.mpr ⟨lw_p61, List.forall_mem_cons.mpr ⟨lw_p62, List.forall_mem_cons.mpr ⟨lw_p63, fun _ h => absurd h List.not_mem_nil⟩⟩⟩⟩⟩⟩⟩⟩⟩⟩⟩⟩⟩⟩⟩⟩
theorem lw_p64 : lw_okq (⟨"FoldedVoicesModel", "settledBehind", "(III)I"⟩, 16) := ⟨⟨by decide +kernel, by decide +kernel⟩, List.mem_of_getElem? (i := 958) (by decide +kernel), List.mem_of_getElem? (i := 1282) (by decide +kernel), List.mem_of_getElem? (i := 1283) (by decide +kernel)⟩
theorem lw_p65 : lw_okq (⟨"FoldedVoicesModel", "delivered", "(II)I"⟩, 16) := ⟨⟨by decide +kernel, by decide +kernel⟩, List.mem_of_getElem? (i := 958) (by decide +kernel), List.mem_of_getElem? (i := 1290) (by decide +kernel), List.mem_of_getElem? (i := 1291) (by decide +kernel)⟩
theorem lw_p66 : lw_okq (⟨"FoldedVoicesModel", "mean", "(I)D"⟩, 16) := ⟨⟨by decide +kernel, by decide +kernel⟩, List.mem_of_getElem? (i := 958) (by decide +kernel), List.mem_of_getElem? (i := 1298) (by decide +kernel), List.mem_of_getElem? (i := 1299) (by decide +kernel)⟩
theorem lw_p67 : lw_okq (⟨"FoldedVoicesModel", "share", "()F"⟩, 16) := ⟨⟨by decide +kernel, by decide +kernel⟩, List.mem_of_getElem? (i := 958) (by decide +kernel), List.mem_of_getElem? (i := 1306) (by decide +kernel), List.mem_of_getElem? (i := 1307) (by decide +kernel)⟩
theorem lw_p68 : lw_okq (⟨"FoldedVoicesModel", "mix", "(J)V"⟩, 16) := ⟨⟨by decide +kernel, by decide +kernel⟩, List.mem_of_getElem? (i := 958) (by decide +kernel), List.mem_of_getElem? (i := 1315) (by decide +kernel), List.mem_of_getElem? (i := 1316) (by decide +kernel)⟩
theorem lw_p69 : lw_okq (⟨"FoldedVoicesModel", "mixVoice", "(I)V"⟩, 16) := ⟨⟨by decide +kernel, by decide +kernel⟩, List.mem_of_getElem? (i := 958) (by decide +kernel), List.mem_of_getElem? (i := 1320) (by decide +kernel), List.mem_of_getElem? (i := 1321) (by decide +kernel)⟩
def lw_privs_5 : List (MethodName × Nat) := [(⟨"FoldedVoicesModel", "settledBehind", "(III)I"⟩, 16), (⟨"FoldedVoicesModel", "delivered", "(II)I"⟩, 16), (⟨"FoldedVoicesModel", "mean", "(I)D"⟩, 16), (⟨"FoldedVoicesModel", "share", "()F"⟩, 16), (⟨"FoldedVoicesModel", "mix", "(J)V"⟩, 16), (⟨"FoldedVoicesModel", "mixVoice", "(I)V"⟩, 16)]
theorem lw_r5 : ∀ q ∈ lw_privs_5, lw_okq q := List.forall_mem_cons.mpr ⟨lw_p64, List.forall_mem_cons.mpr ⟨lw_p65, List.forall_mem_cons.mpr ⟨lw_p66, List.forall_mem_cons.mpr ⟨lw_p67, List.forall_mem_cons.mpr ⟨lw_p68, List.forall_mem_cons.mpr ⟨lw_p69, fun _ h => absurd h List.not_mem_nil⟩⟩⟩⟩⟩⟩
def lw_privs : List (MethodName × Nat) := lw_privs_1 ++ (lw_privs_2 ++ (lw_privs_3 ++ (lw_privs_4 ++ (lw_privs_5))))
def lw_tbl : List Cond := k2_sels lw_privs ++ tables_1
theorem lw_privs_ok : ∀ q ∈ lw_privs, lw_okq q := by
  show ∀ q ∈ lw_privs_1 ++ (lw_privs_2 ++ (lw_privs_3 ++ (lw_privs_4 ++ (lw_privs_5)))), lw_okq q
  exact List.forall_mem_append.mpr ⟨lw_r1, List.forall_mem_append.mpr ⟨lw_r2, List.forall_mem_append.mpr ⟨lw_r3, List.forall_mem_append.mpr ⟨lw_r4, lw_r5⟩⟩⟩⟩
/-- the streams that the claim lets the run draw from -/
abbrev lw_cs : List Choice := [Jvm.Choice.named "NaN.bits"]
theorem lw_bits : nanBits ∈ lw_cs := by first | decide | exact List.mem_cons_self | simp [lw_cs, nanBits]
-- ===== end of PART A; then your names; then what follows =====
end
section
/-! ===== BEGIN words of one list among another's, by their places ===== -/
theorem goodIn_r {big : List Cond} (ws : List Cond) (ps : List Nat) (hp : ws = ps.filterMap (fun i => big[i]?)) (h : ws.all goodWord = true) : GoodIn big ws := by
  intro w hw
  have h1 := List.all_eq_true.mp h w hw
  rw [hp] at hw
  obtain ⟨i, -, hi⟩ := List.mem_filterMap.mp hw
  have hm : w ∈ big := by first | exact List.mem_of_getElem? hi | exact List.getElem?_mem hi
  exact ⟨hm, good_of_word h1⟩
theorem goodIn_app {big a b : List Cond} (ha : GoodIn big a) (hb : GoodIn big b) : GoodIn big (a ++ b) := fun w h => (List.mem_append.mp h).elim (ha w) (hb w)
theorem goodIn_ca {big a b : List Cond} {c : Cond} (ha : GoodIn big (c :: a)) (hb : GoodIn big b) : GoodIn big (c :: (a ++ b)) := fun w h => (List.mem_cons.mp h).elim (fun e => ha w (List.mem_cons.mpr (Or.inl e))) (fun h => (List.mem_append.mp h).elim (fun h => ha w (List.mem_cons.mpr (Or.inr h))) (hb w))
theorem goodIn_sub {big ws : List Cond} (hm : ∀ w ∈ ws, w ∈ big) (h : ws.all goodWord = true) : GoodIn big ws := fun w hw => ⟨hm w hw, good_of_word (List.all_eq_true.mp h w hw)⟩
/-! ===== END ===== -/

/-! ===== BEGIN exceptions that leave a method, and their catching by the caller (launches without stack traces) ===== -/
section VXA
/-! The laws vx_back, vx_callV, vx_callS, vx_callSW, vx_throw0, vx_throwS follow proofs of the library, with one case more: JvmDerived/Free/Laws.lean (Back.of_free), Shelf42/LK1.lean (callV, callS), Shelf/KitTraced.lean (throwNew0V, throwNewS). -/
/-- where a method has thrown q: the class by its name, the cell, what was written, the world -/
def vx_T (XC : String → State → State → Prop) (st : State) (q : Addr) (t : State) (mc ms : Nat) (free : Addr → Prop) : Prop :=
  ∃ (E : String) (ce : Cell) (L : List Loc), XC E st t ∧ t.heap[q]? = some ce ∧ ce.vm = .none ∧ st.vm.findClass E = some ce.cls ∧ st.WarmedH t.vm ∧ st.sameButNew ({ t with vm := st.vm } : State) L mc ms ∧ ∀ z ∈ L, free z.base
def vx_Q (Qc : Array Value → State → Outcome → State → Prop) (XC : String → State → State → Prop) (mc ms : Nat) (free : Addr → Prop) : Array Value → State → Outcome → State → Prop := fun a st o t =>
  (Qc a st o t ∧ ∃ L, FrameEnd st o t L mc ms ∧ ∀ q ∈ L, free q.base) ∨ ∃ q, o = .threw q ∧ vx_T XC st q t mc ms free
/-- a callee that returns or throws -/
def vx_Met (l : Launch) (y : MethodName) (ws : List Cond) (rm : Room) (Pc : Array Value → State → Prop) (Qc : Array Value → State → Outcome → State → Prop) (XC : String → State → State → Prop) (mc ms : Nat) (free : Addr → Prop) : Prop :=
  MetFree l y (headSpec ws rm) Pc (fun _ _ _ _ _ => True) (vx_Q Qc XC mc ms free)
def vx_Post (XC : String → State → State → Prop) (mc ms : Nat) (free : Addr → Prop) : Pt → Array Value → Addr → Pt → Prop := fun A a q B =>
  ∃ (g : JFrame) (mk : MethodId) (t : State) (L : List Loc) (E : String) (ce : Cell), B.U.heap = t.heap ∧ B.U.vm = t.vm ∧ XC E (A.U.calling g mk a) t ∧ t.heap[q]? = some ce ∧ ce.vm = .none ∧ A.U.vm.findClass E = some ce.cls ∧ B.locs = A.locs ++ L ∧ (∀ z ∈ L, free z.base) ∧ B.cells = A.cells + mc ∧ B.slots = A.slots + ms
def vx_Back (l : Launch) (R : Room) (p : Program) (e : Env) (below : List Frame) (s : State) (sargs : Array Value) (y : MethodName) (len W9 : Nat)
    (Pre : Pt → Array Value → Prop) (Post : Pt → Array Value → Option Value → Pt → Prop) (PostX : Pt → Array Value → Addr → Pt → Prop) : Prop :=
  ∀ (m : MethodId) (meth : Method) (c : Code) (A : Pt) (g : JFrame) (ig : Instr) (mk : MethodId) (a : Array Value),
    Stand p l e R s m sargs below meth c A.U A.locs A.cells A.slots → g.method = m → g.locals.size = c.maxLocals → decode c.code g.pc = .ok (ig, len) →
    2 * g.monitorRoom + (g.stack.map fun v => v.category).sum ≤ W9 → A.U.methodNamed? y = some mk → Pre A a →
    (∃ (v : Option Value) (B : Pt), Stand p l e R s m sargs below meth c B.U B.locs B.cells B.slots ∧ Post A a v B ∧
      Steps p.tables e below (doInvoke e (A.U.setTop g) [] mk a).1 (B.U.setTop { g with pc := g.pc + len, stack := v.toList ++ g.stack })) ∨
    (∃ (q : Addr) (B : Pt), Stand p l e R s m sargs below meth c B.U B.locs B.cells B.slots ∧ PostX A a q B ∧
      Steps p.tables e below (doInvoke e (A.U.setTop g) [] mk a).1 ((B.U.setTop g).pushFrame (.throwing q)))
section Payer
variable {l : Launch} {R : Room} {p : Program} {e : Env} {below : List Frame} {s : State} {sargs : Array Value} {y : MethodName} {len W9 : Nat}
theorem vx_back {ws : List Cond} {rm : Room} {Pc : Array Value → State → Prop} {Qc : Array Value → State → Outcome → State → Prop} {XC : String → State → State → Prop} {mc ms : Nat} {free : Addr → Prop} {bytes : ByteArray} {maxL : Nat} {ret : Option FieldType}
    (hM : vx_Met l y ws rm Pc Qc XC mc ms free) (hblind : FrameBlind Pc) (hrc : rm.cells = mc) (hrs : rm.slots = ms)
    (hframes : rm.frames + 1 ≤ R.frames) (hlocals : W9 + (maxL + 11) + rm.locals ≤ R.locals)
    (hws : ∀ w ∈ ws, ∀ a' U, s.WarmedH U.vm → w.before a' U = true) (hcode : Cond.code y bytes maxL ret ∈ ws) (hinit : ∀ a' U, s.WarmedH U.vm → (Cond.initialized y.cls).before a' U = true) :
    vx_Back l R p e below s sargs y len W9 (PreOf R mc ms Pc) (PostOf Qc mc ms free) (vx_Post XC mc ms free) := by
  intro m meth c A g ig mk a X hg hsize hdg hW hn hp
  have h1 : (headSpec ws rm).pre.before a A.U = true := atoms_intro fun w hw => hws w hw _ _ X.warmed
  have h2 : (Cond.code y bytes maxL ret).before a A.U = true := hws _ hcode _ _ X.warmed
  have h3 : (Cond.initialized y.cls).before a A.U = true := hinit _ _ X.warmed
  have h4 : A.cells + (headSpec ws rm).room.cells ≤ R.cells := by rw [show (headSpec ws rm).room.cells = mc from hrc]; exact hp.1
  have h5 : A.slots + (headSpec ws rm).room.slots ≤ R.slots := by rw [show (headSpec ws rm).room.slots = ms from hrs]; exact hp.2.1
  have hPc : Pc a (A.U.calling g mk a) := hblind _ _ _ _ hp.2.2
  obtain ⟨U, Ls, c0, s0⟩ := A
  dsimp only [Pt.U, Pt.locs, Pt.cells, Pt.slots] at h1 h2 h3 h4 h5 X hn hPc ⊢
  obtain ⟨methY, cY, hmY, hcY, -, hlY, -, -, -, -⟩ := Cond.code_spec hn h2
  obtain ⟨kY, hkY, -⟩ := className_of_methodNamed hn
  have hinitY : kY.init = .initialized := Cond.initialized_spec (findClass_of_methodNamed hn) hkY h3
  have h : At U g.method c below := by rw [hg]; exact X.here
  have hlocals9 : W9 + (maxL + 11) + (headSpec ws rm).room.locals ≤ R.locals := hlocals
  have happ : (headSpec ws rm).appliesLoose y e.platform (U.calling g mk a) = true :=
    Spec.appliesLoose_calling (g := g) h hdg hn hkY hinitY
      (X.room_calling (g := g) (R' := (headSpec ws rm).room) hsize hmY hcY hframes (by rw [hlY]; omega) h4 h5) h1
  obtain ⟨mid, hmid⟩ := h.above
  have hfr : (U.setTop g).frames = (.java g :: mid) ++ below := by rw [State.frames_setTop' g h.top, hmid]; rfl
  obtain ⟨o, s₂, hsteps, -, hend, hq⟩ := Steps.callFree hM p X.admits X.cas X.clock (acts := []) hfr happ hPc trivial
  have hq' : vx_Q Qc XC mc ms free a (U.calling g mk a) o s₂ := hq
  rw [State.frames_setTop' g h.top] at hend
  obtain ⟨g₀, hg0⟩ := Option.isSome_iff_exists.mp h.top
  obtain ⟨r, hr⟩ := State.topJava?_eq_some.mp hg0
  have hr' : (({ U with heap := s₂.heap, slotsUsed := s₂.slotsUsed } : State).setVm s₂.vm).frames = .java g₀ :: r := hr
  rcases hq' with ⟨hqc, L, hfe, hL⟩ | ⟨q, rfl, E, ce, L, hx, hce, hcv, hcl, hW₂, hsm, hL⟩
  · obtain ⟨⟨v, rfl⟩, hW₂, e2, q2, q3, q4, q5, q6⟩ := id hfe
    have e3 : s₂ = ({ (U.calling g mk a).setFrames s₂.frames with heap := s₂.heap, slotsUsed := s₂.slotsUsed } : State).setVm s₂.vm := by
      have : s₂ = ({ s₂ with vm := (U.calling g mk a).vm } : State).setVm s₂.vm := rfl
      rw [e2] at this
      exact this
    obtain ⟨c₂, i₂, len₂, hc₂, hd₂, hf₂⟩ := hend
    have hW' : U.WarmedH s₂.vm := hW₂
    have hcc : c₂ = c := by
      have h1 : s₂.code? g.method = U.code? g.method := by
        rw [State.code?_eq, State.code?_eq, hW'.alike.method?]
      exact Option.some.inj (hc₂.symm.trans (h1.trans h.code))
    subst hcc
    have hlen : len₂ = len := by rw [hdg] at hd₂; cases hd₂; rfl
    subst hlen
    have hs₂ : s₂ = (({ U with heap := s₂.heap, slotsUsed := s₂.slotsUsed } : State).setVm s₂.vm).setTop { g with pc := g.pc + len₂, stack := v.toList ++ g.stack } := by
      refine e3.trans ?_
      rw [hf₂, State.calling_eq h.top, State.setFrames_setFrames, State.setTop_of_frames _ hr', hr]
      rfl
    have hsame : U.sameButNew ({ U with heap := s₂.heap, slotsUsed := s₂.slotsUsed } : State) L mc ms := by
      refine ⟨?_, q2, q3, q4, q5, q6⟩
      obtain ⟨t, ht, -⟩ := State.frames_cons hr
      show ({ U with heap := s₂.heap, slotsUsed := s₂.slotsUsed } : State) = { U.setFrames U.frames with heap := s₂.heap, slotsUsed := s₂.slotsUsed }
      rw [State.setFrames_self ht]
    subst hg
    refine Or.inl ⟨v, ⟨(({ U with heap := s₂.heap, slotsUsed := s₂.slotsUsed } : State).setVm s₂.vm), Ls ++ L, c0 + mc, s0 + ms⟩,
      ⟨X.admits, X.cas, X.clock, X.frames, X.room, X.hears, X.method, X.code, (X.here.setHeapUsed s₂.heap s₂.slotsUsed).setVm hW'.alike, X.tail, State.WarmedH.trans X.warmed hW', X.limits, X.bytes, X.same.trans (hsame.setVm s.vm)⟩,
      ⟨g, mk, s₂, L, rfl, rfl, hqc, rfl, hL, rfl, rfl⟩, ?_⟩
    show Steps p.tables e below _ ((({ U with heap := s₂.heap, slotsUsed := s₂.slotsUsed } : State).setVm s₂.vm).setTop { g with pc := g.pc + len₂, stack := v.toList ++ g.stack })
    rw [← hs₂]
    exact hsteps
  · obtain ⟨e2, q2, q3, q4, q5, q6⟩ := id hsm
    have e3 : s₂ = ({ (U.calling g mk a).setFrames s₂.frames with heap := s₂.heap, slotsUsed := s₂.slotsUsed } : State).setVm s₂.vm := by
      have : s₂ = ({ s₂ with vm := (U.calling g mk a).vm } : State).setVm s₂.vm := rfl
      rw [e2] at this
      exact this
    have hf₂ : s₂.frames = .throwing q :: .java g :: U.frames.tail := hend
    have hW' : U.WarmedH s₂.vm := hW₂
    have hs₂ : s₂ = ((({ U with heap := s₂.heap, slotsUsed := s₂.slotsUsed } : State).setVm s₂.vm).setTop g).pushFrame (.throwing q) := by
      refine e3.trans ?_
      rw [hf₂, State.calling_eq h.top, State.setFrames_setFrames, State.pushFrame, State.frames_setTop _ hr', State.setTop_of_frames _ hr', State.setFrames_setFrames, hr]
      rfl
    have hsame : U.sameButNew ({ U with heap := s₂.heap, slotsUsed := s₂.slotsUsed } : State) L mc ms := by
      refine ⟨?_, q2, q3, q4, q5, q6⟩
      obtain ⟨t, ht, -⟩ := State.frames_cons hr
      show ({ U with heap := s₂.heap, slotsUsed := s₂.slotsUsed } : State) = { U.setFrames U.frames with heap := s₂.heap, slotsUsed := s₂.slotsUsed }
      rw [State.setFrames_self ht]
    subst hg
    refine Or.inr ⟨q, ⟨(({ U with heap := s₂.heap, slotsUsed := s₂.slotsUsed } : State).setVm s₂.vm), Ls ++ L, c0 + mc, s0 + ms⟩,
      ⟨X.admits, X.cas, X.clock, X.frames, X.room, X.hears, X.method, X.code, (X.here.setHeapUsed s₂.heap s₂.slotsUsed).setVm hW'.alike, X.tail, State.WarmedH.trans X.warmed hW', X.limits, X.bytes, X.same.trans (hsame.setVm s.vm)⟩,
      ⟨g, mk, s₂, L, E, ce, rfl, rfl, hx, hce, hcv, hcl, rfl, hL, rfl, rfl⟩, ?_⟩
    show Steps p.tables e below _ (((({ U with heap := s₂.heap, slotsUsed := s₂.slotsUsed } : State).setVm s₂.vm).setTop g).pushFrame (.throwing q))
    rw [← hs₂]
    exact hsteps
end Payer
section Calls
variable {p : Program} {l : Launch} {e : Env} {R : Room} {s : State} {m : MethodId} {args : Array Value} {below : List Frame} {meth : Method} {c : Code} {T : State} {locs : List Loc} {cells slots : Nat}
theorem vx_callV (X : Stand p l e R s m args below meth c T locs cells slots) (hexec : p.tables.exec = Jvm.exec) {own C : String} {index : Nat} {y : MethodName} {bytes : ByteArray} {maxL : Nat} {ret : Option FieldType}
    (hown : s.vm.findClass own = some m.cls) (hlink : (Cond.methodLink own index y).before args s = true) (hinst : (Cond.instanceMethod y).before args s = true) (hsel : (Cond.selects C y y).before args s = true)
    (hcode : (Cond.code y bytes maxL ret).before args s = true) (hy : y.cls ≠ "java/lang/invoke/MethodHandle" ∧ y.cls ≠ "java/lang/invoke/VarHandle")
    {W9 : Nat} {Pre : Pt → Array Value → Prop} {Post : Pt → Array Value → Option Value → Pt → Prop} {PostX : Pt → Array Value → Addr → Pt → Prop} (hK : vx_Back l R p e below s args y 3 W9 Pre Post PostX)
    {b : Addr} {cellB : Cell} (hcell : T.heap[b]? = some cellB) (hobj : cellB.vm.isStatics = false) (hcls : s.vm.findClass C = some cellB.cls)
    {g : JFrame} (hg : g.method = m) (hsize : g.locals.size = c.maxLocals) {argsL rest : List Value} (hlen : ∀ sig, parseMethodDescriptor y.desc = some sig → argsL.length = sig.parameters.length)
    (hstack : g.stack = argsL.reverse ++ .ref b :: rest) (hW : 2 * g.monitorRoom + (rest.map fun v => v.category).sum ≤ W9) (hdg : decode c.code g.pc = .ok (.invokevirtual index, 3))
    (hpre : ∀ vm₁, s.WarmedH vm₁ → Pre ⟨T.setVm vm₁, locs, cells, slots⟩ (Value.ref b :: argsL).toArray) :
    (∃ (v : Option Value) (vm₁ : Vm) (B : Pt), s.WarmedH vm₁ ∧ Stand p l e R s m args below meth c B.U B.locs B.cells B.slots ∧ Post ⟨T.setVm vm₁, locs, cells, slots⟩ (Value.ref b :: argsL).toArray v B ∧
      ∀ target, Steps p.tables e below (B.U.setTop { g with pc := g.pc + 3, stack := v.toList ++ rest }) target → Steps p.tables e below (T.setTop g) target) ∨
    (∃ (q : Addr) (vm₁ : Vm) (B : Pt), s.WarmedH vm₁ ∧ Stand p l e R s m args below meth c B.U B.locs B.cells B.slots ∧ PostX ⟨T.setVm vm₁, locs, cells, slots⟩ (Value.ref b :: argsL).toArray q B ∧
      Steps p.tables e below (T.setTop g) ((B.U.setTop { g with stack := rest }).pushFrame (.throwing q))) := by
  obtain ⟨mk, methM, hnamed, hmethM, hstM, habM⟩ := Cond.instanceMethod_spec hinst
  obtain ⟨methM', cM, hmethM', -, -, -, -, -, -, hsigM⟩ := Cond.code_spec hnamed hcode
  cases hmethM.symm.trans hmethM'
  obtain ⟨c2, r2, m2, q1, q2, q3, q4, kP, hkP, hkPi⟩ := Cond.selects_spec hsel
  cases hcls.symm.trans q1
  cases (State.methodFound?_of_named hnamed hy).symm.trans q2
  cases hnamed.symm.trans q3
  have hselP : selectMethod e.platform s.vm cellB.cls mk = .method mk := by rw [Launch.admits_selectMethod X.admits]; exact q4
  obtain ⟨vm₁, X₁, hstep₁⟩ := X.invokevirtual hexec hown hlink hnamed hmethM hstM hkP hkPi hy (a := b) (cell := cellB) hcell
    (fun z h => by rw [h] at hobj; cases hobj) hselP hmethM habM hkP hkPi (g := g) hg (argsL := argsL) (rest := rest) (hlen _ hsigM) hstack hdg
  rcases hK m meth c ⟨T.setVm vm₁, locs, cells, slots⟩ { g with stack := rest } (.invokevirtual index) mk (Value.ref b :: argsL).toArray X₁ hg hsize hdg hW (X₁.named hnamed) (hpre vm₁ X₁.warmed) with ⟨v, B, X', hpost, hsteps⟩ | ⟨q, B, X', hpost, hsteps⟩
  · exact Or.inl ⟨v, vm₁, B, X₁.warmed, X', hpost, fun target h => hstep₁ _ fun acts => by rw [doInvoke_state]; exact hsteps.trans h⟩
  · exact Or.inr ⟨q, vm₁, B, X₁.warmed, X', hpost, hstep₁ _ fun acts => by rw [doInvoke_state]; exact hsteps⟩
theorem vx_callS (X : Stand p l e R s m args below meth c T locs cells slots) (hexec : p.tables.exec = Jvm.exec) {own : String} {index : Nat} {y : MethodName} {bytes : ByteArray} {maxL : Nat} {ret : Option FieldType}
    (hown : s.vm.findClass own = some m.cls) (hlink : (Cond.methodLink own index y).before args s = true) (hstat : (Cond.static y).before args s = true) (hinit : (Cond.initialized y.cls).before args s = true)
    (hcode : (Cond.code y bytes maxL ret).before args s = true) (hy : y.cls ≠ "java/lang/invoke/MethodHandle" ∧ y.cls ≠ "java/lang/invoke/VarHandle")
    {W9 : Nat} {Pre : Pt → Array Value → Prop} {Post : Pt → Array Value → Option Value → Pt → Prop} {PostX : Pt → Array Value → Addr → Pt → Prop} (hK : vx_Back l R p e below s args y 3 W9 Pre Post PostX)
    {g : JFrame} (hg : g.method = m) (hsize : g.locals.size = c.maxLocals) {argsL rest : List Value} (hlen : ∀ sig, parseMethodDescriptor y.desc = some sig → argsL.length = sig.parameters.length)
    (hstack : g.stack = argsL.reverse ++ rest) (hW : 2 * g.monitorRoom + (rest.map fun v => v.category).sum ≤ W9) (hdg : decode c.code g.pc = .ok (.invokestatic index, 3))
    (hpre : ∀ vm₁, s.WarmedH vm₁ → Pre ⟨T.setVm vm₁, locs, cells, slots⟩ argsL.toArray) :
    (∃ (v : Option Value) (vm₁ : Vm) (B : Pt), s.WarmedH vm₁ ∧ Stand p l e R s m args below meth c B.U B.locs B.cells B.slots ∧ Post ⟨T.setVm vm₁, locs, cells, slots⟩ argsL.toArray v B ∧
      ∀ target, Steps p.tables e below (B.U.setTop { g with pc := g.pc + 3, stack := v.toList ++ rest }) target → Steps p.tables e below (T.setTop g) target) ∨
    (∃ (q : Addr) (vm₁ : Vm) (B : Pt), s.WarmedH vm₁ ∧ Stand p l e R s m args below meth c B.U B.locs B.cells B.slots ∧ PostX ⟨T.setVm vm₁, locs, cells, slots⟩ argsL.toArray q B ∧
      Steps p.tables e below (T.setTop g) ((B.U.setTop { g with stack := rest }).pushFrame (.throwing q))) := by
  obtain ⟨mk, hnamed⟩ := Cond.code_named hcode
  obtain ⟨methM, cM, hmethM, -, -, -, -, -, -, hsigM⟩ := Cond.code_spec hnamed hcode
  have hstatic : methM.isStatic = true := Cond.static_spec hnamed hmethM hstat
  obtain ⟨kP, hkP, -⟩ := className_of_methodNamed hnamed
  have hinitP : kP.init = .initialized := Cond.initialized_spec (findClass_of_methodNamed hnamed) hkP hinit
  obtain ⟨vm₁, X₁, hstep₁⟩ := X.invokestatic hexec hown hlink hnamed hmethM hstatic hkP hinitP hy (g := g) hg (argsL := argsL) (rest := rest) (hlen _ hsigM) hstack hdg
  rcases hK m meth c ⟨T.setVm vm₁, locs, cells, slots⟩ { g with stack := rest } (.invokestatic index) mk argsL.toArray X₁ hg hsize hdg hW (X₁.named hnamed) (hpre vm₁ X₁.warmed) with ⟨v, B, X', hpost, hsteps⟩ | ⟨q, B, X', hpost, hsteps⟩
  · exact Or.inl ⟨v, vm₁, B, X₁.warmed, X', hpost, fun target h => hstep₁ _ fun acts => by rw [doInvoke_state]; exact hsteps.trans h⟩
  · exact Or.inr ⟨q, vm₁, B, X₁.warmed, X', hpost, hstep₁ _ fun acts => by rw [doInvoke_state]; exact hsteps⟩
end Calls
theorem vx_cls {s : State} {T : State} {vm₁ : Vm} {E : String} {k : ClassId} (hW : s.WarmedH vm₁) (h : (T.setVm vm₁).vm.findClass E = some k) : s.vm.findClass E = some k := by
  have h1 : vm₁.findClass E = some k := h
  rw [hW.alike.findClass] at h1
  exact h1
/-- the method's frame g, with q thrown over it -/
def vx_W (p : Program) (l : Launch) (e : Env) (R : Room) (s : State) (m : MethodId) (args : Array Value) (below : List Frame) (meth : Method) (c : Code) (H : Heap) (locs : List Loc) (cells slots : Nat) (Q : State → Prop) (g : JFrame) (q : Addr) : Prop :=
  ∀ T : State, T.heap = H → Stand p l e R s m args below meth c T locs cells slots → ∃ t, Steps p.tables e below ((T.setTop g).pushFrame (.throwing q)) t ∧ Q t
def vx_Run (p : Program) (l : Launch) (e : Env) (R : Room) (s : State) (m : MethodId) (args : Array Value) (below : List Frame) (meth : Method) (c : Code) (H : Heap) (locs : List Loc) (cells slots mc ms : Nat) (g : JFrame) (rest : List Value) (Qa : State → Outcome → State → Prop) (XC : String → State → State → Prop) (free : Addr → Prop) : Prop :=
  ∀ T : State, T.heap = H → Stand p l e R s m args below meth c T locs cells slots →
    (∃ (v : Option Value) (st₀ t T' : State) (L : List Loc), st₀.heap = H ∧ Stand p l e R s m args below meth c T' (locs ++ L) (cells + mc) (slots + ms) ∧ (∀ q ∈ L, free q.base) ∧ T'.heap = t.heap ∧ T'.vm = t.vm ∧ Qa st₀ (.returned v) t ∧
      Goes p e below T g T' { g with pc := g.pc + 3, stack := v.toList ++ rest }) ∨
    (∃ (q : Addr) (st₀ t T' : State) (L : List Loc) (E : String) (ce : Cell), st₀.heap = H ∧ Stand p l e R s m args below meth c T' (locs ++ L) (cells + mc) (slots + ms) ∧ (∀ z ∈ L, free z.base) ∧ T'.heap = t.heap ∧ T'.vm = t.vm ∧ XC E st₀ t ∧ t.heap[q]? = some ce ∧ ce.vm = .none ∧ s.vm.findClass E = some ce.cls ∧
      Steps p.tables e below (T.setTop g) ((T'.setTop { g with stack := rest }).pushFrame (.throwing q)))
def vx_X {S : Type} (px : S → Prop) (B : String → S → State → Prop) (A : Nat → Prop) : String → State → State → Prop := fun E st t => ∃ u : S, px u ∧ B E u t ∧ va_F A st t
section Runs
variable {p : Program} {l : Launch} {e : Env} {R : Room} {s : State} {m : MethodId} {args : Array Value} {below : List Frame} {meth : Method} {c : Code} {H : Heap} {locs : List Loc} {cells slots : Nat}
variable {y : MethodName} {bytes cc : ByteArray} {maxL nL mc ms n index : Nat} {ret : Option FieldType} {ws : List Cond} {rm : Room} {Pc : Array Value → State → Prop} {Qc : Array Value → State → Outcome → State → Prop} {XC : String → State → State → Prop} {free : Addr → Prop} {Ts : List Cond} {own C : String} {b : Addr} {As rest : List Value} {g : JFrame}
theorem vx_callBack (cb : CallB R s args own index y bytes maxL ret ws rm mc ms n) (hM : vx_Met l y ws rm Pc Qc XC mc ms free) (hbl : FrameBlind Pc) : vx_Back l R p e below s args y 3 8 (PreOf R mc ms Pc) (PostOf Qc mc ms free) (vx_Post XC mc ms free) := by
  obtain ⟨hrc, hrs, hfr, hlo, hws, hcw, -, hini, -⟩ := cb
  exact vx_back (bytes := bytes) (maxL := maxL) (ret := ret) hM hbl hrc hrs hfr hlo hws hcw (fun a' U hW => word_at hW (Or.inl (by first | rfl | simp [Cond.onTables, Cond.keeps, Cond.steady])) hini)
theorem vx_runV (S : CallFix p m c cc nL s args Ts own) (hM : vx_Met l y ws rm Pc Qc XC mc ms free) (cw : CallW R s args own C index y bytes maxL ret ws rm mc ms n) (hp : PreV s H C b Pc As)
    (hg : g.method = m) (hn : As.length = n) (hsize : g.locals.size = nL) (hstack : g.stack = As.reverse ++ .ref b :: rest) (hW : 2 * g.monitorRoom + (rest.map fun v => v.category).sum ≤ 8) (hdg : decode cc g.pc = .ok (.invokevirtual index, 3)) (hf : cells + mc ≤ R.cells ∧ slots + ms ≤ R.slots) :
    vx_Run p l e R s m args below meth c H locs cells slots mc ms g rest (Qc (Value.ref b :: As).toArray) XC free := by
  have hK : vx_Back l R p e below s args y 3 8 (PreOf R mc ms Pc) (PostOf Qc mc ms free) (vx_Post XC mc ms free) := vx_callBack cw.1 hM hp.1
  obtain ⟨⟨-, -, -, -, -, -, hcode, -, hy, hlen, hl⟩, hin, hse⟩ := cw
  obtain ⟨hx, hb, hml, ho, -⟩ := S
  obtain ⟨-, ⟨cellB, hcB, hoB, hclB⟩, hPc⟩ := hp
  intro T hT X
  rcases vx_callV X hx (C := C) (bytes := bytes) (maxL := maxL) (ret := ret) ho hl hin hse hcode hy hK (by rw [hT]; exact hcB) hoB hclB hg (hsize.trans hml.symm) (argsL := As) (rest := rest) (fun sig h => hn.trans (hlen sig h)) hstack hW (by rw [hb]; exact hdg)
    (fun vm₁ hW₁ => ⟨hf.1, hf.2, hPc (T.setVm vm₁) hT hW₁⟩) with ⟨v, vm₁, ⟨U', l2, c2, s2⟩, hW₁, X', ⟨g', mk, t, L, e1, e2, hq, h1, hL, h2, h3⟩, st⟩ | ⟨q, vm₁, ⟨U', l2, c2, s2⟩, hW₁, X', ⟨g', mk, t, L, E, ce, e1, e2, hq, hce, hcv, hcl, h1, hL, h2, h3⟩, st⟩
  · dsimp only [Pt.U, Pt.locs, Pt.cells, Pt.slots] at X' e1 e2 h1 h2 h3 st
    subst h1; subst h2; subst h3
    exact Or.inl ⟨v, (T.setVm vm₁).calling g' mk (Value.ref b :: As).toArray, t, U', L, hT, X', hL, e1, e2, hq, st⟩
  · dsimp only [Pt.U, Pt.locs, Pt.cells, Pt.slots] at X' e1 e2 h1 h2 h3 st hcl
    subst h1; subst h2; subst h3
    exact Or.inr ⟨q, (T.setVm vm₁).calling g' mk (Value.ref b :: As).toArray, t, U', L, E, ce, hT, X', hL, e1, e2, hq, hce, hcv, vx_cls hW₁ hcl, st⟩
theorem vx_runS (S : CallFix p m c cc nL s args Ts own) (hM : vx_Met l y ws rm Pc Qc XC mc ms free) (cw : CallB R s args own index y bytes maxL ret ws rm mc ms n ∧ (Cond.static y).before args s = true) (hp : PreS s H Pc As)
    (hg : g.method = m) (hn : As.length = n) (hsize : g.locals.size = nL) (hstack : g.stack = As.reverse ++ rest) (hW : 2 * g.monitorRoom + (rest.map fun v => v.category).sum ≤ 8) (hdg : decode cc g.pc = .ok (.invokestatic index, 3)) (hf : cells + mc ≤ R.cells ∧ slots + ms ≤ R.slots) :
    vx_Run p l e R s m args below meth c H locs cells slots mc ms g rest (Qc As.toArray) XC free := by
  have hK : vx_Back l R p e below s args y 3 8 (PreOf R mc ms Pc) (PostOf Qc mc ms free) (vx_Post XC mc ms free) := vx_callBack cw.1 hM hp.1
  obtain ⟨⟨-, -, -, -, -, -, hcode, hini, hy, hlen, hl⟩, hstt⟩ := cw
  obtain ⟨hx, hb, hml, ho, -⟩ := S
  intro T hT X
  rcases vx_callS X hx (bytes := bytes) (maxL := maxL) (ret := ret) ho hl hstt hini hcode hy hK hg (hsize.trans hml.symm) (argsL := As) (rest := rest) (fun sig h => hn.trans (hlen sig h)) hstack hW (by rw [hb]; exact hdg)
    (fun vm₁ hW₁ => ⟨hf.1, hf.2, hp.2 (T.setVm vm₁) hT hW₁⟩) with ⟨v, vm₁, ⟨U', l2, c2, s2⟩, hW₁, X', ⟨g', mk, t, L, e1, e2, hq, h1, hL, h2, h3⟩, st⟩ | ⟨q, vm₁, ⟨U', l2, c2, s2⟩, hW₁, X', ⟨g', mk, t, L, E, ce, e1, e2, hq, hce, hcv, hcl, h1, hL, h2, h3⟩, st⟩
  · dsimp only [Pt.U, Pt.locs, Pt.cells, Pt.slots] at X' e1 e2 h1 h2 h3 st
    subst h1; subst h2; subst h3
    exact Or.inl ⟨v, (T.setVm vm₁).calling g' mk As.toArray, t, U', L, hT, X', hL, e1, e2, hq, st⟩
  · dsimp only [Pt.U, Pt.locs, Pt.cells, Pt.slots] at X' e1 e2 h1 h2 h3 st hcl
    subst h1; subst h2; subst h3
    exact Or.inr ⟨q, (T.setVm vm₁).calling g' mk As.toArray, t, U', L, E, ce, hT, X', hL, e1, e2, hq, hce, hcv, vx_cls hW₁ hcl, st⟩
end Runs
section Rows
variable {p : Program} {l : Launch} {e : Env} {R : Room} {s : State} {m : MethodId} {args : Array Value} {below : List Frame} {meth : Method} {c : Code} {H : Heap} {locs : List Loc} {cells slots : Nat} {Q : State → Prop}
variable {mc ms : Nat} {free : Addr → Prop} {A0 A1 : Nat → Prop} {H0 : Heap} {a : Array Value} {pc : Nat} {ls : Array Slot} {st0 rest : List Value}
theorem vx_keep {st₀ t T' : State} {L : List Loc} (h0 : st₀.heap = H) (e1 : T'.heap = t.heap) (hS : va_S A0 H0 H locs) (hA : ∀ q, q < H.size → A1 q → A0 q) (hf : ∀ q, free q → A0 q) (hL : ∀ q ∈ L, free q.base) (hF : va_F A1 st₀ t) :
    H.size ≤ T'.heap.size ∧ (∀ q : Nat, q < H.size → ¬ A1 q → T'.heap[q]? = H[q]?) ∧ va_S A0 H0 T'.heap (locs ++ L) := by
  obtain ⟨hz, hk⟩ := hF
  rw [h0] at hz hk
  exact ⟨by rw [e1]; exact hz, fun q h1 h2 => by rw [e1]; exact hk q h1 h2,
    ⟨Nat.le_trans hS.1 (by rw [e1]; exact hz), fun q h1 h2 => by rw [e1, hk q (Nat.lt_of_lt_of_le h1 hS.1) (fun z => h2 (hA q (Nat.lt_of_lt_of_le h1 hS.1) z))]; exact hS.2.1 q h1 h2, fun q hq => by
      rcases List.mem_append.mp hq with h | h
      · exact hS.2.2 q h
      · exact hf _ (hL q h)⟩⟩
theorem vx_calli {S SX : Type} {post : Int32 → S → Prop} {px : SX → Prop} {B : S → State → Prop} {BX : String → SX → State → Prop} {AX : Nat → Prop} (hr : vx_Run p l e R s m args below meth c H locs cells slots mc ms (F0 m pc ls st0) rest (va_Qi post B A1 a) (vx_X px BX AX) free) (hS : va_S A0 H0 H locs) (hA : ∀ q, q < H.size → A1 q → A0 q) (hf : ∀ q, free q → A0 q) (hAX : ∀ q, q < H.size → AX q → A0 q)
    (kx : ∀ (E : String) (ce : Cell) (q9 : Addr) (u : SX) (t : State) (H1 : Heap) (locs1 : List Loc), t.heap = H1 → s.vm.Alike t.vm → px u → BX E u t → H.size ≤ H1.size → (∀ q : Nat, q < H.size → ¬ AX q → H1[q]? = H[q]?) → va_S A0 H0 H1 locs1 → H1[q9]? = some ce → ce.vm = .none → s.vm.findClass E = some ce.cls → vx_W p l e R s m args below meth c H1 locs1 (cells + mc) (slots + ms) Q (F0 m pc ls rest) q9)
    (kk : ∀ (r : Int32) (u : S) (t : State) (H1 : Heap) (locs1 : List Loc), t.heap = H1 → s.vm.Alike t.vm → post r u → B u t → H.size ≤ H1.size → (∀ q : Nat, q < H.size → ¬ A1 q → H1[q]? = H[q]?) → va_S A0 H0 H1 locs1 → W p l e R s m args below meth c H1 locs1 (cells + mc) (slots + ms) Q (F0 m (pc + 3) ls (.int r :: rest))) : W p l e R s m args below meth c H locs cells slots Q (F0 m pc ls st0) := by
  intro T hT X
  rcases hr T hT X with ⟨v, st₀, t, T', L, h0, X', hL, e1, e2, ⟨⟨r, u, hv, hp, hb⟩, hF⟩, st⟩ | ⟨q, st₀, t, T', L, E, ce, h0, X', hL, e1, e2, ⟨u, hp, hb, hF⟩, hce, hcv, hcl, st⟩
  · cases hv
    obtain ⟨k1, k2, k3⟩ := vx_keep h0 e1 hS hA hf hL hF
    obtain ⟨t2, a1, b1⟩ := kk r u t T'.heap (locs ++ L) e1.symm (by rw [← e2]; exact X'.warmed.alike) hp hb k1 k2 k3 T' rfl X'
    exact ⟨t2, st t2 a1, b1⟩
  · obtain ⟨k1, k2, k3⟩ := vx_keep h0 e1 hS hAX hf hL hF
    obtain ⟨t2, a1, b1⟩ := kx E ce q u t T'.heap (locs ++ L) e1.symm (by rw [← e2]; exact X'.warmed.alike) hp hb k1 k2 k3 (by rw [e1]; exact hce) hcv hcl T' rfl X'
    exact ⟨t2, st.trans a1, b1⟩
theorem vx_calll {S SX : Type} {post : Int64 → S → Prop} {px : SX → Prop} {B : S → State → Prop} {BX : String → SX → State → Prop} {AX : Nat → Prop} (hr : vx_Run p l e R s m args below meth c H locs cells slots mc ms (F0 m pc ls st0) rest (va_Ql post B A1 a) (vx_X px BX AX) free) (hS : va_S A0 H0 H locs) (hA : ∀ q, q < H.size → A1 q → A0 q) (hf : ∀ q, free q → A0 q) (hAX : ∀ q, q < H.size → AX q → A0 q)
    (kx : ∀ (E : String) (ce : Cell) (q9 : Addr) (u : SX) (t : State) (H1 : Heap) (locs1 : List Loc), t.heap = H1 → s.vm.Alike t.vm → px u → BX E u t → H.size ≤ H1.size → (∀ q : Nat, q < H.size → ¬ AX q → H1[q]? = H[q]?) → va_S A0 H0 H1 locs1 → H1[q9]? = some ce → ce.vm = .none → s.vm.findClass E = some ce.cls → vx_W p l e R s m args below meth c H1 locs1 (cells + mc) (slots + ms) Q (F0 m pc ls rest) q9)
    (kk : ∀ (r : Int64) (u : S) (t : State) (H1 : Heap) (locs1 : List Loc), t.heap = H1 → s.vm.Alike t.vm → post r u → B u t → H.size ≤ H1.size → (∀ q : Nat, q < H.size → ¬ A1 q → H1[q]? = H[q]?) → va_S A0 H0 H1 locs1 → W p l e R s m args below meth c H1 locs1 (cells + mc) (slots + ms) Q (F0 m (pc + 3) ls (.long r :: rest))) : W p l e R s m args below meth c H locs cells slots Q (F0 m pc ls st0) := by
  intro T hT X
  rcases hr T hT X with ⟨v, st₀, t, T', L, h0, X', hL, e1, e2, ⟨⟨r, u, hv, hp, hb⟩, hF⟩, st⟩ | ⟨q, st₀, t, T', L, E, ce, h0, X', hL, e1, e2, ⟨u, hp, hb, hF⟩, hce, hcv, hcl, st⟩
  · cases hv
    obtain ⟨k1, k2, k3⟩ := vx_keep h0 e1 hS hA hf hL hF
    obtain ⟨t2, a1, b1⟩ := kk r u t T'.heap (locs ++ L) e1.symm (by rw [← e2]; exact X'.warmed.alike) hp hb k1 k2 k3 T' rfl X'
    exact ⟨t2, st t2 a1, b1⟩
  · obtain ⟨k1, k2, k3⟩ := vx_keep h0 e1 hS hAX hf hL hF
    obtain ⟨t2, a1, b1⟩ := kx E ce q u t T'.heap (locs ++ L) e1.symm (by rw [← e2]; exact X'.warmed.alike) hp hb k1 k2 k3 (by rw [e1]; exact hce) hcv hcl T' rfl X'
    exact ⟨t2, st.trans a1, b1⟩
theorem vx_callf {S SX : Type} {post : UInt32 → S → Prop} {px : SX → Prop} {B : S → State → Prop} {BX : String → SX → State → Prop} {AX : Nat → Prop} (hr : vx_Run p l e R s m args below meth c H locs cells slots mc ms (F0 m pc ls st0) rest (va_Qf post B A1 a) (vx_X px BX AX) free) (hS : va_S A0 H0 H locs) (hA : ∀ q, q < H.size → A1 q → A0 q) (hf : ∀ q, free q → A0 q) (hAX : ∀ q, q < H.size → AX q → A0 q)
    (kx : ∀ (E : String) (ce : Cell) (q9 : Addr) (u : SX) (t : State) (H1 : Heap) (locs1 : List Loc), t.heap = H1 → s.vm.Alike t.vm → px u → BX E u t → H.size ≤ H1.size → (∀ q : Nat, q < H.size → ¬ AX q → H1[q]? = H[q]?) → va_S A0 H0 H1 locs1 → H1[q9]? = some ce → ce.vm = .none → s.vm.findClass E = some ce.cls → vx_W p l e R s m args below meth c H1 locs1 (cells + mc) (slots + ms) Q (F0 m pc ls rest) q9)
    (kk : ∀ (r : UInt32) (u : S) (t : State) (H1 : Heap) (locs1 : List Loc), t.heap = H1 → s.vm.Alike t.vm → post r u → B u t → H.size ≤ H1.size → (∀ q : Nat, q < H.size → ¬ A1 q → H1[q]? = H[q]?) → va_S A0 H0 H1 locs1 → W p l e R s m args below meth c H1 locs1 (cells + mc) (slots + ms) Q (F0 m (pc + 3) ls (.float r :: rest))) : W p l e R s m args below meth c H locs cells slots Q (F0 m pc ls st0) := by
  intro T hT X
  rcases hr T hT X with ⟨v, st₀, t, T', L, h0, X', hL, e1, e2, ⟨⟨r, u, hv, hp, hb⟩, hF⟩, st⟩ | ⟨q, st₀, t, T', L, E, ce, h0, X', hL, e1, e2, ⟨u, hp, hb, hF⟩, hce, hcv, hcl, st⟩
  · cases hv
    obtain ⟨k1, k2, k3⟩ := vx_keep h0 e1 hS hA hf hL hF
    obtain ⟨t2, a1, b1⟩ := kk r u t T'.heap (locs ++ L) e1.symm (by rw [← e2]; exact X'.warmed.alike) hp hb k1 k2 k3 T' rfl X'
    exact ⟨t2, st t2 a1, b1⟩
  · obtain ⟨k1, k2, k3⟩ := vx_keep h0 e1 hS hAX hf hL hF
    obtain ⟨t2, a1, b1⟩ := kx E ce q u t T'.heap (locs ++ L) e1.symm (by rw [← e2]; exact X'.warmed.alike) hp hb k1 k2 k3 (by rw [e1]; exact hce) hcv hcl T' rfl X'
    exact ⟨t2, st.trans a1, b1⟩
theorem vx_calld {S SX : Type} {post : UInt64 → S → Prop} {px : SX → Prop} {B : S → State → Prop} {BX : String → SX → State → Prop} {AX : Nat → Prop} (hr : vx_Run p l e R s m args below meth c H locs cells slots mc ms (F0 m pc ls st0) rest (va_Qd post B A1 a) (vx_X px BX AX) free) (hS : va_S A0 H0 H locs) (hA : ∀ q, q < H.size → A1 q → A0 q) (hf : ∀ q, free q → A0 q) (hAX : ∀ q, q < H.size → AX q → A0 q)
    (kx : ∀ (E : String) (ce : Cell) (q9 : Addr) (u : SX) (t : State) (H1 : Heap) (locs1 : List Loc), t.heap = H1 → s.vm.Alike t.vm → px u → BX E u t → H.size ≤ H1.size → (∀ q : Nat, q < H.size → ¬ AX q → H1[q]? = H[q]?) → va_S A0 H0 H1 locs1 → H1[q9]? = some ce → ce.vm = .none → s.vm.findClass E = some ce.cls → vx_W p l e R s m args below meth c H1 locs1 (cells + mc) (slots + ms) Q (F0 m pc ls rest) q9)
    (kk : ∀ (r : UInt64) (u : S) (t : State) (H1 : Heap) (locs1 : List Loc), t.heap = H1 → s.vm.Alike t.vm → post r u → B u t → H.size ≤ H1.size → (∀ q : Nat, q < H.size → ¬ A1 q → H1[q]? = H[q]?) → va_S A0 H0 H1 locs1 → W p l e R s m args below meth c H1 locs1 (cells + mc) (slots + ms) Q (F0 m (pc + 3) ls (.double r :: rest))) : W p l e R s m args below meth c H locs cells slots Q (F0 m pc ls st0) := by
  intro T hT X
  rcases hr T hT X with ⟨v, st₀, t, T', L, h0, X', hL, e1, e2, ⟨⟨r, u, hv, hp, hb⟩, hF⟩, st⟩ | ⟨q, st₀, t, T', L, E, ce, h0, X', hL, e1, e2, ⟨u, hp, hb, hF⟩, hce, hcv, hcl, st⟩
  · cases hv
    obtain ⟨k1, k2, k3⟩ := vx_keep h0 e1 hS hA hf hL hF
    obtain ⟨t2, a1, b1⟩ := kk r u t T'.heap (locs ++ L) e1.symm (by rw [← e2]; exact X'.warmed.alike) hp hb k1 k2 k3 T' rfl X'
    exact ⟨t2, st t2 a1, b1⟩
  · obtain ⟨k1, k2, k3⟩ := vx_keep h0 e1 hS hAX hf hL hF
    obtain ⟨t2, a1, b1⟩ := kx E ce q u t T'.heap (locs ++ L) e1.symm (by rw [← e2]; exact X'.warmed.alike) hp hb k1 k2 k3 (by rw [e1]; exact hce) hcv hcl T' rfl X'
    exact ⟨t2, st.trans a1, b1⟩
theorem vx_callv {S SX : Type} {post : S → Prop} {px : SX → Prop} {B : S → State → Prop} {BX : String → SX → State → Prop} {AX : Nat → Prop} (hr : vx_Run p l e R s m args below meth c H locs cells slots mc ms (F0 m pc ls st0) rest (va_Qv post B A1 a) (vx_X px BX AX) free) (hS : va_S A0 H0 H locs) (hA : ∀ q, q < H.size → A1 q → A0 q) (hf : ∀ q, free q → A0 q) (hAX : ∀ q, q < H.size → AX q → A0 q)
    (kx : ∀ (E : String) (ce : Cell) (q9 : Addr) (u : SX) (t : State) (H1 : Heap) (locs1 : List Loc), t.heap = H1 → s.vm.Alike t.vm → px u → BX E u t → H.size ≤ H1.size → (∀ q : Nat, q < H.size → ¬ AX q → H1[q]? = H[q]?) → va_S A0 H0 H1 locs1 → H1[q9]? = some ce → ce.vm = .none → s.vm.findClass E = some ce.cls → vx_W p l e R s m args below meth c H1 locs1 (cells + mc) (slots + ms) Q (F0 m pc ls rest) q9)
    (kk : ∀ (u : S) (t : State) (H1 : Heap) (locs1 : List Loc), t.heap = H1 → s.vm.Alike t.vm → post u → B u t → H.size ≤ H1.size → (∀ q : Nat, q < H.size → ¬ A1 q → H1[q]? = H[q]?) → va_S A0 H0 H1 locs1 → W p l e R s m args below meth c H1 locs1 (cells + mc) (slots + ms) Q (F0 m (pc + 3) ls (rest))) : W p l e R s m args below meth c H locs cells slots Q (F0 m pc ls st0) := by
  intro T hT X
  rcases hr T hT X with ⟨v, st₀, t, T', L, h0, X', hL, e1, e2, ⟨⟨u, hv, hp, hb⟩, hF⟩, st⟩ | ⟨q, st₀, t, T', L, E, ce, h0, X', hL, e1, e2, ⟨u, hp, hb, hF⟩, hce, hcv, hcl, st⟩
  · cases hv
    obtain ⟨k1, k2, k3⟩ := vx_keep h0 e1 hS hA hf hL hF
    obtain ⟨t2, a1, b1⟩ := kk u t T'.heap (locs ++ L) e1.symm (by rw [← e2]; exact X'.warmed.alike) hp hb k1 k2 k3 T' rfl X'
    exact ⟨t2, st t2 a1, b1⟩
  · obtain ⟨k1, k2, k3⟩ := vx_keep h0 e1 hS hAX hf hL hF
    obtain ⟨t2, a1, b1⟩ := kx E ce q u t T'.heap (locs ++ L) e1.symm (by rw [← e2]; exact X'.warmed.alike) hp hb k1 k2 k3 (by rw [e1]; exact hce) hcv hcl T' rfl X'
    exact ⟨t2, st.trans a1, b1⟩
/-- caught by the row x of this method's table; the rows ahead don't take it -/
theorem vx_catch {own name : String} {E : String} {ce : Cell} {q : Addr} (hown : s.vm.findClass own = some m.cls) (pre : List ExceptionTableEntry) (x : ExceptionTableEntry) (suf : List ExceptionTableEntry) (hsplit : c.exceptionTable.toList = pre ++ x :: suf)
    (hpass : ∀ z ∈ pre, covers z pc = false ∨ (z.catchType ≠ 0 ∧ ∃ nm : String, (Cond.classLink own z.catchType nm).before args s = true ∧ va_Nc E nm s)) (hx : covers x pc = true) (h0 : x.catchType ≠ 0)
    (hlink : (Cond.classLink own x.catchType name).before args s = true) (hcast : (Cond.castable E name).before args s = true) (hcell : H[q]? = some ce) (hv : ce.vm = .none) (hcl : s.vm.findClass E = some ce.cls)
    (kk : W p l e R s m args below meth c H locs cells slots Q (F0 m x.handlerPc ls [.ref q])) : vx_W p l e R s m args below meth c H locs cells slots Q (F0 m pc ls rest) q := by
  intro T hT X
  have hpl : e.platform.magicAccessors = ({} : Platform).magicAccessors := by rw [X.admits.platform]
  obtain ⟨c3, c4, hc3, hc4, hasg⟩ := Cond.castable_spec hcast
  cases Option.some.inj (hc3.symm.trans hcl)
  obtain ⟨c5, hc5, hcl5⟩ := Cond.classLink_spec hown hlink e.platform hpl
  cases Option.some.inj (hc4.symm.trans hc5)
  obtain ⟨vm', X', st⟩ := X.thenCaughtThrough q (g := F0 m pc ls rest) rfl (Steps.refl _) (by rw [hT]; exact hcell) (by rw [hv]; rfl) (by obtain ⟨k9, h9, -⟩ := Vm.findClass_spec hcl; exact ⟨k9, h9⟩) pre x suf hsplit
    (fun z hz => by
      rcases hpass z hz with h | ⟨hz0, nm, hl1, hn1⟩
      · exact Or.inl h
      · obtain ⟨c6, hc6, hcl6⟩ := Cond.classLink_spec hown hl1 e.platform hpl
        obtain ⟨a8, b8, h1, h2, h3⟩ := hn1
        cases Option.some.inj (h1.symm.trans hcl)
        cases Option.some.inj (h2.symm.trans hc6)
        exact Or.inr ⟨hz0, _, hcl6, h3⟩) hx (Or.inr ⟨h0, c4, hcl5, hasg⟩)
  obtain ⟨t, a1, b1⟩ := kk (T.setVm vm') hT X'
  exact ⟨t, st.trans a1, b1⟩
end Rows
section Ends
variable {p : Program} {l : Launch} {e : Env} {R : Room} {s : State} {m : MethodId} {args : Array Value} {below : List Frame} {meth : Method} {c : Code} {H : Heap} {locs : List Loc} {cells slots : Nat} {Q : State → Prop}
variable {mc ms : Nat} {free : Addr → Prop} {A0 A1 : Nat → Prop} {H0 : Heap} {a : Array Value} {ls : Array Slot} {st0 rest : List Value}
variable {Qc : Array Value → State → Outcome → State → Prop} {XC : String → State → State → Prop}
/-- what a body that may throw owes at its end -/
def vx_MQ (below : List Frame) (Qc : Array Value → State → Outcome → State → Prop) (XC : String → State → State → Prop) (a : Array Value) (s : State) (mc ms : Nat) (free : Addr → Prop) : State → Prop := fun t =>
  ∃ o, t.status = .running ∧ Ended t below o ∧ vx_Q Qc XC mc ms free a s o t
theorem vx_ret {g : JFrame} {mc ms : Nat} (k : W p l e R s m args below meth c H locs cells slots (MQ below Qc args s mc ms free) g) : W p l e R s m args below meth c H locs cells slots (vx_MQ below Qc XC args s mc ms free) g := by
  intro T hT X
  obtain ⟨t, a1, o, b1, b2, b3, b4⟩ := k T hT X
  exact ⟨t, a1, o, b1, b2, Or.inl ⟨b3, b4⟩⟩
/-- not caught here: it goes on to the caller -/
theorem vx_widen {g : JFrame} {q : Addr} {k n : Nat} (h1 : cells ≤ k) (h2 : slots ≤ n) (kk : vx_W p l e R s m args below meth c H locs k n Q g q) : vx_W p l e R s m args below meth c H locs cells slots Q g q := fun T hT X => kk T hT (stand_widen X h1 h2)
theorem vx_out {pc : Nat} {E : String} {ce : Cell} {q : Addr} {mc ms : Nat} (hout : ∀ x ∈ c.exceptionTable.toList, covers x pc = false) (hlocks : meth.locks = false) (hcell : H[q]? = some ce) (hv : ce.vm = .none) (hcl : s.vm.findClass E = some ce.cls)
    (hx : ∀ t : State, t.heap = H → s.vm.Alike t.vm → XC E s t) (hf : ∀ z ∈ locs, free z.base) (hc : cells ≤ mc) (hs : slots ≤ ms) :
    vx_W p l e R s m args below meth c H locs cells slots (vx_MQ below Qc XC args s mc ms free) (F0 m pc ls rest) q := by
  intro T hT X
  obtain ⟨st1, hrun, hend, hW, hsm⟩ := X.leaveThrown q (g := F0 m pc ls rest) rfl rfl rfl hout hlocks
  have hcell9 : (T.setFrames (.throwing q :: below)).heap[q]? = some ce := by
    show T.heap[q]? = some ce
    rw [hT]; exact hcell
  exact ⟨_, st1, .threw q, hrun, hend, Or.inr ⟨q, rfl, E, ce, locs, hx _ hT hW.alike, hcell9, hv, hcl, hW, hsm.mono hc hs, hf⟩⟩
theorem vx_frame {U : State} {k n : Nat} (h : s.sameButNew ({ U with vm := s.vm } : State) locs k n) : s.heap.size ≤ U.heap.size ∧ ∀ q : Nat, q < s.heap.size → (∀ z ∈ locs, z.base ≠ q) → U.heap[q]? = s.heap[q]? := by
  obtain ⟨-, h2, -, -, -, h6⟩ := h
  refine ⟨h2, fun q hq hz => ?_⟩
  obtain ⟨c9, e1, e2, e3, e4⟩ := h6 q _ (Array.getElem?_eq_getElem hq)
  have hs : c9.slots = (s.heap[q]).slots := Array.ext_getElem? fun i => e4 i fun hm => hz _ hm rfl
  have h9 : c9 = s.heap[q] := by
    rw [hs] at e2
    exact e2
  have e5 : U.heap[q]? = some c9 := e1
  rw [e5, h9, Array.getElem?_eq_getElem hq]
/-- the words of a throw but the four that speak of the heap -/
def vx_no (w : Cond) : Bool := decide (w ≠ .isRef (.static Bundle.tN "UNASSIGNED_STACK" Bundle.steD)) && decide (w ≠ .isRef (.static Bundle.tN "SUPPRESSED_SENTINEL" Bundle.listD)) && decide (w ≠ .laysStatic Bundle.tN "UNASSIGNED_STACK" Bundle.steD) && decide (w ≠ .laysStatic Bundle.tN "SUPPRESSED_SENTINEL" Bundle.listD)
def vx_at0 (own : String) (ic : Nat) (X : String) (names : List String) : List Cond := (Bundle.ownAtoms0 own ic X names).filter vx_no
def vx_atS (own : String) (ic : Nat) (X : String) (names : List String) : List Cond := (Bundle.ownAtoms own ic X names).filter vx_no
/-- a word that the tables alone decide, or a good one -/
def vx_ot (w : Cond) : Bool := w.onTables || goodWord w
theorem vx_ot_at {args a' : Array Value} {s U : State} {w : Cond} (hW : s.WarmedH U.vm) (hvm : s.vm = U.vm) (hg : vx_ot w = true) (h : w.before args s = true) : w.before a' U = true := by
  simp only [vx_ot, Bool.or_eq_true] at hg
  rcases hg with hg | hg
  · exact va_tabs hg hvm h
  · exact word_at hW (good_of_word hg) h
/-- a list's words: the good ones out of the method's own list, the others by premises of their own -/
theorem vx_hat {args : Array Value} {s : State} {L B : List Cond} (h1 : ∀ w ∈ L.filter goodWord, w.before args s = true) (h2 : ∀ w ∈ L.filter (fun w => !goodWord w), w ∈ B) (h3 : ∀ w ∈ B, w.before args s = true) : ∀ w ∈ L, w.before args s = true := by
  intro w hw
  by_cases g : goodWord w = true
  · exact h1 w (List.mem_filter.mpr ⟨hw, g⟩)
  · refine h3 w (h2 w (List.mem_filter.mpr ⟨hw, ?_⟩))
    show (!goodWord w) = true
    cases hgw : goodWord w
    · rfl
    · exact absurd hgw g
theorem vx_c {args : Array Value} {s : State} {w : Cond} {B : List Cond} (h : w.before args s = true) (t : ∀ w ∈ B, w.before args s = true) : ∀ w' ∈ w :: B, w'.before args s = true := fun w' h' => (List.mem_cons.mp h').elim (fun e => by rw [e]; exact h) (t w')
theorem vx_n {args : Array Value} {s : State} : ∀ w ∈ ([] : List Cond), w.before args s = true := fun _ h => nomatch h
theorem vx_own {args : Array Value} {s : State} {L : List Cond} (h1 : ∀ w ∈ L.filter vx_no, w.before args s = true)
    (hU : (Cond.isRef (.static Bundle.tN "UNASSIGNED_STACK" Bundle.steD)).before args s = true) (hN : (Cond.isRef (.static Bundle.tN "SUPPRESSED_SENTINEL" Bundle.listD)).before args s = true)
    (lU : (Cond.laysStatic Bundle.tN "UNASSIGNED_STACK" Bundle.steD).before args s = true) (lN : (Cond.laysStatic Bundle.tN "SUPPRESSED_SENTINEL" Bundle.listD).before args s = true) : ∀ w ∈ L, w.before args s = true := by
  intro w hw
  by_cases e1 : w = .isRef (.static Bundle.tN "UNASSIGNED_STACK" Bundle.steD)
  · rw [e1]; exact hU
  · by_cases e2 : w = .isRef (.static Bundle.tN "SUPPRESSED_SENTINEL" Bundle.listD)
    · rw [e2]; exact hN
    · by_cases e3 : w = .laysStatic Bundle.tN "UNASSIGNED_STACK" Bundle.steD
      · rw [e3]; exact lU
      · by_cases e4 : w = .laysStatic Bundle.tN "SUPPRESSED_SENTINEL" Bundle.listD
        · rw [e4]; exact lN
        · exact h1 w (List.mem_filter.mpr ⟨hw, by unfold vx_no; rw [decide_eq_true e1, decide_eq_true e2, decide_eq_true e3, decide_eq_true e4]; rfl⟩)
/-- where a static field lies, its class's statics cell in H -/
def vx_L (C n d : String) (A : Nat → Prop) (U : State) (H : Heap) : Prop := ∃ (c : ClassId) (k : Class) (i : Nat) (f : Field) (a : Nat) (cell : Cell), U.vm.findClass C = some c ∧ U.fieldFound? C n d = some (c, k, i, f) ∧ f.isStatic = true ∧ k.statics = some a ∧ H[a]? = some cell ∧ cell.vm.isStatics = true ∧ cell.cls = c ∧ f.slot < cell.slots.size ∧ k.staticTypes[f.slot]? = some f.type ∧ ¬ A a
theorem vx_L.moved {C n d : String} {A : Nat → Prop} {u U : State} {H : Heap} (hvm : u.vm.Alike U.vm) (h : vx_L C n d A u H) : vx_L C n d A U H := by
  obtain ⟨c, k, i, f, a, cell, h1, h2, h3, h4, h5, h6, h7, h8, h9, h10⟩ := h
  obtain ⟨k', hi', he⟩ := State.fieldFound?_setVm hvm h2
  exact ⟨c, k', i, f, a, cell, by rw [hvm.findClass]; exact h1, hi', h3, by rw [he]; exact h4, h5, h6, h7, h8, by rw [he]; exact h9, h10⟩
theorem vx_L.kept {C n d : String} {A : Nat → Prop} {U : State} {H H1 : Heap} (h : vx_L C n d A U H) (hq : ∀ a : Nat, a < H.size → ¬ A a → H1[a]? = H[a]?) : vx_L C n d A U H1 := by
  obtain ⟨c, k, i, f, a, cell, h1, h2, h3, h4, h5, h6, h7, h8, h9, h10⟩ := h
  exact ⟨c, k, i, f, a, cell, h1, h2, h3, h4, by rw [hq a (Array.getElem?_eq_some_iff.mp h5).1 h10]; exact h5, h6, h7, h8, h9, h10⟩
theorem vx_L.narrow {C n d : String} {A B : Nat → Prop} {U : State} {H : Heap} (h : vx_L C n d A U H) (hAB : ∀ q, B q → A q) : vx_L C n d B U H := by
  obtain ⟨c, k, i, f, a, cell, h1, h2, h3, h4, h5, h6, h7, h8, h9, h10⟩ := h
  exact ⟨c, k, i, f, a, cell, h1, h2, h3, h4, h5, h6, h7, h8, h9, fun z => h10 (hAB _ z)⟩
theorem vx_L.word {C n d : String} {A : Nat → Prop} {s : State} {args : Array Value} (h : vx_L C n d A s s.heap) : (Cond.laysStatic C n d).before args s = true := by
  obtain ⟨c, k, i, f, a, cell, h1, h2, h3, h4, h5, h6, h7, h8, h9, -⟩ := h
  show (Cond.laysStatic C n d).holds args s none s [] = true
  exact Cond.laysStatic_of h1 h2 h3 h4 h5 h6 h7 h8 h9
/-- .. and what it holds: null or some reference -/
def vx_Zq (C n d : String) (A : Nat → Prop) (U : State) (H : Heap) : Prop := va_Zq C n d A U H ∧ vx_L C n d A U H
theorem vx_Zq.moved {C n d : String} {A : Nat → Prop} {u U : State} {H : Heap} (hvm : u.vm.Alike U.vm) (h : vx_Zq C n d A u H) : vx_Zq C n d A U H := ⟨va_Zq.moved hvm h.1, vx_L.moved hvm h.2⟩
theorem vx_Zq.kept {C n d : String} {A : Nat → Prop} {U : State} {H H1 : Heap} (h : vx_Zq C n d A U H) (hq : ∀ a : Nat, a < H.size → ¬ A a → H1[a]? = H[a]?) : vx_Zq C n d A U H1 := ⟨va_Zq.kept h.1 hq, vx_L.kept h.2 hq⟩
theorem vx_Zq.narrow {C n d : String} {A B : Nat → Prop} {U : State} {H : Heap} (h : vx_Zq C n d A U H) (hAB : ∀ q, B q → A q) : vx_Zq C n d B U H := ⟨va_Zq.narrow h.1 hAB, vx_L.narrow h.2 hAB⟩
theorem vx_Zqof {args : Array Value} {s : State} {C n d : String} {A : Nat → Prop} (hl : (Cond.laysStatic C n d).before args s = true) (hini : (Cond.initialized C).before args s = true) (h : (Cond.isRef (.static C n d)).before args s = true) (hA : ∀ a : Nat, a < s.heap.size → ¬ A a) : vx_Zq C n d A s s.heap := by
  refine ⟨va_Zqof hl hini h hA, ?_⟩
  obtain ⟨c, k, i, f, a, cell, h1, h2, h3, h4, h5, h6, h7, h8, h9⟩ := Cond.laysStatic_spec hl
  exact ⟨c, k, i, f, a, cell, h1, h2, h3, h4, h5, h6, h7, h8, h9, hA a (Array.getElem?_eq_some_iff.mp h5).1⟩
theorem vx_isRef {C n d : String} {v : Value} {A : Nat → Prop} {s : State} {args : Array Value} (h : va_Z C n d v A s s.heap) (hv : v.isRef = true) : (Cond.isRef (.static C n d)).before args s = true := by
  obtain ⟨cf, kf, fi, f, a, cell, h1, h2, h3, h4, h5, h6, h7, -⟩ := h
  have he : (Term.static C n d).eval args s none [] s = some v := by
    simp [Term.eval, State.fieldNamed?, h1, h2, h4, h5, h6, h7]
  simp only [Cond.before, Cond.holds, Cond.value, he]
  cases v <;> simp_all [Value.isRef]
theorem vx_isRefq {C n d : String} {A : Nat → Prop} {s : State} {args : Array Value} (h : va_Zq C n d A s s.heap) : (Cond.isRef (.static C n d)).before args s = true := by
  rcases h with h | ⟨t, h⟩
  · exact vx_isRef h rfl
  · exact vx_isRef h rfl
/-- the same frame, seen from here: as if the method were called anew in this heap -/
theorem vx_rebase {T : State} (X : Stand p l e R s m args below meth c T locs cells slots) {R' : Room} (hf : R'.frames ≤ R.frames) (hl : R'.locals ≤ R.locals) (hc : cells + R'.cells ≤ R.cells) (hs : slots + R'.slots ≤ R.slots) :
    Stand p l e R' ((T.setVm s.vm).setFrames (.invoking m args :: below)) m args below meth c T [] 0 0 := by
  have htop : (T.setVm s.vm).topJava?.isSome := X.here.top
  have hF : ((T.setVm s.vm).setFrames (.invoking m args :: below)).frames = .invoking m args :: below := State.frames_setFrames _ (State.cur_lt_of_top htop)
  obtain ⟨g₀, hg0⟩ := Option.isSome_iff_exists.mp htop
  obtain ⟨r, hr⟩ := State.topJava?_eq_some.mp hg0
  have hl9 : e.platform.stackLimits (T.setVm s.vm).me = e.platform.stackLimits s.me := X.limits
  have hb9 : (T.setVm s.vm).me.stackBytes = s.me.stackBytes := X.bytes
  refine ⟨X.admits, X.cas, X.clock, hF, ?_, X.hears, X.method, X.code, X.here, X.tail, X.warmed, ?_, ?_, ?_⟩
  · have h := X.room
    have hU : ((T.setVm s.vm).setFrames (.invoking m args :: below)).localsInUse = s.localsInUse := by
      rw [State.localsInUse_invoking hF (meth := meth) (c := c) X.method X.code, State.localsInUse_invoking X.frames X.method X.code]
    simp only [State.hasRoom, Bool.and_eq_true, decide_eq_true_eq] at h ⊢
    obtain ⟨⟨⟨⟨h1, h2, h3, h4, h5, h6⟩, h7⟩, h8⟩, h9⟩ := h
    rw [X.frames, List.length_cons] at h2 h3
    have q1 := X.heapSize
    have q2 := X.used
    simp only [hF, hU, List.length_cons, State.stackLimits_setFrames, State.stackBytes_setFrames, hl9, hb9]
    refine ⟨⟨⟨⟨by omega, by omega, by omega, by omega, by omega, h6⟩, ?_⟩, ?_⟩, X.book⟩
    · show T.heap.size + R'.cells ≤ e.platform.maxCells
      omega
    · show T.slotsUsed + R'.slots ≤ e.platform.maxSlots
      omega
  · rw [State.stackLimits_setFrames]; rfl
  · rw [State.stackBytes_setFrames]; rfl
  · refine ⟨?_, Nat.le_refl _, Nat.le_refl _, ?_, ?_, fun a c9 h9 => ⟨c9, h9, rfl, rfl, fun _ _ => rfl⟩⟩
    · obtain ⟨t, ht, -⟩ := State.frames_cons hr
      show T.setVm s.vm = { ((T.setVm s.vm).setFrames (.invoking m args :: below)).setFrames (T.setVm s.vm).frames with heap := T.heap, slotsUsed := T.slotsUsed }
      rw [State.setFrames_setFrames, State.setFrames_self ht]
      rfl
    · show T.slotsUsed = T.slotsUsed + ((T.heap.toList.drop T.heap.size).map (·.slots.size)).sum
      rw [List.drop_eq_nil_of_le (Nat.le_of_eq Array.length_toList)]
      rfl
    · show ((T.heap.toList.drop T.heap.size).map (·.slots.size)).sum ≤ 0
      rw [List.drop_eq_nil_of_le (Nat.le_of_eq Array.length_toList)]
      exact Nat.le_refl _
/-- 'throw new E()': new; dup; invokespecial; athrow -/
theorem vx_throw0 {cc : ByteArray} {pc : Nat} (hexec : p.tables.exec = Jvm.exec) (hb : c.code = cc) (hl : l.stackTraces = false) {own cls : String} {names : List String} {ik ic mc ms : Nat} {A : Nat → Prop}
    (hown : s.vm.findClass own = some m.cls) (hcls : Bundle.fit cls = true) (hnames : ∀ n ∈ names, Bundle.fit n = true)
    (hk : (Cond.classLink own ik cls).before args s = true) (hini : (Cond.initialized cls).before args s = true) (hat : ∀ w ∈ vx_at0 own ic cls names, w.before args s = true)
    (hgood : ∀ w ∈ Cond.classLink own ik cls :: Cond.initialized cls :: vx_at0 own ic cls names, vx_ot w = true)
    (hU : vx_Zq Bundle.tN "UNASSIGNED_STACK" Bundle.steD A s s.heap) (hN : vx_Zq Bundle.tN "SUPPRESSED_SENTINEL" Bundle.listD A s s.heap) (hS : va_S A s.heap H locs) (hsize : ls.size = c.maxLocals)
    (d0 : decode cc pc = .ok (.new ik, 3)) (d3 : decode cc (pc + 3) = .ok (.dup, 1)) (d4 : decode cc (pc + 4) = .ok (.invokespecial ic, 3)) (d7 : decode cc (pc + 7) = .ok (.athrow, 1))
    (hout : ∀ x ∈ c.exceptionTable.toList, covers x (pc + 7) = false)
    (hRframes : names.length + 3 < R.frames) (hRlocals : (rest.map fun v => v.category).sum + (13 * (names.length + 1) + 42) ≤ R.locals) (hRcells : cells + 1 ≤ R.cells) (hRslots : slots + 6 ≤ R.slots) (hlocks : meth.locks = false)
    (hx : ∀ t : State, s.vm.Alike t.vm → H.size ≤ t.heap.size → (∀ q : Nat, q < H.size → t.heap[q]? = H[q]?) → XC cls s t)
    (hf : ∀ z ∈ locs, free z.base) (hc : cells + 1 ≤ mc) (hs : slots + 6 ≤ ms) :
    W p l e R s m args below meth c H locs cells slots (vx_MQ below Qc XC args s mc ms free) (F0 m pc ls rest) := by
  intro T hT X
  have htr : e.platform.stackTraces = false := (show e.platform.stackTraces = l.stackTraces by rw [X.admits.platform]).trans hl
  have Y := vx_rebase X (R' := { frames := R.frames, locals := R.locals, cells := 1, slots := 6 }) (Nat.le_refl _) (Nat.le_refl _) hRcells hRslots
  obtain ⟨s', hA⟩ : ∃ z, z = (T.setVm s.vm).setFrames (.invoking m args :: below) := ⟨_, rfl⟩
  rw [← hA] at Y
  have hvm : s'.vm = s.vm := by rw [hA]; rfl
  have hhp : s'.heap = H := by rw [hA]; exact hT
  have hW0 : s.WarmedH s'.vm := by rw [hvm]; exact State.WarmedH.refl s
  have hat' : ∀ w ∈ vx_at0 own ic cls names, w.before args s' = true := fun w hw => vx_ot_at hW0 hvm.symm (hgood w (List.mem_cons_of_mem _ (List.mem_cons_of_mem _ hw))) (hat w hw)
  have hk' : (Cond.classLink own ik cls).before args s' = true := vx_ot_at hW0 hvm.symm (hgood _ List.mem_cons_self) hk
  have hini' : (Cond.initialized cls).before args s' = true := vx_ot_at hW0 hvm.symm (hgood _ (List.mem_cons_of_mem _ List.mem_cons_self)) hini
  have hU' : vx_Zq Bundle.tN "UNASSIGNED_STACK" Bundle.steD A s' s'.heap := by rw [hhp]; exact vx_Zq.moved hW0.alike (hU.kept hS.2.1)
  have hN' : vx_Zq Bundle.tN "SUPPRESSED_SENTINEL" Bundle.listD A s' s'.heap := by rw [hhp]; exact vx_Zq.moved hW0.alike (hN.kept hS.2.1)
  have h : ∀ w ∈ Bundle.ownAtoms0 own ic cls names, w.before args s' = true := vx_own hat' (vx_isRefq hU'.1) (vx_isRefq hN'.1) hU'.2.word hN'.2.word
  have hown' : s'.vm.findClass own = some m.cls := by rw [hvm]; exact hown
  have hins : (Cond.instantiable cls 6).before args s' = true := h _ (by simp [Bundle.ownAtoms0])
  obtain ⟨vm₁, cX, kX, hfX, hkX, -, -, X₁, st1⟩ := Y.newCold hexec (own := own) (C := cls) (index := ik) (n := 6) hown' hk' hins hini'
    (g := F0 m pc ls rest) rfl (by rw [hb]; exact d0) (Nat.le_refl _) (Nat.le_refl _)
  generalize hT1 : (T.setVm vm₁).pushCell { cls := cX, slots := kX.instanceTypes.map defaultValue, vm := .none } = T1 at X₁ st1
  have hcat : (Value.ref T.heap.size).category = 1 := rfl
  have hcellA : T1.heap[T.heap.size]? = some (freshCell cX kX) := by rw [← hT1]; exact State.heap_pushCell_size _ _
  have d3' : decode c.code (pc + 3) = .ok (.dup, 1) := by rw [hb]; exact d3
  obtain ⟨U, hsteps, hrun, hend, hW, hsame, ce, hce, hO⟩ := X₁.ctorThrow0 hexec htr (own := own) (cls := cls) (names := names) (ic := ic) hown' hcls hnames h (fun x hx => nomatch hx) hfX hkX hcellA (by rw [hhp, hT]; exact Nat.le_refl _)
    (g := { method := m, pc := pc + 4, locals := ls, stack := .ref T.heap.size :: .ref T.heap.size :: rest, locked := none }) rfl hsize rfl rfl (rest := rest) rfl
    (by rw [hb]; exact d4) (by rw [hb]; exact d7) hout hRframes (by simp only [List.map_cons, List.sum_cons, hcat]; omega) hlocks
  obtain ⟨f1, f2⟩ := vx_frame hsame
  rw [hhp] at f1 f2
  have hWs : s.WarmedH U.vm := State.WarmedH.trans hW0 hW
  have hcl : s.vm.findClass cls = some ce.cls := by
    have h9 := hO.cls
    rw [hvm] at h9
    exact h9
  have hall : s.sameButNew ({ U with vm := s.vm } : State) locs mc ms := by
    subst hA
    obtain ⟨e1, e2⟩ := hsame
    rw [State.setFrames_setFrames] at e1
    have h2 : (T.setVm s.vm).sameButNew ({ U with vm := s.vm } : State) [] (0 + 1) (0 + 6) := ⟨e1, e2⟩
    have h3 := X.same.trans h2
    rw [List.append_nil] at h3
    exact h3.mono hc hs
  refine ⟨U, ?_, .threw T.heap.size, hrun, hend, Or.inr ⟨T.heap.size, rfl, cls, ce, locs, hx U hWs.alike f1 (fun q hq => f2 q hq (fun z hz => nomatch hz)), hce, hO.vm, hcl, hWs, hall, hf⟩⟩
  refine st1 _ ?_
  show Steps p.tables e below (T1.setTop { method := m, pc := pc + 3, locals := ls, stack := .ref T.heap.size :: rest, locked := none }) _
  jvm_step X₁.here [X₁.here.top, hexec, d3', Value.category]
  exact hsteps
/-- 'throw new E("text")': new; dup; ldc; invokespecial; athrow -/
theorem vx_throwS {cc : ByteArray} {pc : Nat} (hexec : p.tables.exec = Jvm.exec) (hb : c.code = cc) (hl : l.stackTraces = false) {own cls text : String} {names : List String} {ik is ic mc ms sa : Nat} {A : Nat → Prop}
    (hown : s.vm.findClass own = some m.cls) (hcls : Bundle.fit cls = true) (hnames : ∀ n ∈ names, Bundle.fit n = true)
    (hk : (Cond.classLink own ik cls).before args s = true) (hini : (Cond.initialized cls).before args s = true) (hstr : vk_R own is text sa s) (hat : ∀ w ∈ vx_atS own ic cls names, w.before args s = true)
    (hgood : ∀ w ∈ Cond.classLink own ik cls :: Cond.initialized cls :: vx_atS own ic cls names, vx_ot w = true)
    (hU : vx_Zq Bundle.tN "UNASSIGNED_STACK" Bundle.steD A s s.heap) (hN : vx_Zq Bundle.tN "SUPPRESSED_SENTINEL" Bundle.listD A s s.heap) (hS : va_S A s.heap H locs) (hsize : ls.size = c.maxLocals)
    (d0 : decode cc pc = .ok (.new ik, 3)) (d3 : decode cc (pc + 3) = .ok (.dup, 1)) (d4 : decode cc (pc + 4) = .ok (.ldc is, 2)) (d6 : decode cc (pc + 6) = .ok (.invokespecial ic, 3)) (d9 : decode cc (pc + 9) = .ok (.athrow, 1))
    (hout : ∀ x ∈ c.exceptionTable.toList, covers x (pc + 9) = false)
    (hRframes : names.length + 3 < R.frames) (hRlocals : (rest.map fun v => v.category).sum + (13 * (names.length + 1) + 43) ≤ R.locals) (hRcells : cells + 1 ≤ R.cells) (hRslots : slots + 6 ≤ R.slots) (hlocks : meth.locks = false)
    (hx : ∀ t : State, s.vm.Alike t.vm → H.size ≤ t.heap.size → (∀ q : Nat, q < H.size → t.heap[q]? = H[q]?) → XC cls s t)
    (hf : ∀ z ∈ locs, free z.base) (hc : cells + 1 ≤ mc) (hs : slots + 6 ≤ ms) :
    W p l e R s m args below meth c H locs cells slots (vx_MQ below Qc XC args s mc ms free) (F0 m pc ls rest) := by
  intro T hT X
  have htr : e.platform.stackTraces = false := (show e.platform.stackTraces = l.stackTraces by rw [X.admits.platform]).trans hl
  have Y := vx_rebase X (R' := { frames := R.frames, locals := R.locals, cells := 1, slots := 6 }) (Nat.le_refl _) (Nat.le_refl _) hRcells hRslots
  obtain ⟨s', hA⟩ : ∃ z, z = (T.setVm s.vm).setFrames (.invoking m args :: below) := ⟨_, rfl⟩
  rw [← hA] at Y
  have hvm : s'.vm = s.vm := by rw [hA]; rfl
  have hhp : s'.heap = H := by rw [hA]; exact hT
  have hW0 : s.WarmedH s'.vm := by rw [hvm]; exact State.WarmedH.refl s
  have hat' : ∀ w ∈ vx_atS own ic cls names, w.before args s' = true := fun w hw => vx_ot_at hW0 hvm.symm (hgood w (List.mem_cons_of_mem _ (List.mem_cons_of_mem _ hw))) (hat w hw)
  have hk' : (Cond.classLink own ik cls).before args s' = true := vx_ot_at hW0 hvm.symm (hgood _ List.mem_cons_self) hk
  have hini' : (Cond.initialized cls).before args s' = true := vx_ot_at hW0 hvm.symm (hgood _ (List.mem_cons_of_mem _ List.mem_cons_self)) hini
  have hU' : vx_Zq Bundle.tN "UNASSIGNED_STACK" Bundle.steD A s' s'.heap := by rw [hhp]; exact vx_Zq.moved hW0.alike (hU.kept hS.2.1)
  have hN' : vx_Zq Bundle.tN "SUPPRESSED_SENTINEL" Bundle.listD A s' s'.heap := by rw [hhp]; exact vx_Zq.moved hW0.alike (hN.kept hS.2.1)
  have h : ∀ w ∈ Bundle.ownAtoms own ic cls names, w.before args s' = true := vx_own hat' (vx_isRefq hU'.1) (vx_isRefq hN'.1) hU'.2.word hN'.2.word
  have hown' : s'.vm.findClass own = some m.cls := by rw [hvm]; exact hown
  have hins : (Cond.instantiable cls 6).before args s' = true := h _ (by simp [Bundle.ownAtoms])
  obtain ⟨vm₁, cX, kX, hfX, hkX, -, -, X₁, st1⟩ := Y.newCold hexec (own := own) (C := cls) (index := ik) (n := 6) hown' hk' hins hini'
    (g := F0 m pc ls rest) rfl (by rw [hb]; exact d0) (Nat.le_refl _) (Nat.le_refl _)
  generalize hT1 : (T.setVm vm₁).pushCell { cls := cX, slots := kX.instanceTypes.map defaultValue, vm := .none } = T1 at X₁ st1
  have hcat : (Value.ref T.heap.size).category = 1 := rfl
  have hcellA : T1.heap[T.heap.size]? = some (freshCell cX kX) := by rw [← hT1]; exact State.heap_pushCell_size _ _
  have d3' : decode c.code (pc + 3) = .ok (.dup, 1) := by rw [hb]; exact d3
  have d4' : decode c.code (pc + 4) = .ok (.ldc is, 2) := by rw [hb]; exact d4
  have hstr' : vk_R own is text sa s' := vk_R.warm hW0 hstr
  obtain ⟨U, hsteps, hrun, hend, hW, hsame, ce, hce, hO⟩ := X₁.ctorThrowS hexec htr (own := own) (cls := cls) (names := names) (ic := ic) hown' hcls hnames h (fun x hx => nomatch hx) hfX hkX hcellA (by rw [hhp, hT]; exact Nat.le_refl _) (msg := .ref sa) rfl
    (g := { method := m, pc := pc + 6, locals := ls, stack := .ref sa :: .ref T.heap.size :: .ref T.heap.size :: rest, locked := none }) rfl hsize rfl rfl (rest := rest) rfl
    (by rw [hb]; exact d6) (by rw [hb]; exact d9) hout hRframes (by simp only [List.map_cons, List.sum_cons, hcat]; omega) hlocks
  obtain ⟨f1, f2⟩ := vx_frame hsame
  rw [hhp] at f1 f2
  have hWs : s.WarmedH U.vm := State.WarmedH.trans hW0 hW
  have hcl : s.vm.findClass cls = some ce.cls := by
    have h9 := hO.cls
    rw [hvm] at h9
    exact h9
  have hall : s.sameButNew ({ U with vm := s.vm } : State) locs mc ms := by
    subst hA
    obtain ⟨e1, e2⟩ := hsame
    rw [State.setFrames_setFrames] at e1
    have h2 : (T.setVm s.vm).sameButNew ({ U with vm := s.vm } : State) [] (0 + 1) (0 + 6) := ⟨e1, e2⟩
    have h3 := X.same.trans h2
    rw [List.append_nil] at h3
    exact h3.mono hc hs
  refine ⟨U, ?_, .threw T.heap.size, hrun, hend, Or.inr ⟨T.heap.size, rfl, cls, ce, locs, hx U hWs.alike f1 (fun q hq => f2 q hq (fun z hz => nomatch hz)), hce, hO.vm, hcl, hWs, hall, hf⟩⟩
  refine st1 _ ?_
  show Steps p.tables e below (T1.setTop { method := m, pc := pc + 3, locals := ls, stack := .ref T.heap.size :: rest, locked := none }) _
  jvm_step X₁.here [X₁.here.top, hexec, d3', Value.category]
  exact X₁.ldcString hexec (own := own) (text := text) (index := is) (a := sa) hown' hstr'.1 hstr'.2
    (g := { method := m, pc := pc + 4, locals := ls, stack := .ref T.heap.size :: .ref T.heap.size :: rest, locked := none }) rfl d4' _ hsteps
/-- 'throw new E("text")', the text by a wide index -/
theorem vx_throwSW {cc : ByteArray} {pc : Nat} (hexec : p.tables.exec = Jvm.exec) (hb : c.code = cc) (hl : l.stackTraces = false) {own cls text : String} {names : List String} {ik is ic mc ms sa : Nat} {A : Nat → Prop}
    (hown : s.vm.findClass own = some m.cls) (hcls : Bundle.fit cls = true) (hnames : ∀ n ∈ names, Bundle.fit n = true)
    (hk : (Cond.classLink own ik cls).before args s = true) (hini : (Cond.initialized cls).before args s = true) (hstr : vk_R own is text sa s) (hat : ∀ w ∈ vx_atS own ic cls names, w.before args s = true)
    (hgood : ∀ w ∈ Cond.classLink own ik cls :: Cond.initialized cls :: vx_atS own ic cls names, vx_ot w = true)
    (hU : vx_Zq Bundle.tN "UNASSIGNED_STACK" Bundle.steD A s s.heap) (hN : vx_Zq Bundle.tN "SUPPRESSED_SENTINEL" Bundle.listD A s s.heap) (hS : va_S A s.heap H locs) (hsize : ls.size = c.maxLocals)
    (d0 : decode cc pc = .ok (.new ik, 3)) (d3 : decode cc (pc + 3) = .ok (.dup, 1)) (d4 : decode cc (pc + 4) = .ok (.ldc_w is, 3)) (d7 : decode cc (pc + 7) = .ok (.invokespecial ic, 3)) (d10 : decode cc (pc + 10) = .ok (.athrow, 1))
    (hout : ∀ x ∈ c.exceptionTable.toList, covers x (pc + 10) = false)
    (hRframes : names.length + 3 < R.frames) (hRlocals : (rest.map fun v => v.category).sum + (13 * (names.length + 1) + 43) ≤ R.locals) (hRcells : cells + 1 ≤ R.cells) (hRslots : slots + 6 ≤ R.slots) (hlocks : meth.locks = false)
    (hx : ∀ t : State, s.vm.Alike t.vm → H.size ≤ t.heap.size → (∀ q : Nat, q < H.size → t.heap[q]? = H[q]?) → XC cls s t)
    (hf : ∀ z ∈ locs, free z.base) (hc : cells + 1 ≤ mc) (hs : slots + 6 ≤ ms) :
    W p l e R s m args below meth c H locs cells slots (vx_MQ below Qc XC args s mc ms free) (F0 m pc ls rest) := by
  intro T hT X
  have htr : e.platform.stackTraces = false := (show e.platform.stackTraces = l.stackTraces by rw [X.admits.platform]).trans hl
  have Y := vx_rebase X (R' := { frames := R.frames, locals := R.locals, cells := 1, slots := 6 }) (Nat.le_refl _) (Nat.le_refl _) hRcells hRslots
  obtain ⟨s', hA⟩ : ∃ z, z = (T.setVm s.vm).setFrames (.invoking m args :: below) := ⟨_, rfl⟩
  rw [← hA] at Y
  have hvm : s'.vm = s.vm := by rw [hA]; rfl
  have hhp : s'.heap = H := by rw [hA]; exact hT
  have hW0 : s.WarmedH s'.vm := by rw [hvm]; exact State.WarmedH.refl s
  have hat' : ∀ w ∈ vx_atS own ic cls names, w.before args s' = true := fun w hw => vx_ot_at hW0 hvm.symm (hgood w (List.mem_cons_of_mem _ (List.mem_cons_of_mem _ hw))) (hat w hw)
  have hk' : (Cond.classLink own ik cls).before args s' = true := vx_ot_at hW0 hvm.symm (hgood _ List.mem_cons_self) hk
  have hini' : (Cond.initialized cls).before args s' = true := vx_ot_at hW0 hvm.symm (hgood _ (List.mem_cons_of_mem _ List.mem_cons_self)) hini
  have hU' : vx_Zq Bundle.tN "UNASSIGNED_STACK" Bundle.steD A s' s'.heap := by rw [hhp]; exact vx_Zq.moved hW0.alike (hU.kept hS.2.1)
  have hN' : vx_Zq Bundle.tN "SUPPRESSED_SENTINEL" Bundle.listD A s' s'.heap := by rw [hhp]; exact vx_Zq.moved hW0.alike (hN.kept hS.2.1)
  have h : ∀ w ∈ Bundle.ownAtoms own ic cls names, w.before args s' = true := vx_own hat' (vx_isRefq hU'.1) (vx_isRefq hN'.1) hU'.2.word hN'.2.word
  have hown' : s'.vm.findClass own = some m.cls := by rw [hvm]; exact hown
  have hins : (Cond.instantiable cls 6).before args s' = true := h _ (by simp [Bundle.ownAtoms])
  obtain ⟨vm₁, cX, kX, hfX, hkX, -, -, X₁, st1⟩ := Y.newCold hexec (own := own) (C := cls) (index := ik) (n := 6) hown' hk' hins hini'
    (g := F0 m pc ls rest) rfl (by rw [hb]; exact d0) (Nat.le_refl _) (Nat.le_refl _)
  generalize hT1 : (T.setVm vm₁).pushCell { cls := cX, slots := kX.instanceTypes.map defaultValue, vm := .none } = T1 at X₁ st1
  have hcat : (Value.ref T.heap.size).category = 1 := rfl
  have hcellA : T1.heap[T.heap.size]? = some (freshCell cX kX) := by rw [← hT1]; exact State.heap_pushCell_size _ _
  have d3' : decode c.code (pc + 3) = .ok (.dup, 1) := by rw [hb]; exact d3
  have d4' : decode c.code (pc + 4) = .ok (.ldc_w is, 3) := by rw [hb]; exact d4
  have hstr' : vk_R own is text sa s' := vk_R.warm hW0 hstr
  obtain ⟨U, hsteps, hrun, hend, hW, hsame, ce, hce, hO⟩ := X₁.ctorThrowS hexec htr (own := own) (cls := cls) (names := names) (ic := ic) hown' hcls hnames h (fun x hx => nomatch hx) hfX hkX hcellA (by rw [hhp, hT]; exact Nat.le_refl _) (msg := .ref sa) rfl
    (g := { method := m, pc := pc + 7, locals := ls, stack := .ref sa :: .ref T.heap.size :: .ref T.heap.size :: rest, locked := none }) rfl hsize rfl rfl (rest := rest) rfl
    (by rw [hb]; exact d7) (by rw [hb]; exact d10) hout hRframes (by simp only [List.map_cons, List.sum_cons, hcat]; omega) hlocks
  obtain ⟨f1, f2⟩ := vx_frame hsame
  rw [hhp] at f1 f2
  have hWs : s.WarmedH U.vm := State.WarmedH.trans hW0 hW
  have hcl : s.vm.findClass cls = some ce.cls := by
    have h9 := hO.cls
    rw [hvm] at h9
    exact h9
  have hall : s.sameButNew ({ U with vm := s.vm } : State) locs mc ms := by
    subst hA
    obtain ⟨e1, e2⟩ := hsame
    rw [State.setFrames_setFrames] at e1
    have h2 : (T.setVm s.vm).sameButNew ({ U with vm := s.vm } : State) [] (0 + 1) (0 + 6) := ⟨e1, e2⟩
    have h3 := X.same.trans h2
    rw [List.append_nil] at h3
    exact h3.mono hc hs
  refine ⟨U, ?_, .threw T.heap.size, hrun, hend, Or.inr ⟨T.heap.size, rfl, cls, ce, locs, hx U hWs.alike f1 (fun q hq => f2 q hq (fun z hz => nomatch hz)), hce, hO.vm, hcl, hWs, hall, hf⟩⟩
  refine st1 _ ?_
  show Steps p.tables e below (T1.setTop { method := m, pc := pc + 3, locals := ls, stack := .ref T.heap.size :: rest, locked := none }) _
  jvm_step X₁.here [X₁.here.top, hexec, d3', Value.category]
  exact X₁.ldcStringW hexec (own := own) (text := text) (index := is) (a := sa) hown' hstr'.1 hstr'.2
    (g := { method := m, pc := pc + 4, locals := ls, stack := .ref T.heap.size :: .ref T.heap.size :: rest, locked := none }) rfl d4' _ hsteps
end Ends
section Bodies
variable {l : Launch}
theorem vx_ofW {y : MethodName} {ws ws' : List Cond} {rm : Room} {Pc : Array Value → State → Prop} {Qc : Array Value → State → Outcome → State → Prop} {XC : String → State → State → Prop} {mc ms : Nat} {free : Addr → Prop} {cc : ByteArray} {maxL : Nat} {ret : Option FieldType}
    (hy : plainName y.cls = true) (hw : ws = Cond.code y cc maxL ret :: ws')
    (body : ∀ p e s m args below meth c s₁, BodyLoose p l y (headSpec ws rm) cc maxL ret e s m args below meth c s₁ → c.maxLocals = maxL → (∀ x ∈ c.exceptionTable.toList, False) → Pc args s →
      W p l e (headSpec ws rm).room s m args below meth c s.heap [] 0 0 (vx_MQ below Qc XC args s mc ms free) (entryFrame m args maxL)) : vx_Met l y ws rm Pc Qc XC mc ms free := by
  refine MetFree.of_bodyS (code := cc) (maxLocals := maxL) (ret := ret) hy ?_ ?_
  · intro args s m h hn
    obtain ⟨meth, c, h1, h2, h3, h4, h5, h6, -, -⟩ := Cond.code_spec hn (atoms_spec (ws := ws) h _ (by rw [hw]; exact List.mem_cons_self))
    exact ⟨meth, c, h1, h2, h3, h4, h5, h6⟩
  · intro p e s m args below meth c s₁ B hml hP _
    have hh0 : s₁.heap = s.heap := by rw [B.state]; rfl
    have ht : ∀ x ∈ c.exceptionTable.toList, False := by
      obtain ⟨meth9, c9, h1, h2, -, -, -, -, h7, -⟩ := Cond.code_spec B.named (atoms_spec (ws := ws) B.pre _ (by rw [hw]; exact List.mem_cons_self))
      cases Option.some.inj (h1.symm.trans B.method)
      cases Option.some.inj (h2.symm.trans (Stand.of_body B).code)
      intro x hx
      rw [Array.isEmpty_iff.mp h7] at hx
      cases hx
    obtain ⟨t, a1, o, b1, b2, b3⟩ := body p e s m args below meth c s₁ B hml ht hP s₁ hh0 (Stand.of_body B)
    exact ⟨t, o, a1, b1, b2, b3⟩
/-- the table of a body with handlers -/
theorem vx_table {p : Program} {x y : MethodName} {S : Spec} {cc bytes : ByteArray} {maxL maxL' : Nat} {ret ret' : Option FieldType} {e : Env} {s s₁ : State} {m : MethodId} {args : Array Value} {below : List Frame} {meth : Method} {c : Code} {hh : List (Nat × Nat × Nat × Nat)}
    (B : BodyLoose p l y S cc maxL ret e s m args below meth c s₁) (h : (Cond.codeWith y bytes maxL' ret' hh).before args s = true) : c.exceptionTable.toList = tableOf hh := by
  obtain ⟨m9, meth9, c9, hn9, h1, h2, -, -, h6, -⟩ := Cond.codeWith_spec h
  cases Option.some.inj (hn9.symm.trans B.named)
  cases Option.some.inj (h1.symm.trans B.method)
  cases Option.some.inj (h2.symm.trans (Stand.of_body B).code)
  rw [← h6, table_eq]
end Bodies
end VXA
/-! ===== END ===== -/
/-! ===== BEGIN a static call of a method with an exception table ===== -/
section VXS
variable {p : Program} {l : Launch} {e : Env} {R : Room} {s : State} {m : MethodId} {args : Array Value} {below : List Frame} {meth : Method} {c : Code} {T : State} {H : Heap} {locs : List Loc} {cells slots : Nat}
abbrev vx_CSW (R : Room) (s : State) (args : Array Value) (own : String) (index : Nat) (y : MethodName) (bytes : ByteArray) (maxL : Nat) (ret : Option FieldType) (hh : List (Nat × Nat × Nat × Nat)) (ws : List Cond) (rm : Room) (mc ms n : Nat) : Prop :=
  (rm.cells = mc ∧ rm.slots = ms ∧ rm.frames + 1 ≤ R.frames ∧ 8 + (maxL + 11) + rm.locals ≤ R.locals ∧ (∀ w ∈ ws, ∀ (a' : Array Value) (U : State), s.WarmedH U.vm → w.before a' U = true) ∧ Cond.codeWith y bytes maxL ret hh ∈ ws) ∧
  (Cond.codeWith y bytes maxL ret hh).before args s = true ∧ (Cond.initialized y.cls).before args s = true ∧ (y.cls ≠ "java/lang/invoke/MethodHandle" ∧ y.cls ≠ "java/lang/invoke/VarHandle") ∧
  (∀ sig, parseMethodDescriptor y.desc = some sig → n = sig.parameters.length) ∧ (Cond.methodLink own index y).before args s = true ∧ (Cond.static y).before args s = true
theorem vx_cwSW {own : String} {index maxL mc ms : Nat} {y : MethodName} {bytes : ByteArray} {ret : Option FieldType} {hh : List (Nat × Nat × Nat × Nat)} {Ts ws ws' : List Cond} {rm : Room} (n : Nat) (ht : ∀ w ∈ Ts, w.before args s = true) (hT : GoodIn Ts (va_wsS own index y ws)) (hw : ws = Cond.codeWith y bytes maxL ret hh :: ws') (hrc : rm.cells = mc) (hrs : rm.slots = ms)
    (hd : y.cls ≠ "java/lang/invoke/MethodHandle" ∧ y.cls ≠ "java/lang/invoke/VarHandle" ∧ (parseMethodDescriptor y.desc).map (fun d => d.parameters.length) = some n) (hR : rm.frames + 1 ≤ R.frames ∧ 8 + (maxL + 11) + rm.locals ≤ R.locals) :
    vx_CSW R s args own index y bytes maxL ret hh ws rm mc ms n := by
  have ok : ∀ w ∈ va_wsS own index y ws, w.before args s = true := fun w h => ht w (hT w h).1
  have hG : GoodIn Ts ws := fun w h => hT w (by unfold va_wsS; exact List.mem_append_right _ h)
  have hc : Cond.codeWith y bytes maxL ret hh ∈ ws := by rw [hw]; exact List.mem_cons_self
  refine ⟨⟨hrc, hrs, hR.1, hR.2, pay_in ht hG, hc⟩, ht _ (hG _ hc).1, ok _ (by simp [va_wsS]), ⟨hd.1, hd.2.1⟩, fun sig h => ?_, ok _ (by simp [va_wsS]), ok _ (by simp [va_wsS])⟩
  have h2 := hd.2.2
  rw [h] at h2
  exact (Option.some.inj h2).symm
theorem vx_callSW (X : Stand p l e R s m args below meth c T locs cells slots) (hexec : p.tables.exec = Jvm.exec) {own : String} {index : Nat} {y : MethodName} {bytes : ByteArray} {maxL : Nat} {ret : Option FieldType} {hh : List (Nat × Nat × Nat × Nat)}
    (hown : s.vm.findClass own = some m.cls) (hlink : (Cond.methodLink own index y).before args s = true) (hstat : (Cond.static y).before args s = true) (hinit : (Cond.initialized y.cls).before args s = true)
    (hcode : (Cond.codeWith y bytes maxL ret hh).before args s = true) (hy : y.cls ≠ "java/lang/invoke/MethodHandle" ∧ y.cls ≠ "java/lang/invoke/VarHandle")
    {W9 : Nat} {Pre : Pt → Array Value → Prop} {Post : Pt → Array Value → Option Value → Pt → Prop} (hK : Back l R p e below s args y 3 W9 Pre Post)
    {g : JFrame} (hg : g.method = m) (hsize : g.locals.size = c.maxLocals) {argsL rest : List Value} (hlen : ∀ sig, parseMethodDescriptor y.desc = some sig → argsL.length = sig.parameters.length)
    (hstack : g.stack = argsL.reverse ++ rest) (hW : 2 * g.monitorRoom + (rest.map fun v => v.category).sum ≤ W9) (hdg : decode c.code g.pc = .ok (.invokestatic index, 3))
    (hpre : ∀ vm₁, s.WarmedH vm₁ → Pre ⟨T.setVm vm₁, locs, cells, slots⟩ argsL.toArray) :
    ∃ (v : Option Value) (vm₁ : Vm) (B : Pt), s.WarmedH vm₁ ∧ Stand p l e R s m args below meth c B.U B.locs B.cells B.slots ∧ Post ⟨T.setVm vm₁, locs, cells, slots⟩ argsL.toArray v B ∧
      ∀ target, Steps p.tables e below (B.U.setTop { g with pc := g.pc + 3, stack := v.toList ++ rest }) target → Steps p.tables e below (T.setTop g) target := by
  obtain ⟨mk, methM, cM, hnamed, hmethM, -, -, -, -, -, -, hsigM⟩ := Cond.codeWith_spec hcode
  have hstatic : methM.isStatic = true := Cond.static_spec hnamed hmethM hstat
  obtain ⟨kP, hkP, -⟩ := className_of_methodNamed hnamed
  have hinitP : kP.init = .initialized := Cond.initialized_spec (findClass_of_methodNamed hnamed) hkP hinit
  obtain ⟨vm₁, X₁, hstep₁⟩ := X.invokestatic hexec hown hlink hnamed hmethM hstatic hkP hinitP hy (g := g) hg (argsL := argsL) (rest := rest) (hlen _ hsigM) hstack hdg
  obtain ⟨v, B, X', hpost, hsteps⟩ := hK m meth c ⟨T.setVm vm₁, locs, cells, slots⟩ { g with stack := rest } (.invokestatic index) mk argsL.toArray X₁ hg hsize hdg hW (X₁.named hnamed) (hpre vm₁ X₁.warmed)
  exact ⟨v, vm₁, B, X₁.warmed, X', hpost, fun target h => hstep₁ _ fun acts => by rw [doInvoke_state]; exact hsteps.trans h⟩
theorem vx_runSW {y : MethodName} {bytes cc : ByteArray} {maxL nL mc ms n index : Nat} {ret : Option FieldType} {hh : List (Nat × Nat × Nat × Nat)} {ws : List Cond} {rm : Room} {Pc : Array Value → State → Prop} {Qc : Array Value → State → Outcome → State → Prop} {free : Addr → Prop} {Ts : List Cond} {own : String} {As rest : List Value} {g : JFrame}
    (S : CallFix p m c cc nL s args Ts own) (hM : Met l y ws rm Pc Qc mc ms free) (cw : vx_CSW R s args own index y bytes maxL ret hh ws rm mc ms n) (hp : PreS s H Pc As)
    (hg : g.method = m) (hn : As.length = n) (hsize : g.locals.size = nL) (hstack : g.stack = As.reverse ++ rest) (hW : 2 * g.monitorRoom + (rest.map fun v => v.category).sum ≤ 8) (hdg : decode cc g.pc = .ok (.invokestatic index, 3)) (hf : cells + mc ≤ R.cells ∧ slots + ms ≤ R.slots) :
    va_Run p l e R s m args below meth c H locs cells slots mc ms g rest (Qc As.toArray) (free) := by
  obtain ⟨⟨hrc, hrs, hfr, hlo, hws, hcw⟩, hcode, hini, hy, hlen, hl, hstt⟩ := cw
  have hK : Back l R p e below s args y 3 8 (PreOf R mc ms Pc) (PostOf Qc mc ms free) := va_backW (hh := hh) (bytes := bytes) (maxL := maxL) (ret := ret) hM hp.1 hrc hrs hfr hlo hws hcw (fun a' U hW => word_at hW (Or.inl (by first | rfl | simp [Cond.onTables, Cond.keeps, Cond.steady])) hini)
  obtain ⟨hx, hb, hml, ho, -⟩ := S
  intro T hT X
  obtain ⟨v, vm₁, ⟨U', l2, c2, s2⟩, hW₁, X', ⟨g', mk, t, L, e1, e2, hq, h1, hL, h2, h3⟩, st⟩ := vx_callSW X hx (hh := hh) (bytes := bytes) (maxL := maxL) (ret := ret) ho hl hstt hini hcode hy hK hg (hsize.trans hml.symm) (argsL := As) (rest := rest) (fun sig h => hn.trans (hlen sig h)) hstack hW (by rw [hb]; exact hdg)
    (fun vm₁ hW₁ => ⟨hf.1, hf.2, hp.2 (T.setVm vm₁) hT hW₁⟩)
  dsimp only [Pt.U, Pt.locs, Pt.cells, Pt.slots] at X' e1 e2 h1 h2 h3 st
  subst h1; subst h2; subst h3
  exact ⟨v, (T.setVm vm₁).calling g' mk As.toArray, t, U', L, hT, X', hL, e1, e2, hq, st⟩
/-- not caught here, past rows that name other classes: it goes on to the caller -/
theorem vx_outP {p : Program} {l : Launch} {e : Env} {R : Room} {s : State} {m : MethodId} {args : Array Value} {below : List Frame} {meth : Method} {c : Code} {H : Heap} {locs : List Loc} {cells slots : Nat} {free : Addr → Prop} {ls : Array Slot} {rest : List Value} {Qc : Array Value → State → Outcome → State → Prop} {XC : String → State → State → Prop}
    {pc : Nat} {own E : String} {ce : Cell} {q : Addr} {mc ms : Nat} (hown : s.vm.findClass own = some m.cls) (hlocks : meth.locks = false)
    (hpass : ∀ z ∈ c.exceptionTable.toList, covers z pc = false ∨ (z.catchType ≠ 0 ∧ ∃ nm : String, (Cond.classLink own z.catchType nm).before args s = true ∧ va_Nc E nm s)) (hcell : H[q]? = some ce) (hv : ce.vm = .none) (hcl : s.vm.findClass E = some ce.cls)
    (hx : ∀ t : State, t.heap = H → s.vm.Alike t.vm → XC E s t) (hf : ∀ z ∈ locs, free z.base) (hc : cells ≤ mc) (hs : slots ≤ ms) :
    vx_W p l e R s m args below meth c H locs cells slots (vx_MQ below Qc XC args s mc ms free) (F0 m pc ls rest) q := by
  intro T hT X
  have hpl : e.platform.magicAccessors = ({} : Platform).magicAccessors := by rw [X.admits.platform]
  obtain ⟨vm', hW', X', st⟩ := X.outThrough hlocks q (g := F0 m pc ls rest) rfl rfl rfl (cell := ce) (by rw [hT]; exact hcell) (by rw [hv]; rfl)
    (by obtain ⟨k9, h9, -⟩ := Vm.findClass_spec hcl; exact ⟨k9, h9⟩) (fun z hz => by
      rcases hpass z hz with h | ⟨hz0, nm, hl1, hn1⟩
      · exact Or.inl h
      · obtain ⟨c6, hc6, hcl6⟩ := Cond.classLink_spec hown hl1 e.platform hpl
        obtain ⟨a8, b8, h1, h2, h3⟩ := hn1
        cases Option.some.inj (h1.symm.trans hcl)
        cases Option.some.inj (h2.symm.trans hc6)
        exact Or.inr ⟨hz0, _, hcl6, h3⟩)
  obtain ⟨g₀, hfr⟩ := X'.frames_eq
  have hcell9 : ((T.setVm vm').setFrames (.throwing q :: below)).heap[q]? = some ce := by
    show T.heap[q]? = some ce
    rw [hT]; exact hcell
  have hend : Ended ((T.setVm vm').setFrames (.throwing q :: below)) below (.threw q) := State.frames_setFrames _ (State.cur_lt_of_frames hfr)
  refine ⟨(T.setVm vm').setFrames (.throwing q :: below), ?_, .threw q, X'.here.running, hend, Or.inr ⟨q, rfl, E, ce, locs, hx _ hT (X'.ends _).1.alike, hcell9, hv, hcl, (X'.ends _).1, (X'.ends _).2.mono hc hs, hf⟩⟩
  rw [X.pushThrowing_eq]
  exact st
/-- a thing of a world lies in the heap -/
theorem vx_lt {D : va_G} {cl : List vw_C} {ws : va_W} {H1 : Heap} (h : va_P D cl ws H1) {k : Nat} {q : Nat × va_E} (hk : ws[k]? = some q) : q.1 < H1.size := (h k q hk).lt
end VXS
/-! ===== END ===== -/
/-! ===== BEGIN methods with a table of their own: called by a name, returning or throwing ===== -/
section VXH
/-! vx_backW, vx_callVX, vx_callSX, vx_callVW, vx_runVW, vx_runVX, vx_runSX, vx_ofWH follow the same proofs as their sisters above (Free/Laws.lean, Shelf42/LK1.lean); vx_outP calls Shelf42/NT130.lean (outThrough). -/
section
variable {l : Launch} {R : Room} {p : Program} {e : Env} {below : List Frame} {s : State} {sargs : Array Value} {y : MethodName} {len W9 : Nat}
theorem vx_backW {ws : List Cond} {rm : Room} {Pc : Array Value → State → Prop} {Qc : Array Value → State → Outcome → State → Prop} {XC : String → State → State → Prop} {mc ms : Nat} {free : Addr → Prop} {bytes : ByteArray} {maxL : Nat} {ret : Option FieldType} {hh : List (Nat × Nat × Nat × Nat)}
    (hM : vx_Met l y ws rm Pc Qc XC mc ms free) (hblind : FrameBlind Pc) (hrc : rm.cells = mc) (hrs : rm.slots = ms)
    (hframes : rm.frames + 1 ≤ R.frames) (hlocals : W9 + (maxL + 11) + rm.locals ≤ R.locals)
    (hws : ∀ w ∈ ws, ∀ a' U, s.WarmedH U.vm → w.before a' U = true) (hcode : Cond.codeWith y bytes maxL ret hh ∈ ws) (hinit : ∀ a' U, s.WarmedH U.vm → (Cond.initialized y.cls).before a' U = true) :
    vx_Back l R p e below s sargs y len W9 (PreOf R mc ms Pc) (PostOf Qc mc ms free) (vx_Post XC mc ms free) := by
  intro m meth c A g ig mk a X hg hsize hdg hW hn hp
  have h1 : (headSpec ws rm).pre.before a A.U = true := atoms_intro fun w hw => hws w hw _ _ X.warmed
  have h2 : (Cond.codeWith y bytes maxL ret hh).before a A.U = true := hws _ hcode _ _ X.warmed
  have h3 : (Cond.initialized y.cls).before a A.U = true := hinit _ _ X.warmed
  have h4 : A.cells + (headSpec ws rm).room.cells ≤ R.cells := by rw [show (headSpec ws rm).room.cells = mc from hrc]; exact hp.1
  have h5 : A.slots + (headSpec ws rm).room.slots ≤ R.slots := by rw [show (headSpec ws rm).room.slots = ms from hrs]; exact hp.2.1
  have hPc : Pc a (A.U.calling g mk a) := hblind _ _ _ _ hp.2.2
  obtain ⟨U, Ls, c0, s0⟩ := A
  dsimp only [Pt.U, Pt.locs, Pt.cells, Pt.slots] at h1 h2 h3 h4 h5 X hn hPc ⊢
  obtain ⟨m9, methY, cY, hn9, hmY, hcY, -, hlY, -⟩ := Cond.codeWith_spec h2
  cases Option.some.inj (hn9.symm.trans hn)
  obtain ⟨kY, hkY, -⟩ := className_of_methodNamed hn
  have hinitY : kY.init = .initialized := Cond.initialized_spec (findClass_of_methodNamed hn) hkY h3
  have h : At U g.method c below := by rw [hg]; exact X.here
  have hlocals9 : W9 + (maxL + 11) + (headSpec ws rm).room.locals ≤ R.locals := hlocals
  have happ : (headSpec ws rm).appliesLoose y e.platform (U.calling g mk a) = true :=
    Spec.appliesLoose_calling (g := g) h hdg hn hkY hinitY
      (X.room_calling (g := g) (R' := (headSpec ws rm).room) hsize hmY hcY hframes (by rw [hlY]; omega) h4 h5) h1
  obtain ⟨mid, hmid⟩ := h.above
  have hfr : (U.setTop g).frames = (.java g :: mid) ++ below := by rw [State.frames_setTop' g h.top, hmid]; rfl
  obtain ⟨o, s₂, hsteps, -, hend, hq⟩ := Steps.callFree hM p X.admits X.cas X.clock (acts := []) hfr happ hPc trivial
  have hq' : vx_Q Qc XC mc ms free a (U.calling g mk a) o s₂ := hq
  rw [State.frames_setTop' g h.top] at hend
  obtain ⟨g₀, hg0⟩ := Option.isSome_iff_exists.mp h.top
  obtain ⟨r, hr⟩ := State.topJava?_eq_some.mp hg0
  have hr' : (({ U with heap := s₂.heap, slotsUsed := s₂.slotsUsed } : State).setVm s₂.vm).frames = .java g₀ :: r := hr
  rcases hq' with ⟨hqc, L, hfe, hL⟩ | ⟨q, rfl, E, ce, L, hx, hce, hcv, hcl, hW₂, hsm, hL⟩
  · obtain ⟨⟨v, rfl⟩, hW₂, e2, q2, q3, q4, q5, q6⟩ := id hfe
    have e3 : s₂ = ({ (U.calling g mk a).setFrames s₂.frames with heap := s₂.heap, slotsUsed := s₂.slotsUsed } : State).setVm s₂.vm := by
      have : s₂ = ({ s₂ with vm := (U.calling g mk a).vm } : State).setVm s₂.vm := rfl
      rw [e2] at this
      exact this
    obtain ⟨c₂, i₂, len₂, hc₂, hd₂, hf₂⟩ := hend
    have hW' : U.WarmedH s₂.vm := hW₂
    have hcc : c₂ = c := by
      have h1 : s₂.code? g.method = U.code? g.method := by
        rw [State.code?_eq, State.code?_eq, hW'.alike.method?]
      exact Option.some.inj (hc₂.symm.trans (h1.trans h.code))
    subst hcc
    have hlen : len₂ = len := by rw [hdg] at hd₂; cases hd₂; rfl
    subst hlen
    have hs₂ : s₂ = (({ U with heap := s₂.heap, slotsUsed := s₂.slotsUsed } : State).setVm s₂.vm).setTop { g with pc := g.pc + len₂, stack := v.toList ++ g.stack } := by
      refine e3.trans ?_
      rw [hf₂, State.calling_eq h.top, State.setFrames_setFrames, State.setTop_of_frames _ hr', hr]
      rfl
    have hsame : U.sameButNew ({ U with heap := s₂.heap, slotsUsed := s₂.slotsUsed } : State) L mc ms := by
      refine ⟨?_, q2, q3, q4, q5, q6⟩
      obtain ⟨t, ht, -⟩ := State.frames_cons hr
      show ({ U with heap := s₂.heap, slotsUsed := s₂.slotsUsed } : State) = { U.setFrames U.frames with heap := s₂.heap, slotsUsed := s₂.slotsUsed }
      rw [State.setFrames_self ht]
    subst hg
    refine Or.inl ⟨v, ⟨(({ U with heap := s₂.heap, slotsUsed := s₂.slotsUsed } : State).setVm s₂.vm), Ls ++ L, c0 + mc, s0 + ms⟩,
      ⟨X.admits, X.cas, X.clock, X.frames, X.room, X.hears, X.method, X.code, (X.here.setHeapUsed s₂.heap s₂.slotsUsed).setVm hW'.alike, X.tail, State.WarmedH.trans X.warmed hW', X.limits, X.bytes, X.same.trans (hsame.setVm s.vm)⟩,
      ⟨g, mk, s₂, L, rfl, rfl, hqc, rfl, hL, rfl, rfl⟩, ?_⟩
    show Steps p.tables e below _ ((({ U with heap := s₂.heap, slotsUsed := s₂.slotsUsed } : State).setVm s₂.vm).setTop { g with pc := g.pc + len₂, stack := v.toList ++ g.stack })
    rw [← hs₂]
    exact hsteps
  · obtain ⟨e2, q2, q3, q4, q5, q6⟩ := id hsm
    have e3 : s₂ = ({ (U.calling g mk a).setFrames s₂.frames with heap := s₂.heap, slotsUsed := s₂.slotsUsed } : State).setVm s₂.vm := by
      have : s₂ = ({ s₂ with vm := (U.calling g mk a).vm } : State).setVm s₂.vm := rfl
      rw [e2] at this
      exact this
    have hf₂ : s₂.frames = .throwing q :: .java g :: U.frames.tail := hend
    have hW' : U.WarmedH s₂.vm := hW₂
    have hs₂ : s₂ = ((({ U with heap := s₂.heap, slotsUsed := s₂.slotsUsed } : State).setVm s₂.vm).setTop g).pushFrame (.throwing q) := by
      refine e3.trans ?_
      rw [hf₂, State.calling_eq h.top, State.setFrames_setFrames, State.pushFrame, State.frames_setTop _ hr', State.setTop_of_frames _ hr', State.setFrames_setFrames, hr]
      rfl
    have hsame : U.sameButNew ({ U with heap := s₂.heap, slotsUsed := s₂.slotsUsed } : State) L mc ms := by
      refine ⟨?_, q2, q3, q4, q5, q6⟩
      obtain ⟨t, ht, -⟩ := State.frames_cons hr
      show ({ U with heap := s₂.heap, slotsUsed := s₂.slotsUsed } : State) = { U.setFrames U.frames with heap := s₂.heap, slotsUsed := s₂.slotsUsed }
      rw [State.setFrames_self ht]
    subst hg
    refine Or.inr ⟨q, ⟨(({ U with heap := s₂.heap, slotsUsed := s₂.slotsUsed } : State).setVm s₂.vm), Ls ++ L, c0 + mc, s0 + ms⟩,
      ⟨X.admits, X.cas, X.clock, X.frames, X.room, X.hears, X.method, X.code, (X.here.setHeapUsed s₂.heap s₂.slotsUsed).setVm hW'.alike, X.tail, State.WarmedH.trans X.warmed hW', X.limits, X.bytes, X.same.trans (hsame.setVm s.vm)⟩,
      ⟨g, mk, s₂, L, E, ce, rfl, rfl, hx, hce, hcv, hcl, rfl, hL, rfl, rfl⟩, ?_⟩
    show Steps p.tables e below _ (((({ U with heap := s₂.heap, slotsUsed := s₂.slotsUsed } : State).setVm s₂.vm).setTop g).pushFrame (.throwing q))
    rw [← hs₂]
    exact hsteps
end
variable {p : Program} {l : Launch} {e : Env} {R : Room} {s : State} {m : MethodId} {args : Array Value} {below : List Frame} {meth : Method} {c : Code} {T : State} {H : Heap} {locs : List Loc} {cells slots : Nat}
theorem vx_callVX (X : Stand p l e R s m args below meth c T locs cells slots) (hexec : p.tables.exec = Jvm.exec) {own C : String} {index : Nat} {y : MethodName} {bytes : ByteArray} {maxL : Nat} {ret : Option FieldType} {hh : List (Nat × Nat × Nat × Nat)}
    (hown : s.vm.findClass own = some m.cls) (hlink : (Cond.methodLink own index y).before args s = true) (hinst : (Cond.instanceMethod y).before args s = true) (hsel : (Cond.selects C y y).before args s = true)
    (hcode : (Cond.codeWith y bytes maxL ret hh).before args s = true) (hy : y.cls ≠ "java/lang/invoke/MethodHandle" ∧ y.cls ≠ "java/lang/invoke/VarHandle")
    {W9 : Nat} {Pre : Pt → Array Value → Prop} {Post : Pt → Array Value → Option Value → Pt → Prop} {PostX : Pt → Array Value → Addr → Pt → Prop} (hK : vx_Back l R p e below s args y 3 W9 Pre Post PostX)
    {b : Addr} {cellB : Cell} (hcell : T.heap[b]? = some cellB) (hobj : cellB.vm.isStatics = false) (hcls : s.vm.findClass C = some cellB.cls)
    {g : JFrame} (hg : g.method = m) (hsize : g.locals.size = c.maxLocals) {argsL rest : List Value} (hlen : ∀ sig, parseMethodDescriptor y.desc = some sig → argsL.length = sig.parameters.length)
    (hstack : g.stack = argsL.reverse ++ .ref b :: rest) (hW : 2 * g.monitorRoom + (rest.map fun v => v.category).sum ≤ W9) (hdg : decode c.code g.pc = .ok (.invokevirtual index, 3))
    (hpre : ∀ vm₁, s.WarmedH vm₁ → Pre ⟨T.setVm vm₁, locs, cells, slots⟩ (Value.ref b :: argsL).toArray) :
    (∃ (v : Option Value) (vm₁ : Vm) (B : Pt), s.WarmedH vm₁ ∧ Stand p l e R s m args below meth c B.U B.locs B.cells B.slots ∧ Post ⟨T.setVm vm₁, locs, cells, slots⟩ (Value.ref b :: argsL).toArray v B ∧
      ∀ target, Steps p.tables e below (B.U.setTop { g with pc := g.pc + 3, stack := v.toList ++ rest }) target → Steps p.tables e below (T.setTop g) target) ∨
    (∃ (q : Addr) (vm₁ : Vm) (B : Pt), s.WarmedH vm₁ ∧ Stand p l e R s m args below meth c B.U B.locs B.cells B.slots ∧ PostX ⟨T.setVm vm₁, locs, cells, slots⟩ (Value.ref b :: argsL).toArray q B ∧
      Steps p.tables e below (T.setTop g) ((B.U.setTop { g with stack := rest }).pushFrame (.throwing q))) := by
  obtain ⟨mk, methM, hnamed, hmethM, hstM, habM⟩ := Cond.instanceMethod_spec hinst
  obtain ⟨m8, methM', cM, hn8, hmethM', -, -, -, -, -, -, hsigM⟩ := Cond.codeWith_spec hcode
  cases Option.some.inj (hn8.symm.trans hnamed)
  cases hmethM.symm.trans hmethM'
  obtain ⟨c2, r2, m2, q1, q2, q3, q4, kP, hkP, hkPi⟩ := Cond.selects_spec hsel
  cases hcls.symm.trans q1
  cases (State.methodFound?_of_named hnamed hy).symm.trans q2
  cases hnamed.symm.trans q3
  have hselP : selectMethod e.platform s.vm cellB.cls mk = .method mk := by rw [Launch.admits_selectMethod X.admits]; exact q4
  obtain ⟨vm₁, X₁, hstep₁⟩ := X.invokevirtual hexec hown hlink hnamed hmethM hstM hkP hkPi hy (a := b) (cell := cellB) hcell
    (fun z h => by rw [h] at hobj; cases hobj) hselP hmethM habM hkP hkPi (g := g) hg (argsL := argsL) (rest := rest) (hlen _ hsigM) hstack hdg
  rcases hK m meth c ⟨T.setVm vm₁, locs, cells, slots⟩ { g with stack := rest } (.invokevirtual index) mk (Value.ref b :: argsL).toArray X₁ hg hsize hdg hW (X₁.named hnamed) (hpre vm₁ X₁.warmed) with ⟨v, B, X', hpost, hsteps⟩ | ⟨q, B, X', hpost, hsteps⟩
  · exact Or.inl ⟨v, vm₁, B, X₁.warmed, X', hpost, fun target h => hstep₁ _ fun acts => by rw [doInvoke_state]; exact hsteps.trans h⟩
  · exact Or.inr ⟨q, vm₁, B, X₁.warmed, X', hpost, hstep₁ _ fun acts => by rw [doInvoke_state]; exact hsteps⟩
theorem vx_callSX (X : Stand p l e R s m args below meth c T locs cells slots) (hexec : p.tables.exec = Jvm.exec) {own : String} {index : Nat} {y : MethodName} {bytes : ByteArray} {maxL : Nat} {ret : Option FieldType} {hh : List (Nat × Nat × Nat × Nat)}
    (hown : s.vm.findClass own = some m.cls) (hlink : (Cond.methodLink own index y).before args s = true) (hstat : (Cond.static y).before args s = true) (hinit : (Cond.initialized y.cls).before args s = true)
    (hcode : (Cond.codeWith y bytes maxL ret hh).before args s = true) (hy : y.cls ≠ "java/lang/invoke/MethodHandle" ∧ y.cls ≠ "java/lang/invoke/VarHandle")
    {W9 : Nat} {Pre : Pt → Array Value → Prop} {Post : Pt → Array Value → Option Value → Pt → Prop} {PostX : Pt → Array Value → Addr → Pt → Prop} (hK : vx_Back l R p e below s args y 3 W9 Pre Post PostX)
    {g : JFrame} (hg : g.method = m) (hsize : g.locals.size = c.maxLocals) {argsL rest : List Value} (hlen : ∀ sig, parseMethodDescriptor y.desc = some sig → argsL.length = sig.parameters.length)
    (hstack : g.stack = argsL.reverse ++ rest) (hW : 2 * g.monitorRoom + (rest.map fun v => v.category).sum ≤ W9) (hdg : decode c.code g.pc = .ok (.invokestatic index, 3))
    (hpre : ∀ vm₁, s.WarmedH vm₁ → Pre ⟨T.setVm vm₁, locs, cells, slots⟩ argsL.toArray) :
    (∃ (v : Option Value) (vm₁ : Vm) (B : Pt), s.WarmedH vm₁ ∧ Stand p l e R s m args below meth c B.U B.locs B.cells B.slots ∧ Post ⟨T.setVm vm₁, locs, cells, slots⟩ argsL.toArray v B ∧
      ∀ target, Steps p.tables e below (B.U.setTop { g with pc := g.pc + 3, stack := v.toList ++ rest }) target → Steps p.tables e below (T.setTop g) target) ∨
    (∃ (q : Addr) (vm₁ : Vm) (B : Pt), s.WarmedH vm₁ ∧ Stand p l e R s m args below meth c B.U B.locs B.cells B.slots ∧ PostX ⟨T.setVm vm₁, locs, cells, slots⟩ argsL.toArray q B ∧
      Steps p.tables e below (T.setTop g) ((B.U.setTop { g with stack := rest }).pushFrame (.throwing q))) := by
  obtain ⟨mk, methM, cM, hnamed, hmethM, -, -, -, -, -, -, hsigM⟩ := Cond.codeWith_spec hcode
  have hstatic : methM.isStatic = true := Cond.static_spec hnamed hmethM hstat
  obtain ⟨kP, hkP, -⟩ := className_of_methodNamed hnamed
  have hinitP : kP.init = .initialized := Cond.initialized_spec (findClass_of_methodNamed hnamed) hkP hinit
  obtain ⟨vm₁, X₁, hstep₁⟩ := X.invokestatic hexec hown hlink hnamed hmethM hstatic hkP hinitP hy (g := g) hg (argsL := argsL) (rest := rest) (hlen _ hsigM) hstack hdg
  rcases hK m meth c ⟨T.setVm vm₁, locs, cells, slots⟩ { g with stack := rest } (.invokestatic index) mk argsL.toArray X₁ hg hsize hdg hW (X₁.named hnamed) (hpre vm₁ X₁.warmed) with ⟨v, B, X', hpost, hsteps⟩ | ⟨q, B, X', hpost, hsteps⟩
  · exact Or.inl ⟨v, vm₁, B, X₁.warmed, X', hpost, fun target h => hstep₁ _ fun acts => by rw [doInvoke_state]; exact hsteps.trans h⟩
  · exact Or.inr ⟨q, vm₁, B, X₁.warmed, X', hpost, hstep₁ _ fun acts => by rw [doInvoke_state]; exact hsteps⟩
theorem vx_callVW (X : Stand p l e R s m args below meth c T locs cells slots) (hexec : p.tables.exec = Jvm.exec) {own C : String} {index : Nat} {y : MethodName} {bytes : ByteArray} {maxL : Nat} {ret : Option FieldType} {hh : List (Nat × Nat × Nat × Nat)}
    (hown : s.vm.findClass own = some m.cls) (hlink : (Cond.methodLink own index y).before args s = true) (hinst : (Cond.instanceMethod y).before args s = true) (hsel : (Cond.selects C y y).before args s = true)
    (hcode : (Cond.codeWith y bytes maxL ret hh).before args s = true) (hy : y.cls ≠ "java/lang/invoke/MethodHandle" ∧ y.cls ≠ "java/lang/invoke/VarHandle")
    {W9 : Nat} {Pre : Pt → Array Value → Prop} {Post : Pt → Array Value → Option Value → Pt → Prop} (hK : Back l R p e below s args y 3 W9 Pre Post)
    {b : Addr} {cellB : Cell} (hcell : T.heap[b]? = some cellB) (hobj : cellB.vm.isStatics = false) (hcls : s.vm.findClass C = some cellB.cls)
    {g : JFrame} (hg : g.method = m) (hsize : g.locals.size = c.maxLocals) {argsL rest : List Value} (hlen : ∀ sig, parseMethodDescriptor y.desc = some sig → argsL.length = sig.parameters.length)
    (hstack : g.stack = argsL.reverse ++ .ref b :: rest) (hW : 2 * g.monitorRoom + (rest.map fun v => v.category).sum ≤ W9) (hdg : decode c.code g.pc = .ok (.invokevirtual index, 3))
    (hpre : ∀ vm₁, s.WarmedH vm₁ → Pre ⟨T.setVm vm₁, locs, cells, slots⟩ (Value.ref b :: argsL).toArray) :
    ∃ (v : Option Value) (vm₁ : Vm) (B : Pt), s.WarmedH vm₁ ∧ Stand p l e R s m args below meth c B.U B.locs B.cells B.slots ∧ Post ⟨T.setVm vm₁, locs, cells, slots⟩ (Value.ref b :: argsL).toArray v B ∧
      ∀ target, Steps p.tables e below (B.U.setTop { g with pc := g.pc + 3, stack := v.toList ++ rest }) target → Steps p.tables e below (T.setTop g) target := by
  obtain ⟨mk, methM, hnamed, hmethM, hstM, habM⟩ := Cond.instanceMethod_spec hinst
  obtain ⟨m8, methM', cM, hn8, hmethM', -, -, -, -, -, -, hsigM⟩ := Cond.codeWith_spec hcode
  cases Option.some.inj (hn8.symm.trans hnamed)
  cases hmethM.symm.trans hmethM'
  obtain ⟨c2, r2, m2, q1, q2, q3, q4, kP, hkP, hkPi⟩ := Cond.selects_spec hsel
  cases hcls.symm.trans q1
  cases (State.methodFound?_of_named hnamed hy).symm.trans q2
  cases hnamed.symm.trans q3
  have hselP : selectMethod e.platform s.vm cellB.cls mk = .method mk := by rw [Launch.admits_selectMethod X.admits]; exact q4
  obtain ⟨vm₁, X₁, hstep₁⟩ := X.invokevirtual hexec hown hlink hnamed hmethM hstM hkP hkPi hy (a := b) (cell := cellB) hcell
    (fun z h => by rw [h] at hobj; cases hobj) hselP hmethM habM hkP hkPi (g := g) hg (argsL := argsL) (rest := rest) (hlen _ hsigM) hstack hdg
  obtain ⟨v, B, X', hpost, hsteps⟩ := hK m meth c ⟨T.setVm vm₁, locs, cells, slots⟩ { g with stack := rest } (.invokevirtual index) mk (Value.ref b :: argsL).toArray X₁ hg hsize hdg hW (X₁.named hnamed) (hpre vm₁ X₁.warmed)
  exact ⟨v, vm₁, B, X₁.warmed, X', hpost, fun target h => hstep₁ _ fun acts => by rw [doInvoke_state]; exact hsteps.trans h⟩
abbrev vx_CVW (R : Room) (s : State) (args : Array Value) (own C : String) (index : Nat) (y : MethodName) (bytes : ByteArray) (maxL : Nat) (ret : Option FieldType) (hh : List (Nat × Nat × Nat × Nat)) (ws : List Cond) (rm : Room) (mc ms n : Nat) : Prop :=
  (rm.cells = mc ∧ rm.slots = ms ∧ rm.frames + 1 ≤ R.frames ∧ 8 + (maxL + 11) + rm.locals ≤ R.locals ∧ (∀ w ∈ ws, ∀ (a' : Array Value) (U : State), s.WarmedH U.vm → w.before a' U = true) ∧ Cond.codeWith y bytes maxL ret hh ∈ ws) ∧
  (Cond.codeWith y bytes maxL ret hh).before args s = true ∧ (Cond.initialized y.cls).before args s = true ∧ (y.cls ≠ "java/lang/invoke/MethodHandle" ∧ y.cls ≠ "java/lang/invoke/VarHandle") ∧
  (∀ sig, parseMethodDescriptor y.desc = some sig → n = sig.parameters.length) ∧ (Cond.methodLink own index y).before args s = true ∧ (Cond.instanceMethod y).before args s = true ∧ (Cond.selects C y y).before args s = true
theorem vx_cwVW {own C : String} {index maxL mc ms : Nat} {y : MethodName} {bytes : ByteArray} {ret : Option FieldType} {hh : List (Nat × Nat × Nat × Nat)} {Ts ws ws' : List Cond} {rm : Room} (n : Nat) (ht : ∀ w ∈ Ts, w.before args s = true) (hT : GoodIn Ts (wsV own index C y ws)) (hw : ws = Cond.codeWith y bytes maxL ret hh :: ws') (hrc : rm.cells = mc) (hrs : rm.slots = ms)
    (hd : y.cls = C ∧ y.cls ≠ "java/lang/invoke/MethodHandle" ∧ y.cls ≠ "java/lang/invoke/VarHandle" ∧ (parseMethodDescriptor y.desc).map (fun d => d.parameters.length) = some n) (hR : rm.frames + 1 ≤ R.frames ∧ 8 + (maxL + 11) + rm.locals ≤ R.locals) :
    vx_CVW R s args own C index y bytes maxL ret hh ws rm mc ms n := by
  obtain ⟨hC, hd⟩ := hd
  subst hC
  have ok : ∀ w ∈ wsV own index y.cls y ws, w.before args s = true := fun w h => ht w (hT w h).1
  have hG : GoodIn Ts ws := fun w h => hT w (by unfold wsV; exact List.mem_append_right _ h)
  have hc : Cond.codeWith y bytes maxL ret hh ∈ ws := by rw [hw]; exact List.mem_cons_self
  refine ⟨⟨hrc, hrs, hR.1, hR.2, pay_in ht hG, hc⟩, ht _ (hG _ hc).1, ok _ (by simp [wsV]), ⟨hd.1, hd.2.1⟩, fun sig h => ?_, ok _ (by simp [wsV]), ok _ (by simp [wsV]), ok _ (by simp [wsV])⟩
  have h2 := hd.2.2
  rw [h] at h2
  exact (Option.some.inj h2).symm
theorem vx_runVW {y : MethodName} {bytes cc : ByteArray} {maxL nL mc ms n index : Nat} {ret : Option FieldType} {hh : List (Nat × Nat × Nat × Nat)} {ws : List Cond} {rm : Room} {Pc : Array Value → State → Prop} {Qc : Array Value → State → Outcome → State → Prop} {free : Addr → Prop} {Ts : List Cond} {own C : String} {b : Addr} {As rest : List Value} {g : JFrame}
    (S : CallFix p m c cc nL s args Ts own) (hM : Met l y ws rm Pc Qc mc ms free) (cw : vx_CVW R s args own C index y bytes maxL ret hh ws rm mc ms n) (hp : PreV s H C b Pc As)
    (hg : g.method = m) (hn : As.length = n) (hsize : g.locals.size = nL) (hstack : g.stack = As.reverse ++ .ref b :: rest) (hW : 2 * g.monitorRoom + (rest.map fun v => v.category).sum ≤ 8) (hdg : decode cc g.pc = .ok (.invokevirtual index, 3)) (hf : cells + mc ≤ R.cells ∧ slots + ms ≤ R.slots) :
    va_Run p l e R s m args below meth c H locs cells slots mc ms g rest (Qc (Value.ref b :: As).toArray) free := by
  obtain ⟨⟨hrc, hrs, hfr, hlo, hws, hcw⟩, hcode, hini, hy, hlen, hl, hin, hse⟩ := cw
  have hK : Back l R p e below s args y 3 8 (PreOf R mc ms Pc) (PostOf Qc mc ms free) := va_backW (hh := hh) (bytes := bytes) (maxL := maxL) (ret := ret) hM hp.1 hrc hrs hfr hlo hws hcw (fun a' U hW => word_at hW (Or.inl (by first | rfl | simp [Cond.onTables, Cond.keeps, Cond.steady])) hini)
  obtain ⟨hx, hb, hml, ho, -⟩ := S
  obtain ⟨-, ⟨cellB, hcB, hoB, hclB⟩, hPc⟩ := hp
  intro T hT X
  obtain ⟨v, vm₁, ⟨U', l2, c2, s2⟩, hW₁, X', ⟨g', mk, t, L, e1, e2, hq, h1, hL, h2, h3⟩, st⟩ := vx_callVW X hx (C := C) (hh := hh) (bytes := bytes) (maxL := maxL) (ret := ret) ho hl hin hse hcode hy hK (by rw [hT]; exact hcB) hoB hclB hg (hsize.trans hml.symm) (argsL := As) (rest := rest) (fun sig h => hn.trans (hlen sig h)) hstack hW (by rw [hb]; exact hdg)
    (fun vm₁ hW₁ => ⟨hf.1, hf.2, hPc (T.setVm vm₁) hT hW₁⟩)
  dsimp only [Pt.U, Pt.locs, Pt.cells, Pt.slots] at X' e1 e2 h1 h2 h3 st
  subst h1; subst h2; subst h3
  exact ⟨v, (T.setVm vm₁).calling g' mk (Value.ref b :: As).toArray, t, U', L, hT, X', hL, e1, e2, hq, st⟩
section
variable {y : MethodName} {bytes cc : ByteArray} {maxL nL mc ms n index : Nat} {ret : Option FieldType} {ws : List Cond} {rm : Room} {Pc : Array Value → State → Prop} {Qc : Array Value → State → Outcome → State → Prop} {XC : String → State → State → Prop} {free : Addr → Prop} {Ts : List Cond} {own C : String} {b : Addr} {As rest : List Value} {g : JFrame}
theorem vx_runVX {hh : List (Nat × Nat × Nat × Nat)} (S : CallFix p m c cc nL s args Ts own) (hM : vx_Met l y ws rm Pc Qc XC mc ms free) (cw : vx_CVW R s args own C index y bytes maxL ret hh ws rm mc ms n) (hp : PreV s H C b Pc As)
    (hg : g.method = m) (hn : As.length = n) (hsize : g.locals.size = nL) (hstack : g.stack = As.reverse ++ .ref b :: rest) (hW : 2 * g.monitorRoom + (rest.map fun v => v.category).sum ≤ 8) (hdg : decode cc g.pc = .ok (.invokevirtual index, 3)) (hf : cells + mc ≤ R.cells ∧ slots + ms ≤ R.slots) :
    vx_Run p l e R s m args below meth c H locs cells slots mc ms g rest (Qc (Value.ref b :: As).toArray) XC free := by
  obtain ⟨⟨hrc, hrs, hfr, hlo, hws, hcw⟩, hcode, hini, hy, hlen, hl, hin, hse⟩ := cw
  have hK : vx_Back l R p e below s args y 3 8 (PreOf R mc ms Pc) (PostOf Qc mc ms free) (vx_Post XC mc ms free) := vx_backW (hh := hh) (bytes := bytes) (maxL := maxL) (ret := ret) hM hp.1 hrc hrs hfr hlo hws hcw (fun a' U hW => word_at hW (Or.inl (by first | rfl | simp [Cond.onTables, Cond.keeps, Cond.steady])) hini)
  obtain ⟨hx, hb, hml, ho, -⟩ := S
  obtain ⟨-, ⟨cellB, hcB, hoB, hclB⟩, hPc⟩ := hp
  intro T hT X
  rcases vx_callVX X hx (C := C) (hh := hh) (bytes := bytes) (maxL := maxL) (ret := ret) ho hl hin hse hcode hy hK (by rw [hT]; exact hcB) hoB hclB hg (hsize.trans hml.symm) (argsL := As) (rest := rest) (fun sig h => hn.trans (hlen sig h)) hstack hW (by rw [hb]; exact hdg)
    (fun vm₁ hW₁ => ⟨hf.1, hf.2, hPc (T.setVm vm₁) hT hW₁⟩) with ⟨v, vm₁, ⟨U', l2, c2, s2⟩, hW₁, X', ⟨g', mk, t, L, e1, e2, hq, h1, hL, h2, h3⟩, st⟩ | ⟨q, vm₁, ⟨U', l2, c2, s2⟩, hW₁, X', ⟨g', mk, t, L, E, ce, e1, e2, hq, hce, hcv, hcl, h1, hL, h2, h3⟩, st⟩
  · dsimp only [Pt.U, Pt.locs, Pt.cells, Pt.slots] at X' e1 e2 h1 h2 h3 st
    subst h1; subst h2; subst h3
    exact Or.inl ⟨v, (T.setVm vm₁).calling g' mk (Value.ref b :: As).toArray, t, U', L, hT, X', hL, e1, e2, hq, st⟩
  · dsimp only [Pt.U, Pt.locs, Pt.cells, Pt.slots] at X' e1 e2 h1 h2 h3 st hcl
    subst h1; subst h2; subst h3
    exact Or.inr ⟨q, (T.setVm vm₁).calling g' mk (Value.ref b :: As).toArray, t, U', L, E, ce, hT, X', hL, e1, e2, hq, hce, hcv, vx_cls hW₁ hcl, st⟩
theorem vx_runSX {hh : List (Nat × Nat × Nat × Nat)} (S : CallFix p m c cc nL s args Ts own) (hM : vx_Met l y ws rm Pc Qc XC mc ms free) (cw : vx_CSW R s args own index y bytes maxL ret hh ws rm mc ms n) (hp : PreS s H Pc As)
    (hg : g.method = m) (hn : As.length = n) (hsize : g.locals.size = nL) (hstack : g.stack = As.reverse ++ rest) (hW : 2 * g.monitorRoom + (rest.map fun v => v.category).sum ≤ 8) (hdg : decode cc g.pc = .ok (.invokestatic index, 3)) (hf : cells + mc ≤ R.cells ∧ slots + ms ≤ R.slots) :
    vx_Run p l e R s m args below meth c H locs cells slots mc ms g rest (Qc As.toArray) XC free := by
  obtain ⟨⟨hrc, hrs, hfr, hlo, hws, hcw⟩, hcode, hini, hy, hlen, hl, hstt⟩ := cw
  have hK : vx_Back l R p e below s args y 3 8 (PreOf R mc ms Pc) (PostOf Qc mc ms free) (vx_Post XC mc ms free) := vx_backW (hh := hh) (bytes := bytes) (maxL := maxL) (ret := ret) hM hp.1 hrc hrs hfr hlo hws hcw (fun a' U hW => word_at hW (Or.inl (by first | rfl | simp [Cond.onTables, Cond.keeps, Cond.steady])) hini)
  obtain ⟨hx, hb, hml, ho, -⟩ := S
  intro T hT X
  rcases vx_callSX X hx (hh := hh) (bytes := bytes) (maxL := maxL) (ret := ret) ho hl hstt hini hcode hy hK hg (hsize.trans hml.symm) (argsL := As) (rest := rest) (fun sig h => hn.trans (hlen sig h)) hstack hW (by rw [hb]; exact hdg)
    (fun vm₁ hW₁ => ⟨hf.1, hf.2, hp.2 (T.setVm vm₁) hT hW₁⟩) with ⟨v, vm₁, ⟨U', l2, c2, s2⟩, hW₁, X', ⟨g', mk, t, L, e1, e2, hq, h1, hL, h2, h3⟩, st⟩ | ⟨q, vm₁, ⟨U', l2, c2, s2⟩, hW₁, X', ⟨g', mk, t, L, E, ce, e1, e2, hq, hce, hcv, hcl, h1, hL, h2, h3⟩, st⟩
  · dsimp only [Pt.U, Pt.locs, Pt.cells, Pt.slots] at X' e1 e2 h1 h2 h3 st
    subst h1; subst h2; subst h3
    exact Or.inl ⟨v, (T.setVm vm₁).calling g' mk As.toArray, t, U', L, hT, X', hL, e1, e2, hq, st⟩
  · dsimp only [Pt.U, Pt.locs, Pt.cells, Pt.slots] at X' e1 e2 h1 h2 h3 st hcl
    subst h1; subst h2; subst h3
    exact Or.inr ⟨q, (T.setVm vm₁).calling g' mk As.toArray, t, U', L, E, ce, hT, X', hL, e1, e2, hq, hce, hcv, vx_cls hW₁ hcl, st⟩
end
end VXH
theorem vx_ofWH {l : Launch} {y : MethodName} {ws ws' : List Cond} {rm : Room} {Pc : Array Value → State → Prop} {Qc : Array Value → State → Outcome → State → Prop} {XC : String → State → State → Prop} {mc ms : Nat} {free : Addr → Prop} {cc : ByteArray} {maxL : Nat} {ret : Option FieldType} {hh : List (Nat × Nat × Nat × Nat)}
    (hy : plainName y.cls = true) (hw : ws = Cond.codeWith y cc maxL ret hh :: ws')
    (body : ∀ p e s m args below meth c s₁, BodyLoose p l y (headSpec ws rm) cc maxL ret e s m args below meth c s₁ → c.maxLocals = maxL → Pc args s →
      W p l e (headSpec ws rm).room s m args below meth c s.heap [] 0 0 (vx_MQ below Qc XC args s mc ms free) (entryFrame m args maxL)) : vx_Met l y ws rm Pc Qc XC mc ms free := by
  refine MetFree.of_bodyS (code := cc) (maxLocals := maxL) (ret := ret) hy ?_ ?_
  · intro args s m h hn
    obtain ⟨m9, meth, c, hn9, h1, h2, h3, h4, -, h5, h6, -⟩ := Cond.codeWith_spec (atoms_spec (ws := ws) h _ (by rw [hw]; exact List.mem_cons_self))
    cases hn.symm.trans hn9
    exact ⟨meth, c, h1, h2, h3, h4, h5, h6⟩
  · intro p e s m args below meth c s₁ B hml hP _
    have hh0 : s₁.heap = s.heap := by rw [B.state]; rfl
    obtain ⟨t, a1, o, b1, b2, b3⟩ := body p e s m args below meth c s₁ B hml hP s₁ hh0 (Stand.of_body B)
    exact ⟨t, o, a1, b1, b2, b3⟩
/-! ===== END ===== -/
end
section

/-! ===== BEGIN printed: names, fields, word lists, decode rows ===== -/
def RX0 : String := "FoldedVoices$End"
def TX0 : u_T := fun k => match k with
  | 0 => ("FoldedVoices$End", "guess", "I", false)
  | _ => ("FoldedVoices$End", "index", "I", false)
def tyX0 : Nat → FieldType := fun k => match k with
  | 0 => .int
  | _ => .int
abbrev wsX00 : List Cond := u_ws RX0 TX0 2
theorem nmX0 : ∀ a, a < 2 → ∀ b, b < 2 → a ≠ b → (TX0 a).2.1 ≠ (TX0 b).2.1 := by decide +kernel
theorem tyX0_ok : ∀ k, k < 2 → parseFieldDescriptor (TX0 k).2.2.1 = some (tyX0 k) := by decide +kernel
abbrev cX0_init : ByteArray := prog_2_method_1_code
def yX0_init : MethodName := ⟨RX0, "<init>", "()V"⟩
abbrev cX0_copyFrom : ByteArray := prog_2_method_2_code
def yX0_copyFrom : MethodName := ⟨RX0, "copyFrom", "(LFoldedVoices$End;)V"⟩
abbrev cX0_isAt : ByteArray := prog_2_method_3_code
def yX0_isAt : MethodName := ⟨RX0, "isAt", "(II)Z"⟩
abbrev cX0_step : ByteArray := prog_2_method_4_code
def yX0_step : MethodName := ⟨RX0, "step", "()I"⟩
abbrev cX0_codeFor : ByteArray := prog_2_method_5_code
def yX0_codeFor : MethodName := ⟨RX0, "codeFor", "(I)I"⟩
abbrev cX0_nearestCodeFor : ByteArray := prog_2_method_6_code
def yX0_nearestCodeFor : MethodName := ⟨RX0, "nearestCodeFor", "(I)I"⟩
abbrev cX0_guessBehind : ByteArray := prog_2_method_7_code
def yX0_guessBehind : MethodName := ⟨RX0, "guessBehind", "(II)I"⟩
abbrev cX0_follow : ByteArray := prog_2_method_8_code
def yX0_follow : MethodName := ⟨RX0, "follow", "(I)V"⟩
abbrev cX0_followAll : ByteArray := prog_2_method_9_code
def yX0_followAll : MethodName := ⟨RX0, "followAll", "(LFoldedVoices$Packet;)V"⟩
abbrev cX0_fade : ByteArray := prog_2_method_10_code
def yX0_fade : MethodName := ⟨RX0, "fade", "()V"⟩
def RX1 : String := "FoldedVoices$HearingEnd"
def TX1 : u_T := fun k => match k with
  | 0 => ("FoldedVoices$HearingEnd", "end", "LFoldedVoices$End;", true)
  | 1 => ("FoldedVoices$HearingEnd", "awaited", "I", false)
  | 2 => ("FoldedVoices$HearingEnd", "codesHeard", "I", false)
  | 3 => ("FoldedVoices$HearingEnd", "missing", "I", false)
  | 4 => ("FoldedVoices$HearingEnd", "late", "I", false)
  | 5 => ("FoldedVoices$HearingEnd", "jumps", "I", false)
  | 6 => ("FoldedVoices$HearingEnd", "errorSum", "I", false)
  | 7 => ("FoldedVoices$HearingEnd", "greatestError", "I", false)
  | 8 => ("FoldedVoices$HearingEnd", "heardSum", "I", false)
  | _ => ("FoldedVoices$HearingEnd", "came", "I", false)
def tyX1 : Nat → FieldType := fun k => match k with
  | 0 => .object "FoldedVoices$End"
  | 1 => .int
  | 2 => .int
  | 3 => .int
  | 4 => .int
  | 5 => .int
  | 6 => .int
  | 7 => .int
  | 8 => .int
  | _ => .int
abbrev wsX10 : List Cond := u_ws RX1 TX1 10
theorem nmX1 : ∀ a, a < 10 → ∀ b, b < 10 → a ≠ b → (TX1 a).2.1 ≠ (TX1 b).2.1 := by decide +kernel
theorem tyX1_ok : ∀ k, k < 10 → parseFieldDescriptor (TX1 k).2.2.1 = some (tyX1 k) := by decide +kernel
abbrev cX1_init : ByteArray := prog_3_method_1_code
def yX1_init : MethodName := ⟨RX1, "<init>", "()V"⟩
abbrev cX1_copyFrom : ByteArray := prog_3_method_2_code
def yX1_copyFrom : MethodName := ⟨RX1, "copyFrom", "(LFoldedVoices$HearingEnd;)V"⟩
abbrev cX1_receive : ByteArray := prog_3_method_3_code
def yX1_receive : MethodName := ⟨RX1, "receive", "(LFoldedVoices$Packet;)I"⟩
abbrev cX1_moveTo : ByteArray := prog_3_method_4_code
def yX1_moveTo : MethodName := ⟨RX1, "moveTo", "(LFoldedVoices$End;)V"⟩
abbrev cX1_noteHeard : ByteArray := prog_3_method_5_code
def yX1_noteHeard : MethodName := ⟨RX1, "noteHeard", "(I)V"⟩
abbrev cX1_meanOfErrors : ByteArray := prog_3_method_6_code
def yX1_meanOfErrors : MethodName := ⟨RX1, "meanOfErrors", "()D"⟩
abbrev cX1_tell : ByteArray := prog_3_method_7_code
def yX1_tell : MethodName := ⟨RX1, "tell", "(I)I"⟩
def RX2 : String := "FoldedVoices$Packet"
def TX2 : u_T := fun k => match k with
  | 0 => ("FoldedVoices$Packet", "codes", "[I", true)
  | 1 => ("FoldedVoices$Packet", "means", "[I", true)
  | 2 => ("FoldedVoices$Packet", "size", "I", false)
  | 3 => ("FoldedVoices$Packet", "number", "I", false)
  | 4 => ("FoldedVoices$Packet", "hasHead", "Z", false)
  | _ => ("FoldedVoices$Packet", "head", "LFoldedVoices$End;", true)
def tyX2 : Nat → FieldType := fun k => match k with
  | 0 => .array .int
  | 1 => .array .int
  | 2 => .int
  | 3 => .int
  | 4 => .boolean
  | _ => .object "FoldedVoices$End"
abbrev wsX20 : List Cond := u_ws RX2 TX2 6
theorem nmX2 : ∀ a, a < 6 → ∀ b, b < 6 → a ≠ b → (TX2 a).2.1 ≠ (TX2 b).2.1 := by decide +kernel
theorem tyX2_ok : ∀ k, k < 6 → parseFieldDescriptor (TX2 k).2.2.1 = some (tyX2 k) := by decide +kernel
abbrev cX2_init : ByteArray := prog_4_method_1_code
def yX2_init : MethodName := ⟨RX2, "<init>", "()V"⟩
abbrev cX2_copyFrom : ByteArray := prog_4_method_2_code
def yX2_copyFrom : MethodName := ⟨RX2, "copyFrom", "(LFoldedVoices$Packet;)V"⟩
abbrev cX2_add : ByteArray := prog_4_method_3_code
def yX2_add : MethodName := ⟨RX2, "add", "(II)V"⟩
abbrev cX2_codeAt : ByteArray := prog_4_method_4_code
def yX2_codeAt : MethodName := ⟨RX2, "codeAt", "(I)I"⟩
abbrev cX2_meanAt : ByteArray := prog_4_method_5_code
def yX2_meanAt : MethodName := ⟨RX2, "meanAt", "(I)I"⟩
abbrev cX2_tell : ByteArray := prog_4_method_6_code
def yX2_tell : MethodName := ⟨RX2, "tell", "(I)I"⟩
abbrev cX2_codesAsOne : ByteArray := prog_4_method_7_code
def yX2_codesAsOne : MethodName := ⟨RX2, "codesAsOne", "()I"⟩
def RX3 : String := "FoldedVoices$SayingEnd"
def TX3 : u_T := fun k => match k with
  | 0 => ("FoldedVoices$SayingEnd", "end", "LFoldedVoices$End;", true)
  | 1 => ("FoldedVoices$SayingEnd", "samplesSaid", "I", false)
  | 2 => ("FoldedVoices$SayingEnd", "samples", "I", false)
  | 3 => ("FoldedVoices$SayingEnd", "sum", "I", false)
  | 4 => ("FoldedVoices$SayingEnd", "open", "LFoldedVoices$Packet;", true)
  | 5 => ("FoldedVoices$SayingEnd", "nextNumber", "I", false)
  | 6 => ("FoldedVoices$SayingEnd", "codesSoFar", "I", false)
  | 7 => ("FoldedVoices$SayingEnd", "latestHeadNumber", "I", false)
  | 8 => ("FoldedVoices$SayingEnd", "latestHead", "LFoldedVoices$End;", true)
  | 9 => ("FoldedVoices$SayingEnd", "sinceHead", "[I", true)
  | _ => ("FoldedVoices$SayingEnd", "sinceHeadCount", "I", false)
def tyX3 : Nat → FieldType := fun k => match k with
  | 0 => .object "FoldedVoices$End"
  | 1 => .int
  | 2 => .int
  | 3 => .int
  | 4 => .object "FoldedVoices$Packet"
  | 5 => .int
  | 6 => .int
  | 7 => .int
  | 8 => .object "FoldedVoices$End"
  | 9 => .array .int
  | _ => .int
abbrev wsX30 : List Cond := u_ws RX3 TX3 11
theorem nmX3 : ∀ a, a < 11 → ∀ b, b < 11 → a ≠ b → (TX3 a).2.1 ≠ (TX3 b).2.1 := by decide +kernel
theorem tyX3_ok : ∀ k, k < 11 → parseFieldDescriptor (TX3 k).2.2.1 = some (tyX3 k) := by decide +kernel
abbrev cX3_init : ByteArray := prog_5_method_1_code
def yX3_init : MethodName := ⟨RX3, "<init>", "()V"⟩
abbrev cX3_copyFrom : ByteArray := prog_5_method_2_code
def yX3_copyFrom : MethodName := ⟨RX3, "copyFrom", "(LFoldedVoices$SayingEnd;)V"⟩
abbrev cX3_wouldClose : ByteArray := prog_5_method_3_code
def yX3_wouldClose : MethodName := ⟨RX3, "wouldClose", "(LFoldedVoices$Settings;)Z"⟩
abbrev cX3_gather : ByteArray := prog_5_method_4_code
def yX3_gather : MethodName := ⟨RX3, "gather", "(I)V"⟩
abbrev cX3_takeMean : ByteArray := prog_5_method_5_code
def yX3_takeMean : MethodName := ⟨RX3, "takeMean", "(I)I"⟩
abbrev cX3_fold : ByteArray := prog_5_method_6_code
def yX3_fold : MethodName := ⟨RX3, "fold", "(I)I"⟩
abbrev cX3_closeInto : ByteArray := prog_5_method_7_code
def yX3_closeInto : MethodName := ⟨RX3, "closeInto", "(LFoldedVoices$Packet;I)V"⟩
abbrev cX3_rememberSinceHead : ByteArray := prog_5_method_8_code
def yX3_rememberSinceHead : MethodName := ⟨RX3, "rememberSinceHead", "(LFoldedVoices$Packet;)V"⟩
abbrev cX3_guessSinceHead : ByteArray := prog_5_method_9_code
def yX3_guessSinceHead : MethodName := ⟨RX3, "guessSinceHead", "(LFoldedVoices$End;)I"⟩
def RX4 : String := "FoldedVoices$Settings"
def TX4 : u_T := fun k => match k with
  | _ => ("FoldedVoices$Settings", "values", "[I", true)
def tyX4 : Nat → FieldType := fun k => match k with
  | _ => .array .int
abbrev wsX40 : List Cond := u_ws RX4 TX4 1
theorem nmX4 : ∀ a, a < 1 → ∀ b, b < 1 → a ≠ b → (TX4 a).2.1 ≠ (TX4 b).2.1 := by decide +kernel
theorem tyX4_ok : ∀ k, k < 1 → parseFieldDescriptor (TX4 k).2.2.1 = some (tyX4 k) := by decide +kernel
abbrev cX4_init : ByteArray := prog_6_method_1_code
def yX4_init : MethodName := ⟨RX4, "<init>", "()V"⟩
abbrev cX4_copyFrom : ByteArray := prog_6_method_2_code
def yX4_copyFrom : MethodName := ⟨RX4, "copyFrom", "(LFoldedVoices$Settings;)V"⟩
abbrev cX4_isInRange : ByteArray := prog_6_method_3_code
def yX4_isInRange : MethodName := ⟨RX4, "isInRange", "(II)Z"⟩
abbrev cX4_valueOf : ByteArray := prog_6_method_4_code
def yX4_valueOf : MethodName := ⟨RX4, "valueOf", "(I)I"⟩
abbrev cX4_put : ByteArray := prog_6_method_5_code
def yX4_put : MethodName := ⟨RX4, "put", "(II)V"⟩
def RX5 : String := "FoldedVoices$State"
def TX5 : u_T := fun k => match k with
  | 0 => ("FoldedVoices$State", "voices", "[LFoldedVoices$Voice;", true)
  | _ => ("FoldedVoices$State", "settings", "LFoldedVoices$Settings;", true)
def tyX5 : Nat → FieldType := fun k => match k with
  | 0 => .array (.object "FoldedVoices$Voice")
  | _ => .object "FoldedVoices$Settings"
abbrev wsX50 : List Cond := u_ws RX5 TX5 2
theorem nmX5 : ∀ a, a < 2 → ∀ b, b < 2 → a ≠ b → (TX5 a).2.1 ≠ (TX5 b).2.1 := by decide +kernel
theorem tyX5_ok : ∀ k, k < 2 → parseFieldDescriptor (TX5 k).2.2.1 = some (tyX5 k) := by decide +kernel
abbrev cX5_init : ByteArray := prog_7_method_1_code
def yX5_init : MethodName := ⟨RX5, "<init>", "()V"⟩
abbrev cX5_copyFrom : ByteArray := prog_7_method_2_code
def yX5_copyFrom : MethodName := ⟨RX5, "copyFrom", "(LFoldedVoices$State;)V"⟩
def RX6 : String := "FoldedVoices$TalkText"
def TX6 : u_T := fun k => match k with
  | 0 => ("FoldedVoices$TalkText", "signs", "[C", true)
  | 1 => ("FoldedVoices$TalkText", "length", "I", false)
  | 2 => ("FoldedVoices$TalkText", "latestStand", "I", false)
  | 3 => ("FoldedVoices$TalkText", "place", "I", false)
  | 4 => ("FoldedVoices$TalkText", "deed", "C", false)
  | 5 => ("FoldedVoices$TalkText", "voice", "I", false)
  | _ => ("FoldedVoices$TalkText", "sample", "I", false)
def tyX6 : Nat → FieldType := fun k => match k with
  | 0 => .array .char
  | 1 => .int
  | 2 => .int
  | 3 => .int
  | 4 => .char
  | 5 => .int
  | _ => .int
abbrev wsX60 : List Cond := u_ws RX6 TX6 7
theorem nmX6 : ∀ a, a < 7 → ∀ b, b < 7 → a ≠ b → (TX6 a).2.1 ≠ (TX6 b).2.1 := by decide +kernel
theorem tyX6_ok : ∀ k, k < 7 → parseFieldDescriptor (TX6 k).2.2.1 = some (tyX6 k) := by decide +kernel
abbrev cX6_init : ByteArray := prog_8_method_1_code
def yX6_init : MethodName := ⟨RX6, "<init>", "()V"⟩
abbrev cX6_isFull : ByteArray := prog_8_method_2_code
def yX6_isFull : MethodName := ⟨RX6, "isFull", "()Z"⟩
abbrev cX6_add : ByteArray := prog_8_method_3_code
def yX6_add : MethodName := ⟨RX6, "add", "(C)V"⟩
abbrev cX6_clear : ByteArray := prog_8_method_4_code
def yX6_clear : MethodName := ⟨RX6, "clear", "()V"⟩
abbrev cX6_signAt : ByteArray := prog_8_method_5_code
def yX6_signAt : MethodName := ⟨RX6, "signAt", "(I)C"⟩
abbrev cX6_firstWrongPlace : ByteArray := prog_8_method_6_code
def yX6_firstWrongPlace : MethodName := ⟨RX6, "firstWrongPlace", "()I"⟩
abbrev cX6_isComplete : ByteArray := prog_8_method_7_code
def yX6_isComplete : MethodName := ⟨RX6, "isComplete", "()Z"⟩
abbrev cX6_standBehind : ByteArray := prog_8_method_8_code
def yX6_standBehind : MethodName := ⟨RX6, "standBehind", "(ICI)I"⟩
abbrev cX6_inNumberIf : ByteArray := prog_8_method_9_code
def yX6_inNumberIf : MethodName := ⟨RX6, "inNumberIf", "(Z)I"⟩
abbrev cX6_behindSample : ByteArray := prog_8_method_10_code
def yX6_behindSample : MethodName := ⟨RX6, "behindSample", "(C)I"⟩
abbrev cX6_isVoice : ByteArray := prog_8_method_11_code
def yX6_isVoice : MethodName := ⟨RX6, "isVoice", "(C)Z"⟩
abbrev cX6_isDigit : ByteArray := prog_8_method_12_code
def yX6_isDigit : MethodName := ⟨RX6, "isDigit", "(C)Z"⟩
abbrev cX6_isLetter : ByteArray := prog_8_method_13_code
def yX6_isLetter : MethodName := ⟨RX6, "isLetter", "(C)Z"⟩
abbrev cX6_startReading : ByteArray := prog_8_method_14_code
def yX6_startReading : MethodName := ⟨RX6, "startReading", "()V"⟩
abbrev cX6_readDeed : ByteArray := prog_8_method_15_code
def yX6_readDeed : MethodName := ⟨RX6, "readDeed", "()Z"⟩
abbrev cX6_readSample : ByteArray := prog_8_method_16_code
def yX6_readSample : MethodName := ⟨RX6, "readSample", "()V"⟩
def RX7 : String := "FoldedVoices$Voice"
def TX7 : u_T := fun k => match k with
  | 0 => ("FoldedVoices$Voice", "mouth", "LFoldedVoices$SayingEnd;", true)
  | 1 => ("FoldedVoices$Voice", "ear", "LFoldedVoices$HearingEnd;", true)
  | 2 => ("FoldedVoices$Voice", "wire", "[LFoldedVoices$Packet;", true)
  | 3 => ("FoldedVoices$Voice", "waiting", "I", false)
  | _ => ("FoldedVoices$Voice", "lost", "I", false)
def tyX7 : Nat → FieldType := fun k => match k with
  | 0 => .object "FoldedVoices$SayingEnd"
  | 1 => .object "FoldedVoices$HearingEnd"
  | 2 => .array (.object "FoldedVoices$Packet")
  | 3 => .int
  | _ => .int
abbrev wsX70 : List Cond := u_ws RX7 TX7 5
theorem nmX7 : ∀ a, a < 5 → ∀ b, b < 5 → a ≠ b → (TX7 a).2.1 ≠ (TX7 b).2.1 := by decide +kernel
theorem tyX7_ok : ∀ k, k < 5 → parseFieldDescriptor (TX7 k).2.2.1 = some (tyX7 k) := by decide +kernel
abbrev cX7_init : ByteArray := prog_9_method_1_code
def yX7_init : MethodName := ⟨RX7, "<init>", "()V"⟩
abbrev cX7_copyFrom : ByteArray := prog_9_method_2_code
def yX7_copyFrom : MethodName := ⟨RX7, "copyFrom", "(LFoldedVoices$Voice;)V"⟩
abbrev cX7_countedAs : ByteArray := prog_9_method_3_code
def yX7_countedAs : MethodName := ⟨RX7, "countedAs", "(I)I"⟩
abbrev cX7_packetAt : ByteArray := prog_9_method_4_code
def yX7_packetAt : MethodName := ⟨RX7, "packetAt", "(I)LFoldedVoices$Packet;"⟩
abbrev cX7_hasRoom : ByteArray := prog_9_method_5_code
def yX7_hasRoom : MethodName := ⟨RX7, "hasRoom", "()Z"⟩
abbrev cX7_canTake : ByteArray := prog_9_method_6_code
def yX7_canTake : MethodName := ⟨RX7, "canTake", "(LFoldedVoices$Settings;)Z"⟩
abbrev cX7_take : ByteArray := prog_9_method_7_code
def yX7_take : MethodName := ⟨RX7, "take", "(ILFoldedVoices$Settings;)I"⟩
abbrev cX7_closePacket : ByteArray := prog_9_method_8_code
def yX7_closePacket : MethodName := ⟨RX7, "closePacket", "(LFoldedVoices$Settings;)V"⟩
abbrev cX7_bringFirst : ByteArray := prog_9_method_9_code
def yX7_bringFirst : MethodName := ⟨RX7, "bringFirst", "()I"⟩
abbrev cX7_dropFirst : ByteArray := prog_9_method_10_code
def yX7_dropFirst : MethodName := ⟨RX7, "dropFirst", "()I"⟩
abbrev cX7_exchangeFirstTwo : ByteArray := prog_9_method_11_code
def yX7_exchangeFirstTwo : MethodName := ⟨RX7, "exchangeFirstTwo", "()I"⟩
abbrev cX7_takeFirstOff : ByteArray := prog_9_method_12_code
def yX7_takeFirstOff : MethodName := ⟨RX7, "takeFirstOff", "()V"⟩
def RX8 : String := "FoldedVoices"
def TX8 : u_T := fun k => match k with
  | 0 => ("FoldedVoices", "live", "LFoldedVoices$State;", true)
  | 1 => ("FoldedVoices", "kept", "LFoldedVoices$State;", true)
  | 2 => ("FoldedVoices", "hasKept", "Z", false)
  | 3 => ("FoldedVoices", "saved", "[LFoldedVoices$State;", true)
  | 4 => ("FoldedVoices", "savedCount", "I", false)
  | 5 => ("FoldedVoices", "text", "LFoldedVoices$TalkText;", true)
  | 6 => ("FoldedVoices", "lookEnd", "LFoldedVoices$End;", true)
  | _ => ("FoldedVoices", "lookEar", "LFoldedVoices$HearingEnd;", true)
def tyX8 : Nat → FieldType := fun k => match k with
  | 0 => .object "FoldedVoices$State"
  | 1 => .object "FoldedVoices$State"
  | 2 => .boolean
  | 3 => .array (.object "FoldedVoices$State")
  | 4 => .int
  | 5 => .object "FoldedVoices$TalkText"
  | 6 => .object "FoldedVoices$End"
  | _ => .object "FoldedVoices$HearingEnd"
abbrev wsX80 : List Cond := u_ws RX8 TX8 8
theorem nmX8 : ∀ a, a < 8 → ∀ b, b < 8 → a ≠ b → (TX8 a).2.1 ≠ (TX8 b).2.1 := by decide +kernel
theorem tyX8_ok : ∀ k, k < 8 → parseFieldDescriptor (TX8 k).2.2.1 = some (tyX8 k) := by decide +kernel
abbrev cX8_init : ByteArray := prog_1_method_1_code
def yX8_init : MethodName := ⟨RX8, "<init>", "()V"⟩
abbrev cX8_say : ByteArray := prog_1_method_2_code
def yX8_say : MethodName := ⟨RX8, "say", "(II)I"⟩
abbrev cX8_flush : ByteArray := prog_1_method_3_code
def yX8_flush : MethodName := ⟨RX8, "flush", "(I)I"⟩
abbrev cX8_deliver : ByteArray := prog_1_method_4_code
def yX8_deliver : MethodName := ⟨RX8, "deliver", "(I)I"⟩
abbrev cX8_lose : ByteArray := prog_1_method_5_code
def yX8_lose : MethodName := ⟨RX8, "lose", "(I)I"⟩
abbrev cX8_swap : ByteArray := prog_1_method_6_code
def yX8_swap : MethodName := ⟨RX8, "swap", "(I)I"⟩
abbrev cX8_set : ByteArray := prog_1_method_7_code
def yX8_set : MethodName := ⟨RX8, "set", "(II)I"⟩
abbrev cX8_append : ByteArray := prog_1_method_8_code
def yX8_append : MethodName := ⟨RX8, "append", "(I)I"⟩
abbrev cX8_clearBuffer : ByteArray := prog_1_method_9_code
def yX8_clearBuffer : MethodName := ⟨RX8, "clearBuffer", "()I"⟩
abbrev cX8_firstError : ByteArray := prog_1_method_10_code
def yX8_firstError : MethodName := ⟨RX8, "firstError", "()I"⟩
abbrev cX8_talk : ByteArray := prog_1_method_11_code
def yX8_talk : MethodName := ⟨RX8, "talk", "()I"⟩
abbrev cX8_keep : ByteArray := prog_1_method_12_code
def yX8_keep : MethodName := ⟨RX8, "keep", "()I"⟩
abbrev cX8_goBack : ByteArray := prog_1_method_13_code
def yX8_goBack : MethodName := ⟨RX8, "goBack", "()I"⟩
abbrev cX8_undo : ByteArray := prog_1_method_14_code
def yX8_undo : MethodName := ⟨RX8, "undo", "()I"⟩
abbrev cX8_saying : ByteArray := prog_1_method_15_code
def yX8_saying : MethodName := ⟨RX8, "saying", "(II)I"⟩
abbrev cX8_hearing : ByteArray := prog_1_method_16_code
def yX8_hearing : MethodName := ⟨RX8, "hearing", "(II)I"⟩
abbrev cX8_packet : ByteArray := prog_1_method_17_code
def yX8_packet : MethodName := ⟨RX8, "packet", "(III)I"⟩
abbrev cX8_why : ByteArray := prog_1_method_18_code
def yX8_why : MethodName := ⟨RX8, "why", "(I)I"⟩
abbrev cX8_count : ByteArray := prog_1_method_19_code
def yX8_count : MethodName := ⟨RX8, "count", "(I)I"⟩
abbrev cX8_setting : ByteArray := prog_1_method_20_code
def yX8_setting : MethodName := ⟨RX8, "setting", "(I)I"⟩
abbrev cX8_code : ByteArray := prog_1_method_21_code
def yX8_code : MethodName := ⟨RX8, "code", "(III)I"⟩
abbrev cX8_settles : ByteArray := prog_1_method_22_code
def yX8_settles : MethodName := ⟨RX8, "settles", "(III)I"⟩
abbrev cX8_ifDelivered : ByteArray := prog_1_method_23_code
def yX8_ifDelivered : MethodName := ⟨RX8, "ifDelivered", "(II)I"⟩
abbrev cX8_meanError : ByteArray := prog_1_method_24_code
def yX8_meanError : MethodName := ⟨RX8, "meanError", "(I)D"⟩
abbrev cX8_lostShare : ByteArray := prog_1_method_25_code
def yX8_lostShare : MethodName := ⟨RX8, "lostShare", "()F"⟩
abbrev cX8_digest : ByteArray := prog_1_method_26_code
def yX8_digest : MethodName := ⟨RX8, "digest", "()J"⟩
abbrev cX8_voiceOf : ByteArray := prog_1_method_27_code
def yX8_voiceOf : MethodName := ⟨RX8, "voiceOf", "(I)LFoldedVoices$Voice;"⟩
abbrev cX8_requireSetting : ByteArray := prog_1_method_28_code
def yX8_requireSetting : MethodName := ⟨RX8, "requireSetting", "(I)V"⟩
abbrev cX8_requireSample : ByteArray := prog_1_method_29_code
def yX8_requireSample : MethodName := ⟨RX8, "requireSample", "(I)V"⟩
abbrev cX8_requireWhat : ByteArray := prog_1_method_30_code
def yX8_requireWhat : MethodName := ⟨RX8, "requireWhat", "(II)V"⟩
abbrev cX8_requireWaiting : ByteArray := prog_1_method_31_code
def yX8_requireWaiting : MethodName := ⟨RX8, "requireWaiting", "(LFoldedVoices$Voice;I)V"⟩
abbrev cX8_saveLive : ByteArray := prog_1_method_32_code
def yX8_saveLive : MethodName := ⟨RX8, "saveLive", "()V"⟩
abbrev cX8_dropOldestSaved : ByteArray := prog_1_method_33_code
def yX8_dropOldestSaved : MethodName := ⟨RX8, "dropOldestSaved", "()V"⟩
abbrev cX8_canDo : ByteArray := prog_1_method_34_code
def yX8_canDo : MethodName := ⟨RX8, "canDo", "(CLFoldedVoices$Voice;)Z"⟩
abbrev cX8_doDeed : ByteArray := prog_1_method_35_code
def yX8_doDeed : MethodName := ⟨RX8, "doDeed", "(CLFoldedVoices$Voice;I)V"⟩
abbrev cX8_tellSaying : ByteArray := prog_1_method_36_code
def yX8_tellSaying : MethodName := ⟨RX8, "tellSaying", "(LFoldedVoices$Voice;I)I"⟩
abbrev cX8_tellHearing : ByteArray := prog_1_method_37_code
def yX8_tellHearing : MethodName := ⟨RX8, "tellHearing", "(LFoldedVoices$Voice;I)I"⟩
abbrev cX8_tellWhy : ByteArray := prog_1_method_38_code
def yX8_tellWhy : MethodName := ⟨RX8, "tellWhy", "(LFoldedVoices$Voice;)I"⟩
abbrev cX8_tellCount : ByteArray := prog_1_method_39_code
def yX8_tellCount : MethodName := ⟨RX8, "tellCount", "(I)I"⟩
abbrev cX8_sumOver : ByteArray := prog_1_method_40_code
def yX8_sumOver : MethodName := ⟨RX8, "sumOver", "(I)I"⟩
abbrev cX8_tellCode : ByteArray := prog_1_method_41_code
def yX8_tellCode : MethodName := ⟨RX8, "tellCode", "(LFoldedVoices$Voice;II)I"⟩
abbrev cX8_codesToComeNear : ByteArray := prog_1_method_42_code
def yX8_codesToComeNear : MethodName := ⟨RX8, "codesToComeNear", "(LFoldedVoices$Voice;II)I"⟩
abbrev cX8_tellIfAllCame : ByteArray := prog_1_method_43_code
def yX8_tellIfAllCame : MethodName := ⟨RX8, "tellIfAllCame", "(LFoldedVoices$Voice;I)I"⟩
abbrev cX8_letAllCome : ByteArray := prog_1_method_44_code
def yX8_letAllCome : MethodName := ⟨RX8, "letAllCome", "(LFoldedVoices$Voice;)V"⟩
abbrev cX8_wouldAgree : ByteArray := prog_1_method_45_code
def yX8_wouldAgree : MethodName := ⟨RX8, "wouldAgree", "(LFoldedVoices$Voice;)Z"⟩
abbrev cX8_shareOfLost : ByteArray := prog_1_method_46_code
def yX8_shareOfLost : MethodName := ⟨RX8, "shareOfLost", "()F"⟩
abbrev cX8_mixed : ByteArray := prog_1_method_47_code
def yX8_mixed : MethodName := ⟨RX8, "mixed", "(JJ)J"⟩
abbrev cX8_withVoice : ByteArray := prog_1_method_48_code
def yX8_withVoice : MethodName := ⟨RX8, "withVoice", "(JLFoldedVoices$Voice;)J"⟩
abbrev cX8_withPacket : ByteArray := prog_1_method_49_code
def yX8_withPacket : MethodName := ⟨RX8, "withPacket", "(JLFoldedVoices$Packet;)J"⟩
abbrev cX8_bitsOfDouble : ByteArray := prog_1_method_50_code
def yX8_bitsOfDouble : MethodName := ⟨RX8, "bitsOfDouble", "(D)J"⟩
abbrev cX8_bitsOfFloat : ByteArray := prog_1_method_51_code
def yX8_bitsOfFloat : MethodName := ⟨RX8, "bitsOfFloat", "(F)J"⟩
abbrev cX8_distance : ByteArray := prog_1_method_52_code
def yX8_distance : MethodName := ⟨RX8, "distance", "(II)I"⟩
def RX9 : String := "FoldedVoicesModel"
def TX9 : u_T := fun k => match k with
  | 0 => ("FoldedVoicesModel", "row", "[I", true)
  | 1 => ("FoldedVoicesModel", "saved", "[I", true)
  | 2 => ("FoldedVoicesModel", "savedMany", "I", false)
  | 3 => ("FoldedVoicesModel", "snapshot", "[I", true)
  | 4 => ("FoldedVoicesModel", "isKept", "Z", false)
  | 5 => ("FoldedVoicesModel", "aside", "[I", true)
  | 6 => ("FoldedVoicesModel", "steps", "[I", true)
  | 7 => ("FoldedVoicesModel", "thrown", "I", false)
  | 8 => ("FoldedVoicesModel", "buffer", "[I", true)
  | 9 => ("FoldedVoicesModel", "length", "I", false)
  | 10 => ("FoldedVoicesModel", "spot", "I", false)
  | 11 => ("FoldedVoicesModel", "deeds", "I", false)
  | 12 => ("FoldedVoicesModel", "deed", "[I", true)
  | 13 => ("FoldedVoicesModel", "deedVoice", "[I", true)
  | 14 => ("FoldedVoicesModel", "deedSample", "[I", true)
  | _ => ("FoldedVoicesModel", "hash", "J", false)
def tyX9 : Nat → FieldType := fun k => match k with
  | 0 => .array .int
  | 1 => .array .int
  | 2 => .int
  | 3 => .array .int
  | 4 => .boolean
  | 5 => .array .int
  | 6 => .array .int
  | 7 => .int
  | 8 => .array .int
  | 9 => .int
  | 10 => .int
  | 11 => .int
  | 12 => .array .int
  | 13 => .array .int
  | 14 => .array .int
  | _ => .long
abbrev wsX90 : List Cond := u_ws RX9 TX9 16
theorem nmX9 : ∀ a, a < 16 → ∀ b, b < 16 → a ≠ b → (TX9 a).2.1 ≠ (TX9 b).2.1 := by decide +kernel
theorem tyX9_ok : ∀ k, k < 16 → parseFieldDescriptor (TX9 k).2.2.1 = some (tyX9 k) := by decide +kernel
abbrev cX9_init : ByteArray := prog_11_method_1_code
def yX9_init : MethodName := ⟨RX9, "<init>", "()V"⟩
abbrev cX9_thrown : ByteArray := prog_11_method_2_code
def yX9_thrown : MethodName := ⟨RX9, "thrown", "()I"⟩
abbrev cX9_fails : ByteArray := prog_11_method_3_code
def yX9_fails : MethodName := ⟨RX9, "fails", "(I)I"⟩
abbrev cX9_in : ByteArray := prog_11_method_4_code
def yX9_in : MethodName := ⟨RX9, "in", "(III)Z"⟩
abbrev cX9_isVoice : ByteArray := prog_11_method_5_code
def yX9_isVoice : MethodName := ⟨RX9, "isVoice", "(I)Z"⟩
abbrev cX9_isSample : ByteArray := prog_11_method_6_code
def yX9_isSample : MethodName := ⟨RX9, "isSample", "(I)Z"⟩
abbrev cX9_size : ByteArray := prog_11_method_7_code
def yX9_size : MethodName := ⟨RX9, "size", "(I)I"⟩
abbrev cX9_of : ByteArray := prog_11_method_8_code
def yX9_of : MethodName := ⟨RX9, "of", "(II)I"⟩
abbrev cX9_put : ByteArray := prog_11_method_9_code
def yX9_put : MethodName := ⟨RX9, "put", "(III)V"⟩
abbrev cX9_add : ByteArray := prog_11_method_10_code
def yX9_add : MethodName := ⟨RX9, "add", "(III)V"⟩
abbrev cX9_packetAt : ByteArray := prog_11_method_11_code
def yX9_packetAt : MethodName := ⟨RX9, "packetAt", "(II)I"⟩
abbrev cX9_save : ByteArray := prog_11_method_12_code
def yX9_save : MethodName := ⟨RX9, "save", "()V"⟩
abbrev cX9_putAside : ByteArray := prog_11_method_13_code
def yX9_putAside : MethodName := ⟨RX9, "putAside", "()V"⟩
abbrev cX9_putBack : ByteArray := prog_11_method_14_code
def yX9_putBack : MethodName := ⟨RX9, "putBack", "()V"⟩
abbrev cX9_codeOf : ByteArray := prog_11_method_15_code
def yX9_codeOf : MethodName := ⟨RX9, "codeOf", "(III)I"⟩
abbrev cX9_guessBehind : ByteArray := prog_11_method_16_code
def yX9_guessBehind : MethodName := ⟨RX9, "guessBehind", "(III)I"⟩
abbrev cX9_indexBehind : ByteArray := prog_11_method_17_code
def yX9_indexBehind : MethodName := ⟨RX9, "indexBehind", "(II)I"⟩
abbrev cX9_follow : ByteArray := prog_11_method_18_code
def yX9_follow : MethodName := ⟨RX9, "follow", "(III)V"⟩
abbrev cX9_makesCode : ByteArray := prog_11_method_19_code
def yX9_makesCode : MethodName := ⟨RX9, "makesCode", "(I)Z"⟩
abbrev cX9_canSay : ByteArray := prog_11_method_20_code
def yX9_canSay : MethodName := ⟨RX9, "canSay", "(I)Z"⟩
abbrev cX9_makePacket : ByteArray := prog_11_method_21_code
def yX9_makePacket : MethodName := ⟨RX9, "makePacket", "(I)V"⟩
abbrev cX9_makeCode : ByteArray := prog_11_method_22_code
def yX9_makeCode : MethodName := ⟨RX9, "makeCode", "(I)I"⟩
abbrev cX9_sayNow : ByteArray := prog_11_method_23_code
def yX9_sayNow : MethodName := ⟨RX9, "sayNow", "(II)I"⟩
abbrev cX9_say : ByteArray := prog_11_method_24_code
def yX9_say : MethodName := ⟨RX9, "say", "(II)I"⟩
abbrev cX9_flush : ByteArray := prog_11_method_25_code
def yX9_flush : MethodName := ⟨RX9, "flush", "(I)I"⟩
abbrev cX9_takeFirst : ByteArray := prog_11_method_26_code
def yX9_takeFirst : MethodName := ⟨RX9, "takeFirst", "(I)V"⟩
abbrev cX9_hear : ByteArray := prog_11_method_27_code
def yX9_hear : MethodName := ⟨RX9, "hear", "(III)V"⟩
abbrev cX9_takeHead : ByteArray := prog_11_method_28_code
def yX9_takeHead : MethodName := ⟨RX9, "takeHead", "(III)V"⟩
abbrev cX9_deliverNow : ByteArray := prog_11_method_29_code
def yX9_deliverNow : MethodName := ⟨RX9, "deliverNow", "(I)I"⟩
abbrev cX9_deliver : ByteArray := prog_11_method_30_code
def yX9_deliver : MethodName := ⟨RX9, "deliver", "(I)I"⟩
abbrev cX9_loseNow : ByteArray := prog_11_method_31_code
def yX9_loseNow : MethodName := ⟨RX9, "loseNow", "(I)I"⟩
abbrev cX9_lose : ByteArray := prog_11_method_32_code
def yX9_lose : MethodName := ⟨RX9, "lose", "(I)I"⟩
abbrev cX9_swapNow : ByteArray := prog_11_method_33_code
def yX9_swapNow : MethodName := ⟨RX9, "swapNow", "(I)I"⟩
abbrev cX9_swap : ByteArray := prog_11_method_34_code
def yX9_swap : MethodName := ⟨RX9, "swap", "(I)I"⟩
abbrev cX9_maySet : ByteArray := prog_11_method_35_code
def yX9_maySet : MethodName := ⟨RX9, "maySet", "(II)Z"⟩
abbrev cX9_set : ByteArray := prog_11_method_36_code
def yX9_set : MethodName := ⟨RX9, "set", "(II)I"⟩
abbrev cX9_append : ByteArray := prog_11_method_37_code
def yX9_append : MethodName := ⟨RX9, "append", "(I)I"⟩
abbrev cX9_clearBuffer : ByteArray := prog_11_method_38_code
def yX9_clearBuffer : MethodName := ⟨RX9, "clearBuffer", "()I"⟩
abbrev cX9_isAt : ByteArray := prog_11_method_39_code
def yX9_isAt : MethodName := ⟨RX9, "isAt", "(II)Z"⟩
abbrev cX9_takes : ByteArray := prog_11_method_40_code
def yX9_takes : MethodName := ⟨RX9, "takes", "(II)Z"⟩
abbrev cX9_addDeed : ByteArray := prog_11_method_41_code
def yX9_addDeed : MethodName := ⟨RX9, "addDeed", "(III)V"⟩
abbrev cX9_readSample : ByteArray := prog_11_method_42_code
def yX9_readSample : MethodName := ⟨RX9, "readSample", "(I)Z"⟩
abbrev cX9_readSamples : ByteArray := prog_11_method_43_code
def yX9_readSamples : MethodName := ⟨RX9, "readSamples", "()Z"⟩
abbrev cX9_readPart : ByteArray := prog_11_method_44_code
def yX9_readPart : MethodName := ⟨RX9, "readPart", "()Z"⟩
abbrev cX9_isTalk : ByteArray := prog_11_method_45_code
def yX9_isTalk : MethodName := ⟨RX9, "isTalk", "()Z"⟩
abbrev cX9_firstError : ByteArray := prog_11_method_46_code
def yX9_firstError : MethodName := ⟨RX9, "firstError", "()I"⟩
abbrev cX9_canDo : ByteArray := prog_11_method_47_code
def yX9_canDo : MethodName := ⟨RX9, "canDo", "(I)Z"⟩
abbrev cX9_doDeed : ByteArray := prog_11_method_48_code
def yX9_doDeed : MethodName := ⟨RX9, "doDeed", "(I)I"⟩
abbrev cX9_talk : ByteArray := prog_11_method_49_code
def yX9_talk : MethodName := ⟨RX9, "talk", "()I"⟩
abbrev cX9_keep : ByteArray := prog_11_method_50_code
def yX9_keep : MethodName := ⟨RX9, "keep", "()I"⟩
abbrev cX9_goBack : ByteArray := prog_11_method_51_code
def yX9_goBack : MethodName := ⟨RX9, "goBack", "()I"⟩
abbrev cX9_undo : ByteArray := prog_11_method_52_code
def yX9_undo : MethodName := ⟨RX9, "undo", "()I"⟩
abbrev cX9_ofSaying : ByteArray := prog_11_method_53_code
def yX9_ofSaying : MethodName := ⟨RX9, "ofSaying", "(II)I"⟩
abbrev cX9_saying : ByteArray := prog_11_method_54_code
def yX9_saying : MethodName := ⟨RX9, "saying", "(II)I"⟩
abbrev cX9_ofHearing : ByteArray := prog_11_method_55_code
def yX9_ofHearing : MethodName := ⟨RX9, "ofHearing", "(II)I"⟩
abbrev cX9_hearing : ByteArray := prog_11_method_56_code
def yX9_hearing : MethodName := ⟨RX9, "hearing", "(II)I"⟩
abbrev cX9_ofPacket : ByteArray := prog_11_method_57_code
def yX9_ofPacket : MethodName := ⟨RX9, "ofPacket", "(III)I"⟩
abbrev cX9_packet : ByteArray := prog_11_method_58_code
def yX9_packet : MethodName := ⟨RX9, "packet", "(III)I"⟩
abbrev cX9_deliverAll : ByteArray := prog_11_method_59_code
def yX9_deliverAll : MethodName := ⟨RX9, "deliverAll", "(I)V"⟩
abbrev cX9_reason : ByteArray := prog_11_method_60_code
def yX9_reason : MethodName := ⟨RX9, "reason", "(I)I"⟩
abbrev cX9_why : ByteArray := prog_11_method_61_code
def yX9_why : MethodName := ⟨RX9, "why", "(I)I"⟩
abbrev cX9_sum : ByteArray := prog_11_method_62_code
def yX9_sum : MethodName := ⟨RX9, "sum", "(I)I"⟩
abbrev cX9_agreeing : ByteArray := prog_11_method_63_code
def yX9_agreeing : MethodName := ⟨RX9, "agreeing", "()I"⟩
abbrev cX9_number : ByteArray := prog_11_method_64_code
def yX9_number : MethodName := ⟨RX9, "number", "(I)I"⟩
abbrev cX9_count : ByteArray := prog_11_method_65_code
def yX9_count : MethodName := ⟨RX9, "count", "(I)I"⟩
abbrev cX9_setting : ByteArray := prog_11_method_66_code
def yX9_setting : MethodName := ⟨RX9, "setting", "(I)I"⟩
abbrev cX9_nearestCode : ByteArray := prog_11_method_67_code
def yX9_nearestCode : MethodName := ⟨RX9, "nearestCode", "(III)I"⟩
abbrev cX9_ofCode : ByteArray := prog_11_method_68_code
def yX9_ofCode : MethodName := ⟨RX9, "ofCode", "(III)I"⟩
abbrev cX9_code : ByteArray := prog_11_method_69_code
def yX9_code : MethodName := ⟨RX9, "code", "(III)I"⟩
abbrev cX9_settledBehind : ByteArray := prog_11_method_70_code
def yX9_settledBehind : MethodName := ⟨RX9, "settledBehind", "(III)I"⟩
abbrev cX9_settles : ByteArray := prog_11_method_71_code
def yX9_settles : MethodName := ⟨RX9, "settles", "(III)I"⟩
abbrev cX9_delivered : ByteArray := prog_11_method_72_code
def yX9_delivered : MethodName := ⟨RX9, "delivered", "(II)I"⟩
abbrev cX9_ifDelivered : ByteArray := prog_11_method_73_code
def yX9_ifDelivered : MethodName := ⟨RX9, "ifDelivered", "(II)I"⟩
abbrev cX9_mean : ByteArray := prog_11_method_74_code
def yX9_mean : MethodName := ⟨RX9, "mean", "(I)D"⟩
abbrev cX9_meanError : ByteArray := prog_11_method_75_code
def yX9_meanError : MethodName := ⟨RX9, "meanError", "(I)D"⟩
abbrev cX9_share : ByteArray := prog_11_method_76_code
def yX9_share : MethodName := ⟨RX9, "share", "()F"⟩
abbrev cX9_lostShare : ByteArray := prog_11_method_77_code
def yX9_lostShare : MethodName := ⟨RX9, "lostShare", "()F"⟩
abbrev cX9_mix : ByteArray := prog_11_method_78_code
def yX9_mix : MethodName := ⟨RX9, "mix", "(J)V"⟩
abbrev cX9_mixVoice : ByteArray := prog_11_method_79_code
def yX9_mixVoice : MethodName := ⟨RX9, "mixVoice", "(I)V"⟩
abbrev cX9_digest : ByteArray := prog_11_method_80_code
def yX9_digest : MethodName := ⟨RX9, "digest", "()J"⟩
def RJxe99ae : String := "java/lang/Double"
def TJxe99ae : u_T := fun k => match k with
  | _ => ("", "", "", false)
def tyJxe99ae : Nat → FieldType := fun k => match k with
  | _ => .int
abbrev wsJxe99ae0 : List Cond := u_ws RJxe99ae TJxe99ae 0
theorem nmJxe99ae : ∀ a, a < 0 → ∀ b, b < 0 → a ≠ b → (TJxe99ae a).2.1 ≠ (TJxe99ae b).2.1 := by decide +kernel
theorem tyJxe99ae_ok : ∀ k, k < 0 → parseFieldDescriptor (TJxe99ae k).2.2.1 = some (tyJxe99ae k) := by decide +kernel
abbrev cJxe99ae_isNaN_b9ae7 : ByteArray := prog_12_method_6_code
def yJxe99ae_isNaN_b9ae7 : MethodName := ⟨RJxe99ae, "isNaN", "(D)Z"⟩
abbrev cJxe99ae_doubleToLongBits_ccdee : ByteArray := prog_12_method_23_code
def yJxe99ae_doubleToLongBits_ccdee : MethodName := ⟨RJxe99ae, "doubleToLongBits", "(D)J"⟩
def RJxf58ca : String := "java/lang/Float"
def TJxf58ca : u_T := fun k => match k with
  | _ => ("", "", "", false)
def tyJxf58ca : Nat → FieldType := fun k => match k with
  | _ => .int
abbrev wsJxf58ca0 : List Cond := u_ws RJxf58ca TJxf58ca 0
theorem nmJxf58ca : ∀ a, a < 0 → ∀ b, b < 0 → a ≠ b → (TJxf58ca a).2.1 ≠ (TJxf58ca b).2.1 := by decide +kernel
theorem tyJxf58ca_ok : ∀ k, k < 0 → parseFieldDescriptor (TJxf58ca k).2.2.1 = some (tyJxf58ca k) := by decide +kernel
abbrev cJxf58ca_isNaN_12338 : ByteArray := prog_14_method_6_code
def yJxf58ca_isNaN_12338 : MethodName := ⟨RJxf58ca, "isNaN", "(F)Z"⟩
abbrev cJxf58ca_floatToIntBits_5c35a : ByteArray := prog_14_method_24_code
def yJxf58ca_floatToIntBits_5c35a : MethodName := ⟨RJxf58ca, "floatToIntBits", "(F)I"⟩
def RJ9 : String := "java/lang/Math"
def TJ9 : u_T := fun k => match k with
  | _ => ("", "", "", false)
def tyJ9 : Nat → FieldType := fun k => match k with
  | _ => .int
abbrev wsJ90 : List Cond := u_ws RJ9 TJ9 0
theorem nmJ9 : ∀ a, a < 0 → ∀ b, b < 0 → a ≠ b → (TJ9 a).2.1 ≠ (TJ9 b).2.1 := by decide +kernel
theorem tyJ9_ok : ∀ k, k < 0 → parseFieldDescriptor (TJ9 k).2.2.1 = some (tyJ9 k) := by decide +kernel
abbrev cJ9_max_7cf53 : ByteArray := prog_18_method_65_code
def yJ9_max_7cf53 : MethodName := ⟨RJ9, "max", "(II)I"⟩
abbrev cJ9_min_7cf53 : ByteArray := prog_18_method_69_code
def yJ9_min_7cf53 : MethodName := ⟨RJ9, "min", "(II)I"⟩
def RJ0 : String := "java/lang/String"
def TJ0 : u_T := fun k => match k with
  | _ => ("", "", "", false)
def tyJ0 : Nat → FieldType := fun k => match k with
  | _ => .int
abbrev wsJ00 : List Cond := u_ws RJ0 TJ0 0
theorem nmJ0 : ∀ a, a < 0 → ∀ b, b < 0 → a ≠ b → (TJ0 a).2.1 ≠ (TJ0 b).2.1 := by decide +kernel
theorem tyJ0_ok : ∀ k, k < 0 → parseFieldDescriptor (TJ0 k).2.2.1 = some (tyJ0 k) := by decide +kernel
def RJ10 : String := "java/lang/System"
def TJ10 : u_T := fun k => match k with
  | _ => ("", "", "", false)
def tyJ10 : Nat → FieldType := fun k => match k with
  | _ => .int
abbrev wsJ100 : List Cond := u_ws RJ10 TJ10 0
theorem nmJ10 : ∀ a, a < 0 → ∀ b, b < 0 → a ≠ b → (TJ10 a).2.1 ≠ (TJ10 b).2.1 := by decide +kernel
theorem tyJ10_ok : ∀ k, k < 0 → parseFieldDescriptor (TJ10 k).2.2.1 = some (tyJ10 k) := by decide +kernel
def RL : String := "FoldedVoicesLaw"
abbrev cL_say : ByteArray := method_3_code
def yL_say : MethodName := ⟨RL, "say", "(LFoldedVoices;II[J)I"⟩
abbrev cL_flush : ByteArray := method_4_code
def yL_flush : MethodName := ⟨RL, "flush", "(LFoldedVoices;I[J)I"⟩
abbrev cL_deliver : ByteArray := method_5_code
def yL_deliver : MethodName := ⟨RL, "deliver", "(LFoldedVoices;I[J)I"⟩
abbrev cL_lose : ByteArray := method_6_code
def yL_lose : MethodName := ⟨RL, "lose", "(LFoldedVoices;I[J)I"⟩
abbrev cL_swap : ByteArray := method_7_code
def yL_swap : MethodName := ⟨RL, "swap", "(LFoldedVoices;I[J)I"⟩
abbrev cL_set : ByteArray := method_8_code
def yL_set : MethodName := ⟨RL, "set", "(LFoldedVoices;II[J)I"⟩
abbrev cL_append : ByteArray := method_9_code
def yL_append : MethodName := ⟨RL, "append", "(LFoldedVoices;I[J)I"⟩
abbrev cL_talk : ByteArray := method_10_code
def yL_talk : MethodName := ⟨RL, "talk", "(LFoldedVoices;[J)I"⟩
abbrev cL_goBack : ByteArray := method_11_code
def yL_goBack : MethodName := ⟨RL, "goBack", "(LFoldedVoices;[J)I"⟩
abbrev cL_undo : ByteArray := method_12_code
def yL_undo : MethodName := ⟨RL, "undo", "(LFoldedVoices;[J)I"⟩
abbrev cL_saying : ByteArray := method_13_code
def yL_saying : MethodName := ⟨RL, "saying", "(LFoldedVoices;II[J)I"⟩
abbrev cL_hearing : ByteArray := method_14_code
def yL_hearing : MethodName := ⟨RL, "hearing", "(LFoldedVoices;II[J)I"⟩
abbrev cL_packet : ByteArray := method_15_code
def yL_packet : MethodName := ⟨RL, "packet", "(LFoldedVoices;III[J)I"⟩
abbrev cL_why : ByteArray := method_16_code
def yL_why : MethodName := ⟨RL, "why", "(LFoldedVoices;I[J)I"⟩
abbrev cL_count : ByteArray := method_17_code
def yL_count : MethodName := ⟨RL, "count", "(LFoldedVoices;I[J)I"⟩
abbrev cL_setting : ByteArray := method_18_code
def yL_setting : MethodName := ⟨RL, "setting", "(LFoldedVoices;I[J)I"⟩
abbrev cL_code : ByteArray := method_19_code
def yL_code : MethodName := ⟨RL, "code", "(LFoldedVoices;III[J)I"⟩
abbrev cL_settles : ByteArray := method_20_code
def yL_settles : MethodName := ⟨RL, "settles", "(LFoldedVoices;III[J)I"⟩
abbrev cL_ifDelivered : ByteArray := method_21_code
def yL_ifDelivered : MethodName := ⟨RL, "ifDelivered", "(LFoldedVoices;II[J)I"⟩
abbrev cL_meanError : ByteArray := method_22_code
def yL_meanError : MethodName := ⟨RL, "meanError", "(LFoldedVoices;I[D)I"⟩
abbrev cL_law : ByteArray := code
def yL_law : MethodName := ⟨RL, "law", "([I)Z"⟩
abbrev vwCl : List vw_C := [(RX0, TX0, 2), (RX1, TX1, 10), (RX2, TX2, 6), (RX3, TX3, 11), (RX4, TX4, 1), (RX5, TX5, 2), (RX6, TX6, 7), (RX7, TX7, 5), (RX8, TX8, 8), (RX9, TX9, 16)]
end
section
theorem dX0_init_0 : decode cX0_init 0 = .ok (.aload_n 0, 1) := by decide +kernel
theorem dX0_init_1 : decode cX0_init 1 = .ok (.invokespecial 3, 3) := by decide +kernel
theorem dX0_init_4 : decode cX0_init 4 = .ok (.return_, 1) := by decide +kernel
theorem dX0_copyFrom_0 : decode cX0_copyFrom 0 = .ok (.aload_n 0, 1) := by decide +kernel
theorem dX0_copyFrom_1 : decode cX0_copyFrom 1 = .ok (.aload_n 1, 1) := by decide +kernel
theorem dX0_copyFrom_2 : decode cX0_copyFrom 2 = .ok (.getfield 9, 3) := by decide +kernel
theorem dX0_copyFrom_5 : decode cX0_copyFrom 5 = .ok (.putfield 9, 3) := by decide +kernel
theorem dX0_copyFrom_8 : decode cX0_copyFrom 8 = .ok (.aload_n 0, 1) := by decide +kernel
theorem dX0_copyFrom_9 : decode cX0_copyFrom 9 = .ok (.aload_n 1, 1) := by decide +kernel
theorem dX0_copyFrom_10 : decode cX0_copyFrom 10 = .ok (.getfield 15, 3) := by decide +kernel
theorem dX0_copyFrom_13 : decode cX0_copyFrom 13 = .ok (.putfield 15, 3) := by decide +kernel
theorem dX0_copyFrom_16 : decode cX0_copyFrom 16 = .ok (.return_, 1) := by decide +kernel
theorem dX0_isAt_0 : decode cX0_isAt 0 = .ok (.aload_n 0, 1) := by decide +kernel
theorem dX0_isAt_1 : decode cX0_isAt 1 = .ok (.getfield 9, 3) := by decide +kernel
theorem dX0_isAt_4 : decode cX0_isAt 4 = .ok (.iload_n 1, 1) := by decide +kernel
theorem dX0_isAt_5 : decode cX0_isAt 5 = .ok (.if_icmp .ne 15, 3) := by decide +kernel
theorem dX0_isAt_8 : decode cX0_isAt 8 = .ok (.aload_n 0, 1) := by decide +kernel
theorem dX0_isAt_9 : decode cX0_isAt 9 = .ok (.getfield 15, 3) := by decide +kernel
theorem dX0_isAt_12 : decode cX0_isAt 12 = .ok (.iload_n 2, 1) := by decide +kernel
theorem dX0_isAt_13 : decode cX0_isAt 13 = .ok (.if_icmp .ne 7, 3) := by decide +kernel
theorem dX0_isAt_16 : decode cX0_isAt 16 = .ok (.iconst 1, 1) := by decide +kernel
theorem dX0_isAt_17 : decode cX0_isAt 17 = .ok (.goto 4, 3) := by decide +kernel
theorem dX0_isAt_20 : decode cX0_isAt 20 = .ok (.iconst 0, 1) := by decide +kernel
theorem dX0_isAt_21 : decode cX0_isAt 21 = .ok (.ireturn, 1) := by decide +kernel
theorem dX0_step_0 : decode cX0_step 0 = .ok (.aload_n 0, 1) := by decide +kernel
theorem dX0_step_1 : decode cX0_step 1 = .ok (.getfield 15, 3) := by decide +kernel
theorem dX0_step_4 : decode cX0_step 4 = .ok (.ifCond .lt 25, 3) := by decide +kernel
theorem dX0_step_7 : decode cX0_step 7 = .ok (.aload_n 0, 1) := by decide +kernel
theorem dX0_step_8 : decode cX0_step 8 = .ok (.getfield 15, 3) := by decide +kernel
theorem dX0_step_11 : decode cX0_step 11 = .ok (.getstatic 18, 3) := by decide +kernel
theorem dX0_step_14 : decode cX0_step 14 = .ok (.arraylength, 1) := by decide +kernel
theorem dX0_step_15 : decode cX0_step 15 = .ok (.if_icmp .ge 14, 3) := by decide +kernel
theorem dX0_step_18 : decode cX0_step 18 = .ok (.getstatic 18, 3) := by decide +kernel
theorem dX0_step_21 : decode cX0_step 21 = .ok (.aload_n 0, 1) := by decide +kernel
theorem dX0_step_22 : decode cX0_step 22 = .ok (.getfield 15, 3) := by decide +kernel
theorem dX0_step_25 : decode cX0_step 25 = .ok (.iaload, 1) := by decide +kernel
theorem dX0_step_26 : decode cX0_step 26 = .ok (.goto 4, 3) := by decide +kernel
theorem dX0_step_29 : decode cX0_step 29 = .ok (.iconst 0, 1) := by decide +kernel
theorem dX0_step_30 : decode cX0_step 30 = .ok (.ireturn, 1) := by decide +kernel
theorem dX0_codeFor_0 : decode cX0_codeFor 0 = .ok (.aload_n 0, 1) := by decide +kernel
theorem dX0_codeFor_1 : decode cX0_codeFor 1 = .ok (.invokevirtual 22, 3) := by decide +kernel
theorem dX0_codeFor_4 : decode cX0_codeFor 4 = .ok (.istore_n 2, 1) := by decide +kernel
theorem dX0_codeFor_5 : decode cX0_codeFor 5 = .ok (.iload_n 1, 1) := by decide +kernel
theorem dX0_codeFor_6 : decode cX0_codeFor 6 = .ok (.aload_n 0, 1) := by decide +kernel
theorem dX0_codeFor_7 : decode cX0_codeFor 7 = .ok (.getfield 9, 3) := by decide +kernel
theorem dX0_codeFor_10 : decode cX0_codeFor 10 = .ok (.isub, 1) := by decide +kernel
theorem dX0_codeFor_11 : decode cX0_codeFor 11 = .ok (.istore_n 3, 1) := by decide +kernel
theorem dX0_codeFor_12 : decode cX0_codeFor 12 = .ok (.iconst 0, 1) := by decide +kernel
theorem dX0_codeFor_13 : decode cX0_codeFor 13 = .ok (.istore 4, 2) := by decide +kernel
theorem dX0_codeFor_15 : decode cX0_codeFor 15 = .ok (.iload_n 3, 1) := by decide +kernel
theorem dX0_codeFor_16 : decode cX0_codeFor 16 = .ok (.ifCond .ge 10, 3) := by decide +kernel
theorem dX0_codeFor_19 : decode cX0_codeFor 19 = .ok (.bipush 8, 2) := by decide +kernel
theorem dX0_codeFor_21 : decode cX0_codeFor 21 = .ok (.istore 4, 2) := by decide +kernel
theorem dX0_codeFor_23 : decode cX0_codeFor 23 = .ok (.iload_n 3, 1) := by decide +kernel
theorem dX0_codeFor_24 : decode cX0_codeFor 24 = .ok (.ineg, 1) := by decide +kernel
theorem dX0_codeFor_25 : decode cX0_codeFor 25 = .ok (.istore_n 3, 1) := by decide +kernel
theorem dX0_codeFor_26 : decode cX0_codeFor 26 = .ok (.iload_n 3, 1) := by decide +kernel
theorem dX0_codeFor_27 : decode cX0_codeFor 27 = .ok (.iload_n 2, 1) := by decide +kernel
theorem dX0_codeFor_28 : decode cX0_codeFor 28 = .ok (.if_icmp .lt 10, 3) := by decide +kernel
theorem dX0_codeFor_31 : decode cX0_codeFor 31 = .ok (.iinc 4 4, 3) := by decide +kernel
theorem dX0_codeFor_34 : decode cX0_codeFor 34 = .ok (.iload_n 3, 1) := by decide +kernel
theorem dX0_codeFor_35 : decode cX0_codeFor 35 = .ok (.iload_n 2, 1) := by decide +kernel
theorem dX0_codeFor_36 : decode cX0_codeFor 36 = .ok (.isub, 1) := by decide +kernel
theorem dX0_codeFor_37 : decode cX0_codeFor 37 = .ok (.istore_n 3, 1) := by decide +kernel
theorem dX0_codeFor_38 : decode cX0_codeFor 38 = .ok (.iload_n 3, 1) := by decide +kernel
theorem dX0_codeFor_39 : decode cX0_codeFor 39 = .ok (.iload_n 2, 1) := by decide +kernel
theorem dX0_codeFor_40 : decode cX0_codeFor 40 = .ok (.iconst 2, 1) := by decide +kernel
theorem dX0_codeFor_41 : decode cX0_codeFor 41 = .ok (.idiv, 1) := by decide +kernel
theorem dX0_codeFor_42 : decode cX0_codeFor 42 = .ok (.if_icmp .lt 12, 3) := by decide +kernel
theorem dX0_codeFor_45 : decode cX0_codeFor 45 = .ok (.iinc 4 2, 3) := by decide +kernel
theorem dX0_codeFor_48 : decode cX0_codeFor 48 = .ok (.iload_n 3, 1) := by decide +kernel
theorem dX0_codeFor_49 : decode cX0_codeFor 49 = .ok (.iload_n 2, 1) := by decide +kernel
theorem dX0_codeFor_50 : decode cX0_codeFor 50 = .ok (.iconst 2, 1) := by decide +kernel
theorem dX0_codeFor_51 : decode cX0_codeFor 51 = .ok (.idiv, 1) := by decide +kernel
theorem dX0_codeFor_52 : decode cX0_codeFor 52 = .ok (.isub, 1) := by decide +kernel
theorem dX0_codeFor_53 : decode cX0_codeFor 53 = .ok (.istore_n 3, 1) := by decide +kernel
theorem dX0_codeFor_54 : decode cX0_codeFor 54 = .ok (.iload_n 3, 1) := by decide +kernel
theorem dX0_codeFor_55 : decode cX0_codeFor 55 = .ok (.iload_n 2, 1) := by decide +kernel
theorem dX0_codeFor_56 : decode cX0_codeFor 56 = .ok (.iconst 4, 1) := by decide +kernel
theorem dX0_codeFor_57 : decode cX0_codeFor 57 = .ok (.idiv, 1) := by decide +kernel
theorem dX0_codeFor_58 : decode cX0_codeFor 58 = .ok (.if_icmp .lt 6, 3) := by decide +kernel
theorem dX0_codeFor_61 : decode cX0_codeFor 61 = .ok (.iinc 4 1, 3) := by decide +kernel
theorem dX0_codeFor_64 : decode cX0_codeFor 64 = .ok (.iload 4, 2) := by decide +kernel
theorem dX0_codeFor_66 : decode cX0_codeFor 66 = .ok (.ireturn, 1) := by decide +kernel
theorem dX0_nearestCodeFor_0 : decode cX0_nearestCodeFor 0 = .ok (.iconst 0, 1) := by decide +kernel
theorem dX0_nearestCodeFor_1 : decode cX0_nearestCodeFor 1 = .ok (.istore_n 2, 1) := by decide +kernel
theorem dX0_nearestCodeFor_2 : decode cX0_nearestCodeFor 2 = .ok (.aload_n 0, 1) := by decide +kernel
theorem dX0_nearestCodeFor_3 : decode cX0_nearestCodeFor 3 = .ok (.iconst 0, 1) := by decide +kernel
theorem dX0_nearestCodeFor_4 : decode cX0_nearestCodeFor 4 = .ok (.aload_n 0, 1) := by decide +kernel
theorem dX0_nearestCodeFor_5 : decode cX0_nearestCodeFor 5 = .ok (.invokevirtual 22, 3) := by decide +kernel
theorem dX0_nearestCodeFor_8 : decode cX0_nearestCodeFor 8 = .ok (.invokevirtual 26, 3) := by decide +kernel
theorem dX0_nearestCodeFor_11 : decode cX0_nearestCodeFor 11 = .ok (.iload_n 1, 1) := by decide +kernel
theorem dX0_nearestCodeFor_12 : decode cX0_nearestCodeFor 12 = .ok (.invokestatic 30, 3) := by decide +kernel
theorem dX0_nearestCodeFor_15 : decode cX0_nearestCodeFor 15 = .ok (.istore_n 3, 1) := by decide +kernel
theorem dX0_nearestCodeFor_16 : decode cX0_nearestCodeFor 16 = .ok (.iconst 1, 1) := by decide +kernel
theorem dX0_nearestCodeFor_17 : decode cX0_nearestCodeFor 17 = .ok (.istore 4, 2) := by decide +kernel
theorem dX0_nearestCodeFor_19 : decode cX0_nearestCodeFor 19 = .ok (.iload 4, 2) := by decide +kernel
theorem dX0_nearestCodeFor_21 : decode cX0_nearestCodeFor 21 = .ok (.bipush 16, 2) := by decide +kernel
theorem dX0_nearestCodeFor_23 : decode cX0_nearestCodeFor 23 = .ok (.if_icmp .ge 37, 3) := by decide +kernel
theorem dX0_nearestCodeFor_26 : decode cX0_nearestCodeFor 26 = .ok (.aload_n 0, 1) := by decide +kernel
theorem dX0_nearestCodeFor_27 : decode cX0_nearestCodeFor 27 = .ok (.iload 4, 2) := by decide +kernel
theorem dX0_nearestCodeFor_29 : decode cX0_nearestCodeFor 29 = .ok (.aload_n 0, 1) := by decide +kernel
theorem dX0_nearestCodeFor_30 : decode cX0_nearestCodeFor 30 = .ok (.invokevirtual 22, 3) := by decide +kernel
theorem dX0_nearestCodeFor_33 : decode cX0_nearestCodeFor 33 = .ok (.invokevirtual 26, 3) := by decide +kernel
theorem dX0_nearestCodeFor_36 : decode cX0_nearestCodeFor 36 = .ok (.iload_n 1, 1) := by decide +kernel
theorem dX0_nearestCodeFor_37 : decode cX0_nearestCodeFor 37 = .ok (.invokestatic 30, 3) := by decide +kernel
theorem dX0_nearestCodeFor_40 : decode cX0_nearestCodeFor 40 = .ok (.istore 5, 2) := by decide +kernel
theorem dX0_nearestCodeFor_42 : decode cX0_nearestCodeFor 42 = .ok (.iload 5, 2) := by decide +kernel
theorem dX0_nearestCodeFor_44 : decode cX0_nearestCodeFor 44 = .ok (.iload_n 3, 1) := by decide +kernel
theorem dX0_nearestCodeFor_45 : decode cX0_nearestCodeFor 45 = .ok (.if_icmp .ge 9, 3) := by decide +kernel
theorem dX0_nearestCodeFor_48 : decode cX0_nearestCodeFor 48 = .ok (.iload 5, 2) := by decide +kernel
theorem dX0_nearestCodeFor_50 : decode cX0_nearestCodeFor 50 = .ok (.istore_n 3, 1) := by decide +kernel
theorem dX0_nearestCodeFor_51 : decode cX0_nearestCodeFor 51 = .ok (.iload 4, 2) := by decide +kernel
theorem dX0_nearestCodeFor_53 : decode cX0_nearestCodeFor 53 = .ok (.istore_n 2, 1) := by decide +kernel
theorem dX0_nearestCodeFor_54 : decode cX0_nearestCodeFor 54 = .ok (.iinc 4 1, 3) := by decide +kernel
theorem dX0_nearestCodeFor_57 : decode cX0_nearestCodeFor 57 = .ok (.goto (-38), 3) := by decide +kernel
theorem dX0_nearestCodeFor_60 : decode cX0_nearestCodeFor 60 = .ok (.iload_n 2, 1) := by decide +kernel
theorem dX0_nearestCodeFor_61 : decode cX0_nearestCodeFor 61 = .ok (.ireturn, 1) := by decide +kernel
theorem dX0_guessBehind_0 : decode cX0_guessBehind 0 = .ok (.iload_n 2, 1) := by decide +kernel
theorem dX0_guessBehind_1 : decode cX0_guessBehind 1 = .ok (.bipush 8, 2) := by decide +kernel
theorem dX0_guessBehind_3 : decode cX0_guessBehind 3 = .ok (.idiv, 1) := by decide +kernel
theorem dX0_guessBehind_4 : decode cX0_guessBehind 4 = .ok (.istore_n 3, 1) := by decide +kernel
theorem dX0_guessBehind_5 : decode cX0_guessBehind 5 = .ok (.iload_n 1, 1) := by decide +kernel
theorem dX0_guessBehind_6 : decode cX0_guessBehind 6 = .ok (.iconst 4, 1) := by decide +kernel
theorem dX0_guessBehind_7 : decode cX0_guessBehind 7 = .ok (.iand, 1) := by decide +kernel
theorem dX0_guessBehind_8 : decode cX0_guessBehind 8 = .ok (.ifCond .eq 7, 3) := by decide +kernel
theorem dX0_guessBehind_11 : decode cX0_guessBehind 11 = .ok (.iload_n 3, 1) := by decide +kernel
theorem dX0_guessBehind_12 : decode cX0_guessBehind 12 = .ok (.iload_n 2, 1) := by decide +kernel
theorem dX0_guessBehind_13 : decode cX0_guessBehind 13 = .ok (.iadd, 1) := by decide +kernel
theorem dX0_guessBehind_14 : decode cX0_guessBehind 14 = .ok (.istore_n 3, 1) := by decide +kernel
theorem dX0_guessBehind_15 : decode cX0_guessBehind 15 = .ok (.iload_n 1, 1) := by decide +kernel
theorem dX0_guessBehind_16 : decode cX0_guessBehind 16 = .ok (.iconst 2, 1) := by decide +kernel
theorem dX0_guessBehind_17 : decode cX0_guessBehind 17 = .ok (.iand, 1) := by decide +kernel
theorem dX0_guessBehind_18 : decode cX0_guessBehind 18 = .ok (.ifCond .eq 9, 3) := by decide +kernel
theorem dX0_guessBehind_21 : decode cX0_guessBehind 21 = .ok (.iload_n 3, 1) := by decide +kernel
theorem dX0_guessBehind_22 : decode cX0_guessBehind 22 = .ok (.iload_n 2, 1) := by decide +kernel
theorem dX0_guessBehind_23 : decode cX0_guessBehind 23 = .ok (.iconst 2, 1) := by decide +kernel
theorem dX0_guessBehind_24 : decode cX0_guessBehind 24 = .ok (.idiv, 1) := by decide +kernel
theorem dX0_guessBehind_25 : decode cX0_guessBehind 25 = .ok (.iadd, 1) := by decide +kernel
theorem dX0_guessBehind_26 : decode cX0_guessBehind 26 = .ok (.istore_n 3, 1) := by decide +kernel
theorem dX0_guessBehind_27 : decode cX0_guessBehind 27 = .ok (.iload_n 1, 1) := by decide +kernel
theorem dX0_guessBehind_28 : decode cX0_guessBehind 28 = .ok (.iconst 1, 1) := by decide +kernel
theorem dX0_guessBehind_29 : decode cX0_guessBehind 29 = .ok (.iand, 1) := by decide +kernel
theorem dX0_guessBehind_30 : decode cX0_guessBehind 30 = .ok (.ifCond .eq 9, 3) := by decide +kernel
theorem dX0_guessBehind_33 : decode cX0_guessBehind 33 = .ok (.iload_n 3, 1) := by decide +kernel
theorem dX0_guessBehind_34 : decode cX0_guessBehind 34 = .ok (.iload_n 2, 1) := by decide +kernel
theorem dX0_guessBehind_35 : decode cX0_guessBehind 35 = .ok (.iconst 4, 1) := by decide +kernel
theorem dX0_guessBehind_36 : decode cX0_guessBehind 36 = .ok (.idiv, 1) := by decide +kernel
theorem dX0_guessBehind_37 : decode cX0_guessBehind 37 = .ok (.iadd, 1) := by decide +kernel
theorem dX0_guessBehind_38 : decode cX0_guessBehind 38 = .ok (.istore_n 3, 1) := by decide +kernel
theorem dX0_guessBehind_39 : decode cX0_guessBehind 39 = .ok (.iload_n 1, 1) := by decide +kernel
theorem dX0_guessBehind_40 : decode cX0_guessBehind 40 = .ok (.bipush 8, 2) := by decide +kernel
theorem dX0_guessBehind_42 : decode cX0_guessBehind 42 = .ok (.iand, 1) := by decide +kernel
theorem dX0_guessBehind_43 : decode cX0_guessBehind 43 = .ok (.ifCond .eq 12, 3) := by decide +kernel
theorem dX0_guessBehind_46 : decode cX0_guessBehind 46 = .ok (.aload_n 0, 1) := by decide +kernel
theorem dX0_guessBehind_47 : decode cX0_guessBehind 47 = .ok (.getfield 9, 3) := by decide +kernel
theorem dX0_guessBehind_50 : decode cX0_guessBehind 50 = .ok (.iload_n 3, 1) := by decide +kernel
theorem dX0_guessBehind_51 : decode cX0_guessBehind 51 = .ok (.isub, 1) := by decide +kernel
theorem dX0_guessBehind_52 : decode cX0_guessBehind 52 = .ok (.goto 9, 3) := by decide +kernel
theorem dX0_guessBehind_55 : decode cX0_guessBehind 55 = .ok (.aload_n 0, 1) := by decide +kernel
theorem dX0_guessBehind_56 : decode cX0_guessBehind 56 = .ok (.getfield 9, 3) := by decide +kernel
theorem dX0_guessBehind_59 : decode cX0_guessBehind 59 = .ok (.iload_n 3, 1) := by decide +kernel
theorem dX0_guessBehind_60 : decode cX0_guessBehind 60 = .ok (.iadd, 1) := by decide +kernel
theorem dX0_guessBehind_61 : decode cX0_guessBehind 61 = .ok (.istore 4, 2) := by decide +kernel
theorem dX0_guessBehind_63 : decode cX0_guessBehind 63 = .ok (.sipush (-2000), 3) := by decide +kernel
theorem dX0_guessBehind_66 : decode cX0_guessBehind 66 = .ok (.iload 4, 2) := by decide +kernel
theorem dX0_guessBehind_68 : decode cX0_guessBehind 68 = .ok (.sipush 2000, 3) := by decide +kernel
theorem dX0_guessBehind_71 : decode cX0_guessBehind 71 = .ok (.invokestatic 33, 3) := by decide +kernel
theorem dX0_guessBehind_74 : decode cX0_guessBehind 74 = .ok (.invokestatic 38, 3) := by decide +kernel
theorem dX0_guessBehind_77 : decode cX0_guessBehind 77 = .ok (.ireturn, 1) := by decide +kernel
theorem dX0_follow_0 : decode cX0_follow 0 = .ok (.aload_n 0, 1) := by decide +kernel
theorem dX0_follow_1 : decode cX0_follow 1 = .ok (.aload_n 0, 1) := by decide +kernel
theorem dX0_follow_2 : decode cX0_follow 2 = .ok (.iload_n 1, 1) := by decide +kernel
theorem dX0_follow_3 : decode cX0_follow 3 = .ok (.aload_n 0, 1) := by decide +kernel
theorem dX0_follow_4 : decode cX0_follow 4 = .ok (.invokevirtual 22, 3) := by decide +kernel
theorem dX0_follow_7 : decode cX0_follow 7 = .ok (.invokevirtual 26, 3) := by decide +kernel
theorem dX0_follow_10 : decode cX0_follow 10 = .ok (.putfield 9, 3) := by decide +kernel
theorem dX0_follow_13 : decode cX0_follow 13 = .ok (.iload_n 1, 1) := by decide +kernel
theorem dX0_follow_14 : decode cX0_follow 14 = .ok (.bipush 7, 2) := by decide +kernel
theorem dX0_follow_16 : decode cX0_follow 16 = .ok (.iand, 1) := by decide +kernel
theorem dX0_follow_17 : decode cX0_follow 17 = .ok (.istore_n 2, 1) := by decide +kernel
theorem dX0_follow_18 : decode cX0_follow 18 = .ok (.iload_n 2, 1) := by decide +kernel
theorem dX0_follow_19 : decode cX0_follow 19 = .ok (.iconst 4, 1) := by decide +kernel
theorem dX0_follow_20 : decode cX0_follow 20 = .ok (.if_icmp .ge 7, 3) := by decide +kernel
theorem dX0_follow_23 : decode cX0_follow 23 = .ok (.iconst (-1), 1) := by decide +kernel
theorem dX0_follow_24 : decode cX0_follow 24 = .ok (.goto 8, 3) := by decide +kernel
theorem dX0_follow_27 : decode cX0_follow 27 = .ok (.iconst 2, 1) := by decide +kernel
theorem dX0_follow_28 : decode cX0_follow 28 = .ok (.iload_n 2, 1) := by decide +kernel
theorem dX0_follow_29 : decode cX0_follow 29 = .ok (.iconst 3, 1) := by decide +kernel
theorem dX0_follow_30 : decode cX0_follow 30 = .ok (.isub, 1) := by decide +kernel
theorem dX0_follow_31 : decode cX0_follow 31 = .ok (.imul, 1) := by decide +kernel
theorem dX0_follow_32 : decode cX0_follow 32 = .ok (.istore_n 3, 1) := by decide +kernel
theorem dX0_follow_33 : decode cX0_follow 33 = .ok (.aload_n 0, 1) := by decide +kernel
theorem dX0_follow_34 : decode cX0_follow 34 = .ok (.iconst 0, 1) := by decide +kernel
theorem dX0_follow_35 : decode cX0_follow 35 = .ok (.aload_n 0, 1) := by decide +kernel
theorem dX0_follow_36 : decode cX0_follow 36 = .ok (.getfield 15, 3) := by decide +kernel
theorem dX0_follow_39 : decode cX0_follow 39 = .ok (.iload_n 3, 1) := by decide +kernel
theorem dX0_follow_40 : decode cX0_follow 40 = .ok (.iadd, 1) := by decide +kernel
theorem dX0_follow_41 : decode cX0_follow 41 = .ok (.bipush 24, 2) := by decide +kernel
theorem dX0_follow_43 : decode cX0_follow 43 = .ok (.invokestatic 33, 3) := by decide +kernel
theorem dX0_follow_46 : decode cX0_follow 46 = .ok (.invokestatic 38, 3) := by decide +kernel
theorem dX0_follow_49 : decode cX0_follow 49 = .ok (.putfield 15, 3) := by decide +kernel
theorem dX0_follow_52 : decode cX0_follow 52 = .ok (.return_, 1) := by decide +kernel
theorem dX0_followAll_0 : decode cX0_followAll 0 = .ok (.iconst 0, 1) := by decide +kernel
theorem dX0_followAll_1 : decode cX0_followAll 1 = .ok (.istore_n 2, 1) := by decide +kernel
theorem dX0_followAll_2 : decode cX0_followAll 2 = .ok (.iload_n 2, 1) := by decide +kernel
theorem dX0_followAll_3 : decode cX0_followAll 3 = .ok (.aload_n 1, 1) := by decide +kernel
theorem dX0_followAll_4 : decode cX0_followAll 4 = .ok (.getfield 41, 3) := by decide +kernel
theorem dX0_followAll_7 : decode cX0_followAll 7 = .ok (.if_icmp .ge 18, 3) := by decide +kernel
theorem dX0_followAll_10 : decode cX0_followAll 10 = .ok (.aload_n 0, 1) := by decide +kernel
theorem dX0_followAll_11 : decode cX0_followAll 11 = .ok (.aload_n 1, 1) := by decide +kernel
theorem dX0_followAll_12 : decode cX0_followAll 12 = .ok (.iload_n 2, 1) := by decide +kernel
theorem dX0_followAll_13 : decode cX0_followAll 13 = .ok (.invokevirtual 46, 3) := by decide +kernel
theorem dX0_followAll_16 : decode cX0_followAll 16 = .ok (.invokevirtual 50, 3) := by decide +kernel
theorem dX0_followAll_19 : decode cX0_followAll 19 = .ok (.iinc 2 1, 3) := by decide +kernel
theorem dX0_followAll_22 : decode cX0_followAll 22 = .ok (.goto (-20), 3) := by decide +kernel
theorem dX0_followAll_25 : decode cX0_followAll 25 = .ok (.return_, 1) := by decide +kernel
theorem dX0_fade_0 : decode cX0_fade 0 = .ok (.aload_n 0, 1) := by decide +kernel
theorem dX0_fade_1 : decode cX0_fade 1 = .ok (.iconst 3, 1) := by decide +kernel
theorem dX0_fade_2 : decode cX0_fade 2 = .ok (.aload_n 0, 1) := by decide +kernel
theorem dX0_fade_3 : decode cX0_fade 3 = .ok (.getfield 9, 3) := by decide +kernel
theorem dX0_fade_6 : decode cX0_fade 6 = .ok (.imul, 1) := by decide +kernel
theorem dX0_fade_7 : decode cX0_fade 7 = .ok (.iconst 4, 1) := by decide +kernel
theorem dX0_fade_8 : decode cX0_fade 8 = .ok (.idiv, 1) := by decide +kernel
theorem dX0_fade_9 : decode cX0_fade 9 = .ok (.putfield 9, 3) := by decide +kernel
theorem dX0_fade_12 : decode cX0_fade 12 = .ok (.return_, 1) := by decide +kernel
theorem dX1_init_0 : decode cX1_init 0 = .ok (.aload_n 0, 1) := by decide +kernel
theorem dX1_init_1 : decode cX1_init 1 = .ok (.invokespecial 3, 3) := by decide +kernel
theorem dX1_init_4 : decode cX1_init 4 = .ok (.aload_n 0, 1) := by decide +kernel
theorem dX1_init_5 : decode cX1_init 5 = .ok (.new 9, 3) := by decide +kernel
theorem dX1_init_8 : decode cX1_init 8 = .ok (.dup, 1) := by decide +kernel
theorem dX1_init_9 : decode cX1_init 9 = .ok (.invokespecial 11, 3) := by decide +kernel
theorem dX1_init_12 : decode cX1_init 12 = .ok (.putfield 12, 3) := by decide +kernel
theorem dX1_init_15 : decode cX1_init 15 = .ok (.return_, 1) := by decide +kernel
theorem dX1_copyFrom_0 : decode cX1_copyFrom 0 = .ok (.aload_n 0, 1) := by decide +kernel
theorem dX1_copyFrom_1 : decode cX1_copyFrom 1 = .ok (.getfield 12, 3) := by decide +kernel
theorem dX1_copyFrom_4 : decode cX1_copyFrom 4 = .ok (.aload_n 1, 1) := by decide +kernel
theorem dX1_copyFrom_5 : decode cX1_copyFrom 5 = .ok (.getfield 12, 3) := by decide +kernel
theorem dX1_copyFrom_8 : decode cX1_copyFrom 8 = .ok (.invokevirtual 18, 3) := by decide +kernel
theorem dX1_copyFrom_11 : decode cX1_copyFrom 11 = .ok (.aload_n 0, 1) := by decide +kernel
theorem dX1_copyFrom_12 : decode cX1_copyFrom 12 = .ok (.aload_n 1, 1) := by decide +kernel
theorem dX1_copyFrom_13 : decode cX1_copyFrom 13 = .ok (.getfield 22, 3) := by decide +kernel
theorem dX1_copyFrom_16 : decode cX1_copyFrom 16 = .ok (.putfield 22, 3) := by decide +kernel
theorem dX1_copyFrom_19 : decode cX1_copyFrom 19 = .ok (.aload_n 0, 1) := by decide +kernel
theorem dX1_copyFrom_20 : decode cX1_copyFrom 20 = .ok (.aload_n 1, 1) := by decide +kernel
theorem dX1_copyFrom_21 : decode cX1_copyFrom 21 = .ok (.getfield 26, 3) := by decide +kernel
theorem dX1_copyFrom_24 : decode cX1_copyFrom 24 = .ok (.putfield 26, 3) := by decide +kernel
theorem dX1_copyFrom_27 : decode cX1_copyFrom 27 = .ok (.aload_n 0, 1) := by decide +kernel
theorem dX1_copyFrom_28 : decode cX1_copyFrom 28 = .ok (.aload_n 1, 1) := by decide +kernel
theorem dX1_copyFrom_29 : decode cX1_copyFrom 29 = .ok (.getfield 29, 3) := by decide +kernel
theorem dX1_copyFrom_32 : decode cX1_copyFrom 32 = .ok (.putfield 29, 3) := by decide +kernel
theorem dX1_copyFrom_35 : decode cX1_copyFrom 35 = .ok (.aload_n 0, 1) := by decide +kernel
theorem dX1_copyFrom_36 : decode cX1_copyFrom 36 = .ok (.aload_n 1, 1) := by decide +kernel
theorem dX1_copyFrom_37 : decode cX1_copyFrom 37 = .ok (.getfield 32, 3) := by decide +kernel
theorem dX1_copyFrom_40 : decode cX1_copyFrom 40 = .ok (.putfield 32, 3) := by decide +kernel
theorem dX1_copyFrom_43 : decode cX1_copyFrom 43 = .ok (.aload_n 0, 1) := by decide +kernel
theorem dX1_copyFrom_44 : decode cX1_copyFrom 44 = .ok (.aload_n 1, 1) := by decide +kernel
theorem dX1_copyFrom_45 : decode cX1_copyFrom 45 = .ok (.getfield 35, 3) := by decide +kernel
theorem dX1_copyFrom_48 : decode cX1_copyFrom 48 = .ok (.putfield 35, 3) := by decide +kernel
theorem dX1_copyFrom_51 : decode cX1_copyFrom 51 = .ok (.aload_n 0, 1) := by decide +kernel
theorem dX1_copyFrom_52 : decode cX1_copyFrom 52 = .ok (.aload_n 1, 1) := by decide +kernel
theorem dX1_copyFrom_53 : decode cX1_copyFrom 53 = .ok (.getfield 38, 3) := by decide +kernel
theorem dX1_copyFrom_56 : decode cX1_copyFrom 56 = .ok (.putfield 38, 3) := by decide +kernel
theorem dX1_copyFrom_59 : decode cX1_copyFrom 59 = .ok (.aload_n 0, 1) := by decide +kernel
theorem dX1_copyFrom_60 : decode cX1_copyFrom 60 = .ok (.aload_n 1, 1) := by decide +kernel
theorem dX1_copyFrom_61 : decode cX1_copyFrom 61 = .ok (.getfield 41, 3) := by decide +kernel
theorem dX1_copyFrom_64 : decode cX1_copyFrom 64 = .ok (.putfield 41, 3) := by decide +kernel
theorem dX1_copyFrom_67 : decode cX1_copyFrom 67 = .ok (.aload_n 0, 1) := by decide +kernel
theorem dX1_copyFrom_68 : decode cX1_copyFrom 68 = .ok (.aload_n 1, 1) := by decide +kernel
theorem dX1_copyFrom_69 : decode cX1_copyFrom 69 = .ok (.getfield 44, 3) := by decide +kernel
theorem dX1_copyFrom_72 : decode cX1_copyFrom 72 = .ok (.putfield 44, 3) := by decide +kernel
theorem dX1_copyFrom_75 : decode cX1_copyFrom 75 = .ok (.aload_n 0, 1) := by decide +kernel
theorem dX1_copyFrom_76 : decode cX1_copyFrom 76 = .ok (.aload_n 1, 1) := by decide +kernel
theorem dX1_copyFrom_77 : decode cX1_copyFrom 77 = .ok (.getfield 47, 3) := by decide +kernel
theorem dX1_copyFrom_80 : decode cX1_copyFrom 80 = .ok (.putfield 47, 3) := by decide +kernel
theorem dX1_copyFrom_83 : decode cX1_copyFrom 83 = .ok (.return_, 1) := by decide +kernel
theorem dX1_receive_0 : decode cX1_receive 0 = .ok (.aload_n 0, 1) := by decide +kernel
theorem dX1_receive_1 : decode cX1_receive 1 = .ok (.dup, 1) := by decide +kernel
theorem dX1_receive_2 : decode cX1_receive 2 = .ok (.getfield 47, 3) := by decide +kernel
theorem dX1_receive_5 : decode cX1_receive 5 = .ok (.iconst 1, 1) := by decide +kernel
theorem dX1_receive_6 : decode cX1_receive 6 = .ok (.iadd, 1) := by decide +kernel
theorem dX1_receive_7 : decode cX1_receive 7 = .ok (.putfield 47, 3) := by decide +kernel
theorem dX1_receive_10 : decode cX1_receive 10 = .ok (.aload_n 1, 1) := by decide +kernel
theorem dX1_receive_11 : decode cX1_receive 11 = .ok (.getfield 50, 3) := by decide +kernel
theorem dX1_receive_14 : decode cX1_receive 14 = .ok (.aload_n 0, 1) := by decide +kernel
theorem dX1_receive_15 : decode cX1_receive 15 = .ok (.getfield 22, 3) := by decide +kernel
theorem dX1_receive_18 : decode cX1_receive 18 = .ok (.if_icmp .ge 17, 3) := by decide +kernel
theorem dX1_receive_21 : decode cX1_receive 21 = .ok (.aload_n 0, 1) := by decide +kernel
theorem dX1_receive_22 : decode cX1_receive 22 = .ok (.dup, 1) := by decide +kernel
theorem dX1_receive_23 : decode cX1_receive 23 = .ok (.getfield 32, 3) := by decide +kernel
theorem dX1_receive_26 : decode cX1_receive 26 = .ok (.iconst 1, 1) := by decide +kernel
theorem dX1_receive_27 : decode cX1_receive 27 = .ok (.iadd, 1) := by decide +kernel
theorem dX1_receive_28 : decode cX1_receive 28 = .ok (.putfield 32, 3) := by decide +kernel
theorem dX1_receive_31 : decode cX1_receive 31 = .ok (.sipush (-10000), 3) := by decide +kernel
theorem dX1_receive_34 : decode cX1_receive 34 = .ok (.ireturn, 1) := by decide +kernel
theorem dX1_receive_35 : decode cX1_receive 35 = .ok (.aload_n 1, 1) := by decide +kernel
theorem dX1_receive_36 : decode cX1_receive 36 = .ok (.getfield 50, 3) := by decide +kernel
theorem dX1_receive_39 : decode cX1_receive 39 = .ok (.aload_n 0, 1) := by decide +kernel
theorem dX1_receive_40 : decode cX1_receive 40 = .ok (.getfield 22, 3) := by decide +kernel
theorem dX1_receive_43 : decode cX1_receive 43 = .ok (.isub, 1) := by decide +kernel
theorem dX1_receive_44 : decode cX1_receive 44 = .ok (.istore_n 2, 1) := by decide +kernel
theorem dX1_receive_45 : decode cX1_receive 45 = .ok (.iconst 0, 1) := by decide +kernel
theorem dX1_receive_46 : decode cX1_receive 46 = .ok (.istore_n 3, 1) := by decide +kernel
theorem dX1_receive_47 : decode cX1_receive 47 = .ok (.iload_n 3, 1) := by decide +kernel
theorem dX1_receive_48 : decode cX1_receive 48 = .ok (.iload_n 2, 1) := by decide +kernel
theorem dX1_receive_49 : decode cX1_receive 49 = .ok (.if_icmp .ge 16, 3) := by decide +kernel
theorem dX1_receive_52 : decode cX1_receive 52 = .ok (.aload_n 0, 1) := by decide +kernel
theorem dX1_receive_53 : decode cX1_receive 53 = .ok (.getfield 12, 3) := by decide +kernel
theorem dX1_receive_56 : decode cX1_receive 56 = .ok (.invokevirtual 55, 3) := by decide +kernel
theorem dX1_receive_59 : decode cX1_receive 59 = .ok (.iinc 3 1, 3) := by decide +kernel
theorem dX1_receive_62 : decode cX1_receive 62 = .ok (.goto (-15), 3) := by decide +kernel
theorem dX1_receive_65 : decode cX1_receive 65 = .ok (.aload_n 0, 1) := by decide +kernel
theorem dX1_receive_66 : decode cX1_receive 66 = .ok (.dup, 1) := by decide +kernel
theorem dX1_receive_67 : decode cX1_receive 67 = .ok (.getfield 29, 3) := by decide +kernel
theorem dX1_receive_70 : decode cX1_receive 70 = .ok (.iload_n 2, 1) := by decide +kernel
theorem dX1_receive_71 : decode cX1_receive 71 = .ok (.iadd, 1) := by decide +kernel
theorem dX1_receive_72 : decode cX1_receive 72 = .ok (.putfield 29, 3) := by decide +kernel
theorem dX1_receive_75 : decode cX1_receive 75 = .ok (.aload_n 1, 1) := by decide +kernel
theorem dX1_receive_76 : decode cX1_receive 76 = .ok (.getfield 58, 3) := by decide +kernel
theorem dX1_receive_79 : decode cX1_receive 79 = .ok (.ifCond .eq 11, 3) := by decide +kernel
theorem dX1_receive_82 : decode cX1_receive 82 = .ok (.aload_n 0, 1) := by decide +kernel
theorem dX1_receive_83 : decode cX1_receive 83 = .ok (.aload_n 1, 1) := by decide +kernel
theorem dX1_receive_84 : decode cX1_receive 84 = .ok (.getfield 62, 3) := by decide +kernel
theorem dX1_receive_87 : decode cX1_receive 87 = .ok (.invokevirtual 65, 3) := by decide +kernel
theorem dX1_receive_90 : decode cX1_receive 90 = .ok (.iconst 0, 1) := by decide +kernel
theorem dX1_receive_91 : decode cX1_receive 91 = .ok (.istore_n 3, 1) := by decide +kernel
theorem dX1_receive_92 : decode cX1_receive 92 = .ok (.iload_n 3, 1) := by decide +kernel
theorem dX1_receive_93 : decode cX1_receive 93 = .ok (.aload_n 1, 1) := by decide +kernel
theorem dX1_receive_94 : decode cX1_receive 94 = .ok (.getfield 68, 3) := by decide +kernel
theorem dX1_receive_97 : decode cX1_receive 97 = .ok (.if_icmp .ge 40, 3) := by decide +kernel
theorem dX1_receive_100 : decode cX1_receive 100 = .ok (.aload_n 0, 1) := by decide +kernel
theorem dX1_receive_101 : decode cX1_receive 101 = .ok (.getfield 12, 3) := by decide +kernel
theorem dX1_receive_104 : decode cX1_receive 104 = .ok (.aload_n 1, 1) := by decide +kernel
theorem dX1_receive_105 : decode cX1_receive 105 = .ok (.iload_n 3, 1) := by decide +kernel
theorem dX1_receive_106 : decode cX1_receive 106 = .ok (.invokevirtual 71, 3) := by decide +kernel
theorem dX1_receive_109 : decode cX1_receive 109 = .ok (.invokevirtual 75, 3) := by decide +kernel
theorem dX1_receive_112 : decode cX1_receive 112 = .ok (.aload_n 0, 1) := by decide +kernel
theorem dX1_receive_113 : decode cX1_receive 113 = .ok (.aload_n 0, 1) := by decide +kernel
theorem dX1_receive_114 : decode cX1_receive 114 = .ok (.getfield 12, 3) := by decide +kernel
theorem dX1_receive_117 : decode cX1_receive 117 = .ok (.getfield 79, 3) := by decide +kernel
theorem dX1_receive_120 : decode cX1_receive 120 = .ok (.aload_n 1, 1) := by decide +kernel
theorem dX1_receive_121 : decode cX1_receive 121 = .ok (.iload_n 3, 1) := by decide +kernel
theorem dX1_receive_122 : decode cX1_receive 122 = .ok (.invokevirtual 82, 3) := by decide +kernel
theorem dX1_receive_125 : decode cX1_receive 125 = .ok (.invokestatic 85, 3) := by decide +kernel
theorem dX1_receive_128 : decode cX1_receive 128 = .ok (.invokevirtual 89, 3) := by decide +kernel
theorem dX1_receive_131 : decode cX1_receive 131 = .ok (.iinc 3 1, 3) := by decide +kernel
theorem dX1_receive_134 : decode cX1_receive 134 = .ok (.goto (-42), 3) := by decide +kernel
theorem dX1_receive_137 : decode cX1_receive 137 = .ok (.aload_n 0, 1) := by decide +kernel
theorem dX1_receive_138 : decode cX1_receive 138 = .ok (.aload_n 1, 1) := by decide +kernel
theorem dX1_receive_139 : decode cX1_receive 139 = .ok (.getfield 50, 3) := by decide +kernel
theorem dX1_receive_142 : decode cX1_receive 142 = .ok (.iconst 1, 1) := by decide +kernel
theorem dX1_receive_143 : decode cX1_receive 143 = .ok (.iadd, 1) := by decide +kernel
theorem dX1_receive_144 : decode cX1_receive 144 = .ok (.putfield 22, 3) := by decide +kernel
theorem dX1_receive_147 : decode cX1_receive 147 = .ok (.iload_n 2, 1) := by decide +kernel
theorem dX1_receive_148 : decode cX1_receive 148 = .ok (.ireturn, 1) := by decide +kernel
theorem dX1_moveTo_0 : decode cX1_moveTo 0 = .ok (.aload_n 0, 1) := by decide +kernel
theorem dX1_moveTo_1 : decode cX1_moveTo 1 = .ok (.getfield 12, 3) := by decide +kernel
theorem dX1_moveTo_4 : decode cX1_moveTo 4 = .ok (.aload_n 1, 1) := by decide +kernel
theorem dX1_moveTo_5 : decode cX1_moveTo 5 = .ok (.getfield 79, 3) := by decide +kernel
theorem dX1_moveTo_8 : decode cX1_moveTo 8 = .ok (.aload_n 1, 1) := by decide +kernel
theorem dX1_moveTo_9 : decode cX1_moveTo 9 = .ok (.getfield 92, 3) := by decide +kernel
theorem dX1_moveTo_12 : decode cX1_moveTo 12 = .ok (.invokevirtual 95, 3) := by decide +kernel
theorem dX1_moveTo_15 : decode cX1_moveTo 15 = .ok (.ifCond .ne 13, 3) := by decide +kernel
theorem dX1_moveTo_18 : decode cX1_moveTo 18 = .ok (.aload_n 0, 1) := by decide +kernel
theorem dX1_moveTo_19 : decode cX1_moveTo 19 = .ok (.dup, 1) := by decide +kernel
theorem dX1_moveTo_20 : decode cX1_moveTo 20 = .ok (.getfield 35, 3) := by decide +kernel
theorem dX1_moveTo_23 : decode cX1_moveTo 23 = .ok (.iconst 1, 1) := by decide +kernel
theorem dX1_moveTo_24 : decode cX1_moveTo 24 = .ok (.iadd, 1) := by decide +kernel
theorem dX1_moveTo_25 : decode cX1_moveTo 25 = .ok (.putfield 35, 3) := by decide +kernel
theorem dX1_moveTo_28 : decode cX1_moveTo 28 = .ok (.aload_n 0, 1) := by decide +kernel
theorem dX1_moveTo_29 : decode cX1_moveTo 29 = .ok (.getfield 12, 3) := by decide +kernel
theorem dX1_moveTo_32 : decode cX1_moveTo 32 = .ok (.aload_n 1, 1) := by decide +kernel
theorem dX1_moveTo_33 : decode cX1_moveTo 33 = .ok (.invokevirtual 18, 3) := by decide +kernel
theorem dX1_moveTo_36 : decode cX1_moveTo 36 = .ok (.return_, 1) := by decide +kernel
theorem dX1_noteHeard_0 : decode cX1_noteHeard 0 = .ok (.aload_n 0, 1) := by decide +kernel
theorem dX1_noteHeard_1 : decode cX1_noteHeard 1 = .ok (.dup, 1) := by decide +kernel
theorem dX1_noteHeard_2 : decode cX1_noteHeard 2 = .ok (.getfield 26, 3) := by decide +kernel
theorem dX1_noteHeard_5 : decode cX1_noteHeard 5 = .ok (.iconst 1, 1) := by decide +kernel
theorem dX1_noteHeard_6 : decode cX1_noteHeard 6 = .ok (.iadd, 1) := by decide +kernel
theorem dX1_noteHeard_7 : decode cX1_noteHeard 7 = .ok (.putfield 26, 3) := by decide +kernel
theorem dX1_noteHeard_10 : decode cX1_noteHeard 10 = .ok (.aload_n 0, 1) := by decide +kernel
theorem dX1_noteHeard_11 : decode cX1_noteHeard 11 = .ok (.dup, 1) := by decide +kernel
theorem dX1_noteHeard_12 : decode cX1_noteHeard 12 = .ok (.getfield 44, 3) := by decide +kernel
theorem dX1_noteHeard_15 : decode cX1_noteHeard 15 = .ok (.aload_n 0, 1) := by decide +kernel
theorem dX1_noteHeard_16 : decode cX1_noteHeard 16 = .ok (.getfield 12, 3) := by decide +kernel
theorem dX1_noteHeard_19 : decode cX1_noteHeard 19 = .ok (.getfield 79, 3) := by decide +kernel
theorem dX1_noteHeard_22 : decode cX1_noteHeard 22 = .ok (.iadd, 1) := by decide +kernel
theorem dX1_noteHeard_23 : decode cX1_noteHeard 23 = .ok (.putfield 44, 3) := by decide +kernel
theorem dX1_noteHeard_26 : decode cX1_noteHeard 26 = .ok (.aload_n 0, 1) := by decide +kernel
theorem dX1_noteHeard_27 : decode cX1_noteHeard 27 = .ok (.dup, 1) := by decide +kernel
theorem dX1_noteHeard_28 : decode cX1_noteHeard 28 = .ok (.getfield 38, 3) := by decide +kernel
theorem dX1_noteHeard_31 : decode cX1_noteHeard 31 = .ok (.iload_n 1, 1) := by decide +kernel
theorem dX1_noteHeard_32 : decode cX1_noteHeard 32 = .ok (.iadd, 1) := by decide +kernel
theorem dX1_noteHeard_33 : decode cX1_noteHeard 33 = .ok (.putfield 38, 3) := by decide +kernel
theorem dX1_noteHeard_36 : decode cX1_noteHeard 36 = .ok (.iload_n 1, 1) := by decide +kernel
theorem dX1_noteHeard_37 : decode cX1_noteHeard 37 = .ok (.aload_n 0, 1) := by decide +kernel
theorem dX1_noteHeard_38 : decode cX1_noteHeard 38 = .ok (.getfield 41, 3) := by decide +kernel
theorem dX1_noteHeard_41 : decode cX1_noteHeard 41 = .ok (.if_icmp .le 8, 3) := by decide +kernel
theorem dX1_noteHeard_44 : decode cX1_noteHeard 44 = .ok (.aload_n 0, 1) := by decide +kernel
theorem dX1_noteHeard_45 : decode cX1_noteHeard 45 = .ok (.iload_n 1, 1) := by decide +kernel
theorem dX1_noteHeard_46 : decode cX1_noteHeard 46 = .ok (.putfield 41, 3) := by decide +kernel
theorem dX1_noteHeard_49 : decode cX1_noteHeard 49 = .ok (.return_, 1) := by decide +kernel
theorem dX1_meanOfErrors_0 : decode cX1_meanOfErrors 0 = .ok (.aload_n 0, 1) := by decide +kernel
theorem dX1_meanOfErrors_1 : decode cX1_meanOfErrors 1 = .ok (.getfield 26, 3) := by decide +kernel
theorem dX1_meanOfErrors_4 : decode cX1_meanOfErrors 4 = .ok (.ifCond .le 17, 3) := by decide +kernel
theorem dX1_meanOfErrors_7 : decode cX1_meanOfErrors 7 = .ok (.aload_n 0, 1) := by decide +kernel
theorem dX1_meanOfErrors_8 : decode cX1_meanOfErrors 8 = .ok (.getfield 38, 3) := by decide +kernel
theorem dX1_meanOfErrors_11 : decode cX1_meanOfErrors 11 = .ok (.i2d, 1) := by decide +kernel
theorem dX1_meanOfErrors_12 : decode cX1_meanOfErrors 12 = .ok (.aload_n 0, 1) := by decide +kernel
theorem dX1_meanOfErrors_13 : decode cX1_meanOfErrors 13 = .ok (.getfield 26, 3) := by decide +kernel
theorem dX1_meanOfErrors_16 : decode cX1_meanOfErrors 16 = .ok (.i2d, 1) := by decide +kernel
theorem dX1_meanOfErrors_17 : decode cX1_meanOfErrors 17 = .ok (.ddiv, 1) := by decide +kernel
theorem dX1_meanOfErrors_18 : decode cX1_meanOfErrors 18 = .ok (.goto 4, 3) := by decide +kernel
theorem dX1_meanOfErrors_21 : decode cX1_meanOfErrors 21 = .ok (.dconst 0, 1) := by decide +kernel
theorem dX1_meanOfErrors_22 : decode cX1_meanOfErrors 22 = .ok (.dreturn, 1) := by decide +kernel
theorem dX1_tell_0 : decode cX1_tell 0 = .ok (.iload_n 1, 1) := by decide +kernel
theorem dX1_tell_1 : decode cX1_tell 1 = .ok (.tableswitch 114 0 9 #[55, 63, 71, 79, 84, 89, 94, 99, 104, 109], 55) := by decide +kernel
theorem dX1_tell_56 : decode cX1_tell 56 = .ok (.aload_n 0, 1) := by decide +kernel
theorem dX1_tell_57 : decode cX1_tell 57 = .ok (.getfield 12, 3) := by decide +kernel
theorem dX1_tell_60 : decode cX1_tell 60 = .ok (.getfield 79, 3) := by decide +kernel
theorem dX1_tell_63 : decode cX1_tell 63 = .ok (.ireturn, 1) := by decide +kernel
theorem dX1_tell_64 : decode cX1_tell 64 = .ok (.aload_n 0, 1) := by decide +kernel
theorem dX1_tell_65 : decode cX1_tell 65 = .ok (.getfield 12, 3) := by decide +kernel
theorem dX1_tell_68 : decode cX1_tell 68 = .ok (.getfield 92, 3) := by decide +kernel
theorem dX1_tell_71 : decode cX1_tell 71 = .ok (.ireturn, 1) := by decide +kernel
theorem dX1_tell_72 : decode cX1_tell 72 = .ok (.aload_n 0, 1) := by decide +kernel
theorem dX1_tell_73 : decode cX1_tell 73 = .ok (.getfield 12, 3) := by decide +kernel
theorem dX1_tell_76 : decode cX1_tell 76 = .ok (.invokevirtual 99, 3) := by decide +kernel
theorem dX1_tell_79 : decode cX1_tell 79 = .ok (.ireturn, 1) := by decide +kernel
theorem dX1_tell_80 : decode cX1_tell 80 = .ok (.aload_n 0, 1) := by decide +kernel
theorem dX1_tell_81 : decode cX1_tell 81 = .ok (.getfield 22, 3) := by decide +kernel
theorem dX1_tell_84 : decode cX1_tell 84 = .ok (.ireturn, 1) := by decide +kernel
theorem dX1_tell_85 : decode cX1_tell 85 = .ok (.aload_n 0, 1) := by decide +kernel
theorem dX1_tell_86 : decode cX1_tell 86 = .ok (.getfield 26, 3) := by decide +kernel
theorem dX1_tell_89 : decode cX1_tell 89 = .ok (.ireturn, 1) := by decide +kernel
theorem dX1_tell_90 : decode cX1_tell 90 = .ok (.aload_n 0, 1) := by decide +kernel
theorem dX1_tell_91 : decode cX1_tell 91 = .ok (.getfield 29, 3) := by decide +kernel
theorem dX1_tell_94 : decode cX1_tell 94 = .ok (.ireturn, 1) := by decide +kernel
theorem dX1_tell_95 : decode cX1_tell 95 = .ok (.aload_n 0, 1) := by decide +kernel
theorem dX1_tell_96 : decode cX1_tell 96 = .ok (.getfield 32, 3) := by decide +kernel
theorem dX1_tell_99 : decode cX1_tell 99 = .ok (.ireturn, 1) := by decide +kernel
theorem dX1_tell_100 : decode cX1_tell 100 = .ok (.aload_n 0, 1) := by decide +kernel
theorem dX1_tell_101 : decode cX1_tell 101 = .ok (.getfield 35, 3) := by decide +kernel
theorem dX1_tell_104 : decode cX1_tell 104 = .ok (.ireturn, 1) := by decide +kernel
theorem dX1_tell_105 : decode cX1_tell 105 = .ok (.aload_n 0, 1) := by decide +kernel
theorem dX1_tell_106 : decode cX1_tell 106 = .ok (.getfield 38, 3) := by decide +kernel
theorem dX1_tell_109 : decode cX1_tell 109 = .ok (.ireturn, 1) := by decide +kernel
theorem dX1_tell_110 : decode cX1_tell 110 = .ok (.aload_n 0, 1) := by decide +kernel
theorem dX1_tell_111 : decode cX1_tell 111 = .ok (.getfield 41, 3) := by decide +kernel
theorem dX1_tell_114 : decode cX1_tell 114 = .ok (.ireturn, 1) := by decide +kernel
theorem dX1_tell_115 : decode cX1_tell 115 = .ok (.aload_n 0, 1) := by decide +kernel
theorem dX1_tell_116 : decode cX1_tell 116 = .ok (.getfield 44, 3) := by decide +kernel
theorem dX1_tell_119 : decode cX1_tell 119 = .ok (.ireturn, 1) := by decide +kernel
theorem dX2_init_0 : decode cX2_init 0 = .ok (.aload_n 0, 1) := by decide +kernel
theorem dX2_init_1 : decode cX2_init 1 = .ok (.invokespecial 3, 3) := by decide +kernel
theorem dX2_init_4 : decode cX2_init 4 = .ok (.aload_n 0, 1) := by decide +kernel
theorem dX2_init_5 : decode cX2_init 5 = .ok (.bipush 8, 2) := by decide +kernel
theorem dX2_init_7 : decode cX2_init 7 = .ok (.newarray .int, 2) := by decide +kernel
theorem dX2_init_9 : decode cX2_init 9 = .ok (.putfield 9, 3) := by decide +kernel
theorem dX2_init_12 : decode cX2_init 12 = .ok (.aload_n 0, 1) := by decide +kernel
theorem dX2_init_13 : decode cX2_init 13 = .ok (.bipush 8, 2) := by decide +kernel
theorem dX2_init_15 : decode cX2_init 15 = .ok (.newarray .int, 2) := by decide +kernel
theorem dX2_init_17 : decode cX2_init 17 = .ok (.putfield 15, 3) := by decide +kernel
theorem dX2_init_20 : decode cX2_init 20 = .ok (.aload_n 0, 1) := by decide +kernel
theorem dX2_init_21 : decode cX2_init 21 = .ok (.new 18, 3) := by decide +kernel
theorem dX2_init_24 : decode cX2_init 24 = .ok (.dup, 1) := by decide +kernel
theorem dX2_init_25 : decode cX2_init 25 = .ok (.invokespecial 20, 3) := by decide +kernel
theorem dX2_init_28 : decode cX2_init 28 = .ok (.putfield 21, 3) := by decide +kernel
theorem dX2_init_31 : decode cX2_init 31 = .ok (.return_, 1) := by decide +kernel
theorem dX2_copyFrom_0 : decode cX2_copyFrom 0 = .ok (.aload_n 1, 1) := by decide +kernel
theorem dX2_copyFrom_1 : decode cX2_copyFrom 1 = .ok (.getfield 9, 3) := by decide +kernel
theorem dX2_copyFrom_4 : decode cX2_copyFrom 4 = .ok (.iconst 0, 1) := by decide +kernel
theorem dX2_copyFrom_5 : decode cX2_copyFrom 5 = .ok (.aload_n 0, 1) := by decide +kernel
theorem dX2_copyFrom_6 : decode cX2_copyFrom 6 = .ok (.getfield 9, 3) := by decide +kernel
theorem dX2_copyFrom_9 : decode cX2_copyFrom 9 = .ok (.iconst 0, 1) := by decide +kernel
theorem dX2_copyFrom_10 : decode cX2_copyFrom 10 = .ok (.bipush 8, 2) := by decide +kernel
theorem dX2_copyFrom_12 : decode cX2_copyFrom 12 = .ok (.invokestatic 25, 3) := by decide +kernel
theorem dX2_copyFrom_15 : decode cX2_copyFrom 15 = .ok (.aload_n 1, 1) := by decide +kernel
theorem dX2_copyFrom_16 : decode cX2_copyFrom 16 = .ok (.getfield 15, 3) := by decide +kernel
theorem dX2_copyFrom_19 : decode cX2_copyFrom 19 = .ok (.iconst 0, 1) := by decide +kernel
theorem dX2_copyFrom_20 : decode cX2_copyFrom 20 = .ok (.aload_n 0, 1) := by decide +kernel
theorem dX2_copyFrom_21 : decode cX2_copyFrom 21 = .ok (.getfield 15, 3) := by decide +kernel
theorem dX2_copyFrom_24 : decode cX2_copyFrom 24 = .ok (.iconst 0, 1) := by decide +kernel
theorem dX2_copyFrom_25 : decode cX2_copyFrom 25 = .ok (.bipush 8, 2) := by decide +kernel
theorem dX2_copyFrom_27 : decode cX2_copyFrom 27 = .ok (.invokestatic 25, 3) := by decide +kernel
theorem dX2_copyFrom_30 : decode cX2_copyFrom 30 = .ok (.aload_n 0, 1) := by decide +kernel
theorem dX2_copyFrom_31 : decode cX2_copyFrom 31 = .ok (.aload_n 1, 1) := by decide +kernel
theorem dX2_copyFrom_32 : decode cX2_copyFrom 32 = .ok (.getfield 31, 3) := by decide +kernel
theorem dX2_copyFrom_35 : decode cX2_copyFrom 35 = .ok (.putfield 31, 3) := by decide +kernel
theorem dX2_copyFrom_38 : decode cX2_copyFrom 38 = .ok (.aload_n 0, 1) := by decide +kernel
theorem dX2_copyFrom_39 : decode cX2_copyFrom 39 = .ok (.aload_n 1, 1) := by decide +kernel
theorem dX2_copyFrom_40 : decode cX2_copyFrom 40 = .ok (.getfield 35, 3) := by decide +kernel
theorem dX2_copyFrom_43 : decode cX2_copyFrom 43 = .ok (.putfield 35, 3) := by decide +kernel
theorem dX2_copyFrom_46 : decode cX2_copyFrom 46 = .ok (.aload_n 0, 1) := by decide +kernel
theorem dX2_copyFrom_47 : decode cX2_copyFrom 47 = .ok (.aload_n 1, 1) := by decide +kernel
theorem dX2_copyFrom_48 : decode cX2_copyFrom 48 = .ok (.getfield 38, 3) := by decide +kernel
theorem dX2_copyFrom_51 : decode cX2_copyFrom 51 = .ok (.putfield 38, 3) := by decide +kernel
theorem dX2_copyFrom_54 : decode cX2_copyFrom 54 = .ok (.aload_n 0, 1) := by decide +kernel
theorem dX2_copyFrom_55 : decode cX2_copyFrom 55 = .ok (.getfield 21, 3) := by decide +kernel
theorem dX2_copyFrom_58 : decode cX2_copyFrom 58 = .ok (.aload_n 1, 1) := by decide +kernel
theorem dX2_copyFrom_59 : decode cX2_copyFrom 59 = .ok (.getfield 21, 3) := by decide +kernel
theorem dX2_copyFrom_62 : decode cX2_copyFrom 62 = .ok (.invokevirtual 42, 3) := by decide +kernel
theorem dX2_copyFrom_65 : decode cX2_copyFrom 65 = .ok (.return_, 1) := by decide +kernel
theorem dX2_add_0 : decode cX2_add 0 = .ok (.aload_n 0, 1) := by decide +kernel
theorem dX2_add_1 : decode cX2_add 1 = .ok (.getfield 31, 3) := by decide +kernel
theorem dX2_add_4 : decode cX2_add 4 = .ok (.ifCond .lt 42, 3) := by decide +kernel
theorem dX2_add_7 : decode cX2_add 7 = .ok (.aload_n 0, 1) := by decide +kernel
theorem dX2_add_8 : decode cX2_add 8 = .ok (.getfield 31, 3) := by decide +kernel
theorem dX2_add_11 : decode cX2_add 11 = .ok (.bipush 8, 2) := by decide +kernel
theorem dX2_add_13 : decode cX2_add 13 = .ok (.if_icmp .ge 33, 3) := by decide +kernel
theorem dX2_add_16 : decode cX2_add 16 = .ok (.aload_n 0, 1) := by decide +kernel
theorem dX2_add_17 : decode cX2_add 17 = .ok (.getfield 9, 3) := by decide +kernel
theorem dX2_add_20 : decode cX2_add 20 = .ok (.aload_n 0, 1) := by decide +kernel
theorem dX2_add_21 : decode cX2_add 21 = .ok (.getfield 31, 3) := by decide +kernel
theorem dX2_add_24 : decode cX2_add 24 = .ok (.iload_n 1, 1) := by decide +kernel
theorem dX2_add_25 : decode cX2_add 25 = .ok (.iastore, 1) := by decide +kernel
theorem dX2_add_26 : decode cX2_add 26 = .ok (.aload_n 0, 1) := by decide +kernel
theorem dX2_add_27 : decode cX2_add 27 = .ok (.getfield 15, 3) := by decide +kernel
theorem dX2_add_30 : decode cX2_add 30 = .ok (.aload_n 0, 1) := by decide +kernel
theorem dX2_add_31 : decode cX2_add 31 = .ok (.getfield 31, 3) := by decide +kernel
theorem dX2_add_34 : decode cX2_add 34 = .ok (.iload_n 2, 1) := by decide +kernel
theorem dX2_add_35 : decode cX2_add 35 = .ok (.iastore, 1) := by decide +kernel
theorem dX2_add_36 : decode cX2_add 36 = .ok (.aload_n 0, 1) := by decide +kernel
theorem dX2_add_37 : decode cX2_add 37 = .ok (.dup, 1) := by decide +kernel
theorem dX2_add_38 : decode cX2_add 38 = .ok (.getfield 31, 3) := by decide +kernel
theorem dX2_add_41 : decode cX2_add 41 = .ok (.iconst 1, 1) := by decide +kernel
theorem dX2_add_42 : decode cX2_add 42 = .ok (.iadd, 1) := by decide +kernel
theorem dX2_add_43 : decode cX2_add 43 = .ok (.putfield 31, 3) := by decide +kernel
theorem dX2_add_46 : decode cX2_add 46 = .ok (.return_, 1) := by decide +kernel
theorem dX2_codeAt_0 : decode cX2_codeAt 0 = .ok (.iload_n 1, 1) := by decide +kernel
theorem dX2_codeAt_1 : decode cX2_codeAt 1 = .ok (.ifCond .lt 21, 3) := by decide +kernel
theorem dX2_codeAt_4 : decode cX2_codeAt 4 = .ok (.iload_n 1, 1) := by decide +kernel
theorem dX2_codeAt_5 : decode cX2_codeAt 5 = .ok (.aload_n 0, 1) := by decide +kernel
theorem dX2_codeAt_6 : decode cX2_codeAt 6 = .ok (.getfield 9, 3) := by decide +kernel
theorem dX2_codeAt_9 : decode cX2_codeAt 9 = .ok (.arraylength, 1) := by decide +kernel
theorem dX2_codeAt_10 : decode cX2_codeAt 10 = .ok (.if_icmp .ge 12, 3) := by decide +kernel
theorem dX2_codeAt_13 : decode cX2_codeAt 13 = .ok (.aload_n 0, 1) := by decide +kernel
theorem dX2_codeAt_14 : decode cX2_codeAt 14 = .ok (.getfield 9, 3) := by decide +kernel
theorem dX2_codeAt_17 : decode cX2_codeAt 17 = .ok (.iload_n 1, 1) := by decide +kernel
theorem dX2_codeAt_18 : decode cX2_codeAt 18 = .ok (.iaload, 1) := by decide +kernel
theorem dX2_codeAt_19 : decode cX2_codeAt 19 = .ok (.goto 4, 3) := by decide +kernel
theorem dX2_codeAt_22 : decode cX2_codeAt 22 = .ok (.iconst 0, 1) := by decide +kernel
theorem dX2_codeAt_23 : decode cX2_codeAt 23 = .ok (.ireturn, 1) := by decide +kernel
theorem dX2_meanAt_0 : decode cX2_meanAt 0 = .ok (.iload_n 1, 1) := by decide +kernel
theorem dX2_meanAt_1 : decode cX2_meanAt 1 = .ok (.ifCond .lt 21, 3) := by decide +kernel
theorem dX2_meanAt_4 : decode cX2_meanAt 4 = .ok (.iload_n 1, 1) := by decide +kernel
theorem dX2_meanAt_5 : decode cX2_meanAt 5 = .ok (.aload_n 0, 1) := by decide +kernel
theorem dX2_meanAt_6 : decode cX2_meanAt 6 = .ok (.getfield 15, 3) := by decide +kernel
theorem dX2_meanAt_9 : decode cX2_meanAt 9 = .ok (.arraylength, 1) := by decide +kernel
theorem dX2_meanAt_10 : decode cX2_meanAt 10 = .ok (.if_icmp .ge 12, 3) := by decide +kernel
theorem dX2_meanAt_13 : decode cX2_meanAt 13 = .ok (.aload_n 0, 1) := by decide +kernel
theorem dX2_meanAt_14 : decode cX2_meanAt 14 = .ok (.getfield 15, 3) := by decide +kernel
theorem dX2_meanAt_17 : decode cX2_meanAt 17 = .ok (.iload_n 1, 1) := by decide +kernel
theorem dX2_meanAt_18 : decode cX2_meanAt 18 = .ok (.iaload, 1) := by decide +kernel
theorem dX2_meanAt_19 : decode cX2_meanAt 19 = .ok (.goto 4, 3) := by decide +kernel
theorem dX2_meanAt_22 : decode cX2_meanAt 22 = .ok (.iconst 0, 1) := by decide +kernel
theorem dX2_meanAt_23 : decode cX2_meanAt 23 = .ok (.ireturn, 1) := by decide +kernel
theorem dX2_tell_0 : decode cX2_tell 0 = .ok (.iload_n 1, 1) := by decide +kernel
theorem dX2_tell_1 : decode cX2_tell 1 = .ok (.tableswitch 100 0 4 #[35, 40, 45, 58, 79], 35) := by decide +kernel
theorem dX2_tell_36 : decode cX2_tell 36 = .ok (.aload_n 0, 1) := by decide +kernel
theorem dX2_tell_37 : decode cX2_tell 37 = .ok (.getfield 35, 3) := by decide +kernel
theorem dX2_tell_40 : decode cX2_tell 40 = .ok (.ireturn, 1) := by decide +kernel
theorem dX2_tell_41 : decode cX2_tell 41 = .ok (.aload_n 0, 1) := by decide +kernel
theorem dX2_tell_42 : decode cX2_tell 42 = .ok (.getfield 31, 3) := by decide +kernel
theorem dX2_tell_45 : decode cX2_tell 45 = .ok (.ireturn, 1) := by decide +kernel
theorem dX2_tell_46 : decode cX2_tell 46 = .ok (.aload_n 0, 1) := by decide +kernel
theorem dX2_tell_47 : decode cX2_tell 47 = .ok (.getfield 38, 3) := by decide +kernel
theorem dX2_tell_50 : decode cX2_tell 50 = .ok (.ifCond .eq 7, 3) := by decide +kernel
theorem dX2_tell_53 : decode cX2_tell 53 = .ok (.iconst 1, 1) := by decide +kernel
theorem dX2_tell_54 : decode cX2_tell 54 = .ok (.goto 4, 3) := by decide +kernel
theorem dX2_tell_57 : decode cX2_tell 57 = .ok (.iconst 0, 1) := by decide +kernel
theorem dX2_tell_58 : decode cX2_tell 58 = .ok (.ireturn, 1) := by decide +kernel
theorem dX2_tell_59 : decode cX2_tell 59 = .ok (.aload_n 0, 1) := by decide +kernel
theorem dX2_tell_60 : decode cX2_tell 60 = .ok (.getfield 38, 3) := by decide +kernel
theorem dX2_tell_63 : decode cX2_tell 63 = .ok (.ifCond .eq 13, 3) := by decide +kernel
theorem dX2_tell_66 : decode cX2_tell 66 = .ok (.aload_n 0, 1) := by decide +kernel
theorem dX2_tell_67 : decode cX2_tell 67 = .ok (.getfield 21, 3) := by decide +kernel
theorem dX2_tell_70 : decode cX2_tell 70 = .ok (.getfield 46, 3) := by decide +kernel
theorem dX2_tell_73 : decode cX2_tell 73 = .ok (.goto 6, 3) := by decide +kernel
theorem dX2_tell_76 : decode cX2_tell 76 = .ok (.sipush (-10000), 3) := by decide +kernel
theorem dX2_tell_79 : decode cX2_tell 79 = .ok (.ireturn, 1) := by decide +kernel
theorem dX2_tell_80 : decode cX2_tell 80 = .ok (.aload_n 0, 1) := by decide +kernel
theorem dX2_tell_81 : decode cX2_tell 81 = .ok (.getfield 38, 3) := by decide +kernel
theorem dX2_tell_84 : decode cX2_tell 84 = .ok (.ifCond .eq 13, 3) := by decide +kernel
theorem dX2_tell_87 : decode cX2_tell 87 = .ok (.aload_n 0, 1) := by decide +kernel
theorem dX2_tell_88 : decode cX2_tell 88 = .ok (.getfield 21, 3) := by decide +kernel
theorem dX2_tell_91 : decode cX2_tell 91 = .ok (.getfield 49, 3) := by decide +kernel
theorem dX2_tell_94 : decode cX2_tell 94 = .ok (.goto 6, 3) := by decide +kernel
theorem dX2_tell_97 : decode cX2_tell 97 = .ok (.sipush (-10000), 3) := by decide +kernel
theorem dX2_tell_100 : decode cX2_tell 100 = .ok (.ireturn, 1) := by decide +kernel
theorem dX2_tell_101 : decode cX2_tell 101 = .ok (.aload_n 0, 1) := by decide +kernel
theorem dX2_tell_102 : decode cX2_tell 102 = .ok (.invokevirtual 52, 3) := by decide +kernel
theorem dX2_tell_105 : decode cX2_tell 105 = .ok (.ireturn, 1) := by decide +kernel
theorem dX2_codesAsOne_0 : decode cX2_codesAsOne 0 = .ok (.iconst 0, 1) := by decide +kernel
theorem dX2_codesAsOne_1 : decode cX2_codesAsOne 1 = .ok (.istore_n 1, 1) := by decide +kernel
theorem dX2_codesAsOne_2 : decode cX2_codesAsOne 2 = .ok (.iconst 0, 1) := by decide +kernel
theorem dX2_codesAsOne_3 : decode cX2_codesAsOne 3 = .ok (.istore_n 2, 1) := by decide +kernel
theorem dX2_codesAsOne_4 : decode cX2_codesAsOne 4 = .ok (.iload_n 2, 1) := by decide +kernel
theorem dX2_codesAsOne_5 : decode cX2_codesAsOne 5 = .ok (.aload_n 0, 1) := by decide +kernel
theorem dX2_codesAsOne_6 : decode cX2_codesAsOne 6 = .ok (.getfield 31, 3) := by decide +kernel
theorem dX2_codesAsOne_9 : decode cX2_codesAsOne 9 = .ok (.if_icmp .ge 20, 3) := by decide +kernel
theorem dX2_codesAsOne_12 : decode cX2_codesAsOne 12 = .ok (.bipush 16, 2) := by decide +kernel
theorem dX2_codesAsOne_14 : decode cX2_codesAsOne 14 = .ok (.iload_n 1, 1) := by decide +kernel
theorem dX2_codesAsOne_15 : decode cX2_codesAsOne 15 = .ok (.imul, 1) := by decide +kernel
theorem dX2_codesAsOne_16 : decode cX2_codesAsOne 16 = .ok (.aload_n 0, 1) := by decide +kernel
theorem dX2_codesAsOne_17 : decode cX2_codesAsOne 17 = .ok (.iload_n 2, 1) := by decide +kernel
theorem dX2_codesAsOne_18 : decode cX2_codesAsOne 18 = .ok (.invokevirtual 56, 3) := by decide +kernel
theorem dX2_codesAsOne_21 : decode cX2_codesAsOne 21 = .ok (.iadd, 1) := by decide +kernel
theorem dX2_codesAsOne_22 : decode cX2_codesAsOne 22 = .ok (.istore_n 1, 1) := by decide +kernel
theorem dX2_codesAsOne_23 : decode cX2_codesAsOne 23 = .ok (.iinc 2 1, 3) := by decide +kernel
theorem dX2_codesAsOne_26 : decode cX2_codesAsOne 26 = .ok (.goto (-22), 3) := by decide +kernel
theorem dX2_codesAsOne_29 : decode cX2_codesAsOne 29 = .ok (.iload_n 1, 1) := by decide +kernel
theorem dX2_codesAsOne_30 : decode cX2_codesAsOne 30 = .ok (.ireturn, 1) := by decide +kernel
theorem dX3_init_0 : decode cX3_init 0 = .ok (.aload_n 0, 1) := by decide +kernel
theorem dX3_init_1 : decode cX3_init 1 = .ok (.invokespecial 3, 3) := by decide +kernel
theorem dX3_init_4 : decode cX3_init 4 = .ok (.aload_n 0, 1) := by decide +kernel
theorem dX3_init_5 : decode cX3_init 5 = .ok (.new 9, 3) := by decide +kernel
theorem dX3_init_8 : decode cX3_init 8 = .ok (.dup, 1) := by decide +kernel
theorem dX3_init_9 : decode cX3_init 9 = .ok (.invokespecial 11, 3) := by decide +kernel
theorem dX3_init_12 : decode cX3_init 12 = .ok (.putfield 12, 3) := by decide +kernel
theorem dX3_init_15 : decode cX3_init 15 = .ok (.aload_n 0, 1) := by decide +kernel
theorem dX3_init_16 : decode cX3_init 16 = .ok (.new 18, 3) := by decide +kernel
theorem dX3_init_19 : decode cX3_init 19 = .ok (.dup, 1) := by decide +kernel
theorem dX3_init_20 : decode cX3_init 20 = .ok (.invokespecial 20, 3) := by decide +kernel
theorem dX3_init_23 : decode cX3_init 23 = .ok (.putfield 21, 3) := by decide +kernel
theorem dX3_init_26 : decode cX3_init 26 = .ok (.aload_n 0, 1) := by decide +kernel
theorem dX3_init_27 : decode cX3_init 27 = .ok (.new 9, 3) := by decide +kernel
theorem dX3_init_30 : decode cX3_init 30 = .ok (.dup, 1) := by decide +kernel
theorem dX3_init_31 : decode cX3_init 31 = .ok (.invokespecial 11, 3) := by decide +kernel
theorem dX3_init_34 : decode cX3_init 34 = .ok (.putfield 25, 3) := by decide +kernel
theorem dX3_init_37 : decode cX3_init 37 = .ok (.aload_n 0, 1) := by decide +kernel
theorem dX3_init_38 : decode cX3_init 38 = .ok (.bipush 72, 2) := by decide +kernel
theorem dX3_init_40 : decode cX3_init 40 = .ok (.newarray .int, 2) := by decide +kernel
theorem dX3_init_42 : decode cX3_init 42 = .ok (.putfield 28, 3) := by decide +kernel
theorem dX3_init_45 : decode cX3_init 45 = .ok (.return_, 1) := by decide +kernel
theorem dX3_copyFrom_0 : decode cX3_copyFrom 0 = .ok (.aload_n 0, 1) := by decide +kernel
theorem dX3_copyFrom_1 : decode cX3_copyFrom 1 = .ok (.getfield 12, 3) := by decide +kernel
theorem dX3_copyFrom_4 : decode cX3_copyFrom 4 = .ok (.aload_n 1, 1) := by decide +kernel
theorem dX3_copyFrom_5 : decode cX3_copyFrom 5 = .ok (.getfield 12, 3) := by decide +kernel
theorem dX3_copyFrom_8 : decode cX3_copyFrom 8 = .ok (.invokevirtual 32, 3) := by decide +kernel
theorem dX3_copyFrom_11 : decode cX3_copyFrom 11 = .ok (.aload_n 0, 1) := by decide +kernel
theorem dX3_copyFrom_12 : decode cX3_copyFrom 12 = .ok (.aload_n 1, 1) := by decide +kernel
theorem dX3_copyFrom_13 : decode cX3_copyFrom 13 = .ok (.getfield 36, 3) := by decide +kernel
theorem dX3_copyFrom_16 : decode cX3_copyFrom 16 = .ok (.putfield 36, 3) := by decide +kernel
theorem dX3_copyFrom_19 : decode cX3_copyFrom 19 = .ok (.aload_n 0, 1) := by decide +kernel
theorem dX3_copyFrom_20 : decode cX3_copyFrom 20 = .ok (.aload_n 1, 1) := by decide +kernel
theorem dX3_copyFrom_21 : decode cX3_copyFrom 21 = .ok (.getfield 40, 3) := by decide +kernel
theorem dX3_copyFrom_24 : decode cX3_copyFrom 24 = .ok (.putfield 40, 3) := by decide +kernel
theorem dX3_copyFrom_27 : decode cX3_copyFrom 27 = .ok (.aload_n 0, 1) := by decide +kernel
theorem dX3_copyFrom_28 : decode cX3_copyFrom 28 = .ok (.aload_n 1, 1) := by decide +kernel
theorem dX3_copyFrom_29 : decode cX3_copyFrom 29 = .ok (.getfield 43, 3) := by decide +kernel
theorem dX3_copyFrom_32 : decode cX3_copyFrom 32 = .ok (.putfield 43, 3) := by decide +kernel
theorem dX3_copyFrom_35 : decode cX3_copyFrom 35 = .ok (.aload_n 0, 1) := by decide +kernel
theorem dX3_copyFrom_36 : decode cX3_copyFrom 36 = .ok (.getfield 21, 3) := by decide +kernel
theorem dX3_copyFrom_39 : decode cX3_copyFrom 39 = .ok (.aload_n 1, 1) := by decide +kernel
theorem dX3_copyFrom_40 : decode cX3_copyFrom 40 = .ok (.getfield 21, 3) := by decide +kernel
theorem dX3_copyFrom_43 : decode cX3_copyFrom 43 = .ok (.invokevirtual 46, 3) := by decide +kernel
theorem dX3_copyFrom_46 : decode cX3_copyFrom 46 = .ok (.aload_n 0, 1) := by decide +kernel
theorem dX3_copyFrom_47 : decode cX3_copyFrom 47 = .ok (.aload_n 1, 1) := by decide +kernel
theorem dX3_copyFrom_48 : decode cX3_copyFrom 48 = .ok (.getfield 49, 3) := by decide +kernel
theorem dX3_copyFrom_51 : decode cX3_copyFrom 51 = .ok (.putfield 49, 3) := by decide +kernel
theorem dX3_copyFrom_54 : decode cX3_copyFrom 54 = .ok (.aload_n 0, 1) := by decide +kernel
theorem dX3_copyFrom_55 : decode cX3_copyFrom 55 = .ok (.aload_n 1, 1) := by decide +kernel
theorem dX3_copyFrom_56 : decode cX3_copyFrom 56 = .ok (.getfield 52, 3) := by decide +kernel
theorem dX3_copyFrom_59 : decode cX3_copyFrom 59 = .ok (.putfield 52, 3) := by decide +kernel
theorem dX3_copyFrom_62 : decode cX3_copyFrom 62 = .ok (.aload_n 0, 1) := by decide +kernel
theorem dX3_copyFrom_63 : decode cX3_copyFrom 63 = .ok (.aload_n 1, 1) := by decide +kernel
theorem dX3_copyFrom_64 : decode cX3_copyFrom 64 = .ok (.getfield 55, 3) := by decide +kernel
theorem dX3_copyFrom_67 : decode cX3_copyFrom 67 = .ok (.putfield 55, 3) := by decide +kernel
theorem dX3_copyFrom_70 : decode cX3_copyFrom 70 = .ok (.aload_n 0, 1) := by decide +kernel
theorem dX3_copyFrom_71 : decode cX3_copyFrom 71 = .ok (.getfield 25, 3) := by decide +kernel
theorem dX3_copyFrom_74 : decode cX3_copyFrom 74 = .ok (.aload_n 1, 1) := by decide +kernel
theorem dX3_copyFrom_75 : decode cX3_copyFrom 75 = .ok (.getfield 25, 3) := by decide +kernel
theorem dX3_copyFrom_78 : decode cX3_copyFrom 78 = .ok (.invokevirtual 32, 3) := by decide +kernel
theorem dX3_copyFrom_81 : decode cX3_copyFrom 81 = .ok (.aload_n 1, 1) := by decide +kernel
theorem dX3_copyFrom_82 : decode cX3_copyFrom 82 = .ok (.getfield 28, 3) := by decide +kernel
theorem dX3_copyFrom_85 : decode cX3_copyFrom 85 = .ok (.iconst 0, 1) := by decide +kernel
theorem dX3_copyFrom_86 : decode cX3_copyFrom 86 = .ok (.aload_n 0, 1) := by decide +kernel
theorem dX3_copyFrom_87 : decode cX3_copyFrom 87 = .ok (.getfield 28, 3) := by decide +kernel
theorem dX3_copyFrom_90 : decode cX3_copyFrom 90 = .ok (.iconst 0, 1) := by decide +kernel
theorem dX3_copyFrom_91 : decode cX3_copyFrom 91 = .ok (.bipush 72, 2) := by decide +kernel
theorem dX3_copyFrom_93 : decode cX3_copyFrom 93 = .ok (.invokestatic 58, 3) := by decide +kernel
theorem dX3_copyFrom_96 : decode cX3_copyFrom 96 = .ok (.aload_n 0, 1) := by decide +kernel
theorem dX3_copyFrom_97 : decode cX3_copyFrom 97 = .ok (.aload_n 1, 1) := by decide +kernel
theorem dX3_copyFrom_98 : decode cX3_copyFrom 98 = .ok (.getfield 64, 3) := by decide +kernel
theorem dX3_copyFrom_101 : decode cX3_copyFrom 101 = .ok (.putfield 64, 3) := by decide +kernel
theorem dX3_copyFrom_104 : decode cX3_copyFrom 104 = .ok (.return_, 1) := by decide +kernel
theorem dX3_wouldClose_0 : decode cX3_wouldClose 0 = .ok (.aload_n 0, 1) := by decide +kernel
theorem dX3_wouldClose_1 : decode cX3_wouldClose 1 = .ok (.getfield 40, 3) := by decide +kernel
theorem dX3_wouldClose_4 : decode cX3_wouldClose 4 = .ok (.iconst 1, 1) := by decide +kernel
theorem dX3_wouldClose_5 : decode cX3_wouldClose 5 = .ok (.iadd, 1) := by decide +kernel
theorem dX3_wouldClose_6 : decode cX3_wouldClose 6 = .ok (.aload_n 1, 1) := by decide +kernel
theorem dX3_wouldClose_7 : decode cX3_wouldClose 7 = .ok (.iconst 0, 1) := by decide +kernel
theorem dX3_wouldClose_8 : decode cX3_wouldClose 8 = .ok (.invokevirtual 67, 3) := by decide +kernel
theorem dX3_wouldClose_11 : decode cX3_wouldClose 11 = .ok (.if_icmp .lt 15, 3) := by decide +kernel
theorem dX3_wouldClose_14 : decode cX3_wouldClose 14 = .ok (.aload_n 0, 1) := by decide +kernel
theorem dX3_wouldClose_15 : decode cX3_wouldClose 15 = .ok (.getfield 21, 3) := by decide +kernel
theorem dX3_wouldClose_18 : decode cX3_wouldClose 18 = .ok (.getfield 73, 3) := by decide +kernel
theorem dX3_wouldClose_21 : decode cX3_wouldClose 21 = .ok (.iconst 1, 1) := by decide +kernel
theorem dX3_wouldClose_22 : decode cX3_wouldClose 22 = .ok (.iadd, 1) := by decide +kernel
theorem dX3_wouldClose_23 : decode cX3_wouldClose 23 = .ok (.goto 10, 3) := by decide +kernel
theorem dX3_wouldClose_26 : decode cX3_wouldClose 26 = .ok (.aload_n 0, 1) := by decide +kernel
theorem dX3_wouldClose_27 : decode cX3_wouldClose 27 = .ok (.getfield 21, 3) := by decide +kernel
theorem dX3_wouldClose_30 : decode cX3_wouldClose 30 = .ok (.getfield 73, 3) := by decide +kernel
theorem dX3_wouldClose_33 : decode cX3_wouldClose 33 = .ok (.istore_n 2, 1) := by decide +kernel
theorem dX3_wouldClose_34 : decode cX3_wouldClose 34 = .ok (.iload_n 2, 1) := by decide +kernel
theorem dX3_wouldClose_35 : decode cX3_wouldClose 35 = .ok (.aload_n 1, 1) := by decide +kernel
theorem dX3_wouldClose_36 : decode cX3_wouldClose 36 = .ok (.iconst 2, 1) := by decide +kernel
theorem dX3_wouldClose_37 : decode cX3_wouldClose 37 = .ok (.invokevirtual 67, 3) := by decide +kernel
theorem dX3_wouldClose_40 : decode cX3_wouldClose 40 = .ok (.if_icmp .lt 7, 3) := by decide +kernel
theorem dX3_wouldClose_43 : decode cX3_wouldClose 43 = .ok (.iconst 1, 1) := by decide +kernel
theorem dX3_wouldClose_44 : decode cX3_wouldClose 44 = .ok (.goto 4, 3) := by decide +kernel
theorem dX3_wouldClose_47 : decode cX3_wouldClose 47 = .ok (.iconst 0, 1) := by decide +kernel
theorem dX3_wouldClose_48 : decode cX3_wouldClose 48 = .ok (.ireturn, 1) := by decide +kernel
theorem dX3_gather_0 : decode cX3_gather 0 = .ok (.aload_n 0, 1) := by decide +kernel
theorem dX3_gather_1 : decode cX3_gather 1 = .ok (.dup, 1) := by decide +kernel
theorem dX3_gather_2 : decode cX3_gather 2 = .ok (.getfield 36, 3) := by decide +kernel
theorem dX3_gather_5 : decode cX3_gather 5 = .ok (.iconst 1, 1) := by decide +kernel
theorem dX3_gather_6 : decode cX3_gather 6 = .ok (.iadd, 1) := by decide +kernel
theorem dX3_gather_7 : decode cX3_gather 7 = .ok (.putfield 36, 3) := by decide +kernel
theorem dX3_gather_10 : decode cX3_gather 10 = .ok (.aload_n 0, 1) := by decide +kernel
theorem dX3_gather_11 : decode cX3_gather 11 = .ok (.dup, 1) := by decide +kernel
theorem dX3_gather_12 : decode cX3_gather 12 = .ok (.getfield 40, 3) := by decide +kernel
theorem dX3_gather_15 : decode cX3_gather 15 = .ok (.iconst 1, 1) := by decide +kernel
theorem dX3_gather_16 : decode cX3_gather 16 = .ok (.iadd, 1) := by decide +kernel
theorem dX3_gather_17 : decode cX3_gather 17 = .ok (.putfield 40, 3) := by decide +kernel
theorem dX3_gather_20 : decode cX3_gather 20 = .ok (.aload_n 0, 1) := by decide +kernel
theorem dX3_gather_21 : decode cX3_gather 21 = .ok (.dup, 1) := by decide +kernel
theorem dX3_gather_22 : decode cX3_gather 22 = .ok (.getfield 43, 3) := by decide +kernel
theorem dX3_gather_25 : decode cX3_gather 25 = .ok (.iload_n 1, 1) := by decide +kernel
theorem dX3_gather_26 : decode cX3_gather 26 = .ok (.iadd, 1) := by decide +kernel
theorem dX3_gather_27 : decode cX3_gather 27 = .ok (.putfield 43, 3) := by decide +kernel
theorem dX3_gather_30 : decode cX3_gather 30 = .ok (.return_, 1) := by decide +kernel
theorem dX3_takeMean_0 : decode cX3_takeMean 0 = .ok (.aload_n 0, 1) := by decide +kernel
theorem dX3_takeMean_1 : decode cX3_takeMean 1 = .ok (.getfield 40, 3) := by decide +kernel
theorem dX3_takeMean_4 : decode cX3_takeMean 4 = .ok (.ifCond .le 15, 3) := by decide +kernel
theorem dX3_takeMean_7 : decode cX3_takeMean 7 = .ok (.aload_n 0, 1) := by decide +kernel
theorem dX3_takeMean_8 : decode cX3_takeMean 8 = .ok (.getfield 43, 3) := by decide +kernel
theorem dX3_takeMean_11 : decode cX3_takeMean 11 = .ok (.aload_n 0, 1) := by decide +kernel
theorem dX3_takeMean_12 : decode cX3_takeMean 12 = .ok (.getfield 40, 3) := by decide +kernel
theorem dX3_takeMean_15 : decode cX3_takeMean 15 = .ok (.idiv, 1) := by decide +kernel
theorem dX3_takeMean_16 : decode cX3_takeMean 16 = .ok (.goto 4, 3) := by decide +kernel
theorem dX3_takeMean_19 : decode cX3_takeMean 19 = .ok (.iconst 0, 1) := by decide +kernel
theorem dX3_takeMean_20 : decode cX3_takeMean 20 = .ok (.istore_n 2, 1) := by decide +kernel
theorem dX3_takeMean_21 : decode cX3_takeMean 21 = .ok (.aload_n 0, 1) := by decide +kernel
theorem dX3_takeMean_22 : decode cX3_takeMean 22 = .ok (.iconst 0, 1) := by decide +kernel
theorem dX3_takeMean_23 : decode cX3_takeMean 23 = .ok (.putfield 40, 3) := by decide +kernel
theorem dX3_takeMean_26 : decode cX3_takeMean 26 = .ok (.aload_n 0, 1) := by decide +kernel
theorem dX3_takeMean_27 : decode cX3_takeMean 27 = .ok (.iconst 0, 1) := by decide +kernel
theorem dX3_takeMean_28 : decode cX3_takeMean 28 = .ok (.putfield 43, 3) := by decide +kernel
theorem dX3_takeMean_31 : decode cX3_takeMean 31 = .ok (.iload_n 2, 1) := by decide +kernel
theorem dX3_takeMean_32 : decode cX3_takeMean 32 = .ok (.iconst 0, 1) := by decide +kernel
theorem dX3_takeMean_33 : decode cX3_takeMean 33 = .ok (.invokestatic 76, 3) := by decide +kernel
theorem dX3_takeMean_36 : decode cX3_takeMean 36 = .ok (.iload_n 1, 1) := by decide +kernel
theorem dX3_takeMean_37 : decode cX3_takeMean 37 = .ok (.if_icmp .ge 7, 3) := by decide +kernel
theorem dX3_takeMean_40 : decode cX3_takeMean 40 = .ok (.iconst 0, 1) := by decide +kernel
theorem dX3_takeMean_41 : decode cX3_takeMean 41 = .ok (.goto 4, 3) := by decide +kernel
theorem dX3_takeMean_44 : decode cX3_takeMean 44 = .ok (.iload_n 2, 1) := by decide +kernel
theorem dX3_takeMean_45 : decode cX3_takeMean 45 = .ok (.ireturn, 1) := by decide +kernel
theorem dX3_fold_0 : decode cX3_fold 0 = .ok (.aload_n 0, 1) := by decide +kernel
theorem dX3_fold_1 : decode cX3_fold 1 = .ok (.getfield 12, 3) := by decide +kernel
theorem dX3_fold_4 : decode cX3_fold 4 = .ok (.iload_n 1, 1) := by decide +kernel
theorem dX3_fold_5 : decode cX3_fold 5 = .ok (.invokevirtual 80, 3) := by decide +kernel
theorem dX3_fold_8 : decode cX3_fold 8 = .ok (.istore_n 2, 1) := by decide +kernel
theorem dX3_fold_9 : decode cX3_fold 9 = .ok (.aload_n 0, 1) := by decide +kernel
theorem dX3_fold_10 : decode cX3_fold 10 = .ok (.getfield 21, 3) := by decide +kernel
theorem dX3_fold_13 : decode cX3_fold 13 = .ok (.getfield 73, 3) := by decide +kernel
theorem dX3_fold_16 : decode cX3_fold 16 = .ok (.ifCond .ne 17, 3) := by decide +kernel
theorem dX3_fold_19 : decode cX3_fold 19 = .ok (.aload_n 0, 1) := by decide +kernel
theorem dX3_fold_20 : decode cX3_fold 20 = .ok (.getfield 21, 3) := by decide +kernel
theorem dX3_fold_23 : decode cX3_fold 23 = .ok (.getfield 83, 3) := by decide +kernel
theorem dX3_fold_26 : decode cX3_fold 26 = .ok (.aload_n 0, 1) := by decide +kernel
theorem dX3_fold_27 : decode cX3_fold 27 = .ok (.getfield 12, 3) := by decide +kernel
theorem dX3_fold_30 : decode cX3_fold 30 = .ok (.invokevirtual 32, 3) := by decide +kernel
theorem dX3_fold_33 : decode cX3_fold 33 = .ok (.aload_n 0, 1) := by decide +kernel
theorem dX3_fold_34 : decode cX3_fold 34 = .ok (.getfield 21, 3) := by decide +kernel
theorem dX3_fold_37 : decode cX3_fold 37 = .ok (.iload_n 2, 1) := by decide +kernel
theorem dX3_fold_38 : decode cX3_fold 38 = .ok (.iload_n 1, 1) := by decide +kernel
theorem dX3_fold_39 : decode cX3_fold 39 = .ok (.invokevirtual 86, 3) := by decide +kernel
theorem dX3_fold_42 : decode cX3_fold 42 = .ok (.aload_n 0, 1) := by decide +kernel
theorem dX3_fold_43 : decode cX3_fold 43 = .ok (.getfield 12, 3) := by decide +kernel
theorem dX3_fold_46 : decode cX3_fold 46 = .ok (.iload_n 2, 1) := by decide +kernel
theorem dX3_fold_47 : decode cX3_fold 47 = .ok (.invokevirtual 90, 3) := by decide +kernel
theorem dX3_fold_50 : decode cX3_fold 50 = .ok (.aload_n 0, 1) := by decide +kernel
theorem dX3_fold_51 : decode cX3_fold 51 = .ok (.dup, 1) := by decide +kernel
theorem dX3_fold_52 : decode cX3_fold 52 = .ok (.getfield 52, 3) := by decide +kernel
theorem dX3_fold_55 : decode cX3_fold 55 = .ok (.iconst 1, 1) := by decide +kernel
theorem dX3_fold_56 : decode cX3_fold 56 = .ok (.iadd, 1) := by decide +kernel
theorem dX3_fold_57 : decode cX3_fold 57 = .ok (.putfield 52, 3) := by decide +kernel
theorem dX3_fold_60 : decode cX3_fold 60 = .ok (.iload_n 2, 1) := by decide +kernel
theorem dX3_fold_61 : decode cX3_fold 61 = .ok (.ireturn, 1) := by decide +kernel
theorem dX3_closeInto_0 : decode cX3_closeInto 0 = .ok (.aload_n 1, 1) := by decide +kernel
theorem dX3_closeInto_1 : decode cX3_closeInto 1 = .ok (.aload_n 0, 1) := by decide +kernel
theorem dX3_closeInto_2 : decode cX3_closeInto 2 = .ok (.getfield 21, 3) := by decide +kernel
theorem dX3_closeInto_5 : decode cX3_closeInto 5 = .ok (.invokevirtual 46, 3) := by decide +kernel
theorem dX3_closeInto_8 : decode cX3_closeInto 8 = .ok (.aload_n 1, 1) := by decide +kernel
theorem dX3_closeInto_9 : decode cX3_closeInto 9 = .ok (.aload_n 0, 1) := by decide +kernel
theorem dX3_closeInto_10 : decode cX3_closeInto 10 = .ok (.getfield 49, 3) := by decide +kernel
theorem dX3_closeInto_13 : decode cX3_closeInto 13 = .ok (.putfield 94, 3) := by decide +kernel
theorem dX3_closeInto_16 : decode cX3_closeInto 16 = .ok (.aload_n 1, 1) := by decide +kernel
theorem dX3_closeInto_17 : decode cX3_closeInto 17 = .ok (.aload_n 0, 1) := by decide +kernel
theorem dX3_closeInto_18 : decode cX3_closeInto 18 = .ok (.getfield 49, 3) := by decide +kernel
theorem dX3_closeInto_21 : decode cX3_closeInto 21 = .ok (.ifCond .eq 16, 3) := by decide +kernel
theorem dX3_closeInto_24 : decode cX3_closeInto 24 = .ok (.aload_n 0, 1) := by decide +kernel
theorem dX3_closeInto_25 : decode cX3_closeInto 25 = .ok (.getfield 49, 3) := by decide +kernel
theorem dX3_closeInto_28 : decode cX3_closeInto 28 = .ok (.aload_n 0, 1) := by decide +kernel
theorem dX3_closeInto_29 : decode cX3_closeInto 29 = .ok (.getfield 55, 3) := by decide +kernel
theorem dX3_closeInto_32 : decode cX3_closeInto 32 = .ok (.isub, 1) := by decide +kernel
theorem dX3_closeInto_33 : decode cX3_closeInto 33 = .ok (.iload_n 2, 1) := by decide +kernel
theorem dX3_closeInto_34 : decode cX3_closeInto 34 = .ok (.if_icmp .lt 7, 3) := by decide +kernel
theorem dX3_closeInto_37 : decode cX3_closeInto 37 = .ok (.iconst 1, 1) := by decide +kernel
theorem dX3_closeInto_38 : decode cX3_closeInto 38 = .ok (.goto 4, 3) := by decide +kernel
theorem dX3_closeInto_41 : decode cX3_closeInto 41 = .ok (.iconst 0, 1) := by decide +kernel
theorem dX3_closeInto_42 : decode cX3_closeInto 42 = .ok (.putfield 97, 3) := by decide +kernel
theorem dX3_closeInto_45 : decode cX3_closeInto 45 = .ok (.aload_n 1, 1) := by decide +kernel
theorem dX3_closeInto_46 : decode cX3_closeInto 46 = .ok (.getfield 97, 3) := by decide +kernel
theorem dX3_closeInto_49 : decode cX3_closeInto 49 = .ok (.ifCond .eq 27, 3) := by decide +kernel
theorem dX3_closeInto_52 : decode cX3_closeInto 52 = .ok (.aload_n 0, 1) := by decide +kernel
theorem dX3_closeInto_53 : decode cX3_closeInto 53 = .ok (.aload_n 0, 1) := by decide +kernel
theorem dX3_closeInto_54 : decode cX3_closeInto 54 = .ok (.getfield 49, 3) := by decide +kernel
theorem dX3_closeInto_57 : decode cX3_closeInto 57 = .ok (.putfield 55, 3) := by decide +kernel
theorem dX3_closeInto_60 : decode cX3_closeInto 60 = .ok (.aload_n 0, 1) := by decide +kernel
theorem dX3_closeInto_61 : decode cX3_closeInto 61 = .ok (.getfield 25, 3) := by decide +kernel
theorem dX3_closeInto_64 : decode cX3_closeInto 64 = .ok (.aload_n 1, 1) := by decide +kernel
theorem dX3_closeInto_65 : decode cX3_closeInto 65 = .ok (.getfield 83, 3) := by decide +kernel
theorem dX3_closeInto_68 : decode cX3_closeInto 68 = .ok (.invokevirtual 32, 3) := by decide +kernel
theorem dX3_closeInto_71 : decode cX3_closeInto 71 = .ok (.aload_n 0, 1) := by decide +kernel
theorem dX3_closeInto_72 : decode cX3_closeInto 72 = .ok (.iconst 0, 1) := by decide +kernel
theorem dX3_closeInto_73 : decode cX3_closeInto 73 = .ok (.putfield 64, 3) := by decide +kernel
theorem dX3_closeInto_76 : decode cX3_closeInto 76 = .ok (.aload_n 0, 1) := by decide +kernel
theorem dX3_closeInto_77 : decode cX3_closeInto 77 = .ok (.aload_n 1, 1) := by decide +kernel
theorem dX3_closeInto_78 : decode cX3_closeInto 78 = .ok (.invokevirtual 101, 3) := by decide +kernel
theorem dX3_closeInto_81 : decode cX3_closeInto 81 = .ok (.aload_n 0, 1) := by decide +kernel
theorem dX3_closeInto_82 : decode cX3_closeInto 82 = .ok (.dup, 1) := by decide +kernel
theorem dX3_closeInto_83 : decode cX3_closeInto 83 = .ok (.getfield 49, 3) := by decide +kernel
theorem dX3_closeInto_86 : decode cX3_closeInto 86 = .ok (.iconst 1, 1) := by decide +kernel
theorem dX3_closeInto_87 : decode cX3_closeInto 87 = .ok (.iadd, 1) := by decide +kernel
theorem dX3_closeInto_88 : decode cX3_closeInto 88 = .ok (.putfield 49, 3) := by decide +kernel
theorem dX3_closeInto_91 : decode cX3_closeInto 91 = .ok (.aload_n 0, 1) := by decide +kernel
theorem dX3_closeInto_92 : decode cX3_closeInto 92 = .ok (.getfield 21, 3) := by decide +kernel
theorem dX3_closeInto_95 : decode cX3_closeInto 95 = .ok (.iconst 0, 1) := by decide +kernel
theorem dX3_closeInto_96 : decode cX3_closeInto 96 = .ok (.putfield 73, 3) := by decide +kernel
theorem dX3_closeInto_99 : decode cX3_closeInto 99 = .ok (.return_, 1) := by decide +kernel
theorem dX3_rememberSinceHead_0 : decode cX3_rememberSinceHead 0 = .ok (.iconst 0, 1) := by decide +kernel
theorem dX3_rememberSinceHead_1 : decode cX3_rememberSinceHead 1 = .ok (.istore_n 2, 1) := by decide +kernel
theorem dX3_rememberSinceHead_2 : decode cX3_rememberSinceHead 2 = .ok (.iload_n 2, 1) := by decide +kernel
theorem dX3_rememberSinceHead_3 : decode cX3_rememberSinceHead 3 = .ok (.aload_n 1, 1) := by decide +kernel
theorem dX3_rememberSinceHead_4 : decode cX3_rememberSinceHead 4 = .ok (.getfield 73, 3) := by decide +kernel
theorem dX3_rememberSinceHead_7 : decode cX3_rememberSinceHead 7 = .ok (.if_icmp .ge 52, 3) := by decide +kernel
theorem dX3_rememberSinceHead_10 : decode cX3_rememberSinceHead 10 = .ok (.aload_n 0, 1) := by decide +kernel
theorem dX3_rememberSinceHead_11 : decode cX3_rememberSinceHead 11 = .ok (.getfield 64, 3) := by decide +kernel
theorem dX3_rememberSinceHead_14 : decode cX3_rememberSinceHead 14 = .ok (.ifCond .lt 39, 3) := by decide +kernel
theorem dX3_rememberSinceHead_17 : decode cX3_rememberSinceHead 17 = .ok (.aload_n 0, 1) := by decide +kernel
theorem dX3_rememberSinceHead_18 : decode cX3_rememberSinceHead 18 = .ok (.getfield 64, 3) := by decide +kernel
theorem dX3_rememberSinceHead_21 : decode cX3_rememberSinceHead 21 = .ok (.aload_n 0, 1) := by decide +kernel
theorem dX3_rememberSinceHead_22 : decode cX3_rememberSinceHead 22 = .ok (.getfield 28, 3) := by decide +kernel
theorem dX3_rememberSinceHead_25 : decode cX3_rememberSinceHead 25 = .ok (.arraylength, 1) := by decide +kernel
theorem dX3_rememberSinceHead_26 : decode cX3_rememberSinceHead 26 = .ok (.if_icmp .ge 27, 3) := by decide +kernel
theorem dX3_rememberSinceHead_29 : decode cX3_rememberSinceHead 29 = .ok (.aload_n 0, 1) := by decide +kernel
theorem dX3_rememberSinceHead_30 : decode cX3_rememberSinceHead 30 = .ok (.getfield 28, 3) := by decide +kernel
theorem dX3_rememberSinceHead_33 : decode cX3_rememberSinceHead 33 = .ok (.aload_n 0, 1) := by decide +kernel
theorem dX3_rememberSinceHead_34 : decode cX3_rememberSinceHead 34 = .ok (.getfield 64, 3) := by decide +kernel
theorem dX3_rememberSinceHead_37 : decode cX3_rememberSinceHead 37 = .ok (.aload_n 1, 1) := by decide +kernel
theorem dX3_rememberSinceHead_38 : decode cX3_rememberSinceHead 38 = .ok (.iload_n 2, 1) := by decide +kernel
theorem dX3_rememberSinceHead_39 : decode cX3_rememberSinceHead 39 = .ok (.invokevirtual 104, 3) := by decide +kernel
theorem dX3_rememberSinceHead_42 : decode cX3_rememberSinceHead 42 = .ok (.iastore, 1) := by decide +kernel
theorem dX3_rememberSinceHead_43 : decode cX3_rememberSinceHead 43 = .ok (.aload_n 0, 1) := by decide +kernel
theorem dX3_rememberSinceHead_44 : decode cX3_rememberSinceHead 44 = .ok (.dup, 1) := by decide +kernel
theorem dX3_rememberSinceHead_45 : decode cX3_rememberSinceHead 45 = .ok (.getfield 64, 3) := by decide +kernel
theorem dX3_rememberSinceHead_48 : decode cX3_rememberSinceHead 48 = .ok (.iconst 1, 1) := by decide +kernel
theorem dX3_rememberSinceHead_49 : decode cX3_rememberSinceHead 49 = .ok (.iadd, 1) := by decide +kernel
theorem dX3_rememberSinceHead_50 : decode cX3_rememberSinceHead 50 = .ok (.putfield 64, 3) := by decide +kernel
theorem dX3_rememberSinceHead_53 : decode cX3_rememberSinceHead 53 = .ok (.iinc 2 1, 3) := by decide +kernel
theorem dX3_rememberSinceHead_56 : decode cX3_rememberSinceHead 56 = .ok (.goto (-54), 3) := by decide +kernel
theorem dX3_rememberSinceHead_59 : decode cX3_rememberSinceHead 59 = .ok (.return_, 1) := by decide +kernel
theorem dX3_guessSinceHead_0 : decode cX3_guessSinceHead 0 = .ok (.aload_n 1, 1) := by decide +kernel
theorem dX3_guessSinceHead_1 : decode cX3_guessSinceHead 1 = .ok (.aload_n 0, 1) := by decide +kernel
theorem dX3_guessSinceHead_2 : decode cX3_guessSinceHead 2 = .ok (.getfield 25, 3) := by decide +kernel
theorem dX3_guessSinceHead_5 : decode cX3_guessSinceHead 5 = .ok (.invokevirtual 32, 3) := by decide +kernel
theorem dX3_guessSinceHead_8 : decode cX3_guessSinceHead 8 = .ok (.iconst 0, 1) := by decide +kernel
theorem dX3_guessSinceHead_9 : decode cX3_guessSinceHead 9 = .ok (.istore_n 2, 1) := by decide +kernel
theorem dX3_guessSinceHead_10 : decode cX3_guessSinceHead 10 = .ok (.iload_n 2, 1) := by decide +kernel
theorem dX3_guessSinceHead_11 : decode cX3_guessSinceHead 11 = .ok (.aload_n 0, 1) := by decide +kernel
theorem dX3_guessSinceHead_12 : decode cX3_guessSinceHead 12 = .ok (.getfield 64, 3) := by decide +kernel
theorem dX3_guessSinceHead_15 : decode cX3_guessSinceHead 15 = .ok (.if_icmp .ge 28, 3) := by decide +kernel
theorem dX3_guessSinceHead_18 : decode cX3_guessSinceHead 18 = .ok (.iload_n 2, 1) := by decide +kernel
theorem dX3_guessSinceHead_19 : decode cX3_guessSinceHead 19 = .ok (.aload_n 0, 1) := by decide +kernel
theorem dX3_guessSinceHead_20 : decode cX3_guessSinceHead 20 = .ok (.getfield 28, 3) := by decide +kernel
theorem dX3_guessSinceHead_23 : decode cX3_guessSinceHead 23 = .ok (.arraylength, 1) := by decide +kernel
theorem dX3_guessSinceHead_24 : decode cX3_guessSinceHead 24 = .ok (.if_icmp .ge 19, 3) := by decide +kernel
theorem dX3_guessSinceHead_27 : decode cX3_guessSinceHead 27 = .ok (.aload_n 1, 1) := by decide +kernel
theorem dX3_guessSinceHead_28 : decode cX3_guessSinceHead 28 = .ok (.aload_n 0, 1) := by decide +kernel
theorem dX3_guessSinceHead_29 : decode cX3_guessSinceHead 29 = .ok (.getfield 28, 3) := by decide +kernel
theorem dX3_guessSinceHead_32 : decode cX3_guessSinceHead 32 = .ok (.iload_n 2, 1) := by decide +kernel
theorem dX3_guessSinceHead_33 : decode cX3_guessSinceHead 33 = .ok (.iaload, 1) := by decide +kernel
theorem dX3_guessSinceHead_34 : decode cX3_guessSinceHead 34 = .ok (.invokevirtual 90, 3) := by decide +kernel
theorem dX3_guessSinceHead_37 : decode cX3_guessSinceHead 37 = .ok (.iinc 2 1, 3) := by decide +kernel
theorem dX3_guessSinceHead_40 : decode cX3_guessSinceHead 40 = .ok (.goto (-30), 3) := by decide +kernel
theorem dX3_guessSinceHead_43 : decode cX3_guessSinceHead 43 = .ok (.aload_n 1, 1) := by decide +kernel
theorem dX3_guessSinceHead_44 : decode cX3_guessSinceHead 44 = .ok (.aload_n 0, 1) := by decide +kernel
theorem dX3_guessSinceHead_45 : decode cX3_guessSinceHead 45 = .ok (.getfield 21, 3) := by decide +kernel
theorem dX3_guessSinceHead_48 : decode cX3_guessSinceHead 48 = .ok (.invokevirtual 107, 3) := by decide +kernel
theorem dX3_guessSinceHead_51 : decode cX3_guessSinceHead 51 = .ok (.aload_n 1, 1) := by decide +kernel
theorem dX3_guessSinceHead_52 : decode cX3_guessSinceHead 52 = .ok (.getfield 110, 3) := by decide +kernel
theorem dX3_guessSinceHead_55 : decode cX3_guessSinceHead 55 = .ok (.ireturn, 1) := by decide +kernel
theorem dX4_init_0 : decode cX4_init 0 = .ok (.aload_n 0, 1) := by decide +kernel
theorem dX4_init_1 : decode cX4_init 1 = .ok (.invokespecial 1, 3) := by decide +kernel
theorem dX4_init_4 : decode cX4_init 4 = .ok (.aload_n 0, 1) := by decide +kernel
theorem dX4_init_5 : decode cX4_init 5 = .ok (.iconst 4, 1) := by decide +kernel
theorem dX4_init_6 : decode cX4_init 6 = .ok (.newarray .int, 2) := by decide +kernel
theorem dX4_init_8 : decode cX4_init 8 = .ok (.dup, 1) := by decide +kernel
theorem dX4_init_9 : decode cX4_init 9 = .ok (.iconst 0, 1) := by decide +kernel
theorem dX4_init_10 : decode cX4_init 10 = .ok (.iconst 1, 1) := by decide +kernel
theorem dX4_init_11 : decode cX4_init 11 = .ok (.iastore, 1) := by decide +kernel
theorem dX4_init_12 : decode cX4_init 12 = .ok (.dup, 1) := by decide +kernel
theorem dX4_init_13 : decode cX4_init 13 = .ok (.iconst 1, 1) := by decide +kernel
theorem dX4_init_14 : decode cX4_init 14 = .ok (.iconst 0, 1) := by decide +kernel
theorem dX4_init_15 : decode cX4_init 15 = .ok (.iastore, 1) := by decide +kernel
theorem dX4_init_16 : decode cX4_init 16 = .ok (.dup, 1) := by decide +kernel
theorem dX4_init_17 : decode cX4_init 17 = .ok (.iconst 2, 1) := by decide +kernel
theorem dX4_init_18 : decode cX4_init 18 = .ok (.iconst 4, 1) := by decide +kernel
theorem dX4_init_19 : decode cX4_init 19 = .ok (.iastore, 1) := by decide +kernel
theorem dX4_init_20 : decode cX4_init 20 = .ok (.dup, 1) := by decide +kernel
theorem dX4_init_21 : decode cX4_init 21 = .ok (.iconst 3, 1) := by decide +kernel
theorem dX4_init_22 : decode cX4_init 22 = .ok (.iconst 3, 1) := by decide +kernel
theorem dX4_init_23 : decode cX4_init 23 = .ok (.iastore, 1) := by decide +kernel
theorem dX4_init_24 : decode cX4_init 24 = .ok (.putfield 7, 3) := by decide +kernel
theorem dX4_init_27 : decode cX4_init 27 = .ok (.return_, 1) := by decide +kernel
theorem dX4_copyFrom_0 : decode cX4_copyFrom 0 = .ok (.iconst 0, 1) := by decide +kernel
theorem dX4_copyFrom_1 : decode cX4_copyFrom 1 = .ok (.istore_n 2, 1) := by decide +kernel
theorem dX4_copyFrom_2 : decode cX4_copyFrom 2 = .ok (.iload_n 2, 1) := by decide +kernel
theorem dX4_copyFrom_3 : decode cX4_copyFrom 3 = .ok (.aload_n 0, 1) := by decide +kernel
theorem dX4_copyFrom_4 : decode cX4_copyFrom 4 = .ok (.getfield 7, 3) := by decide +kernel
theorem dX4_copyFrom_7 : decode cX4_copyFrom 7 = .ok (.arraylength, 1) := by decide +kernel
theorem dX4_copyFrom_8 : decode cX4_copyFrom 8 = .ok (.if_icmp .ge 30, 3) := by decide +kernel
theorem dX4_copyFrom_11 : decode cX4_copyFrom 11 = .ok (.iload_n 2, 1) := by decide +kernel
theorem dX4_copyFrom_12 : decode cX4_copyFrom 12 = .ok (.aload_n 1, 1) := by decide +kernel
theorem dX4_copyFrom_13 : decode cX4_copyFrom 13 = .ok (.getfield 7, 3) := by decide +kernel
theorem dX4_copyFrom_16 : decode cX4_copyFrom 16 = .ok (.arraylength, 1) := by decide +kernel
theorem dX4_copyFrom_17 : decode cX4_copyFrom 17 = .ok (.if_icmp .ge 21, 3) := by decide +kernel
theorem dX4_copyFrom_20 : decode cX4_copyFrom 20 = .ok (.aload_n 0, 1) := by decide +kernel
theorem dX4_copyFrom_21 : decode cX4_copyFrom 21 = .ok (.getfield 7, 3) := by decide +kernel
theorem dX4_copyFrom_24 : decode cX4_copyFrom 24 = .ok (.iload_n 2, 1) := by decide +kernel
theorem dX4_copyFrom_25 : decode cX4_copyFrom 25 = .ok (.aload_n 1, 1) := by decide +kernel
theorem dX4_copyFrom_26 : decode cX4_copyFrom 26 = .ok (.getfield 7, 3) := by decide +kernel
theorem dX4_copyFrom_29 : decode cX4_copyFrom 29 = .ok (.iload_n 2, 1) := by decide +kernel
theorem dX4_copyFrom_30 : decode cX4_copyFrom 30 = .ok (.iaload, 1) := by decide +kernel
theorem dX4_copyFrom_31 : decode cX4_copyFrom 31 = .ok (.iastore, 1) := by decide +kernel
theorem dX4_copyFrom_32 : decode cX4_copyFrom 32 = .ok (.iinc 2 1, 3) := by decide +kernel
theorem dX4_copyFrom_35 : decode cX4_copyFrom 35 = .ok (.goto (-33), 3) := by decide +kernel
theorem dX4_copyFrom_38 : decode cX4_copyFrom 38 = .ok (.return_, 1) := by decide +kernel
theorem dX4_isInRange_0 : decode cX4_isInRange 0 = .ok (.iload_n 0, 1) := by decide +kernel
theorem dX4_isInRange_1 : decode cX4_isInRange 1 = .ok (.ifCond .lt 41, 3) := by decide +kernel
theorem dX4_isInRange_4 : decode cX4_isInRange 4 = .ok (.iload_n 0, 1) := by decide +kernel
theorem dX4_isInRange_5 : decode cX4_isInRange 5 = .ok (.getstatic 13, 3) := by decide +kernel
theorem dX4_isInRange_8 : decode cX4_isInRange 8 = .ok (.arraylength, 1) := by decide +kernel
theorem dX4_isInRange_9 : decode cX4_isInRange 9 = .ok (.if_icmp .ge 33, 3) := by decide +kernel
theorem dX4_isInRange_12 : decode cX4_isInRange 12 = .ok (.iload_n 0, 1) := by decide +kernel
theorem dX4_isInRange_13 : decode cX4_isInRange 13 = .ok (.getstatic 18, 3) := by decide +kernel
theorem dX4_isInRange_16 : decode cX4_isInRange 16 = .ok (.arraylength, 1) := by decide +kernel
theorem dX4_isInRange_17 : decode cX4_isInRange 17 = .ok (.if_icmp .ge 25, 3) := by decide +kernel
theorem dX4_isInRange_20 : decode cX4_isInRange 20 = .ok (.iload_n 1, 1) := by decide +kernel
theorem dX4_isInRange_21 : decode cX4_isInRange 21 = .ok (.getstatic 13, 3) := by decide +kernel
theorem dX4_isInRange_24 : decode cX4_isInRange 24 = .ok (.iload_n 0, 1) := by decide +kernel
theorem dX4_isInRange_25 : decode cX4_isInRange 25 = .ok (.iaload, 1) := by decide +kernel
theorem dX4_isInRange_26 : decode cX4_isInRange 26 = .ok (.if_icmp .lt 16, 3) := by decide +kernel
theorem dX4_isInRange_29 : decode cX4_isInRange 29 = .ok (.iload_n 1, 1) := by decide +kernel
theorem dX4_isInRange_30 : decode cX4_isInRange 30 = .ok (.getstatic 18, 3) := by decide +kernel
theorem dX4_isInRange_33 : decode cX4_isInRange 33 = .ok (.iload_n 0, 1) := by decide +kernel
theorem dX4_isInRange_34 : decode cX4_isInRange 34 = .ok (.iaload, 1) := by decide +kernel
theorem dX4_isInRange_35 : decode cX4_isInRange 35 = .ok (.if_icmp .gt 7, 3) := by decide +kernel
theorem dX4_isInRange_38 : decode cX4_isInRange 38 = .ok (.iconst 1, 1) := by decide +kernel
theorem dX4_isInRange_39 : decode cX4_isInRange 39 = .ok (.goto 4, 3) := by decide +kernel
theorem dX4_isInRange_42 : decode cX4_isInRange 42 = .ok (.iconst 0, 1) := by decide +kernel
theorem dX4_isInRange_43 : decode cX4_isInRange 43 = .ok (.ireturn, 1) := by decide +kernel
theorem dX4_valueOf_0 : decode cX4_valueOf 0 = .ok (.iload_n 1, 1) := by decide +kernel
theorem dX4_valueOf_1 : decode cX4_valueOf 1 = .ok (.ifCond .lt 21, 3) := by decide +kernel
theorem dX4_valueOf_4 : decode cX4_valueOf 4 = .ok (.iload_n 1, 1) := by decide +kernel
theorem dX4_valueOf_5 : decode cX4_valueOf 5 = .ok (.aload_n 0, 1) := by decide +kernel
theorem dX4_valueOf_6 : decode cX4_valueOf 6 = .ok (.getfield 7, 3) := by decide +kernel
theorem dX4_valueOf_9 : decode cX4_valueOf 9 = .ok (.arraylength, 1) := by decide +kernel
theorem dX4_valueOf_10 : decode cX4_valueOf 10 = .ok (.if_icmp .ge 12, 3) := by decide +kernel
theorem dX4_valueOf_13 : decode cX4_valueOf 13 = .ok (.aload_n 0, 1) := by decide +kernel
theorem dX4_valueOf_14 : decode cX4_valueOf 14 = .ok (.getfield 7, 3) := by decide +kernel
theorem dX4_valueOf_17 : decode cX4_valueOf 17 = .ok (.iload_n 1, 1) := by decide +kernel
theorem dX4_valueOf_18 : decode cX4_valueOf 18 = .ok (.iaload, 1) := by decide +kernel
theorem dX4_valueOf_19 : decode cX4_valueOf 19 = .ok (.goto 4, 3) := by decide +kernel
theorem dX4_valueOf_22 : decode cX4_valueOf 22 = .ok (.iconst 0, 1) := by decide +kernel
theorem dX4_valueOf_23 : decode cX4_valueOf 23 = .ok (.ireturn, 1) := by decide +kernel
theorem dX4_put_0 : decode cX4_put 0 = .ok (.iload_n 1, 1) := by decide +kernel
theorem dX4_put_1 : decode cX4_put 1 = .ok (.ifCond .lt 19, 3) := by decide +kernel
theorem dX4_put_4 : decode cX4_put 4 = .ok (.iload_n 1, 1) := by decide +kernel
theorem dX4_put_5 : decode cX4_put 5 = .ok (.aload_n 0, 1) := by decide +kernel
theorem dX4_put_6 : decode cX4_put 6 = .ok (.getfield 7, 3) := by decide +kernel
theorem dX4_put_9 : decode cX4_put 9 = .ok (.arraylength, 1) := by decide +kernel
theorem dX4_put_10 : decode cX4_put 10 = .ok (.if_icmp .ge 10, 3) := by decide +kernel
theorem dX4_put_13 : decode cX4_put 13 = .ok (.aload_n 0, 1) := by decide +kernel
theorem dX4_put_14 : decode cX4_put 14 = .ok (.getfield 7, 3) := by decide +kernel
theorem dX4_put_17 : decode cX4_put 17 = .ok (.iload_n 1, 1) := by decide +kernel
theorem dX4_put_18 : decode cX4_put 18 = .ok (.iload_n 2, 1) := by decide +kernel
theorem dX4_put_19 : decode cX4_put 19 = .ok (.iastore, 1) := by decide +kernel
theorem dX4_put_20 : decode cX4_put 20 = .ok (.return_, 1) := by decide +kernel
theorem dX5_init_0 : decode cX5_init 0 = .ok (.aload_n 0, 1) := by decide +kernel
theorem dX5_init_1 : decode cX5_init 1 = .ok (.invokespecial 3, 3) := by decide +kernel
theorem dX5_init_4 : decode cX5_init 4 = .ok (.aload_n 0, 1) := by decide +kernel
theorem dX5_init_5 : decode cX5_init 5 = .ok (.iconst 3, 1) := by decide +kernel
theorem dX5_init_6 : decode cX5_init 6 = .ok (.anewarray 9, 3) := by decide +kernel
theorem dX5_init_9 : decode cX5_init 9 = .ok (.putfield 11, 3) := by decide +kernel
theorem dX5_init_12 : decode cX5_init 12 = .ok (.aload_n 0, 1) := by decide +kernel
theorem dX5_init_13 : decode cX5_init 13 = .ok (.new 17, 3) := by decide +kernel
theorem dX5_init_16 : decode cX5_init 16 = .ok (.dup, 1) := by decide +kernel
theorem dX5_init_17 : decode cX5_init 17 = .ok (.invokespecial 19, 3) := by decide +kernel
theorem dX5_init_20 : decode cX5_init 20 = .ok (.putfield 20, 3) := by decide +kernel
theorem dX5_init_23 : decode cX5_init 23 = .ok (.iconst 0, 1) := by decide +kernel
theorem dX5_init_24 : decode cX5_init 24 = .ok (.istore_n 1, 1) := by decide +kernel
theorem dX5_init_25 : decode cX5_init 25 = .ok (.iload_n 1, 1) := by decide +kernel
theorem dX5_init_26 : decode cX5_init 26 = .ok (.aload_n 0, 1) := by decide +kernel
theorem dX5_init_27 : decode cX5_init 27 = .ok (.getfield 11, 3) := by decide +kernel
theorem dX5_init_30 : decode cX5_init 30 = .ok (.arraylength, 1) := by decide +kernel
theorem dX5_init_31 : decode cX5_init 31 = .ok (.if_icmp .ge 22, 3) := by decide +kernel
theorem dX5_init_34 : decode cX5_init 34 = .ok (.aload_n 0, 1) := by decide +kernel
theorem dX5_init_35 : decode cX5_init 35 = .ok (.getfield 11, 3) := by decide +kernel
theorem dX5_init_38 : decode cX5_init 38 = .ok (.iload_n 1, 1) := by decide +kernel
theorem dX5_init_39 : decode cX5_init 39 = .ok (.new 9, 3) := by decide +kernel
theorem dX5_init_42 : decode cX5_init 42 = .ok (.dup, 1) := by decide +kernel
theorem dX5_init_43 : decode cX5_init 43 = .ok (.invokespecial 24, 3) := by decide +kernel
theorem dX5_init_46 : decode cX5_init 46 = .ok (.aastore, 1) := by decide +kernel
theorem dX5_init_47 : decode cX5_init 47 = .ok (.iinc 1 1, 3) := by decide +kernel
theorem dX5_init_50 : decode cX5_init 50 = .ok (.goto (-25), 3) := by decide +kernel
theorem dX5_init_53 : decode cX5_init 53 = .ok (.return_, 1) := by decide +kernel
theorem dX5_copyFrom_0 : decode cX5_copyFrom 0 = .ok (.iconst 0, 1) := by decide +kernel
theorem dX5_copyFrom_1 : decode cX5_copyFrom 1 = .ok (.istore_n 2, 1) := by decide +kernel
theorem dX5_copyFrom_2 : decode cX5_copyFrom 2 = .ok (.iload_n 2, 1) := by decide +kernel
theorem dX5_copyFrom_3 : decode cX5_copyFrom 3 = .ok (.aload_n 0, 1) := by decide +kernel
theorem dX5_copyFrom_4 : decode cX5_copyFrom 4 = .ok (.getfield 11, 3) := by decide +kernel
theorem dX5_copyFrom_7 : decode cX5_copyFrom 7 = .ok (.arraylength, 1) := by decide +kernel
theorem dX5_copyFrom_8 : decode cX5_copyFrom 8 = .ok (.if_icmp .ge 33, 3) := by decide +kernel
theorem dX5_copyFrom_11 : decode cX5_copyFrom 11 = .ok (.iload_n 2, 1) := by decide +kernel
theorem dX5_copyFrom_12 : decode cX5_copyFrom 12 = .ok (.aload_n 1, 1) := by decide +kernel
theorem dX5_copyFrom_13 : decode cX5_copyFrom 13 = .ok (.getfield 11, 3) := by decide +kernel
theorem dX5_copyFrom_16 : decode cX5_copyFrom 16 = .ok (.arraylength, 1) := by decide +kernel
theorem dX5_copyFrom_17 : decode cX5_copyFrom 17 = .ok (.if_icmp .ge 24, 3) := by decide +kernel
theorem dX5_copyFrom_20 : decode cX5_copyFrom 20 = .ok (.aload_n 0, 1) := by decide +kernel
theorem dX5_copyFrom_21 : decode cX5_copyFrom 21 = .ok (.getfield 11, 3) := by decide +kernel
theorem dX5_copyFrom_24 : decode cX5_copyFrom 24 = .ok (.iload_n 2, 1) := by decide +kernel
theorem dX5_copyFrom_25 : decode cX5_copyFrom 25 = .ok (.aaload, 1) := by decide +kernel
theorem dX5_copyFrom_26 : decode cX5_copyFrom 26 = .ok (.aload_n 1, 1) := by decide +kernel
theorem dX5_copyFrom_27 : decode cX5_copyFrom 27 = .ok (.getfield 11, 3) := by decide +kernel
theorem dX5_copyFrom_30 : decode cX5_copyFrom 30 = .ok (.iload_n 2, 1) := by decide +kernel
theorem dX5_copyFrom_31 : decode cX5_copyFrom 31 = .ok (.aaload, 1) := by decide +kernel
theorem dX5_copyFrom_32 : decode cX5_copyFrom 32 = .ok (.invokevirtual 25, 3) := by decide +kernel
theorem dX5_copyFrom_35 : decode cX5_copyFrom 35 = .ok (.iinc 2 1, 3) := by decide +kernel
theorem dX5_copyFrom_38 : decode cX5_copyFrom 38 = .ok (.goto (-36), 3) := by decide +kernel
theorem dX5_copyFrom_41 : decode cX5_copyFrom 41 = .ok (.aload_n 0, 1) := by decide +kernel
theorem dX5_copyFrom_42 : decode cX5_copyFrom 42 = .ok (.getfield 20, 3) := by decide +kernel
theorem dX5_copyFrom_45 : decode cX5_copyFrom 45 = .ok (.aload_n 1, 1) := by decide +kernel
theorem dX5_copyFrom_46 : decode cX5_copyFrom 46 = .ok (.getfield 20, 3) := by decide +kernel
theorem dX5_copyFrom_49 : decode cX5_copyFrom 49 = .ok (.invokevirtual 29, 3) := by decide +kernel
theorem dX5_copyFrom_52 : decode cX5_copyFrom 52 = .ok (.return_, 1) := by decide +kernel
theorem dX6_init_0 : decode cX6_init 0 = .ok (.aload_n 0, 1) := by decide +kernel
theorem dX6_init_1 : decode cX6_init 1 = .ok (.invokespecial 3, 3) := by decide +kernel
theorem dX6_init_4 : decode cX6_init 4 = .ok (.aload_n 0, 1) := by decide +kernel
theorem dX6_init_5 : decode cX6_init 5 = .ok (.bipush 60, 2) := by decide +kernel
theorem dX6_init_7 : decode cX6_init 7 = .ok (.newarray .char, 2) := by decide +kernel
theorem dX6_init_9 : decode cX6_init 9 = .ok (.putfield 11, 3) := by decide +kernel
theorem dX6_init_12 : decode cX6_init 12 = .ok (.return_, 1) := by decide +kernel
theorem dX6_isFull_0 : decode cX6_isFull 0 = .ok (.aload_n 0, 1) := by decide +kernel
theorem dX6_isFull_1 : decode cX6_isFull 1 = .ok (.getfield 15, 3) := by decide +kernel
theorem dX6_isFull_4 : decode cX6_isFull 4 = .ok (.aload_n 0, 1) := by decide +kernel
theorem dX6_isFull_5 : decode cX6_isFull 5 = .ok (.getfield 11, 3) := by decide +kernel
theorem dX6_isFull_8 : decode cX6_isFull 8 = .ok (.arraylength, 1) := by decide +kernel
theorem dX6_isFull_9 : decode cX6_isFull 9 = .ok (.if_icmp .lt 7, 3) := by decide +kernel
theorem dX6_isFull_12 : decode cX6_isFull 12 = .ok (.iconst 1, 1) := by decide +kernel
theorem dX6_isFull_13 : decode cX6_isFull 13 = .ok (.goto 4, 3) := by decide +kernel
theorem dX6_isFull_16 : decode cX6_isFull 16 = .ok (.iconst 0, 1) := by decide +kernel
theorem dX6_isFull_17 : decode cX6_isFull 17 = .ok (.ireturn, 1) := by decide +kernel
theorem dX6_add_0 : decode cX6_add 0 = .ok (.aload_n 0, 1) := by decide +kernel
theorem dX6_add_1 : decode cX6_add 1 = .ok (.getfield 15, 3) := by decide +kernel
theorem dX6_add_4 : decode cX6_add 4 = .ok (.ifCond .lt 35, 3) := by decide +kernel
theorem dX6_add_7 : decode cX6_add 7 = .ok (.aload_n 0, 1) := by decide +kernel
theorem dX6_add_8 : decode cX6_add 8 = .ok (.getfield 15, 3) := by decide +kernel
theorem dX6_add_11 : decode cX6_add 11 = .ok (.aload_n 0, 1) := by decide +kernel
theorem dX6_add_12 : decode cX6_add 12 = .ok (.getfield 11, 3) := by decide +kernel
theorem dX6_add_15 : decode cX6_add 15 = .ok (.arraylength, 1) := by decide +kernel
theorem dX6_add_16 : decode cX6_add 16 = .ok (.if_icmp .ge 23, 3) := by decide +kernel
theorem dX6_add_19 : decode cX6_add 19 = .ok (.aload_n 0, 1) := by decide +kernel
theorem dX6_add_20 : decode cX6_add 20 = .ok (.getfield 11, 3) := by decide +kernel
theorem dX6_add_23 : decode cX6_add 23 = .ok (.aload_n 0, 1) := by decide +kernel
theorem dX6_add_24 : decode cX6_add 24 = .ok (.getfield 15, 3) := by decide +kernel
theorem dX6_add_27 : decode cX6_add 27 = .ok (.iload_n 1, 1) := by decide +kernel
theorem dX6_add_28 : decode cX6_add 28 = .ok (.castore, 1) := by decide +kernel
theorem dX6_add_29 : decode cX6_add 29 = .ok (.aload_n 0, 1) := by decide +kernel
theorem dX6_add_30 : decode cX6_add 30 = .ok (.dup, 1) := by decide +kernel
theorem dX6_add_31 : decode cX6_add 31 = .ok (.getfield 15, 3) := by decide +kernel
theorem dX6_add_34 : decode cX6_add 34 = .ok (.iconst 1, 1) := by decide +kernel
theorem dX6_add_35 : decode cX6_add 35 = .ok (.iadd, 1) := by decide +kernel
theorem dX6_add_36 : decode cX6_add 36 = .ok (.putfield 15, 3) := by decide +kernel
theorem dX6_add_39 : decode cX6_add 39 = .ok (.return_, 1) := by decide +kernel
theorem dX6_clear_0 : decode cX6_clear 0 = .ok (.aload_n 0, 1) := by decide +kernel
theorem dX6_clear_1 : decode cX6_clear 1 = .ok (.iconst 0, 1) := by decide +kernel
theorem dX6_clear_2 : decode cX6_clear 2 = .ok (.putfield 15, 3) := by decide +kernel
theorem dX6_clear_5 : decode cX6_clear 5 = .ok (.return_, 1) := by decide +kernel
theorem dX6_signAt_0 : decode cX6_signAt 0 = .ok (.iload_n 1, 1) := by decide +kernel
theorem dX6_signAt_1 : decode cX6_signAt 1 = .ok (.ifCond .lt 29, 3) := by decide +kernel
theorem dX6_signAt_4 : decode cX6_signAt 4 = .ok (.iload_n 1, 1) := by decide +kernel
theorem dX6_signAt_5 : decode cX6_signAt 5 = .ok (.aload_n 0, 1) := by decide +kernel
theorem dX6_signAt_6 : decode cX6_signAt 6 = .ok (.getfield 15, 3) := by decide +kernel
theorem dX6_signAt_9 : decode cX6_signAt 9 = .ok (.if_icmp .ge 21, 3) := by decide +kernel
theorem dX6_signAt_12 : decode cX6_signAt 12 = .ok (.iload_n 1, 1) := by decide +kernel
theorem dX6_signAt_13 : decode cX6_signAt 13 = .ok (.aload_n 0, 1) := by decide +kernel
theorem dX6_signAt_14 : decode cX6_signAt 14 = .ok (.getfield 11, 3) := by decide +kernel
theorem dX6_signAt_17 : decode cX6_signAt 17 = .ok (.arraylength, 1) := by decide +kernel
theorem dX6_signAt_18 : decode cX6_signAt 18 = .ok (.if_icmp .ge 12, 3) := by decide +kernel
theorem dX6_signAt_21 : decode cX6_signAt 21 = .ok (.aload_n 0, 1) := by decide +kernel
theorem dX6_signAt_22 : decode cX6_signAt 22 = .ok (.getfield 11, 3) := by decide +kernel
theorem dX6_signAt_25 : decode cX6_signAt 25 = .ok (.iload_n 1, 1) := by decide +kernel
theorem dX6_signAt_26 : decode cX6_signAt 26 = .ok (.caload, 1) := by decide +kernel
theorem dX6_signAt_27 : decode cX6_signAt 27 = .ok (.goto 5, 3) := by decide +kernel
theorem dX6_signAt_30 : decode cX6_signAt 30 = .ok (.bipush 32, 2) := by decide +kernel
theorem dX6_signAt_32 : decode cX6_signAt 32 = .ok (.ireturn, 1) := by decide +kernel
theorem dX6_firstWrongPlace_0 : decode cX6_firstWrongPlace 0 = .ok (.aload_n 0, 1) := by decide +kernel
theorem dX6_firstWrongPlace_1 : decode cX6_firstWrongPlace 1 = .ok (.iconst 0, 1) := by decide +kernel
theorem dX6_firstWrongPlace_2 : decode cX6_firstWrongPlace 2 = .ok (.putfield 19, 3) := by decide +kernel
theorem dX6_firstWrongPlace_5 : decode cX6_firstWrongPlace 5 = .ok (.iconst 0, 1) := by decide +kernel
theorem dX6_firstWrongPlace_6 : decode cX6_firstWrongPlace 6 = .ok (.istore_n 1, 1) := by decide +kernel
theorem dX6_firstWrongPlace_7 : decode cX6_firstWrongPlace 7 = .ok (.iconst 0, 1) := by decide +kernel
theorem dX6_firstWrongPlace_8 : decode cX6_firstWrongPlace 8 = .ok (.istore_n 2, 1) := by decide +kernel
theorem dX6_firstWrongPlace_9 : decode cX6_firstWrongPlace 9 = .ok (.iload_n 2, 1) := by decide +kernel
theorem dX6_firstWrongPlace_10 : decode cX6_firstWrongPlace 10 = .ok (.aload_n 0, 1) := by decide +kernel
theorem dX6_firstWrongPlace_11 : decode cX6_firstWrongPlace 11 = .ok (.getfield 15, 3) := by decide +kernel
theorem dX6_firstWrongPlace_14 : decode cX6_firstWrongPlace 14 = .ok (.if_icmp .ge 59, 3) := by decide +kernel
theorem dX6_firstWrongPlace_17 : decode cX6_firstWrongPlace 17 = .ok (.aload_n 0, 1) := by decide +kernel
theorem dX6_firstWrongPlace_18 : decode cX6_firstWrongPlace 18 = .ok (.iload_n 2, 1) := by decide +kernel
theorem dX6_firstWrongPlace_19 : decode cX6_firstWrongPlace 19 = .ok (.invokevirtual 22, 3) := by decide +kernel
theorem dX6_firstWrongPlace_22 : decode cX6_firstWrongPlace 22 = .ok (.istore_n 3, 1) := by decide +kernel
theorem dX6_firstWrongPlace_23 : decode cX6_firstWrongPlace 23 = .ok (.iload_n 3, 1) := by decide +kernel
theorem dX6_firstWrongPlace_24 : decode cX6_firstWrongPlace 24 = .ok (.invokestatic 26, 3) := by decide +kernel
theorem dX6_firstWrongPlace_27 : decode cX6_firstWrongPlace 27 = .ok (.ifCond .eq 15, 3) := by decide +kernel
theorem dX6_firstWrongPlace_30 : decode cX6_firstWrongPlace 30 = .ok (.bipush 10, 2) := by decide +kernel
theorem dX6_firstWrongPlace_32 : decode cX6_firstWrongPlace 32 = .ok (.iload_n 1, 1) := by decide +kernel
theorem dX6_firstWrongPlace_33 : decode cX6_firstWrongPlace 33 = .ok (.imul, 1) := by decide +kernel
theorem dX6_firstWrongPlace_34 : decode cX6_firstWrongPlace 34 = .ok (.iload_n 3, 1) := by decide +kernel
theorem dX6_firstWrongPlace_35 : decode cX6_firstWrongPlace 35 = .ok (.iadd, 1) := by decide +kernel
theorem dX6_firstWrongPlace_36 : decode cX6_firstWrongPlace 36 = .ok (.bipush 48, 2) := by decide +kernel
theorem dX6_firstWrongPlace_38 : decode cX6_firstWrongPlace 38 = .ok (.isub, 1) := by decide +kernel
theorem dX6_firstWrongPlace_39 : decode cX6_firstWrongPlace 39 = .ok (.goto 4, 3) := by decide +kernel
theorem dX6_firstWrongPlace_42 : decode cX6_firstWrongPlace 42 = .ok (.iconst 0, 1) := by decide +kernel
theorem dX6_firstWrongPlace_43 : decode cX6_firstWrongPlace 43 = .ok (.istore_n 1, 1) := by decide +kernel
theorem dX6_firstWrongPlace_44 : decode cX6_firstWrongPlace 44 = .ok (.aload_n 0, 1) := by decide +kernel
theorem dX6_firstWrongPlace_45 : decode cX6_firstWrongPlace 45 = .ok (.aload_n 0, 1) := by decide +kernel
theorem dX6_firstWrongPlace_46 : decode cX6_firstWrongPlace 46 = .ok (.getfield 19, 3) := by decide +kernel
theorem dX6_firstWrongPlace_49 : decode cX6_firstWrongPlace 49 = .ok (.iload_n 3, 1) := by decide +kernel
theorem dX6_firstWrongPlace_50 : decode cX6_firstWrongPlace 50 = .ok (.iload_n 1, 1) := by decide +kernel
theorem dX6_firstWrongPlace_51 : decode cX6_firstWrongPlace 51 = .ok (.invokestatic 30, 3) := by decide +kernel
theorem dX6_firstWrongPlace_54 : decode cX6_firstWrongPlace 54 = .ok (.putfield 19, 3) := by decide +kernel
theorem dX6_firstWrongPlace_57 : decode cX6_firstWrongPlace 57 = .ok (.aload_n 0, 1) := by decide +kernel
theorem dX6_firstWrongPlace_58 : decode cX6_firstWrongPlace 58 = .ok (.getfield 19, 3) := by decide +kernel
theorem dX6_firstWrongPlace_61 : decode cX6_firstWrongPlace 61 = .ok (.iconst (-1), 1) := by decide +kernel
theorem dX6_firstWrongPlace_62 : decode cX6_firstWrongPlace 62 = .ok (.if_icmp .ne 5, 3) := by decide +kernel
theorem dX6_firstWrongPlace_65 : decode cX6_firstWrongPlace 65 = .ok (.iload_n 2, 1) := by decide +kernel
theorem dX6_firstWrongPlace_66 : decode cX6_firstWrongPlace 66 = .ok (.ireturn, 1) := by decide +kernel
theorem dX6_firstWrongPlace_67 : decode cX6_firstWrongPlace 67 = .ok (.iinc 2 1, 3) := by decide +kernel
theorem dX6_firstWrongPlace_70 : decode cX6_firstWrongPlace 70 = .ok (.goto (-61), 3) := by decide +kernel
theorem dX6_firstWrongPlace_73 : decode cX6_firstWrongPlace 73 = .ok (.aload_n 0, 1) := by decide +kernel
theorem dX6_firstWrongPlace_74 : decode cX6_firstWrongPlace 74 = .ok (.getfield 15, 3) := by decide +kernel
theorem dX6_firstWrongPlace_77 : decode cX6_firstWrongPlace 77 = .ok (.ireturn, 1) := by decide +kernel
theorem dX6_isComplete_0 : decode cX6_isComplete 0 = .ok (.aload_n 0, 1) := by decide +kernel
theorem dX6_isComplete_1 : decode cX6_isComplete 1 = .ok (.invokevirtual 34, 3) := by decide +kernel
theorem dX6_isComplete_4 : decode cX6_isComplete 4 = .ok (.aload_n 0, 1) := by decide +kernel
theorem dX6_isComplete_5 : decode cX6_isComplete 5 = .ok (.getfield 15, 3) := by decide +kernel
theorem dX6_isComplete_8 : decode cX6_isComplete 8 = .ok (.if_icmp .ne 32, 3) := by decide +kernel
theorem dX6_isComplete_11 : decode cX6_isComplete 11 = .ok (.aload_n 0, 1) := by decide +kernel
theorem dX6_isComplete_12 : decode cX6_isComplete 12 = .ok (.getfield 19, 3) := by decide +kernel
theorem dX6_isComplete_15 : decode cX6_isComplete 15 = .ok (.iconst 4, 1) := by decide +kernel
theorem dX6_isComplete_16 : decode cX6_isComplete 16 = .ok (.if_icmp .eq 20, 3) := by decide +kernel
theorem dX6_isComplete_19 : decode cX6_isComplete 19 = .ok (.aload_n 0, 1) := by decide +kernel
theorem dX6_isComplete_20 : decode cX6_isComplete 20 = .ok (.getfield 19, 3) := by decide +kernel
theorem dX6_isComplete_23 : decode cX6_isComplete 23 = .ok (.iconst 5, 1) := by decide +kernel
theorem dX6_isComplete_24 : decode cX6_isComplete 24 = .ok (.if_icmp .eq 12, 3) := by decide +kernel
theorem dX6_isComplete_27 : decode cX6_isComplete 27 = .ok (.aload_n 0, 1) := by decide +kernel
theorem dX6_isComplete_28 : decode cX6_isComplete 28 = .ok (.getfield 19, 3) := by decide +kernel
theorem dX6_isComplete_31 : decode cX6_isComplete 31 = .ok (.bipush 7, 2) := by decide +kernel
theorem dX6_isComplete_33 : decode cX6_isComplete 33 = .ok (.if_icmp .ne 7, 3) := by decide +kernel
theorem dX6_isComplete_36 : decode cX6_isComplete 36 = .ok (.iconst 1, 1) := by decide +kernel
theorem dX6_isComplete_37 : decode cX6_isComplete 37 = .ok (.goto 4, 3) := by decide +kernel
theorem dX6_isComplete_40 : decode cX6_isComplete 40 = .ok (.iconst 0, 1) := by decide +kernel
theorem dX6_isComplete_41 : decode cX6_isComplete 41 = .ok (.ireturn, 1) := by decide +kernel
theorem dX6_standBehind_0 : decode cX6_standBehind 0 = .ok (.iload_n 0, 1) := by decide +kernel
theorem dX6_standBehind_1 : decode cX6_standBehind 1 = .ok (.tableswitch 191 0 7 #[47, 70, 82, 108, 130, 135, 165, 179], 47) := by decide +kernel
theorem dX6_standBehind_48 : decode cX6_standBehind 48 = .ok (.iload_n 1, 1) := by decide +kernel
theorem dX6_standBehind_49 : decode cX6_standBehind 49 = .ok (.invokestatic 38, 3) := by decide +kernel
theorem dX6_standBehind_52 : decode cX6_standBehind 52 = .ok (.ifCond .eq 5, 3) := by decide +kernel
theorem dX6_standBehind_55 : decode cX6_standBehind 55 = .ok (.iconst 1, 1) := by decide +kernel
theorem dX6_standBehind_56 : decode cX6_standBehind 56 = .ok (.ireturn, 1) := by decide +kernel
theorem dX6_standBehind_57 : decode cX6_standBehind 57 = .ok (.iload_n 1, 1) := by decide +kernel
theorem dX6_standBehind_58 : decode cX6_standBehind 58 = .ok (.invokestatic 41, 3) := by decide +kernel
theorem dX6_standBehind_61 : decode cX6_standBehind 61 = .ok (.ifCond .eq 8, 3) := by decide +kernel
theorem dX6_standBehind_64 : decode cX6_standBehind 64 = .ok (.bipush 6, 2) := by decide +kernel
theorem dX6_standBehind_66 : decode cX6_standBehind 66 = .ok (.goto 4, 3) := by decide +kernel
theorem dX6_standBehind_69 : decode cX6_standBehind 69 = .ok (.iconst (-1), 1) := by decide +kernel
theorem dX6_standBehind_70 : decode cX6_standBehind 70 = .ok (.ireturn, 1) := by decide +kernel
theorem dX6_standBehind_71 : decode cX6_standBehind 71 = .ok (.iload_n 1, 1) := by decide +kernel
theorem dX6_standBehind_72 : decode cX6_standBehind 72 = .ok (.bipush 58, 2) := by decide +kernel
theorem dX6_standBehind_74 : decode cX6_standBehind 74 = .ok (.if_icmp .ne 7, 3) := by decide +kernel
theorem dX6_standBehind_77 : decode cX6_standBehind 77 = .ok (.iconst 2, 1) := by decide +kernel
theorem dX6_standBehind_78 : decode cX6_standBehind 78 = .ok (.goto 4, 3) := by decide +kernel
theorem dX6_standBehind_81 : decode cX6_standBehind 81 = .ok (.iconst (-1), 1) := by decide +kernel
theorem dX6_standBehind_82 : decode cX6_standBehind 82 = .ok (.ireturn, 1) := by decide +kernel
theorem dX6_standBehind_83 : decode cX6_standBehind 83 = .ok (.iload_n 1, 1) := by decide +kernel
theorem dX6_standBehind_84 : decode cX6_standBehind 84 = .ok (.bipush 45, 2) := by decide +kernel
theorem dX6_standBehind_86 : decode cX6_standBehind 86 = .ok (.if_icmp .ne 5, 3) := by decide +kernel
theorem dX6_standBehind_89 : decode cX6_standBehind 89 = .ok (.iconst 3, 1) := by decide +kernel
theorem dX6_standBehind_90 : decode cX6_standBehind 90 = .ok (.ireturn, 1) := by decide +kernel
theorem dX6_standBehind_91 : decode cX6_standBehind 91 = .ok (.iload_n 1, 1) := by decide +kernel
theorem dX6_standBehind_92 : decode cX6_standBehind 92 = .ok (.bipush 48, 2) := by decide +kernel
theorem dX6_standBehind_94 : decode cX6_standBehind 94 = .ok (.if_icmp .ne 7, 3) := by decide +kernel
theorem dX6_standBehind_97 : decode cX6_standBehind 97 = .ok (.iconst 4, 1) := by decide +kernel
theorem dX6_standBehind_98 : decode cX6_standBehind 98 = .ok (.goto 10, 3) := by decide +kernel
theorem dX6_standBehind_101 : decode cX6_standBehind 101 = .ok (.iload_n 1, 1) := by decide +kernel
theorem dX6_standBehind_102 : decode cX6_standBehind 102 = .ok (.invokestatic 26, 3) := by decide +kernel
theorem dX6_standBehind_105 : decode cX6_standBehind 105 = .ok (.invokestatic 44, 3) := by decide +kernel
theorem dX6_standBehind_108 : decode cX6_standBehind 108 = .ok (.ireturn, 1) := by decide +kernel
theorem dX6_standBehind_109 : decode cX6_standBehind 109 = .ok (.iload_n 1, 1) := by decide +kernel
theorem dX6_standBehind_110 : decode cX6_standBehind 110 = .ok (.invokestatic 26, 3) := by decide +kernel
theorem dX6_standBehind_113 : decode cX6_standBehind 113 = .ok (.ifCond .eq 13, 3) := by decide +kernel
theorem dX6_standBehind_116 : decode cX6_standBehind 116 = .ok (.iload_n 1, 1) := by decide +kernel
theorem dX6_standBehind_117 : decode cX6_standBehind 117 = .ok (.bipush 48, 2) := by decide +kernel
theorem dX6_standBehind_119 : decode cX6_standBehind 119 = .ok (.if_icmp .eq 7, 3) := by decide +kernel
theorem dX6_standBehind_122 : decode cX6_standBehind 122 = .ok (.iconst 1, 1) := by decide +kernel
theorem dX6_standBehind_123 : decode cX6_standBehind 123 = .ok (.goto 4, 3) := by decide +kernel
theorem dX6_standBehind_126 : decode cX6_standBehind 126 = .ok (.iconst 0, 1) := by decide +kernel
theorem dX6_standBehind_127 : decode cX6_standBehind 127 = .ok (.invokestatic 44, 3) := by decide +kernel
theorem dX6_standBehind_130 : decode cX6_standBehind 130 = .ok (.ireturn, 1) := by decide +kernel
theorem dX6_standBehind_131 : decode cX6_standBehind 131 = .ok (.iload_n 1, 1) := by decide +kernel
theorem dX6_standBehind_132 : decode cX6_standBehind 132 = .ok (.invokestatic 48, 3) := by decide +kernel
theorem dX6_standBehind_135 : decode cX6_standBehind 135 = .ok (.ireturn, 1) := by decide +kernel
theorem dX6_standBehind_136 : decode cX6_standBehind 136 = .ok (.iload_n 1, 1) := by decide +kernel
theorem dX6_standBehind_137 : decode cX6_standBehind 137 = .ok (.invokestatic 26, 3) := by decide +kernel
theorem dX6_standBehind_140 : decode cX6_standBehind 140 = .ok (.ifCond .eq 21, 3) := by decide +kernel
theorem dX6_standBehind_143 : decode cX6_standBehind 143 = .ok (.iload_n 2, 1) := by decide +kernel
theorem dX6_standBehind_144 : decode cX6_standBehind 144 = .ok (.sipush 2000, 3) := by decide +kernel
theorem dX6_standBehind_147 : decode cX6_standBehind 147 = .ok (.if_icmp .gt 7, 3) := by decide +kernel
theorem dX6_standBehind_150 : decode cX6_standBehind 150 = .ok (.iconst 1, 1) := by decide +kernel
theorem dX6_standBehind_151 : decode cX6_standBehind 151 = .ok (.goto 4, 3) := by decide +kernel
theorem dX6_standBehind_154 : decode cX6_standBehind 154 = .ok (.iconst 0, 1) := by decide +kernel
theorem dX6_standBehind_155 : decode cX6_standBehind 155 = .ok (.invokestatic 44, 3) := by decide +kernel
theorem dX6_standBehind_158 : decode cX6_standBehind 158 = .ok (.goto 7, 3) := by decide +kernel
theorem dX6_standBehind_161 : decode cX6_standBehind 161 = .ok (.iload_n 1, 1) := by decide +kernel
theorem dX6_standBehind_162 : decode cX6_standBehind 162 = .ok (.invokestatic 48, 3) := by decide +kernel
theorem dX6_standBehind_165 : decode cX6_standBehind 165 = .ok (.ireturn, 1) := by decide +kernel
theorem dX6_standBehind_166 : decode cX6_standBehind 166 = .ok (.iload_n 1, 1) := by decide +kernel
theorem dX6_standBehind_167 : decode cX6_standBehind 167 = .ok (.invokestatic 38, 3) := by decide +kernel
theorem dX6_standBehind_170 : decode cX6_standBehind 170 = .ok (.ifCond .eq 8, 3) := by decide +kernel
theorem dX6_standBehind_173 : decode cX6_standBehind 173 = .ok (.bipush 7, 2) := by decide +kernel
theorem dX6_standBehind_175 : decode cX6_standBehind 175 = .ok (.goto 4, 3) := by decide +kernel
theorem dX6_standBehind_178 : decode cX6_standBehind 178 = .ok (.iconst (-1), 1) := by decide +kernel
theorem dX6_standBehind_179 : decode cX6_standBehind 179 = .ok (.ireturn, 1) := by decide +kernel
theorem dX6_standBehind_180 : decode cX6_standBehind 180 = .ok (.iload_n 1, 1) := by decide +kernel
theorem dX6_standBehind_181 : decode cX6_standBehind 181 = .ok (.bipush 59, 2) := by decide +kernel
theorem dX6_standBehind_183 : decode cX6_standBehind 183 = .ok (.if_icmp .ne 7, 3) := by decide +kernel
theorem dX6_standBehind_186 : decode cX6_standBehind 186 = .ok (.iconst 0, 1) := by decide +kernel
theorem dX6_standBehind_187 : decode cX6_standBehind 187 = .ok (.goto 4, 3) := by decide +kernel
theorem dX6_standBehind_190 : decode cX6_standBehind 190 = .ok (.iconst (-1), 1) := by decide +kernel
theorem dX6_standBehind_191 : decode cX6_standBehind 191 = .ok (.ireturn, 1) := by decide +kernel
theorem dX6_standBehind_192 : decode cX6_standBehind 192 = .ok (.iconst (-1), 1) := by decide +kernel
theorem dX6_standBehind_193 : decode cX6_standBehind 193 = .ok (.ireturn, 1) := by decide +kernel
theorem dX6_inNumberIf_0 : decode cX6_inNumberIf 0 = .ok (.iload_n 0, 1) := by decide +kernel
theorem dX6_inNumberIf_1 : decode cX6_inNumberIf 1 = .ok (.ifCond .eq 7, 3) := by decide +kernel
theorem dX6_inNumberIf_4 : decode cX6_inNumberIf 4 = .ok (.iconst 5, 1) := by decide +kernel
theorem dX6_inNumberIf_5 : decode cX6_inNumberIf 5 = .ok (.goto 4, 3) := by decide +kernel
theorem dX6_inNumberIf_8 : decode cX6_inNumberIf 8 = .ok (.iconst (-1), 1) := by decide +kernel
theorem dX6_inNumberIf_9 : decode cX6_inNumberIf 9 = .ok (.ireturn, 1) := by decide +kernel
theorem dX6_behindSample_0 : decode cX6_behindSample 0 = .ok (.iload_n 0, 1) := by decide +kernel
theorem dX6_behindSample_1 : decode cX6_behindSample 1 = .ok (.bipush 44, 2) := by decide +kernel
theorem dX6_behindSample_3 : decode cX6_behindSample 3 = .ok (.if_icmp .ne 5, 3) := by decide +kernel
theorem dX6_behindSample_6 : decode cX6_behindSample 6 = .ok (.iconst 2, 1) := by decide +kernel
theorem dX6_behindSample_7 : decode cX6_behindSample 7 = .ok (.ireturn, 1) := by decide +kernel
theorem dX6_behindSample_8 : decode cX6_behindSample 8 = .ok (.iload_n 0, 1) := by decide +kernel
theorem dX6_behindSample_9 : decode cX6_behindSample 9 = .ok (.bipush 59, 2) := by decide +kernel
theorem dX6_behindSample_11 : decode cX6_behindSample 11 = .ok (.if_icmp .ne 7, 3) := by decide +kernel
theorem dX6_behindSample_14 : decode cX6_behindSample 14 = .ok (.iconst 0, 1) := by decide +kernel
theorem dX6_behindSample_15 : decode cX6_behindSample 15 = .ok (.goto 4, 3) := by decide +kernel
theorem dX6_behindSample_18 : decode cX6_behindSample 18 = .ok (.iconst (-1), 1) := by decide +kernel
theorem dX6_behindSample_19 : decode cX6_behindSample 19 = .ok (.ireturn, 1) := by decide +kernel
theorem dX6_isVoice_0 : decode cX6_isVoice 0 = .ok (.iload_n 0, 1) := by decide +kernel
theorem dX6_isVoice_1 : decode cX6_isVoice 1 = .ok (.bipush 48, 2) := by decide +kernel
theorem dX6_isVoice_3 : decode cX6_isVoice 3 = .ok (.if_icmp .lt 13, 3) := by decide +kernel
theorem dX6_isVoice_6 : decode cX6_isVoice 6 = .ok (.iload_n 0, 1) := by decide +kernel
theorem dX6_isVoice_7 : decode cX6_isVoice 7 = .ok (.bipush 51, 2) := by decide +kernel
theorem dX6_isVoice_9 : decode cX6_isVoice 9 = .ok (.if_icmp .ge 7, 3) := by decide +kernel
theorem dX6_isVoice_12 : decode cX6_isVoice 12 = .ok (.iconst 1, 1) := by decide +kernel
theorem dX6_isVoice_13 : decode cX6_isVoice 13 = .ok (.goto 4, 3) := by decide +kernel
theorem dX6_isVoice_16 : decode cX6_isVoice 16 = .ok (.iconst 0, 1) := by decide +kernel
theorem dX6_isVoice_17 : decode cX6_isVoice 17 = .ok (.ireturn, 1) := by decide +kernel
theorem dX6_isDigit_0 : decode cX6_isDigit 0 = .ok (.iload_n 0, 1) := by decide +kernel
theorem dX6_isDigit_1 : decode cX6_isDigit 1 = .ok (.bipush 48, 2) := by decide +kernel
theorem dX6_isDigit_3 : decode cX6_isDigit 3 = .ok (.if_icmp .lt 13, 3) := by decide +kernel
theorem dX6_isDigit_6 : decode cX6_isDigit 6 = .ok (.iload_n 0, 1) := by decide +kernel
theorem dX6_isDigit_7 : decode cX6_isDigit 7 = .ok (.bipush 57, 2) := by decide +kernel
theorem dX6_isDigit_9 : decode cX6_isDigit 9 = .ok (.if_icmp .gt 7, 3) := by decide +kernel
theorem dX6_isDigit_12 : decode cX6_isDigit 12 = .ok (.iconst 1, 1) := by decide +kernel
theorem dX6_isDigit_13 : decode cX6_isDigit 13 = .ok (.goto 4, 3) := by decide +kernel
theorem dX6_isDigit_16 : decode cX6_isDigit 16 = .ok (.iconst 0, 1) := by decide +kernel
theorem dX6_isDigit_17 : decode cX6_isDigit 17 = .ok (.ireturn, 1) := by decide +kernel
theorem dX6_isLetter_0 : decode cX6_isLetter 0 = .ok (.iload_n 0, 1) := by decide +kernel
theorem dX6_isLetter_1 : decode cX6_isLetter 1 = .ok (.bipush 100, 2) := by decide +kernel
theorem dX6_isLetter_3 : decode cX6_isLetter 3 = .ok (.if_icmp .eq 15, 3) := by decide +kernel
theorem dX6_isLetter_6 : decode cX6_isLetter 6 = .ok (.iload_n 0, 1) := by decide +kernel
theorem dX6_isLetter_7 : decode cX6_isLetter 7 = .ok (.bipush 108, 2) := by decide +kernel
theorem dX6_isLetter_9 : decode cX6_isLetter 9 = .ok (.if_icmp .eq 9, 3) := by decide +kernel
theorem dX6_isLetter_12 : decode cX6_isLetter 12 = .ok (.iload_n 0, 1) := by decide +kernel
theorem dX6_isLetter_13 : decode cX6_isLetter 13 = .ok (.bipush 120, 2) := by decide +kernel
theorem dX6_isLetter_15 : decode cX6_isLetter 15 = .ok (.if_icmp .ne 7, 3) := by decide +kernel
theorem dX6_isLetter_18 : decode cX6_isLetter 18 = .ok (.iconst 1, 1) := by decide +kernel
theorem dX6_isLetter_19 : decode cX6_isLetter 19 = .ok (.goto 4, 3) := by decide +kernel
theorem dX6_isLetter_22 : decode cX6_isLetter 22 = .ok (.iconst 0, 1) := by decide +kernel
theorem dX6_isLetter_23 : decode cX6_isLetter 23 = .ok (.ireturn, 1) := by decide +kernel
theorem dX6_startReading_0 : decode cX6_startReading 0 = .ok (.aload_n 0, 1) := by decide +kernel
theorem dX6_startReading_1 : decode cX6_startReading 1 = .ok (.iconst 0, 1) := by decide +kernel
theorem dX6_startReading_2 : decode cX6_startReading 2 = .ok (.putfield 52, 3) := by decide +kernel
theorem dX6_startReading_5 : decode cX6_startReading 5 = .ok (.return_, 1) := by decide +kernel
theorem dX6_readDeed_0 : decode cX6_readDeed 0 = .ok (.aload_n 0, 1) := by decide +kernel
theorem dX6_readDeed_1 : decode cX6_readDeed 1 = .ok (.getfield 52, 3) := by decide +kernel
theorem dX6_readDeed_4 : decode cX6_readDeed 4 = .ok (.aload_n 0, 1) := by decide +kernel
theorem dX6_readDeed_5 : decode cX6_readDeed 5 = .ok (.getfield 15, 3) := by decide +kernel
theorem dX6_readDeed_8 : decode cX6_readDeed 8 = .ok (.if_icmp .lt 5, 3) := by decide +kernel
theorem dX6_readDeed_11 : decode cX6_readDeed 11 = .ok (.iconst 0, 1) := by decide +kernel
theorem dX6_readDeed_12 : decode cX6_readDeed 12 = .ok (.ireturn, 1) := by decide +kernel
theorem dX6_readDeed_13 : decode cX6_readDeed 13 = .ok (.aload_n 0, 1) := by decide +kernel
theorem dX6_readDeed_14 : decode cX6_readDeed 14 = .ok (.aload_n 0, 1) := by decide +kernel
theorem dX6_readDeed_15 : decode cX6_readDeed 15 = .ok (.getfield 52, 3) := by decide +kernel
theorem dX6_readDeed_18 : decode cX6_readDeed 18 = .ok (.invokevirtual 22, 3) := by decide +kernel
theorem dX6_readDeed_21 : decode cX6_readDeed 21 = .ok (.istore_n 1, 1) := by decide +kernel
theorem dX6_readDeed_22 : decode cX6_readDeed 22 = .ok (.iload_n 1, 1) := by decide +kernel
theorem dX6_readDeed_23 : decode cX6_readDeed 23 = .ok (.invokestatic 41, 3) := by decide +kernel
theorem dX6_readDeed_26 : decode cX6_readDeed 26 = .ok (.ifCond .eq 37, 3) := by decide +kernel
theorem dX6_readDeed_29 : decode cX6_readDeed 29 = .ok (.aload_n 0, 1) := by decide +kernel
theorem dX6_readDeed_30 : decode cX6_readDeed 30 = .ok (.iload_n 1, 1) := by decide +kernel
theorem dX6_readDeed_31 : decode cX6_readDeed 31 = .ok (.putfield 55, 3) := by decide +kernel
theorem dX6_readDeed_34 : decode cX6_readDeed 34 = .ok (.aload_n 0, 1) := by decide +kernel
theorem dX6_readDeed_35 : decode cX6_readDeed 35 = .ok (.aload_n 0, 1) := by decide +kernel
theorem dX6_readDeed_36 : decode cX6_readDeed 36 = .ok (.aload_n 0, 1) := by decide +kernel
theorem dX6_readDeed_37 : decode cX6_readDeed 37 = .ok (.getfield 52, 3) := by decide +kernel
theorem dX6_readDeed_40 : decode cX6_readDeed 40 = .ok (.iconst 1, 1) := by decide +kernel
theorem dX6_readDeed_41 : decode cX6_readDeed 41 = .ok (.iadd, 1) := by decide +kernel
theorem dX6_readDeed_42 : decode cX6_readDeed 42 = .ok (.invokevirtual 22, 3) := by decide +kernel
theorem dX6_readDeed_45 : decode cX6_readDeed 45 = .ok (.bipush 48, 2) := by decide +kernel
theorem dX6_readDeed_47 : decode cX6_readDeed 47 = .ok (.isub, 1) := by decide +kernel
theorem dX6_readDeed_48 : decode cX6_readDeed 48 = .ok (.putfield 59, 3) := by decide +kernel
theorem dX6_readDeed_51 : decode cX6_readDeed 51 = .ok (.aload_n 0, 1) := by decide +kernel
theorem dX6_readDeed_52 : decode cX6_readDeed 52 = .ok (.dup, 1) := by decide +kernel
theorem dX6_readDeed_53 : decode cX6_readDeed 53 = .ok (.getfield 52, 3) := by decide +kernel
theorem dX6_readDeed_56 : decode cX6_readDeed 56 = .ok (.iconst 3, 1) := by decide +kernel
theorem dX6_readDeed_57 : decode cX6_readDeed 57 = .ok (.iadd, 1) := by decide +kernel
theorem dX6_readDeed_58 : decode cX6_readDeed 58 = .ok (.putfield 52, 3) := by decide +kernel
theorem dX6_readDeed_61 : decode cX6_readDeed 61 = .ok (.iconst 1, 1) := by decide +kernel
theorem dX6_readDeed_62 : decode cX6_readDeed 62 = .ok (.ireturn, 1) := by decide +kernel
theorem dX6_readDeed_63 : decode cX6_readDeed 63 = .ok (.aload_n 0, 1) := by decide +kernel
theorem dX6_readDeed_64 : decode cX6_readDeed 64 = .ok (.aload_n 0, 1) := by decide +kernel
theorem dX6_readDeed_65 : decode cX6_readDeed 65 = .ok (.getfield 52, 3) := by decide +kernel
theorem dX6_readDeed_68 : decode cX6_readDeed 68 = .ok (.iconst 1, 1) := by decide +kernel
theorem dX6_readDeed_69 : decode cX6_readDeed 69 = .ok (.iadd, 1) := by decide +kernel
theorem dX6_readDeed_70 : decode cX6_readDeed 70 = .ok (.invokevirtual 22, 3) := by decide +kernel
theorem dX6_readDeed_73 : decode cX6_readDeed 73 = .ok (.bipush 58, 2) := by decide +kernel
theorem dX6_readDeed_75 : decode cX6_readDeed 75 = .ok (.if_icmp .ne 21, 3) := by decide +kernel
theorem dX6_readDeed_78 : decode cX6_readDeed 78 = .ok (.aload_n 0, 1) := by decide +kernel
theorem dX6_readDeed_79 : decode cX6_readDeed 79 = .ok (.iload_n 1, 1) := by decide +kernel
theorem dX6_readDeed_80 : decode cX6_readDeed 80 = .ok (.bipush 48, 2) := by decide +kernel
theorem dX6_readDeed_82 : decode cX6_readDeed 82 = .ok (.isub, 1) := by decide +kernel
theorem dX6_readDeed_83 : decode cX6_readDeed 83 = .ok (.putfield 59, 3) := by decide +kernel
theorem dX6_readDeed_86 : decode cX6_readDeed 86 = .ok (.aload_n 0, 1) := by decide +kernel
theorem dX6_readDeed_87 : decode cX6_readDeed 87 = .ok (.dup, 1) := by decide +kernel
theorem dX6_readDeed_88 : decode cX6_readDeed 88 = .ok (.getfield 52, 3) := by decide +kernel
theorem dX6_readDeed_91 : decode cX6_readDeed 91 = .ok (.iconst 2, 1) := by decide +kernel
theorem dX6_readDeed_92 : decode cX6_readDeed 92 = .ok (.iadd, 1) := by decide +kernel
theorem dX6_readDeed_93 : decode cX6_readDeed 93 = .ok (.putfield 52, 3) := by decide +kernel
theorem dX6_readDeed_96 : decode cX6_readDeed 96 = .ok (.aload_n 0, 1) := by decide +kernel
theorem dX6_readDeed_97 : decode cX6_readDeed 97 = .ok (.bipush 58, 2) := by decide +kernel
theorem dX6_readDeed_99 : decode cX6_readDeed 99 = .ok (.putfield 55, 3) := by decide +kernel
theorem dX6_readDeed_102 : decode cX6_readDeed 102 = .ok (.aload_n 0, 1) := by decide +kernel
theorem dX6_readDeed_103 : decode cX6_readDeed 103 = .ok (.invokevirtual 62, 3) := by decide +kernel
theorem dX6_readDeed_106 : decode cX6_readDeed 106 = .ok (.aload_n 0, 1) := by decide +kernel
theorem dX6_readDeed_107 : decode cX6_readDeed 107 = .ok (.dup, 1) := by decide +kernel
theorem dX6_readDeed_108 : decode cX6_readDeed 108 = .ok (.getfield 52, 3) := by decide +kernel
theorem dX6_readDeed_111 : decode cX6_readDeed 111 = .ok (.iconst 1, 1) := by decide +kernel
theorem dX6_readDeed_112 : decode cX6_readDeed 112 = .ok (.iadd, 1) := by decide +kernel
theorem dX6_readDeed_113 : decode cX6_readDeed 113 = .ok (.putfield 52, 3) := by decide +kernel
theorem dX6_readDeed_116 : decode cX6_readDeed 116 = .ok (.iconst 1, 1) := by decide +kernel
theorem dX6_readDeed_117 : decode cX6_readDeed 117 = .ok (.ireturn, 1) := by decide +kernel
theorem dX6_readSample_0 : decode cX6_readSample 0 = .ok (.aload_n 0, 1) := by decide +kernel
theorem dX6_readSample_1 : decode cX6_readSample 1 = .ok (.aload_n 0, 1) := by decide +kernel
theorem dX6_readSample_2 : decode cX6_readSample 2 = .ok (.getfield 52, 3) := by decide +kernel
theorem dX6_readSample_5 : decode cX6_readSample 5 = .ok (.invokevirtual 22, 3) := by decide +kernel
theorem dX6_readSample_8 : decode cX6_readSample 8 = .ok (.bipush 45, 2) := by decide +kernel
theorem dX6_readSample_10 : decode cX6_readSample 10 = .ok (.if_icmp .ne 7, 3) := by decide +kernel
theorem dX6_readSample_13 : decode cX6_readSample 13 = .ok (.iconst 1, 1) := by decide +kernel
theorem dX6_readSample_14 : decode cX6_readSample 14 = .ok (.goto 4, 3) := by decide +kernel
theorem dX6_readSample_17 : decode cX6_readSample 17 = .ok (.iconst 0, 1) := by decide +kernel
theorem dX6_readSample_18 : decode cX6_readSample 18 = .ok (.istore_n 1, 1) := by decide +kernel
theorem dX6_readSample_19 : decode cX6_readSample 19 = .ok (.iload_n 1, 1) := by decide +kernel
theorem dX6_readSample_20 : decode cX6_readSample 20 = .ok (.ifCond .eq 13, 3) := by decide +kernel
theorem dX6_readSample_23 : decode cX6_readSample 23 = .ok (.aload_n 0, 1) := by decide +kernel
theorem dX6_readSample_24 : decode cX6_readSample 24 = .ok (.dup, 1) := by decide +kernel
theorem dX6_readSample_25 : decode cX6_readSample 25 = .ok (.getfield 52, 3) := by decide +kernel
theorem dX6_readSample_28 : decode cX6_readSample 28 = .ok (.iconst 1, 1) := by decide +kernel
theorem dX6_readSample_29 : decode cX6_readSample 29 = .ok (.iadd, 1) := by decide +kernel
theorem dX6_readSample_30 : decode cX6_readSample 30 = .ok (.putfield 52, 3) := by decide +kernel
theorem dX6_readSample_33 : decode cX6_readSample 33 = .ok (.iconst 0, 1) := by decide +kernel
theorem dX6_readSample_34 : decode cX6_readSample 34 = .ok (.istore_n 2, 1) := by decide +kernel
theorem dX6_readSample_35 : decode cX6_readSample 35 = .ok (.aload_n 0, 1) := by decide +kernel
theorem dX6_readSample_36 : decode cX6_readSample 36 = .ok (.getfield 52, 3) := by decide +kernel
theorem dX6_readSample_39 : decode cX6_readSample 39 = .ok (.aload_n 0, 1) := by decide +kernel
theorem dX6_readSample_40 : decode cX6_readSample 40 = .ok (.getfield 15, 3) := by decide +kernel
theorem dX6_readSample_43 : decode cX6_readSample 43 = .ok (.if_icmp .ge 47, 3) := by decide +kernel
theorem dX6_readSample_46 : decode cX6_readSample 46 = .ok (.aload_n 0, 1) := by decide +kernel
theorem dX6_readSample_47 : decode cX6_readSample 47 = .ok (.aload_n 0, 1) := by decide +kernel
theorem dX6_readSample_48 : decode cX6_readSample 48 = .ok (.getfield 52, 3) := by decide +kernel
theorem dX6_readSample_51 : decode cX6_readSample 51 = .ok (.invokevirtual 22, 3) := by decide +kernel
theorem dX6_readSample_54 : decode cX6_readSample 54 = .ok (.invokestatic 26, 3) := by decide +kernel
theorem dX6_readSample_57 : decode cX6_readSample 57 = .ok (.ifCond .eq 33, 3) := by decide +kernel
theorem dX6_readSample_60 : decode cX6_readSample 60 = .ok (.bipush 10, 2) := by decide +kernel
theorem dX6_readSample_62 : decode cX6_readSample 62 = .ok (.iload_n 2, 1) := by decide +kernel
theorem dX6_readSample_63 : decode cX6_readSample 63 = .ok (.imul, 1) := by decide +kernel
theorem dX6_readSample_64 : decode cX6_readSample 64 = .ok (.aload_n 0, 1) := by decide +kernel
theorem dX6_readSample_65 : decode cX6_readSample 65 = .ok (.aload_n 0, 1) := by decide +kernel
theorem dX6_readSample_66 : decode cX6_readSample 66 = .ok (.getfield 52, 3) := by decide +kernel
theorem dX6_readSample_69 : decode cX6_readSample 69 = .ok (.invokevirtual 22, 3) := by decide +kernel
theorem dX6_readSample_72 : decode cX6_readSample 72 = .ok (.iadd, 1) := by decide +kernel
theorem dX6_readSample_73 : decode cX6_readSample 73 = .ok (.bipush 48, 2) := by decide +kernel
theorem dX6_readSample_75 : decode cX6_readSample 75 = .ok (.isub, 1) := by decide +kernel
theorem dX6_readSample_76 : decode cX6_readSample 76 = .ok (.istore_n 2, 1) := by decide +kernel
theorem dX6_readSample_77 : decode cX6_readSample 77 = .ok (.aload_n 0, 1) := by decide +kernel
theorem dX6_readSample_78 : decode cX6_readSample 78 = .ok (.dup, 1) := by decide +kernel
theorem dX6_readSample_79 : decode cX6_readSample 79 = .ok (.getfield 52, 3) := by decide +kernel
theorem dX6_readSample_82 : decode cX6_readSample 82 = .ok (.iconst 1, 1) := by decide +kernel
theorem dX6_readSample_83 : decode cX6_readSample 83 = .ok (.iadd, 1) := by decide +kernel
theorem dX6_readSample_84 : decode cX6_readSample 84 = .ok (.putfield 52, 3) := by decide +kernel
theorem dX6_readSample_87 : decode cX6_readSample 87 = .ok (.goto (-52), 3) := by decide +kernel
theorem dX6_readSample_90 : decode cX6_readSample 90 = .ok (.aload_n 0, 1) := by decide +kernel
theorem dX6_readSample_91 : decode cX6_readSample 91 = .ok (.iload_n 1, 1) := by decide +kernel
theorem dX6_readSample_92 : decode cX6_readSample 92 = .ok (.ifCond .eq 8, 3) := by decide +kernel
theorem dX6_readSample_95 : decode cX6_readSample 95 = .ok (.iload_n 2, 1) := by decide +kernel
theorem dX6_readSample_96 : decode cX6_readSample 96 = .ok (.ineg, 1) := by decide +kernel
theorem dX6_readSample_97 : decode cX6_readSample 97 = .ok (.goto 4, 3) := by decide +kernel
theorem dX6_readSample_100 : decode cX6_readSample 100 = .ok (.iload_n 2, 1) := by decide +kernel
theorem dX6_readSample_101 : decode cX6_readSample 101 = .ok (.putfield 65, 3) := by decide +kernel
theorem dX6_readSample_104 : decode cX6_readSample 104 = .ok (.return_, 1) := by decide +kernel
theorem dX7_init_0 : decode cX7_init 0 = .ok (.aload_n 0, 1) := by decide +kernel
theorem dX7_init_1 : decode cX7_init 1 = .ok (.invokespecial 3, 3) := by decide +kernel
theorem dX7_init_4 : decode cX7_init 4 = .ok (.aload_n 0, 1) := by decide +kernel
theorem dX7_init_5 : decode cX7_init 5 = .ok (.new 9, 3) := by decide +kernel
theorem dX7_init_8 : decode cX7_init 8 = .ok (.dup, 1) := by decide +kernel
theorem dX7_init_9 : decode cX7_init 9 = .ok (.invokespecial 11, 3) := by decide +kernel
theorem dX7_init_12 : decode cX7_init 12 = .ok (.putfield 12, 3) := by decide +kernel
theorem dX7_init_15 : decode cX7_init 15 = .ok (.aload_n 0, 1) := by decide +kernel
theorem dX7_init_16 : decode cX7_init 16 = .ok (.new 18, 3) := by decide +kernel
theorem dX7_init_19 : decode cX7_init 19 = .ok (.dup, 1) := by decide +kernel
theorem dX7_init_20 : decode cX7_init 20 = .ok (.invokespecial 20, 3) := by decide +kernel
theorem dX7_init_23 : decode cX7_init 23 = .ok (.putfield 21, 3) := by decide +kernel
theorem dX7_init_26 : decode cX7_init 26 = .ok (.aload_n 0, 1) := by decide +kernel
theorem dX7_init_27 : decode cX7_init 27 = .ok (.bipush 8, 2) := by decide +kernel
theorem dX7_init_29 : decode cX7_init 29 = .ok (.anewarray 25, 3) := by decide +kernel
theorem dX7_init_32 : decode cX7_init 32 = .ok (.putfield 27, 3) := by decide +kernel
theorem dX7_init_35 : decode cX7_init 35 = .ok (.iconst 0, 1) := by decide +kernel
theorem dX7_init_36 : decode cX7_init 36 = .ok (.istore_n 1, 1) := by decide +kernel
theorem dX7_init_37 : decode cX7_init 37 = .ok (.iload_n 1, 1) := by decide +kernel
theorem dX7_init_38 : decode cX7_init 38 = .ok (.aload_n 0, 1) := by decide +kernel
theorem dX7_init_39 : decode cX7_init 39 = .ok (.getfield 27, 3) := by decide +kernel
theorem dX7_init_42 : decode cX7_init 42 = .ok (.arraylength, 1) := by decide +kernel
theorem dX7_init_43 : decode cX7_init 43 = .ok (.if_icmp .ge 22, 3) := by decide +kernel
theorem dX7_init_46 : decode cX7_init 46 = .ok (.aload_n 0, 1) := by decide +kernel
theorem dX7_init_47 : decode cX7_init 47 = .ok (.getfield 27, 3) := by decide +kernel
theorem dX7_init_50 : decode cX7_init 50 = .ok (.iload_n 1, 1) := by decide +kernel
theorem dX7_init_51 : decode cX7_init 51 = .ok (.new 25, 3) := by decide +kernel
theorem dX7_init_54 : decode cX7_init 54 = .ok (.dup, 1) := by decide +kernel
theorem dX7_init_55 : decode cX7_init 55 = .ok (.invokespecial 31, 3) := by decide +kernel
theorem dX7_init_58 : decode cX7_init 58 = .ok (.aastore, 1) := by decide +kernel
theorem dX7_init_59 : decode cX7_init 59 = .ok (.iinc 1 1, 3) := by decide +kernel
theorem dX7_init_62 : decode cX7_init 62 = .ok (.goto (-25), 3) := by decide +kernel
theorem dX7_init_65 : decode cX7_init 65 = .ok (.return_, 1) := by decide +kernel
theorem dX7_copyFrom_0 : decode cX7_copyFrom 0 = .ok (.aload_n 0, 1) := by decide +kernel
theorem dX7_copyFrom_1 : decode cX7_copyFrom 1 = .ok (.getfield 12, 3) := by decide +kernel
theorem dX7_copyFrom_4 : decode cX7_copyFrom 4 = .ok (.aload_n 1, 1) := by decide +kernel
theorem dX7_copyFrom_5 : decode cX7_copyFrom 5 = .ok (.getfield 12, 3) := by decide +kernel
theorem dX7_copyFrom_8 : decode cX7_copyFrom 8 = .ok (.invokevirtual 32, 3) := by decide +kernel
theorem dX7_copyFrom_11 : decode cX7_copyFrom 11 = .ok (.aload_n 0, 1) := by decide +kernel
theorem dX7_copyFrom_12 : decode cX7_copyFrom 12 = .ok (.getfield 21, 3) := by decide +kernel
theorem dX7_copyFrom_15 : decode cX7_copyFrom 15 = .ok (.aload_n 1, 1) := by decide +kernel
theorem dX7_copyFrom_16 : decode cX7_copyFrom 16 = .ok (.getfield 21, 3) := by decide +kernel
theorem dX7_copyFrom_19 : decode cX7_copyFrom 19 = .ok (.invokevirtual 36, 3) := by decide +kernel
theorem dX7_copyFrom_22 : decode cX7_copyFrom 22 = .ok (.iconst 0, 1) := by decide +kernel
theorem dX7_copyFrom_23 : decode cX7_copyFrom 23 = .ok (.istore_n 2, 1) := by decide +kernel
theorem dX7_copyFrom_24 : decode cX7_copyFrom 24 = .ok (.iload_n 2, 1) := by decide +kernel
theorem dX7_copyFrom_25 : decode cX7_copyFrom 25 = .ok (.aload_n 0, 1) := by decide +kernel
theorem dX7_copyFrom_26 : decode cX7_copyFrom 26 = .ok (.getfield 27, 3) := by decide +kernel
theorem dX7_copyFrom_29 : decode cX7_copyFrom 29 = .ok (.arraylength, 1) := by decide +kernel
theorem dX7_copyFrom_30 : decode cX7_copyFrom 30 = .ok (.if_icmp .ge 33, 3) := by decide +kernel
theorem dX7_copyFrom_33 : decode cX7_copyFrom 33 = .ok (.iload_n 2, 1) := by decide +kernel
theorem dX7_copyFrom_34 : decode cX7_copyFrom 34 = .ok (.aload_n 1, 1) := by decide +kernel
theorem dX7_copyFrom_35 : decode cX7_copyFrom 35 = .ok (.getfield 27, 3) := by decide +kernel
theorem dX7_copyFrom_38 : decode cX7_copyFrom 38 = .ok (.arraylength, 1) := by decide +kernel
theorem dX7_copyFrom_39 : decode cX7_copyFrom 39 = .ok (.if_icmp .ge 24, 3) := by decide +kernel
theorem dX7_copyFrom_42 : decode cX7_copyFrom 42 = .ok (.aload_n 0, 1) := by decide +kernel
theorem dX7_copyFrom_43 : decode cX7_copyFrom 43 = .ok (.getfield 27, 3) := by decide +kernel
theorem dX7_copyFrom_46 : decode cX7_copyFrom 46 = .ok (.iload_n 2, 1) := by decide +kernel
theorem dX7_copyFrom_47 : decode cX7_copyFrom 47 = .ok (.aaload, 1) := by decide +kernel
theorem dX7_copyFrom_48 : decode cX7_copyFrom 48 = .ok (.aload_n 1, 1) := by decide +kernel
theorem dX7_copyFrom_49 : decode cX7_copyFrom 49 = .ok (.getfield 27, 3) := by decide +kernel
theorem dX7_copyFrom_52 : decode cX7_copyFrom 52 = .ok (.iload_n 2, 1) := by decide +kernel
theorem dX7_copyFrom_53 : decode cX7_copyFrom 53 = .ok (.aaload, 1) := by decide +kernel
theorem dX7_copyFrom_54 : decode cX7_copyFrom 54 = .ok (.invokevirtual 39, 3) := by decide +kernel
theorem dX7_copyFrom_57 : decode cX7_copyFrom 57 = .ok (.iinc 2 1, 3) := by decide +kernel
theorem dX7_copyFrom_60 : decode cX7_copyFrom 60 = .ok (.goto (-36), 3) := by decide +kernel
theorem dX7_copyFrom_63 : decode cX7_copyFrom 63 = .ok (.aload_n 0, 1) := by decide +kernel
theorem dX7_copyFrom_64 : decode cX7_copyFrom 64 = .ok (.aload_n 1, 1) := by decide +kernel
theorem dX7_copyFrom_65 : decode cX7_copyFrom 65 = .ok (.getfield 42, 3) := by decide +kernel
theorem dX7_copyFrom_68 : decode cX7_copyFrom 68 = .ok (.putfield 42, 3) := by decide +kernel
theorem dX7_copyFrom_71 : decode cX7_copyFrom 71 = .ok (.aload_n 0, 1) := by decide +kernel
theorem dX7_copyFrom_72 : decode cX7_copyFrom 72 = .ok (.aload_n 1, 1) := by decide +kernel
theorem dX7_copyFrom_73 : decode cX7_copyFrom 73 = .ok (.getfield 46, 3) := by decide +kernel
theorem dX7_copyFrom_76 : decode cX7_copyFrom 76 = .ok (.putfield 46, 3) := by decide +kernel
theorem dX7_copyFrom_79 : decode cX7_copyFrom 79 = .ok (.return_, 1) := by decide +kernel
theorem dX7_countedAs_0 : decode cX7_countedAs 0 = .ok (.iload_n 1, 1) := by decide +kernel
theorem dX7_countedAs_1 : decode cX7_countedAs 1 = .ok (.tableswitch 69 0 4 #[35, 43, 51, 59, 64], 35) := by decide +kernel
theorem dX7_countedAs_36 : decode cX7_countedAs 36 = .ok (.aload_n 0, 1) := by decide +kernel
theorem dX7_countedAs_37 : decode cX7_countedAs 37 = .ok (.getfield 12, 3) := by decide +kernel
theorem dX7_countedAs_40 : decode cX7_countedAs 40 = .ok (.getfield 49, 3) := by decide +kernel
theorem dX7_countedAs_43 : decode cX7_countedAs 43 = .ok (.ireturn, 1) := by decide +kernel
theorem dX7_countedAs_44 : decode cX7_countedAs 44 = .ok (.aload_n 0, 1) := by decide +kernel
theorem dX7_countedAs_45 : decode cX7_countedAs 45 = .ok (.getfield 12, 3) := by decide +kernel
theorem dX7_countedAs_48 : decode cX7_countedAs 48 = .ok (.getfield 52, 3) := by decide +kernel
theorem dX7_countedAs_51 : decode cX7_countedAs 51 = .ok (.ireturn, 1) := by decide +kernel
theorem dX7_countedAs_52 : decode cX7_countedAs 52 = .ok (.aload_n 0, 1) := by decide +kernel
theorem dX7_countedAs_53 : decode cX7_countedAs 53 = .ok (.getfield 12, 3) := by decide +kernel
theorem dX7_countedAs_56 : decode cX7_countedAs 56 = .ok (.getfield 55, 3) := by decide +kernel
theorem dX7_countedAs_59 : decode cX7_countedAs 59 = .ok (.ireturn, 1) := by decide +kernel
theorem dX7_countedAs_60 : decode cX7_countedAs 60 = .ok (.aload_n 0, 1) := by decide +kernel
theorem dX7_countedAs_61 : decode cX7_countedAs 61 = .ok (.getfield 42, 3) := by decide +kernel
theorem dX7_countedAs_64 : decode cX7_countedAs 64 = .ok (.ireturn, 1) := by decide +kernel
theorem dX7_countedAs_65 : decode cX7_countedAs 65 = .ok (.aload_n 0, 1) := by decide +kernel
theorem dX7_countedAs_66 : decode cX7_countedAs 66 = .ok (.getfield 46, 3) := by decide +kernel
theorem dX7_countedAs_69 : decode cX7_countedAs 69 = .ok (.ireturn, 1) := by decide +kernel
theorem dX7_countedAs_70 : decode cX7_countedAs 70 = .ok (.aload_n 0, 1) := by decide +kernel
theorem dX7_countedAs_71 : decode cX7_countedAs 71 = .ok (.getfield 21, 3) := by decide +kernel
theorem dX7_countedAs_74 : decode cX7_countedAs 74 = .ok (.getfield 58, 3) := by decide +kernel
theorem dX7_countedAs_77 : decode cX7_countedAs 77 = .ok (.ireturn, 1) := by decide +kernel
theorem dX7_packetAt_0 : decode cX7_packetAt 0 = .ok (.iload_n 1, 1) := by decide +kernel
theorem dX7_packetAt_1 : decode cX7_packetAt 1 = .ok (.ifCond .lt 29, 3) := by decide +kernel
theorem dX7_packetAt_4 : decode cX7_packetAt 4 = .ok (.iload_n 1, 1) := by decide +kernel
theorem dX7_packetAt_5 : decode cX7_packetAt 5 = .ok (.aload_n 0, 1) := by decide +kernel
theorem dX7_packetAt_6 : decode cX7_packetAt 6 = .ok (.getfield 42, 3) := by decide +kernel
theorem dX7_packetAt_9 : decode cX7_packetAt 9 = .ok (.if_icmp .ge 21, 3) := by decide +kernel
theorem dX7_packetAt_12 : decode cX7_packetAt 12 = .ok (.iload_n 1, 1) := by decide +kernel
theorem dX7_packetAt_13 : decode cX7_packetAt 13 = .ok (.aload_n 0, 1) := by decide +kernel
theorem dX7_packetAt_14 : decode cX7_packetAt 14 = .ok (.getfield 27, 3) := by decide +kernel
theorem dX7_packetAt_17 : decode cX7_packetAt 17 = .ok (.arraylength, 1) := by decide +kernel
theorem dX7_packetAt_18 : decode cX7_packetAt 18 = .ok (.if_icmp .ge 12, 3) := by decide +kernel
theorem dX7_packetAt_21 : decode cX7_packetAt 21 = .ok (.aload_n 0, 1) := by decide +kernel
theorem dX7_packetAt_22 : decode cX7_packetAt 22 = .ok (.getfield 27, 3) := by decide +kernel
theorem dX7_packetAt_25 : decode cX7_packetAt 25 = .ok (.iload_n 1, 1) := by decide +kernel
theorem dX7_packetAt_26 : decode cX7_packetAt 26 = .ok (.aaload, 1) := by decide +kernel
theorem dX7_packetAt_27 : decode cX7_packetAt 27 = .ok (.goto 4, 3) := by decide +kernel
theorem dX7_packetAt_30 : decode cX7_packetAt 30 = .ok (.aconst_null, 1) := by decide +kernel
theorem dX7_packetAt_31 : decode cX7_packetAt 31 = .ok (.areturn, 1) := by decide +kernel
theorem dX7_hasRoom_0 : decode cX7_hasRoom 0 = .ok (.aload_n 0, 1) := by decide +kernel
theorem dX7_hasRoom_1 : decode cX7_hasRoom 1 = .ok (.getfield 42, 3) := by decide +kernel
theorem dX7_hasRoom_4 : decode cX7_hasRoom 4 = .ok (.aload_n 0, 1) := by decide +kernel
theorem dX7_hasRoom_5 : decode cX7_hasRoom 5 = .ok (.getfield 27, 3) := by decide +kernel
theorem dX7_hasRoom_8 : decode cX7_hasRoom 8 = .ok (.arraylength, 1) := by decide +kernel
theorem dX7_hasRoom_9 : decode cX7_hasRoom 9 = .ok (.if_icmp .ge 7, 3) := by decide +kernel
theorem dX7_hasRoom_12 : decode cX7_hasRoom 12 = .ok (.iconst 1, 1) := by decide +kernel
theorem dX7_hasRoom_13 : decode cX7_hasRoom 13 = .ok (.goto 4, 3) := by decide +kernel
theorem dX7_hasRoom_16 : decode cX7_hasRoom 16 = .ok (.iconst 0, 1) := by decide +kernel
theorem dX7_hasRoom_17 : decode cX7_hasRoom 17 = .ok (.ireturn, 1) := by decide +kernel
theorem dX7_canTake_0 : decode cX7_canTake 0 = .ok (.aload_n 0, 1) := by decide +kernel
theorem dX7_canTake_1 : decode cX7_canTake 1 = .ok (.invokevirtual 61, 3) := by decide +kernel
theorem dX7_canTake_4 : decode cX7_canTake 4 = .ok (.ifCond .ne 14, 3) := by decide +kernel
theorem dX7_canTake_7 : decode cX7_canTake 7 = .ok (.aload_n 0, 1) := by decide +kernel
theorem dX7_canTake_8 : decode cX7_canTake 8 = .ok (.getfield 12, 3) := by decide +kernel
theorem dX7_canTake_11 : decode cX7_canTake 11 = .ok (.aload_n 1, 1) := by decide +kernel
theorem dX7_canTake_12 : decode cX7_canTake 12 = .ok (.invokevirtual 65, 3) := by decide +kernel
theorem dX7_canTake_15 : decode cX7_canTake 15 = .ok (.ifCond .ne 7, 3) := by decide +kernel
theorem dX7_canTake_18 : decode cX7_canTake 18 = .ok (.iconst 1, 1) := by decide +kernel
theorem dX7_canTake_19 : decode cX7_canTake 19 = .ok (.goto 4, 3) := by decide +kernel
theorem dX7_canTake_22 : decode cX7_canTake 22 = .ok (.iconst 0, 1) := by decide +kernel
theorem dX7_canTake_23 : decode cX7_canTake 23 = .ok (.ireturn, 1) := by decide +kernel
theorem dX7_take_0 : decode cX7_take 0 = .ok (.aload_n 0, 1) := by decide +kernel
theorem dX7_take_1 : decode cX7_take 1 = .ok (.getfield 12, 3) := by decide +kernel
theorem dX7_take_4 : decode cX7_take 4 = .ok (.iload_n 1, 1) := by decide +kernel
theorem dX7_take_5 : decode cX7_take 5 = .ok (.invokevirtual 69, 3) := by decide +kernel
theorem dX7_take_8 : decode cX7_take 8 = .ok (.sipush (-10000), 3) := by decide +kernel
theorem dX7_take_11 : decode cX7_take 11 = .ok (.istore_n 3, 1) := by decide +kernel
theorem dX7_take_12 : decode cX7_take 12 = .ok (.aload_n 0, 1) := by decide +kernel
theorem dX7_take_13 : decode cX7_take 13 = .ok (.getfield 12, 3) := by decide +kernel
theorem dX7_take_16 : decode cX7_take 16 = .ok (.getfield 73, 3) := by decide +kernel
theorem dX7_take_19 : decode cX7_take 19 = .ok (.aload_n 2, 1) := by decide +kernel
theorem dX7_take_20 : decode cX7_take 20 = .ok (.iconst 0, 1) := by decide +kernel
theorem dX7_take_21 : decode cX7_take 21 = .ok (.invokevirtual 76, 3) := by decide +kernel
theorem dX7_take_24 : decode cX7_take 24 = .ok (.if_icmp .lt 23, 3) := by decide +kernel
theorem dX7_take_27 : decode cX7_take 27 = .ok (.aload_n 0, 1) := by decide +kernel
theorem dX7_take_28 : decode cX7_take 28 = .ok (.getfield 12, 3) := by decide +kernel
theorem dX7_take_31 : decode cX7_take 31 = .ok (.aload_n 0, 1) := by decide +kernel
theorem dX7_take_32 : decode cX7_take 32 = .ok (.getfield 12, 3) := by decide +kernel
theorem dX7_take_35 : decode cX7_take 35 = .ok (.aload_n 2, 1) := by decide +kernel
theorem dX7_take_36 : decode cX7_take 36 = .ok (.iconst 1, 1) := by decide +kernel
theorem dX7_take_37 : decode cX7_take 37 = .ok (.invokevirtual 76, 3) := by decide +kernel
theorem dX7_take_40 : decode cX7_take 40 = .ok (.invokevirtual 82, 3) := by decide +kernel
theorem dX7_take_43 : decode cX7_take 43 = .ok (.invokevirtual 85, 3) := by decide +kernel
theorem dX7_take_46 : decode cX7_take 46 = .ok (.istore_n 3, 1) := by decide +kernel
theorem dX7_take_47 : decode cX7_take 47 = .ok (.aload_n 0, 1) := by decide +kernel
theorem dX7_take_48 : decode cX7_take 48 = .ok (.getfield 12, 3) := by decide +kernel
theorem dX7_take_51 : decode cX7_take 51 = .ok (.getfield 88, 3) := by decide +kernel
theorem dX7_take_54 : decode cX7_take 54 = .ok (.getfield 92, 3) := by decide +kernel
theorem dX7_take_57 : decode cX7_take 57 = .ok (.aload_n 2, 1) := by decide +kernel
theorem dX7_take_58 : decode cX7_take 58 = .ok (.iconst 2, 1) := by decide +kernel
theorem dX7_take_59 : decode cX7_take 59 = .ok (.invokevirtual 76, 3) := by decide +kernel
theorem dX7_take_62 : decode cX7_take 62 = .ok (.if_icmp .lt 8, 3) := by decide +kernel
theorem dX7_take_65 : decode cX7_take 65 = .ok (.aload_n 0, 1) := by decide +kernel
theorem dX7_take_66 : decode cX7_take 66 = .ok (.aload_n 2, 1) := by decide +kernel
theorem dX7_take_67 : decode cX7_take 67 = .ok (.invokevirtual 95, 3) := by decide +kernel
theorem dX7_take_70 : decode cX7_take 70 = .ok (.iload_n 3, 1) := by decide +kernel
theorem dX7_take_71 : decode cX7_take 71 = .ok (.ireturn, 1) := by decide +kernel
theorem dX7_closePacket_0 : decode cX7_closePacket 0 = .ok (.aload_n 0, 1) := by decide +kernel
theorem dX7_closePacket_1 : decode cX7_closePacket 1 = .ok (.getfield 42, 3) := by decide +kernel
theorem dX7_closePacket_4 : decode cX7_closePacket 4 = .ok (.ifCond .lt 46, 3) := by decide +kernel
theorem dX7_closePacket_7 : decode cX7_closePacket 7 = .ok (.aload_n 0, 1) := by decide +kernel
theorem dX7_closePacket_8 : decode cX7_closePacket 8 = .ok (.getfield 42, 3) := by decide +kernel
theorem dX7_closePacket_11 : decode cX7_closePacket 11 = .ok (.aload_n 0, 1) := by decide +kernel
theorem dX7_closePacket_12 : decode cX7_closePacket 12 = .ok (.getfield 27, 3) := by decide +kernel
theorem dX7_closePacket_15 : decode cX7_closePacket 15 = .ok (.arraylength, 1) := by decide +kernel
theorem dX7_closePacket_16 : decode cX7_closePacket 16 = .ok (.if_icmp .ge 34, 3) := by decide +kernel
theorem dX7_closePacket_19 : decode cX7_closePacket 19 = .ok (.aload_n 0, 1) := by decide +kernel
theorem dX7_closePacket_20 : decode cX7_closePacket 20 = .ok (.getfield 12, 3) := by decide +kernel
theorem dX7_closePacket_23 : decode cX7_closePacket 23 = .ok (.aload_n 0, 1) := by decide +kernel
theorem dX7_closePacket_24 : decode cX7_closePacket 24 = .ok (.getfield 27, 3) := by decide +kernel
theorem dX7_closePacket_27 : decode cX7_closePacket 27 = .ok (.aload_n 0, 1) := by decide +kernel
theorem dX7_closePacket_28 : decode cX7_closePacket 28 = .ok (.getfield 42, 3) := by decide +kernel
theorem dX7_closePacket_31 : decode cX7_closePacket 31 = .ok (.aaload, 1) := by decide +kernel
theorem dX7_closePacket_32 : decode cX7_closePacket 32 = .ok (.aload_n 1, 1) := by decide +kernel
theorem dX7_closePacket_33 : decode cX7_closePacket 33 = .ok (.iconst 3, 1) := by decide +kernel
theorem dX7_closePacket_34 : decode cX7_closePacket 34 = .ok (.invokevirtual 76, 3) := by decide +kernel
theorem dX7_closePacket_37 : decode cX7_closePacket 37 = .ok (.invokevirtual 99, 3) := by decide +kernel
theorem dX7_closePacket_40 : decode cX7_closePacket 40 = .ok (.aload_n 0, 1) := by decide +kernel
theorem dX7_closePacket_41 : decode cX7_closePacket 41 = .ok (.dup, 1) := by decide +kernel
theorem dX7_closePacket_42 : decode cX7_closePacket 42 = .ok (.getfield 42, 3) := by decide +kernel
theorem dX7_closePacket_45 : decode cX7_closePacket 45 = .ok (.iconst 1, 1) := by decide +kernel
theorem dX7_closePacket_46 : decode cX7_closePacket 46 = .ok (.iadd, 1) := by decide +kernel
theorem dX7_closePacket_47 : decode cX7_closePacket 47 = .ok (.putfield 42, 3) := by decide +kernel
theorem dX7_closePacket_50 : decode cX7_closePacket 50 = .ok (.return_, 1) := by decide +kernel
theorem dX7_bringFirst_0 : decode cX7_bringFirst 0 = .ok (.aload_n 0, 1) := by decide +kernel
theorem dX7_bringFirst_1 : decode cX7_bringFirst 1 = .ok (.getfield 21, 3) := by decide +kernel
theorem dX7_bringFirst_4 : decode cX7_bringFirst 4 = .ok (.aload_n 0, 1) := by decide +kernel
theorem dX7_bringFirst_5 : decode cX7_bringFirst 5 = .ok (.getfield 27, 3) := by decide +kernel
theorem dX7_bringFirst_8 : decode cX7_bringFirst 8 = .ok (.iconst 0, 1) := by decide +kernel
theorem dX7_bringFirst_9 : decode cX7_bringFirst 9 = .ok (.aaload, 1) := by decide +kernel
theorem dX7_bringFirst_10 : decode cX7_bringFirst 10 = .ok (.invokevirtual 103, 3) := by decide +kernel
theorem dX7_bringFirst_13 : decode cX7_bringFirst 13 = .ok (.istore_n 1, 1) := by decide +kernel
theorem dX7_bringFirst_14 : decode cX7_bringFirst 14 = .ok (.aload_n 0, 1) := by decide +kernel
theorem dX7_bringFirst_15 : decode cX7_bringFirst 15 = .ok (.invokevirtual 107, 3) := by decide +kernel
theorem dX7_bringFirst_18 : decode cX7_bringFirst 18 = .ok (.iload_n 1, 1) := by decide +kernel
theorem dX7_bringFirst_19 : decode cX7_bringFirst 19 = .ok (.ireturn, 1) := by decide +kernel
theorem dX7_dropFirst_0 : decode cX7_dropFirst 0 = .ok (.aload_n 0, 1) := by decide +kernel
theorem dX7_dropFirst_1 : decode cX7_dropFirst 1 = .ok (.getfield 27, 3) := by decide +kernel
theorem dX7_dropFirst_4 : decode cX7_dropFirst 4 = .ok (.iconst 0, 1) := by decide +kernel
theorem dX7_dropFirst_5 : decode cX7_dropFirst 5 = .ok (.aaload, 1) := by decide +kernel
theorem dX7_dropFirst_6 : decode cX7_dropFirst 6 = .ok (.getfield 110, 3) := by decide +kernel
theorem dX7_dropFirst_9 : decode cX7_dropFirst 9 = .ok (.istore_n 1, 1) := by decide +kernel
theorem dX7_dropFirst_10 : decode cX7_dropFirst 10 = .ok (.aload_n 0, 1) := by decide +kernel
theorem dX7_dropFirst_11 : decode cX7_dropFirst 11 = .ok (.dup, 1) := by decide +kernel
theorem dX7_dropFirst_12 : decode cX7_dropFirst 12 = .ok (.getfield 46, 3) := by decide +kernel
theorem dX7_dropFirst_15 : decode cX7_dropFirst 15 = .ok (.iconst 1, 1) := by decide +kernel
theorem dX7_dropFirst_16 : decode cX7_dropFirst 16 = .ok (.iadd, 1) := by decide +kernel
theorem dX7_dropFirst_17 : decode cX7_dropFirst 17 = .ok (.putfield 46, 3) := by decide +kernel
theorem dX7_dropFirst_20 : decode cX7_dropFirst 20 = .ok (.aload_n 0, 1) := by decide +kernel
theorem dX7_dropFirst_21 : decode cX7_dropFirst 21 = .ok (.invokevirtual 107, 3) := by decide +kernel
theorem dX7_dropFirst_24 : decode cX7_dropFirst 24 = .ok (.iload_n 1, 1) := by decide +kernel
theorem dX7_dropFirst_25 : decode cX7_dropFirst 25 = .ok (.ireturn, 1) := by decide +kernel
theorem dX7_exchangeFirstTwo_0 : decode cX7_exchangeFirstTwo 0 = .ok (.aload_n 0, 1) := by decide +kernel
theorem dX7_exchangeFirstTwo_1 : decode cX7_exchangeFirstTwo 1 = .ok (.getfield 27, 3) := by decide +kernel
theorem dX7_exchangeFirstTwo_4 : decode cX7_exchangeFirstTwo 4 = .ok (.iconst 0, 1) := by decide +kernel
theorem dX7_exchangeFirstTwo_5 : decode cX7_exchangeFirstTwo 5 = .ok (.aaload, 1) := by decide +kernel
theorem dX7_exchangeFirstTwo_6 : decode cX7_exchangeFirstTwo 6 = .ok (.astore_n 1, 1) := by decide +kernel
theorem dX7_exchangeFirstTwo_7 : decode cX7_exchangeFirstTwo 7 = .ok (.aload_n 0, 1) := by decide +kernel
theorem dX7_exchangeFirstTwo_8 : decode cX7_exchangeFirstTwo 8 = .ok (.getfield 27, 3) := by decide +kernel
theorem dX7_exchangeFirstTwo_11 : decode cX7_exchangeFirstTwo 11 = .ok (.iconst 0, 1) := by decide +kernel
theorem dX7_exchangeFirstTwo_12 : decode cX7_exchangeFirstTwo 12 = .ok (.aload_n 0, 1) := by decide +kernel
theorem dX7_exchangeFirstTwo_13 : decode cX7_exchangeFirstTwo 13 = .ok (.getfield 27, 3) := by decide +kernel
theorem dX7_exchangeFirstTwo_16 : decode cX7_exchangeFirstTwo 16 = .ok (.iconst 1, 1) := by decide +kernel
theorem dX7_exchangeFirstTwo_17 : decode cX7_exchangeFirstTwo 17 = .ok (.aaload, 1) := by decide +kernel
theorem dX7_exchangeFirstTwo_18 : decode cX7_exchangeFirstTwo 18 = .ok (.aastore, 1) := by decide +kernel
theorem dX7_exchangeFirstTwo_19 : decode cX7_exchangeFirstTwo 19 = .ok (.aload_n 0, 1) := by decide +kernel
theorem dX7_exchangeFirstTwo_20 : decode cX7_exchangeFirstTwo 20 = .ok (.getfield 27, 3) := by decide +kernel
theorem dX7_exchangeFirstTwo_23 : decode cX7_exchangeFirstTwo 23 = .ok (.iconst 1, 1) := by decide +kernel
theorem dX7_exchangeFirstTwo_24 : decode cX7_exchangeFirstTwo 24 = .ok (.aload_n 1, 1) := by decide +kernel
theorem dX7_exchangeFirstTwo_25 : decode cX7_exchangeFirstTwo 25 = .ok (.aastore, 1) := by decide +kernel
theorem dX7_exchangeFirstTwo_26 : decode cX7_exchangeFirstTwo 26 = .ok (.aload_n 0, 1) := by decide +kernel
theorem dX7_exchangeFirstTwo_27 : decode cX7_exchangeFirstTwo 27 = .ok (.getfield 27, 3) := by decide +kernel
theorem dX7_exchangeFirstTwo_30 : decode cX7_exchangeFirstTwo 30 = .ok (.iconst 0, 1) := by decide +kernel
theorem dX7_exchangeFirstTwo_31 : decode cX7_exchangeFirstTwo 31 = .ok (.aaload, 1) := by decide +kernel
theorem dX7_exchangeFirstTwo_32 : decode cX7_exchangeFirstTwo 32 = .ok (.getfield 110, 3) := by decide +kernel
theorem dX7_exchangeFirstTwo_35 : decode cX7_exchangeFirstTwo 35 = .ok (.ireturn, 1) := by decide +kernel
theorem dX7_takeFirstOff_0 : decode cX7_takeFirstOff 0 = .ok (.aload_n 0, 1) := by decide +kernel
theorem dX7_takeFirstOff_1 : decode cX7_takeFirstOff 1 = .ok (.getfield 27, 3) := by decide +kernel
theorem dX7_takeFirstOff_4 : decode cX7_takeFirstOff 4 = .ok (.iconst 0, 1) := by decide +kernel
theorem dX7_takeFirstOff_5 : decode cX7_takeFirstOff 5 = .ok (.aaload, 1) := by decide +kernel
theorem dX7_takeFirstOff_6 : decode cX7_takeFirstOff 6 = .ok (.astore_n 1, 1) := by decide +kernel
theorem dX7_takeFirstOff_7 : decode cX7_takeFirstOff 7 = .ok (.iconst 1, 1) := by decide +kernel
theorem dX7_takeFirstOff_8 : decode cX7_takeFirstOff 8 = .ok (.istore_n 2, 1) := by decide +kernel
theorem dX7_takeFirstOff_9 : decode cX7_takeFirstOff 9 = .ok (.iload_n 2, 1) := by decide +kernel
theorem dX7_takeFirstOff_10 : decode cX7_takeFirstOff 10 = .ok (.aload_n 0, 1) := by decide +kernel
theorem dX7_takeFirstOff_11 : decode cX7_takeFirstOff 11 = .ok (.getfield 27, 3) := by decide +kernel
theorem dX7_takeFirstOff_14 : decode cX7_takeFirstOff 14 = .ok (.arraylength, 1) := by decide +kernel
theorem dX7_takeFirstOff_15 : decode cX7_takeFirstOff 15 = .ok (.if_icmp .ge 23, 3) := by decide +kernel
theorem dX7_takeFirstOff_18 : decode cX7_takeFirstOff 18 = .ok (.aload_n 0, 1) := by decide +kernel
theorem dX7_takeFirstOff_19 : decode cX7_takeFirstOff 19 = .ok (.getfield 27, 3) := by decide +kernel
theorem dX7_takeFirstOff_22 : decode cX7_takeFirstOff 22 = .ok (.iload_n 2, 1) := by decide +kernel
theorem dX7_takeFirstOff_23 : decode cX7_takeFirstOff 23 = .ok (.iconst 1, 1) := by decide +kernel
theorem dX7_takeFirstOff_24 : decode cX7_takeFirstOff 24 = .ok (.isub, 1) := by decide +kernel
theorem dX7_takeFirstOff_25 : decode cX7_takeFirstOff 25 = .ok (.aload_n 0, 1) := by decide +kernel
theorem dX7_takeFirstOff_26 : decode cX7_takeFirstOff 26 = .ok (.getfield 27, 3) := by decide +kernel
theorem dX7_takeFirstOff_29 : decode cX7_takeFirstOff 29 = .ok (.iload_n 2, 1) := by decide +kernel
theorem dX7_takeFirstOff_30 : decode cX7_takeFirstOff 30 = .ok (.aaload, 1) := by decide +kernel
theorem dX7_takeFirstOff_31 : decode cX7_takeFirstOff 31 = .ok (.aastore, 1) := by decide +kernel
theorem dX7_takeFirstOff_32 : decode cX7_takeFirstOff 32 = .ok (.iinc 2 1, 3) := by decide +kernel
theorem dX7_takeFirstOff_35 : decode cX7_takeFirstOff 35 = .ok (.goto (-26), 3) := by decide +kernel
theorem dX7_takeFirstOff_38 : decode cX7_takeFirstOff 38 = .ok (.aload_n 0, 1) := by decide +kernel
theorem dX7_takeFirstOff_39 : decode cX7_takeFirstOff 39 = .ok (.getfield 27, 3) := by decide +kernel
theorem dX7_takeFirstOff_42 : decode cX7_takeFirstOff 42 = .ok (.aload_n 0, 1) := by decide +kernel
theorem dX7_takeFirstOff_43 : decode cX7_takeFirstOff 43 = .ok (.getfield 27, 3) := by decide +kernel
theorem dX7_takeFirstOff_46 : decode cX7_takeFirstOff 46 = .ok (.arraylength, 1) := by decide +kernel
theorem dX7_takeFirstOff_47 : decode cX7_takeFirstOff 47 = .ok (.iconst 1, 1) := by decide +kernel
theorem dX7_takeFirstOff_48 : decode cX7_takeFirstOff 48 = .ok (.isub, 1) := by decide +kernel
theorem dX7_takeFirstOff_49 : decode cX7_takeFirstOff 49 = .ok (.aload_n 1, 1) := by decide +kernel
theorem dX7_takeFirstOff_50 : decode cX7_takeFirstOff 50 = .ok (.aastore, 1) := by decide +kernel
theorem dX7_takeFirstOff_51 : decode cX7_takeFirstOff 51 = .ok (.aload_n 0, 1) := by decide +kernel
theorem dX7_takeFirstOff_52 : decode cX7_takeFirstOff 52 = .ok (.dup, 1) := by decide +kernel
theorem dX7_takeFirstOff_53 : decode cX7_takeFirstOff 53 = .ok (.getfield 42, 3) := by decide +kernel
theorem dX7_takeFirstOff_56 : decode cX7_takeFirstOff 56 = .ok (.iconst 1, 1) := by decide +kernel
theorem dX7_takeFirstOff_57 : decode cX7_takeFirstOff 57 = .ok (.isub, 1) := by decide +kernel
theorem dX7_takeFirstOff_58 : decode cX7_takeFirstOff 58 = .ok (.putfield 42, 3) := by decide +kernel
theorem dX7_takeFirstOff_61 : decode cX7_takeFirstOff 61 = .ok (.return_, 1) := by decide +kernel
theorem dX8_init_0 : decode cX8_init 0 = .ok (.aload_n 0, 1) := by decide +kernel
theorem dX8_init_1 : decode cX8_init 1 = .ok (.invokespecial 1, 3) := by decide +kernel
theorem dX8_init_4 : decode cX8_init 4 = .ok (.aload_n 0, 1) := by decide +kernel
theorem dX8_init_5 : decode cX8_init 5 = .ok (.new 7, 3) := by decide +kernel
theorem dX8_init_8 : decode cX8_init 8 = .ok (.dup, 1) := by decide +kernel
theorem dX8_init_9 : decode cX8_init 9 = .ok (.invokespecial 9, 3) := by decide +kernel
theorem dX8_init_12 : decode cX8_init 12 = .ok (.putfield 10, 3) := by decide +kernel
theorem dX8_init_15 : decode cX8_init 15 = .ok (.aload_n 0, 1) := by decide +kernel
theorem dX8_init_16 : decode cX8_init 16 = .ok (.new 7, 3) := by decide +kernel
theorem dX8_init_19 : decode cX8_init 19 = .ok (.dup, 1) := by decide +kernel
theorem dX8_init_20 : decode cX8_init 20 = .ok (.invokespecial 9, 3) := by decide +kernel
theorem dX8_init_23 : decode cX8_init 23 = .ok (.putfield 16, 3) := by decide +kernel
theorem dX8_init_26 : decode cX8_init 26 = .ok (.aload_n 0, 1) := by decide +kernel
theorem dX8_init_27 : decode cX8_init 27 = .ok (.bipush 6, 2) := by decide +kernel
theorem dX8_init_29 : decode cX8_init 29 = .ok (.anewarray 7, 3) := by decide +kernel
theorem dX8_init_32 : decode cX8_init 32 = .ok (.putfield 19, 3) := by decide +kernel
theorem dX8_init_35 : decode cX8_init 35 = .ok (.aload_n 0, 1) := by decide +kernel
theorem dX8_init_36 : decode cX8_init 36 = .ok (.new 23, 3) := by decide +kernel
theorem dX8_init_39 : decode cX8_init 39 = .ok (.dup, 1) := by decide +kernel
theorem dX8_init_40 : decode cX8_init 40 = .ok (.invokespecial 25, 3) := by decide +kernel
theorem dX8_init_43 : decode cX8_init 43 = .ok (.putfield 26, 3) := by decide +kernel
theorem dX8_init_46 : decode cX8_init 46 = .ok (.aload_n 0, 1) := by decide +kernel
theorem dX8_init_47 : decode cX8_init 47 = .ok (.new 30, 3) := by decide +kernel
theorem dX8_init_50 : decode cX8_init 50 = .ok (.dup, 1) := by decide +kernel
theorem dX8_init_51 : decode cX8_init 51 = .ok (.invokespecial 32, 3) := by decide +kernel
theorem dX8_init_54 : decode cX8_init 54 = .ok (.putfield 33, 3) := by decide +kernel
theorem dX8_init_57 : decode cX8_init 57 = .ok (.aload_n 0, 1) := by decide +kernel
theorem dX8_init_58 : decode cX8_init 58 = .ok (.new 37, 3) := by decide +kernel
theorem dX8_init_61 : decode cX8_init 61 = .ok (.dup, 1) := by decide +kernel
theorem dX8_init_62 : decode cX8_init 62 = .ok (.invokespecial 39, 3) := by decide +kernel
theorem dX8_init_65 : decode cX8_init 65 = .ok (.putfield 40, 3) := by decide +kernel
theorem dX8_init_68 : decode cX8_init 68 = .ok (.iconst 0, 1) := by decide +kernel
theorem dX8_init_69 : decode cX8_init 69 = .ok (.istore_n 1, 1) := by decide +kernel
theorem dX8_init_70 : decode cX8_init 70 = .ok (.iload_n 1, 1) := by decide +kernel
theorem dX8_init_71 : decode cX8_init 71 = .ok (.aload_n 0, 1) := by decide +kernel
theorem dX8_init_72 : decode cX8_init 72 = .ok (.getfield 19, 3) := by decide +kernel
theorem dX8_init_75 : decode cX8_init 75 = .ok (.arraylength, 1) := by decide +kernel
theorem dX8_init_76 : decode cX8_init 76 = .ok (.if_icmp .ge 22, 3) := by decide +kernel
theorem dX8_init_79 : decode cX8_init 79 = .ok (.aload_n 0, 1) := by decide +kernel
theorem dX8_init_80 : decode cX8_init 80 = .ok (.getfield 19, 3) := by decide +kernel
theorem dX8_init_83 : decode cX8_init 83 = .ok (.iload_n 1, 1) := by decide +kernel
theorem dX8_init_84 : decode cX8_init 84 = .ok (.new 7, 3) := by decide +kernel
theorem dX8_init_87 : decode cX8_init 87 = .ok (.dup, 1) := by decide +kernel
theorem dX8_init_88 : decode cX8_init 88 = .ok (.invokespecial 9, 3) := by decide +kernel
theorem dX8_init_91 : decode cX8_init 91 = .ok (.aastore, 1) := by decide +kernel
theorem dX8_init_92 : decode cX8_init 92 = .ok (.iinc 1 1, 3) := by decide +kernel
theorem dX8_init_95 : decode cX8_init 95 = .ok (.goto (-25), 3) := by decide +kernel
theorem dX8_init_98 : decode cX8_init 98 = .ok (.return_, 1) := by decide +kernel
theorem dX8_say_0 : decode cX8_say 0 = .ok (.aload_n 0, 1) := by decide +kernel
theorem dX8_say_1 : decode cX8_say 1 = .ok (.iload_n 1, 1) := by decide +kernel
theorem dX8_say_2 : decode cX8_say 2 = .ok (.invokevirtual 44, 3) := by decide +kernel
theorem dX8_say_5 : decode cX8_say 5 = .ok (.astore_n 3, 1) := by decide +kernel
theorem dX8_say_6 : decode cX8_say 6 = .ok (.iload_n 2, 1) := by decide +kernel
theorem dX8_say_7 : decode cX8_say 7 = .ok (.invokestatic 48, 3) := by decide +kernel
theorem dX8_say_10 : decode cX8_say 10 = .ok (.aload_n 3, 1) := by decide +kernel
theorem dX8_say_11 : decode cX8_say 11 = .ok (.aload_n 0, 1) := by decide +kernel
theorem dX8_say_12 : decode cX8_say 12 = .ok (.getfield 10, 3) := by decide +kernel
theorem dX8_say_15 : decode cX8_say 15 = .ok (.getfield 52, 3) := by decide +kernel
theorem dX8_say_18 : decode cX8_say 18 = .ok (.invokevirtual 56, 3) := by decide +kernel
theorem dX8_say_21 : decode cX8_say 21 = .ok (.ifCond .ne 13, 3) := by decide +kernel
theorem dX8_say_24 : decode cX8_say 24 = .ok (.new 62, 3) := by decide +kernel
theorem dX8_say_27 : decode cX8_say 27 = .ok (.dup, 1) := by decide +kernel
theorem dX8_say_28 : decode cX8_say 28 = .ok (.ldc 64, 2) := by decide +kernel
theorem dX8_say_30 : decode cX8_say 30 = .ok (.invokespecial 66, 3) := by decide +kernel
theorem dX8_say_33 : decode cX8_say 33 = .ok (.athrow, 1) := by decide +kernel
theorem dX8_say_34 : decode cX8_say 34 = .ok (.aload_n 0, 1) := by decide +kernel
theorem dX8_say_35 : decode cX8_say 35 = .ok (.invokevirtual 69, 3) := by decide +kernel
theorem dX8_say_38 : decode cX8_say 38 = .ok (.aload_n 3, 1) := by decide +kernel
theorem dX8_say_39 : decode cX8_say 39 = .ok (.iload_n 2, 1) := by decide +kernel
theorem dX8_say_40 : decode cX8_say 40 = .ok (.aload_n 0, 1) := by decide +kernel
theorem dX8_say_41 : decode cX8_say 41 = .ok (.getfield 10, 3) := by decide +kernel
theorem dX8_say_44 : decode cX8_say 44 = .ok (.getfield 52, 3) := by decide +kernel
theorem dX8_say_47 : decode cX8_say 47 = .ok (.invokevirtual 72, 3) := by decide +kernel
theorem dX8_say_50 : decode cX8_say 50 = .ok (.ireturn, 1) := by decide +kernel
theorem dX8_flush_0 : decode cX8_flush 0 = .ok (.aload_n 0, 1) := by decide +kernel
theorem dX8_flush_1 : decode cX8_flush 1 = .ok (.iload_n 1, 1) := by decide +kernel
theorem dX8_flush_2 : decode cX8_flush 2 = .ok (.invokevirtual 44, 3) := by decide +kernel
theorem dX8_flush_5 : decode cX8_flush 5 = .ok (.astore_n 2, 1) := by decide +kernel
theorem dX8_flush_6 : decode cX8_flush 6 = .ok (.aload_n 2, 1) := by decide +kernel
theorem dX8_flush_7 : decode cX8_flush 7 = .ok (.getfield 76, 3) := by decide +kernel
theorem dX8_flush_10 : decode cX8_flush 10 = .ok (.getfield 80, 3) := by decide +kernel
theorem dX8_flush_13 : decode cX8_flush 13 = .ok (.getfield 86, 3) := by decide +kernel
theorem dX8_flush_16 : decode cX8_flush 16 = .ok (.istore_n 3, 1) := by decide +kernel
theorem dX8_flush_17 : decode cX8_flush 17 = .ok (.iload_n 3, 1) := by decide +kernel
theorem dX8_flush_18 : decode cX8_flush 18 = .ok (.ifCond .ne 13, 3) := by decide +kernel
theorem dX8_flush_21 : decode cX8_flush 21 = .ok (.new 62, 3) := by decide +kernel
theorem dX8_flush_24 : decode cX8_flush 24 = .ok (.dup, 1) := by decide +kernel
theorem dX8_flush_25 : decode cX8_flush 25 = .ok (.ldc 92, 2) := by decide +kernel
theorem dX8_flush_27 : decode cX8_flush 27 = .ok (.invokespecial 66, 3) := by decide +kernel
theorem dX8_flush_30 : decode cX8_flush 30 = .ok (.athrow, 1) := by decide +kernel
theorem dX8_flush_31 : decode cX8_flush 31 = .ok (.aload_n 2, 1) := by decide +kernel
theorem dX8_flush_32 : decode cX8_flush 32 = .ok (.invokevirtual 94, 3) := by decide +kernel
theorem dX8_flush_35 : decode cX8_flush 35 = .ok (.ifCond .ne 13, 3) := by decide +kernel
theorem dX8_flush_38 : decode cX8_flush 38 = .ok (.new 62, 3) := by decide +kernel
theorem dX8_flush_41 : decode cX8_flush 41 = .ok (.dup, 1) := by decide +kernel
theorem dX8_flush_42 : decode cX8_flush 42 = .ok (.ldc 64, 2) := by decide +kernel
theorem dX8_flush_44 : decode cX8_flush 44 = .ok (.invokespecial 66, 3) := by decide +kernel
theorem dX8_flush_47 : decode cX8_flush 47 = .ok (.athrow, 1) := by decide +kernel
theorem dX8_flush_48 : decode cX8_flush 48 = .ok (.aload_n 0, 1) := by decide +kernel
theorem dX8_flush_49 : decode cX8_flush 49 = .ok (.invokevirtual 69, 3) := by decide +kernel
theorem dX8_flush_52 : decode cX8_flush 52 = .ok (.aload_n 2, 1) := by decide +kernel
theorem dX8_flush_53 : decode cX8_flush 53 = .ok (.aload_n 0, 1) := by decide +kernel
theorem dX8_flush_54 : decode cX8_flush 54 = .ok (.getfield 10, 3) := by decide +kernel
theorem dX8_flush_57 : decode cX8_flush 57 = .ok (.getfield 52, 3) := by decide +kernel
theorem dX8_flush_60 : decode cX8_flush 60 = .ok (.invokevirtual 98, 3) := by decide +kernel
theorem dX8_flush_63 : decode cX8_flush 63 = .ok (.iload_n 3, 1) := by decide +kernel
theorem dX8_flush_64 : decode cX8_flush 64 = .ok (.ireturn, 1) := by decide +kernel
theorem dX8_deliver_0 : decode cX8_deliver 0 = .ok (.aload_n 0, 1) := by decide +kernel
theorem dX8_deliver_1 : decode cX8_deliver 1 = .ok (.iload_n 1, 1) := by decide +kernel
theorem dX8_deliver_2 : decode cX8_deliver 2 = .ok (.invokevirtual 44, 3) := by decide +kernel
theorem dX8_deliver_5 : decode cX8_deliver 5 = .ok (.astore_n 2, 1) := by decide +kernel
theorem dX8_deliver_6 : decode cX8_deliver 6 = .ok (.aload_n 2, 1) := by decide +kernel
theorem dX8_deliver_7 : decode cX8_deliver 7 = .ok (.iconst 1, 1) := by decide +kernel
theorem dX8_deliver_8 : decode cX8_deliver 8 = .ok (.invokestatic 102, 3) := by decide +kernel
theorem dX8_deliver_11 : decode cX8_deliver 11 = .ok (.aload_n 0, 1) := by decide +kernel
theorem dX8_deliver_12 : decode cX8_deliver 12 = .ok (.invokevirtual 69, 3) := by decide +kernel
theorem dX8_deliver_15 : decode cX8_deliver 15 = .ok (.aload_n 2, 1) := by decide +kernel
theorem dX8_deliver_16 : decode cX8_deliver 16 = .ok (.invokevirtual 106, 3) := by decide +kernel
theorem dX8_deliver_19 : decode cX8_deliver 19 = .ok (.ireturn, 1) := by decide +kernel
theorem dX8_lose_0 : decode cX8_lose 0 = .ok (.aload_n 0, 1) := by decide +kernel
theorem dX8_lose_1 : decode cX8_lose 1 = .ok (.iload_n 1, 1) := by decide +kernel
theorem dX8_lose_2 : decode cX8_lose 2 = .ok (.invokevirtual 44, 3) := by decide +kernel
theorem dX8_lose_5 : decode cX8_lose 5 = .ok (.astore_n 2, 1) := by decide +kernel
theorem dX8_lose_6 : decode cX8_lose 6 = .ok (.aload_n 2, 1) := by decide +kernel
theorem dX8_lose_7 : decode cX8_lose 7 = .ok (.iconst 1, 1) := by decide +kernel
theorem dX8_lose_8 : decode cX8_lose 8 = .ok (.invokestatic 102, 3) := by decide +kernel
theorem dX8_lose_11 : decode cX8_lose 11 = .ok (.aload_n 0, 1) := by decide +kernel
theorem dX8_lose_12 : decode cX8_lose 12 = .ok (.invokevirtual 69, 3) := by decide +kernel
theorem dX8_lose_15 : decode cX8_lose 15 = .ok (.aload_n 2, 1) := by decide +kernel
theorem dX8_lose_16 : decode cX8_lose 16 = .ok (.invokevirtual 110, 3) := by decide +kernel
theorem dX8_lose_19 : decode cX8_lose 19 = .ok (.ireturn, 1) := by decide +kernel
theorem dX8_swap_0 : decode cX8_swap 0 = .ok (.aload_n 0, 1) := by decide +kernel
theorem dX8_swap_1 : decode cX8_swap 1 = .ok (.iload_n 1, 1) := by decide +kernel
theorem dX8_swap_2 : decode cX8_swap 2 = .ok (.invokevirtual 44, 3) := by decide +kernel
theorem dX8_swap_5 : decode cX8_swap 5 = .ok (.astore_n 2, 1) := by decide +kernel
theorem dX8_swap_6 : decode cX8_swap 6 = .ok (.aload_n 2, 1) := by decide +kernel
theorem dX8_swap_7 : decode cX8_swap 7 = .ok (.iconst 2, 1) := by decide +kernel
theorem dX8_swap_8 : decode cX8_swap 8 = .ok (.invokestatic 102, 3) := by decide +kernel
theorem dX8_swap_11 : decode cX8_swap 11 = .ok (.aload_n 0, 1) := by decide +kernel
theorem dX8_swap_12 : decode cX8_swap 12 = .ok (.invokevirtual 69, 3) := by decide +kernel
theorem dX8_swap_15 : decode cX8_swap 15 = .ok (.aload_n 2, 1) := by decide +kernel
theorem dX8_swap_16 : decode cX8_swap 16 = .ok (.invokevirtual 113, 3) := by decide +kernel
theorem dX8_swap_19 : decode cX8_swap 19 = .ok (.ireturn, 1) := by decide +kernel
theorem dX8_set_0 : decode cX8_set 0 = .ok (.iload_n 1, 1) := by decide +kernel
theorem dX8_set_1 : decode cX8_set 1 = .ok (.invokestatic 116, 3) := by decide +kernel
theorem dX8_set_4 : decode cX8_set 4 = .ok (.iload_n 1, 1) := by decide +kernel
theorem dX8_set_5 : decode cX8_set 5 = .ok (.iload_n 2, 1) := by decide +kernel
theorem dX8_set_6 : decode cX8_set 6 = .ok (.invokestatic 119, 3) := by decide +kernel
theorem dX8_set_9 : decode cX8_set 9 = .ok (.ifCond .ne 13, 3) := by decide +kernel
theorem dX8_set_12 : decode cX8_set 12 = .ok (.new 125, 3) := by decide +kernel
theorem dX8_set_15 : decode cX8_set 15 = .ok (.dup, 1) := by decide +kernel
theorem dX8_set_16 : decode cX8_set 16 = .ok (.ldc 127, 2) := by decide +kernel
theorem dX8_set_18 : decode cX8_set 18 = .ok (.invokespecial 129, 3) := by decide +kernel
theorem dX8_set_21 : decode cX8_set 21 = .ok (.athrow, 1) := by decide +kernel
theorem dX8_set_22 : decode cX8_set 22 = .ok (.aload_n 0, 1) := by decide +kernel
theorem dX8_set_23 : decode cX8_set 23 = .ok (.invokevirtual 69, 3) := by decide +kernel
theorem dX8_set_26 : decode cX8_set 26 = .ok (.aload_n 0, 1) := by decide +kernel
theorem dX8_set_27 : decode cX8_set 27 = .ok (.getfield 10, 3) := by decide +kernel
theorem dX8_set_30 : decode cX8_set 30 = .ok (.getfield 52, 3) := by decide +kernel
theorem dX8_set_33 : decode cX8_set 33 = .ok (.iload_n 1, 1) := by decide +kernel
theorem dX8_set_34 : decode cX8_set 34 = .ok (.invokevirtual 130, 3) := by decide +kernel
theorem dX8_set_37 : decode cX8_set 37 = .ok (.istore_n 3, 1) := by decide +kernel
theorem dX8_set_38 : decode cX8_set 38 = .ok (.aload_n 0, 1) := by decide +kernel
theorem dX8_set_39 : decode cX8_set 39 = .ok (.getfield 10, 3) := by decide +kernel
theorem dX8_set_42 : decode cX8_set 42 = .ok (.getfield 52, 3) := by decide +kernel
theorem dX8_set_45 : decode cX8_set 45 = .ok (.iload_n 1, 1) := by decide +kernel
theorem dX8_set_46 : decode cX8_set 46 = .ok (.iload_n 2, 1) := by decide +kernel
theorem dX8_set_47 : decode cX8_set 47 = .ok (.invokevirtual 134, 3) := by decide +kernel
theorem dX8_set_50 : decode cX8_set 50 = .ok (.iload_n 3, 1) := by decide +kernel
theorem dX8_set_51 : decode cX8_set 51 = .ok (.ireturn, 1) := by decide +kernel
theorem dX8_append_0 : decode cX8_append 0 = .ok (.iload_n 1, 1) := by decide +kernel
theorem dX8_append_1 : decode cX8_append 1 = .ok (.bipush 33, 2) := by decide +kernel
theorem dX8_append_3 : decode cX8_append 3 = .ok (.if_icmp .lt 9, 3) := by decide +kernel
theorem dX8_append_6 : decode cX8_append 6 = .ok (.iload_n 1, 1) := by decide +kernel
theorem dX8_append_7 : decode cX8_append 7 = .ok (.bipush 126, 2) := by decide +kernel
theorem dX8_append_9 : decode cX8_append 9 = .ok (.if_icmp .le 13, 3) := by decide +kernel
theorem dX8_append_12 : decode cX8_append 12 = .ok (.new 125, 3) := by decide +kernel
theorem dX8_append_15 : decode cX8_append 15 = .ok (.dup, 1) := by decide +kernel
theorem dX8_append_16 : decode cX8_append 16 = .ok (.ldc 138, 2) := by decide +kernel
theorem dX8_append_18 : decode cX8_append 18 = .ok (.invokespecial 129, 3) := by decide +kernel
theorem dX8_append_21 : decode cX8_append 21 = .ok (.athrow, 1) := by decide +kernel
theorem dX8_append_22 : decode cX8_append 22 = .ok (.aload_n 0, 1) := by decide +kernel
theorem dX8_append_23 : decode cX8_append 23 = .ok (.getfield 26, 3) := by decide +kernel
theorem dX8_append_26 : decode cX8_append 26 = .ok (.invokevirtual 140, 3) := by decide +kernel
theorem dX8_append_29 : decode cX8_append 29 = .ok (.ifCond .eq 13, 3) := by decide +kernel
theorem dX8_append_32 : decode cX8_append 32 = .ok (.new 62, 3) := by decide +kernel
theorem dX8_append_35 : decode cX8_append 35 = .ok (.dup, 1) := by decide +kernel
theorem dX8_append_36 : decode cX8_append 36 = .ok (.ldc 143, 2) := by decide +kernel
theorem dX8_append_38 : decode cX8_append 38 = .ok (.invokespecial 66, 3) := by decide +kernel
theorem dX8_append_41 : decode cX8_append 41 = .ok (.athrow, 1) := by decide +kernel
theorem dX8_append_42 : decode cX8_append 42 = .ok (.aload_n 0, 1) := by decide +kernel
theorem dX8_append_43 : decode cX8_append 43 = .ok (.getfield 26, 3) := by decide +kernel
theorem dX8_append_46 : decode cX8_append 46 = .ok (.iload_n 1, 1) := by decide +kernel
theorem dX8_append_47 : decode cX8_append 47 = .ok (.i2c, 1) := by decide +kernel
theorem dX8_append_48 : decode cX8_append 48 = .ok (.invokevirtual 145, 3) := by decide +kernel
theorem dX8_append_51 : decode cX8_append 51 = .ok (.aload_n 0, 1) := by decide +kernel
theorem dX8_append_52 : decode cX8_append 52 = .ok (.getfield 26, 3) := by decide +kernel
theorem dX8_append_55 : decode cX8_append 55 = .ok (.getfield 149, 3) := by decide +kernel
theorem dX8_append_58 : decode cX8_append 58 = .ok (.ireturn, 1) := by decide +kernel
theorem dX8_clearBuffer_0 : decode cX8_clearBuffer 0 = .ok (.aload_n 0, 1) := by decide +kernel
theorem dX8_clearBuffer_1 : decode cX8_clearBuffer 1 = .ok (.getfield 26, 3) := by decide +kernel
theorem dX8_clearBuffer_4 : decode cX8_clearBuffer 4 = .ok (.getfield 149, 3) := by decide +kernel
theorem dX8_clearBuffer_7 : decode cX8_clearBuffer 7 = .ok (.istore_n 1, 1) := by decide +kernel
theorem dX8_clearBuffer_8 : decode cX8_clearBuffer 8 = .ok (.aload_n 0, 1) := by decide +kernel
theorem dX8_clearBuffer_9 : decode cX8_clearBuffer 9 = .ok (.getfield 26, 3) := by decide +kernel
theorem dX8_clearBuffer_12 : decode cX8_clearBuffer 12 = .ok (.invokevirtual 152, 3) := by decide +kernel
theorem dX8_clearBuffer_15 : decode cX8_clearBuffer 15 = .ok (.iload_n 1, 1) := by decide +kernel
theorem dX8_clearBuffer_16 : decode cX8_clearBuffer 16 = .ok (.ireturn, 1) := by decide +kernel
theorem dX8_firstError_0 : decode cX8_firstError 0 = .ok (.aload_n 0, 1) := by decide +kernel
theorem dX8_firstError_1 : decode cX8_firstError 1 = .ok (.getfield 26, 3) := by decide +kernel
theorem dX8_firstError_4 : decode cX8_firstError 4 = .ok (.invokevirtual 155, 3) := by decide +kernel
theorem dX8_firstError_7 : decode cX8_firstError 7 = .ok (.ireturn, 1) := by decide +kernel
theorem dX8_talk_0 : decode cX8_talk 0 = .ok (.aload_n 0, 1) := by decide +kernel
theorem dX8_talk_1 : decode cX8_talk 1 = .ok (.getfield 26, 3) := by decide +kernel
theorem dX8_talk_4 : decode cX8_talk 4 = .ok (.invokevirtual 158, 3) := by decide +kernel
theorem dX8_talk_7 : decode cX8_talk 7 = .ok (.ifCond .ne 13, 3) := by decide +kernel
theorem dX8_talk_10 : decode cX8_talk 10 = .ok (.new 125, 3) := by decide +kernel
theorem dX8_talk_13 : decode cX8_talk 13 = .ok (.dup, 1) := by decide +kernel
theorem dX8_talk_14 : decode cX8_talk 14 = .ok (.ldc 161, 2) := by decide +kernel
theorem dX8_talk_16 : decode cX8_talk 16 = .ok (.invokespecial 129, 3) := by decide +kernel
theorem dX8_talk_19 : decode cX8_talk 19 = .ok (.athrow, 1) := by decide +kernel
theorem dX8_talk_20 : decode cX8_talk 20 = .ok (.aload_n 0, 1) := by decide +kernel
theorem dX8_talk_21 : decode cX8_talk 21 = .ok (.invokevirtual 69, 3) := by decide +kernel
theorem dX8_talk_24 : decode cX8_talk 24 = .ok (.aload_n 0, 1) := by decide +kernel
theorem dX8_talk_25 : decode cX8_talk 25 = .ok (.getfield 26, 3) := by decide +kernel
theorem dX8_talk_28 : decode cX8_talk 28 = .ok (.invokevirtual 163, 3) := by decide +kernel
theorem dX8_talk_31 : decode cX8_talk 31 = .ok (.iconst 0, 1) := by decide +kernel
theorem dX8_talk_32 : decode cX8_talk 32 = .ok (.istore_n 1, 1) := by decide +kernel
theorem dX8_talk_33 : decode cX8_talk 33 = .ok (.iconst 0, 1) := by decide +kernel
theorem dX8_talk_34 : decode cX8_talk 34 = .ok (.istore_n 2, 1) := by decide +kernel
theorem dX8_talk_35 : decode cX8_talk 35 = .ok (.iload_n 2, 1) := by decide +kernel
theorem dX8_talk_36 : decode cX8_talk 36 = .ok (.aload_n 0, 1) := by decide +kernel
theorem dX8_talk_37 : decode cX8_talk 37 = .ok (.getfield 26, 3) := by decide +kernel
theorem dX8_talk_40 : decode cX8_talk 40 = .ok (.getfield 149, 3) := by decide +kernel
theorem dX8_talk_43 : decode cX8_talk 43 = .ok (.if_icmp .ge 71, 3) := by decide +kernel
theorem dX8_talk_46 : decode cX8_talk 46 = .ok (.aload_n 0, 1) := by decide +kernel
theorem dX8_talk_47 : decode cX8_talk 47 = .ok (.getfield 26, 3) := by decide +kernel
theorem dX8_talk_50 : decode cX8_talk 50 = .ok (.invokevirtual 166, 3) := by decide +kernel
theorem dX8_talk_53 : decode cX8_talk 53 = .ok (.ifCond .eq 61, 3) := by decide +kernel
theorem dX8_talk_56 : decode cX8_talk 56 = .ok (.aload_n 0, 1) := by decide +kernel
theorem dX8_talk_57 : decode cX8_talk 57 = .ok (.aload_n 0, 1) := by decide +kernel
theorem dX8_talk_58 : decode cX8_talk 58 = .ok (.getfield 26, 3) := by decide +kernel
theorem dX8_talk_61 : decode cX8_talk 61 = .ok (.getfield 169, 3) := by decide +kernel
theorem dX8_talk_64 : decode cX8_talk 64 = .ok (.invokevirtual 44, 3) := by decide +kernel
theorem dX8_talk_67 : decode cX8_talk 67 = .ok (.astore_n 3, 1) := by decide +kernel
theorem dX8_talk_68 : decode cX8_talk 68 = .ok (.aload_n 0, 1) := by decide +kernel
theorem dX8_talk_69 : decode cX8_talk 69 = .ok (.aload_n 0, 1) := by decide +kernel
theorem dX8_talk_70 : decode cX8_talk 70 = .ok (.getfield 26, 3) := by decide +kernel
theorem dX8_talk_73 : decode cX8_talk 73 = .ok (.getfield 172, 3) := by decide +kernel
theorem dX8_talk_76 : decode cX8_talk 76 = .ok (.aload_n 3, 1) := by decide +kernel
theorem dX8_talk_77 : decode cX8_talk 77 = .ok (.invokevirtual 176, 3) := by decide +kernel
theorem dX8_talk_80 : decode cX8_talk 80 = .ok (.ifCond .ne 6, 3) := by decide +kernel
theorem dX8_talk_83 : decode cX8_talk 83 = .ok (.goto 31, 3) := by decide +kernel
theorem dX8_talk_86 : decode cX8_talk 86 = .ok (.aload_n 0, 1) := by decide +kernel
theorem dX8_talk_87 : decode cX8_talk 87 = .ok (.aload_n 0, 1) := by decide +kernel
theorem dX8_talk_88 : decode cX8_talk 88 = .ok (.getfield 26, 3) := by decide +kernel
theorem dX8_talk_91 : decode cX8_talk 91 = .ok (.getfield 172, 3) := by decide +kernel
theorem dX8_talk_94 : decode cX8_talk 94 = .ok (.aload_n 3, 1) := by decide +kernel
theorem dX8_talk_95 : decode cX8_talk 95 = .ok (.aload_n 0, 1) := by decide +kernel
theorem dX8_talk_96 : decode cX8_talk 96 = .ok (.getfield 26, 3) := by decide +kernel
theorem dX8_talk_99 : decode cX8_talk 99 = .ok (.getfield 180, 3) := by decide +kernel
theorem dX8_talk_102 : decode cX8_talk 102 = .ok (.invokevirtual 183, 3) := by decide +kernel
theorem dX8_talk_105 : decode cX8_talk 105 = .ok (.iinc 1 1, 3) := by decide +kernel
theorem dX8_talk_108 : decode cX8_talk 108 = .ok (.iinc 2 1, 3) := by decide +kernel
theorem dX8_talk_111 : decode cX8_talk 111 = .ok (.goto (-76), 3) := by decide +kernel
theorem dX8_talk_114 : decode cX8_talk 114 = .ok (.aload_n 0, 1) := by decide +kernel
theorem dX8_talk_115 : decode cX8_talk 115 = .ok (.getfield 26, 3) := by decide +kernel
theorem dX8_talk_118 : decode cX8_talk 118 = .ok (.invokevirtual 152, 3) := by decide +kernel
theorem dX8_talk_121 : decode cX8_talk 121 = .ok (.iload_n 1, 1) := by decide +kernel
theorem dX8_talk_122 : decode cX8_talk 122 = .ok (.ireturn, 1) := by decide +kernel
theorem dX8_keep_0 : decode cX8_keep 0 = .ok (.aload_n 0, 1) := by decide +kernel
theorem dX8_keep_1 : decode cX8_keep 1 = .ok (.getfield 16, 3) := by decide +kernel
theorem dX8_keep_4 : decode cX8_keep 4 = .ok (.aload_n 0, 1) := by decide +kernel
theorem dX8_keep_5 : decode cX8_keep 5 = .ok (.getfield 10, 3) := by decide +kernel
theorem dX8_keep_8 : decode cX8_keep 8 = .ok (.invokevirtual 187, 3) := by decide +kernel
theorem dX8_keep_11 : decode cX8_keep 11 = .ok (.aload_n 0, 1) := by decide +kernel
theorem dX8_keep_12 : decode cX8_keep 12 = .ok (.iconst 1, 1) := by decide +kernel
theorem dX8_keep_13 : decode cX8_keep 13 = .ok (.putfield 191, 3) := by decide +kernel
theorem dX8_keep_16 : decode cX8_keep 16 = .ok (.aload_n 0, 1) := by decide +kernel
theorem dX8_keep_17 : decode cX8_keep 17 = .ok (.iconst 0, 1) := by decide +kernel
theorem dX8_keep_18 : decode cX8_keep 18 = .ok (.invokevirtual 195, 3) := by decide +kernel
theorem dX8_keep_21 : decode cX8_keep 21 = .ok (.ireturn, 1) := by decide +kernel
theorem dX8_goBack_0 : decode cX8_goBack 0 = .ok (.aload_n 0, 1) := by decide +kernel
theorem dX8_goBack_1 : decode cX8_goBack 1 = .ok (.getfield 191, 3) := by decide +kernel
theorem dX8_goBack_4 : decode cX8_goBack 4 = .ok (.ifCond .ne 13, 3) := by decide +kernel
theorem dX8_goBack_7 : decode cX8_goBack 7 = .ok (.new 62, 3) := by decide +kernel
theorem dX8_goBack_10 : decode cX8_goBack 10 = .ok (.dup, 1) := by decide +kernel
theorem dX8_goBack_11 : decode cX8_goBack 11 = .ok (.ldc 198, 2) := by decide +kernel
theorem dX8_goBack_13 : decode cX8_goBack 13 = .ok (.invokespecial 66, 3) := by decide +kernel
theorem dX8_goBack_16 : decode cX8_goBack 16 = .ok (.athrow, 1) := by decide +kernel
theorem dX8_goBack_17 : decode cX8_goBack 17 = .ok (.aload_n 0, 1) := by decide +kernel
theorem dX8_goBack_18 : decode cX8_goBack 18 = .ok (.invokevirtual 69, 3) := by decide +kernel
theorem dX8_goBack_21 : decode cX8_goBack 21 = .ok (.aload_n 0, 1) := by decide +kernel
theorem dX8_goBack_22 : decode cX8_goBack 22 = .ok (.getfield 10, 3) := by decide +kernel
theorem dX8_goBack_25 : decode cX8_goBack 25 = .ok (.aload_n 0, 1) := by decide +kernel
theorem dX8_goBack_26 : decode cX8_goBack 26 = .ok (.getfield 16, 3) := by decide +kernel
theorem dX8_goBack_29 : decode cX8_goBack 29 = .ok (.invokevirtual 187, 3) := by decide +kernel
theorem dX8_goBack_32 : decode cX8_goBack 32 = .ok (.aload_n 0, 1) := by decide +kernel
theorem dX8_goBack_33 : decode cX8_goBack 33 = .ok (.iconst 0, 1) := by decide +kernel
theorem dX8_goBack_34 : decode cX8_goBack 34 = .ok (.invokevirtual 195, 3) := by decide +kernel
theorem dX8_goBack_37 : decode cX8_goBack 37 = .ok (.ireturn, 1) := by decide +kernel
theorem dX8_undo_0 : decode cX8_undo 0 = .ok (.aload_n 0, 1) := by decide +kernel
theorem dX8_undo_1 : decode cX8_undo 1 = .ok (.getfield 200, 3) := by decide +kernel
theorem dX8_undo_4 : decode cX8_undo 4 = .ok (.iconst 1, 1) := by decide +kernel
theorem dX8_undo_5 : decode cX8_undo 5 = .ok (.isub, 1) := by decide +kernel
theorem dX8_undo_6 : decode cX8_undo 6 = .ok (.istore_n 1, 1) := by decide +kernel
theorem dX8_undo_7 : decode cX8_undo 7 = .ok (.iload_n 1, 1) := by decide +kernel
theorem dX8_undo_8 : decode cX8_undo 8 = .ok (.ifCond .lt 12, 3) := by decide +kernel
theorem dX8_undo_11 : decode cX8_undo 11 = .ok (.iload_n 1, 1) := by decide +kernel
theorem dX8_undo_12 : decode cX8_undo 12 = .ok (.aload_n 0, 1) := by decide +kernel
theorem dX8_undo_13 : decode cX8_undo 13 = .ok (.getfield 19, 3) := by decide +kernel
theorem dX8_undo_16 : decode cX8_undo 16 = .ok (.arraylength, 1) := by decide +kernel
theorem dX8_undo_17 : decode cX8_undo 17 = .ok (.if_icmp .lt 13, 3) := by decide +kernel
theorem dX8_undo_20 : decode cX8_undo 20 = .ok (.new 62, 3) := by decide +kernel
theorem dX8_undo_23 : decode cX8_undo 23 = .ok (.dup, 1) := by decide +kernel
theorem dX8_undo_24 : decode cX8_undo 24 = .ok (.ldc 203, 2) := by decide +kernel
theorem dX8_undo_26 : decode cX8_undo 26 = .ok (.invokespecial 66, 3) := by decide +kernel
theorem dX8_undo_29 : decode cX8_undo 29 = .ok (.athrow, 1) := by decide +kernel
theorem dX8_undo_30 : decode cX8_undo 30 = .ok (.aload_n 0, 1) := by decide +kernel
theorem dX8_undo_31 : decode cX8_undo 31 = .ok (.getfield 10, 3) := by decide +kernel
theorem dX8_undo_34 : decode cX8_undo 34 = .ok (.aload_n 0, 1) := by decide +kernel
theorem dX8_undo_35 : decode cX8_undo 35 = .ok (.getfield 19, 3) := by decide +kernel
theorem dX8_undo_38 : decode cX8_undo 38 = .ok (.iload_n 1, 1) := by decide +kernel
theorem dX8_undo_39 : decode cX8_undo 39 = .ok (.aaload, 1) := by decide +kernel
theorem dX8_undo_40 : decode cX8_undo 40 = .ok (.invokevirtual 187, 3) := by decide +kernel
theorem dX8_undo_43 : decode cX8_undo 43 = .ok (.aload_n 0, 1) := by decide +kernel
theorem dX8_undo_44 : decode cX8_undo 44 = .ok (.iload_n 1, 1) := by decide +kernel
theorem dX8_undo_45 : decode cX8_undo 45 = .ok (.putfield 200, 3) := by decide +kernel
theorem dX8_undo_48 : decode cX8_undo 48 = .ok (.aload_n 0, 1) := by decide +kernel
theorem dX8_undo_49 : decode cX8_undo 49 = .ok (.getfield 200, 3) := by decide +kernel
theorem dX8_undo_52 : decode cX8_undo 52 = .ok (.ireturn, 1) := by decide +kernel
theorem dX8_saying_0 : decode cX8_saying 0 = .ok (.aload_n 0, 1) := by decide +kernel
theorem dX8_saying_1 : decode cX8_saying 1 = .ok (.iload_n 1, 1) := by decide +kernel
theorem dX8_saying_2 : decode cX8_saying 2 = .ok (.invokevirtual 44, 3) := by decide +kernel
theorem dX8_saying_5 : decode cX8_saying 5 = .ok (.astore_n 3, 1) := by decide +kernel
theorem dX8_saying_6 : decode cX8_saying 6 = .ok (.iload_n 2, 1) := by decide +kernel
theorem dX8_saying_7 : decode cX8_saying 7 = .ok (.bipush 9, 2) := by decide +kernel
theorem dX8_saying_9 : decode cX8_saying 9 = .ok (.invokestatic 205, 3) := by decide +kernel
theorem dX8_saying_12 : decode cX8_saying 12 = .ok (.aload_n 0, 1) := by decide +kernel
theorem dX8_saying_13 : decode cX8_saying 13 = .ok (.aload_n 3, 1) := by decide +kernel
theorem dX8_saying_14 : decode cX8_saying 14 = .ok (.iload_n 2, 1) := by decide +kernel
theorem dX8_saying_15 : decode cX8_saying 15 = .ok (.invokevirtual 208, 3) := by decide +kernel
theorem dX8_saying_18 : decode cX8_saying 18 = .ok (.ireturn, 1) := by decide +kernel
theorem dX8_hearing_0 : decode cX8_hearing 0 = .ok (.aload_n 0, 1) := by decide +kernel
theorem dX8_hearing_1 : decode cX8_hearing 1 = .ok (.iload_n 1, 1) := by decide +kernel
theorem dX8_hearing_2 : decode cX8_hearing 2 = .ok (.invokevirtual 44, 3) := by decide +kernel
theorem dX8_hearing_5 : decode cX8_hearing 5 = .ok (.astore_n 3, 1) := by decide +kernel
theorem dX8_hearing_6 : decode cX8_hearing 6 = .ok (.iload_n 2, 1) := by decide +kernel
theorem dX8_hearing_7 : decode cX8_hearing 7 = .ok (.bipush 11, 2) := by decide +kernel
theorem dX8_hearing_9 : decode cX8_hearing 9 = .ok (.invokestatic 205, 3) := by decide +kernel
theorem dX8_hearing_12 : decode cX8_hearing 12 = .ok (.aload_n 0, 1) := by decide +kernel
theorem dX8_hearing_13 : decode cX8_hearing 13 = .ok (.aload_n 3, 1) := by decide +kernel
theorem dX8_hearing_14 : decode cX8_hearing 14 = .ok (.iload_n 2, 1) := by decide +kernel
theorem dX8_hearing_15 : decode cX8_hearing 15 = .ok (.invokevirtual 212, 3) := by decide +kernel
theorem dX8_hearing_18 : decode cX8_hearing 18 = .ok (.ireturn, 1) := by decide +kernel
theorem dX8_packet_0 : decode cX8_packet 0 = .ok (.aload_n 0, 1) := by decide +kernel
theorem dX8_packet_1 : decode cX8_packet 1 = .ok (.iload_n 1, 1) := by decide +kernel
theorem dX8_packet_2 : decode cX8_packet 2 = .ok (.invokevirtual 44, 3) := by decide +kernel
theorem dX8_packet_5 : decode cX8_packet 5 = .ok (.astore 4, 2) := by decide +kernel
theorem dX8_packet_7 : decode cX8_packet 7 = .ok (.aload 4, 2) := by decide +kernel
theorem dX8_packet_9 : decode cX8_packet 9 = .ok (.iload_n 2, 1) := by decide +kernel
theorem dX8_packet_10 : decode cX8_packet 10 = .ok (.invokevirtual 215, 3) := by decide +kernel
theorem dX8_packet_13 : decode cX8_packet 13 = .ok (.astore 5, 2) := by decide +kernel
theorem dX8_packet_15 : decode cX8_packet 15 = .ok (.aload 5, 2) := by decide +kernel
theorem dX8_packet_17 : decode cX8_packet 17 = .ok (.ifnonnull 13, 3) := by decide +kernel
theorem dX8_packet_20 : decode cX8_packet 20 = .ok (.new 219, 3) := by decide +kernel
theorem dX8_packet_23 : decode cX8_packet 23 = .ok (.dup, 1) := by decide +kernel
theorem dX8_packet_24 : decode cX8_packet 24 = .ok (.ldc 221, 2) := by decide +kernel
theorem dX8_packet_26 : decode cX8_packet 26 = .ok (.invokespecial 223, 3) := by decide +kernel
theorem dX8_packet_29 : decode cX8_packet 29 = .ok (.athrow, 1) := by decide +kernel
theorem dX8_packet_30 : decode cX8_packet 30 = .ok (.iload_n 3, 1) := by decide +kernel
theorem dX8_packet_31 : decode cX8_packet 31 = .ok (.iconst 5, 1) := by decide +kernel
theorem dX8_packet_32 : decode cX8_packet 32 = .ok (.invokestatic 205, 3) := by decide +kernel
theorem dX8_packet_35 : decode cX8_packet 35 = .ok (.aload 5, 2) := by decide +kernel
theorem dX8_packet_37 : decode cX8_packet 37 = .ok (.iload_n 3, 1) := by decide +kernel
theorem dX8_packet_38 : decode cX8_packet 38 = .ok (.invokevirtual 224, 3) := by decide +kernel
theorem dX8_packet_41 : decode cX8_packet 41 = .ok (.ireturn, 1) := by decide +kernel
theorem dX8_why_0 : decode cX8_why 0 = .ok (.aload_n 0, 1) := by decide +kernel
theorem dX8_why_1 : decode cX8_why 1 = .ok (.aload_n 0, 1) := by decide +kernel
theorem dX8_why_2 : decode cX8_why 2 = .ok (.iload_n 1, 1) := by decide +kernel
theorem dX8_why_3 : decode cX8_why 3 = .ok (.invokevirtual 44, 3) := by decide +kernel
theorem dX8_why_6 : decode cX8_why 6 = .ok (.invokevirtual 227, 3) := by decide +kernel
theorem dX8_why_9 : decode cX8_why 9 = .ok (.ireturn, 1) := by decide +kernel
theorem dX8_count_0 : decode cX8_count 0 = .ok (.iload_n 1, 1) := by decide +kernel
theorem dX8_count_1 : decode cX8_count 1 = .ok (.bipush 7, 2) := by decide +kernel
theorem dX8_count_3 : decode cX8_count 3 = .ok (.invokestatic 205, 3) := by decide +kernel
theorem dX8_count_6 : decode cX8_count 6 = .ok (.aload_n 0, 1) := by decide +kernel
theorem dX8_count_7 : decode cX8_count 7 = .ok (.iload_n 1, 1) := by decide +kernel
theorem dX8_count_8 : decode cX8_count 8 = .ok (.invokevirtual 231, 3) := by decide +kernel
theorem dX8_count_11 : decode cX8_count 11 = .ok (.ireturn, 1) := by decide +kernel
theorem dX8_setting_0 : decode cX8_setting 0 = .ok (.iload_n 1, 1) := by decide +kernel
theorem dX8_setting_1 : decode cX8_setting 1 = .ok (.invokestatic 116, 3) := by decide +kernel
theorem dX8_setting_4 : decode cX8_setting 4 = .ok (.aload_n 0, 1) := by decide +kernel
theorem dX8_setting_5 : decode cX8_setting 5 = .ok (.getfield 10, 3) := by decide +kernel
theorem dX8_setting_8 : decode cX8_setting 8 = .ok (.getfield 52, 3) := by decide +kernel
theorem dX8_setting_11 : decode cX8_setting 11 = .ok (.iload_n 1, 1) := by decide +kernel
theorem dX8_setting_12 : decode cX8_setting 12 = .ok (.invokevirtual 130, 3) := by decide +kernel
theorem dX8_setting_15 : decode cX8_setting 15 = .ok (.ireturn, 1) := by decide +kernel
theorem dX8_code_0 : decode cX8_code 0 = .ok (.aload_n 0, 1) := by decide +kernel
theorem dX8_code_1 : decode cX8_code 1 = .ok (.iload_n 1, 1) := by decide +kernel
theorem dX8_code_2 : decode cX8_code 2 = .ok (.invokevirtual 44, 3) := by decide +kernel
theorem dX8_code_5 : decode cX8_code 5 = .ok (.astore 4, 2) := by decide +kernel
theorem dX8_code_7 : decode cX8_code 7 = .ok (.iload_n 2, 1) := by decide +kernel
theorem dX8_code_8 : decode cX8_code 8 = .ok (.invokestatic 48, 3) := by decide +kernel
theorem dX8_code_11 : decode cX8_code 11 = .ok (.iload_n 3, 1) := by decide +kernel
theorem dX8_code_12 : decode cX8_code 12 = .ok (.iconst 4, 1) := by decide +kernel
theorem dX8_code_13 : decode cX8_code 13 = .ok (.invokestatic 205, 3) := by decide +kernel
theorem dX8_code_16 : decode cX8_code 16 = .ok (.aload_n 0, 1) := by decide +kernel
theorem dX8_code_17 : decode cX8_code 17 = .ok (.aload 4, 2) := by decide +kernel
theorem dX8_code_19 : decode cX8_code 19 = .ok (.iload_n 2, 1) := by decide +kernel
theorem dX8_code_20 : decode cX8_code 20 = .ok (.iload_n 3, 1) := by decide +kernel
theorem dX8_code_21 : decode cX8_code 21 = .ok (.invokevirtual 234, 3) := by decide +kernel
theorem dX8_code_24 : decode cX8_code 24 = .ok (.ireturn, 1) := by decide +kernel
theorem dX8_settles_0 : decode cX8_settles 0 = .ok (.aload_n 0, 1) := by decide +kernel
theorem dX8_settles_1 : decode cX8_settles 1 = .ok (.iload_n 1, 1) := by decide +kernel
theorem dX8_settles_2 : decode cX8_settles 2 = .ok (.invokevirtual 44, 3) := by decide +kernel
theorem dX8_settles_5 : decode cX8_settles 5 = .ok (.astore 4, 2) := by decide +kernel
theorem dX8_settles_7 : decode cX8_settles 7 = .ok (.iload_n 2, 1) := by decide +kernel
theorem dX8_settles_8 : decode cX8_settles 8 = .ok (.invokestatic 48, 3) := by decide +kernel
theorem dX8_settles_11 : decode cX8_settles 11 = .ok (.iload_n 3, 1) := by decide +kernel
theorem dX8_settles_12 : decode cX8_settles 12 = .ok (.iconst 1, 1) := by decide +kernel
theorem dX8_settles_13 : decode cX8_settles 13 = .ok (.if_icmp .lt 10, 3) := by decide +kernel
theorem dX8_settles_16 : decode cX8_settles 16 = .ok (.iload_n 3, 1) := by decide +kernel
theorem dX8_settles_17 : decode cX8_settles 17 = .ok (.sipush 2000, 3) := by decide +kernel
theorem dX8_settles_20 : decode cX8_settles 20 = .ok (.if_icmp .le 13, 3) := by decide +kernel
theorem dX8_settles_23 : decode cX8_settles 23 = .ok (.new 125, 3) := by decide +kernel
theorem dX8_settles_26 : decode cX8_settles 26 = .ok (.dup, 1) := by decide +kernel
theorem dX8_settles_27 : decode cX8_settles 27 = .ok (.ldc 238, 2) := by decide +kernel
theorem dX8_settles_29 : decode cX8_settles 29 = .ok (.invokespecial 129, 3) := by decide +kernel
theorem dX8_settles_32 : decode cX8_settles 32 = .ok (.athrow, 1) := by decide +kernel
theorem dX8_settles_33 : decode cX8_settles 33 = .ok (.aload_n 0, 1) := by decide +kernel
theorem dX8_settles_34 : decode cX8_settles 34 = .ok (.aload 4, 2) := by decide +kernel
theorem dX8_settles_36 : decode cX8_settles 36 = .ok (.iload_n 2, 1) := by decide +kernel
theorem dX8_settles_37 : decode cX8_settles 37 = .ok (.iload_n 3, 1) := by decide +kernel
theorem dX8_settles_38 : decode cX8_settles 38 = .ok (.invokevirtual 240, 3) := by decide +kernel
theorem dX8_settles_41 : decode cX8_settles 41 = .ok (.ireturn, 1) := by decide +kernel
theorem dX8_ifDelivered_0 : decode cX8_ifDelivered 0 = .ok (.aload_n 0, 1) := by decide +kernel
theorem dX8_ifDelivered_1 : decode cX8_ifDelivered 1 = .ok (.iload_n 1, 1) := by decide +kernel
theorem dX8_ifDelivered_2 : decode cX8_ifDelivered 2 = .ok (.invokevirtual 44, 3) := by decide +kernel
theorem dX8_ifDelivered_5 : decode cX8_ifDelivered 5 = .ok (.astore_n 3, 1) := by decide +kernel
theorem dX8_ifDelivered_6 : decode cX8_ifDelivered 6 = .ok (.iload_n 2, 1) := by decide +kernel
theorem dX8_ifDelivered_7 : decode cX8_ifDelivered 7 = .ok (.iconst 3, 1) := by decide +kernel
theorem dX8_ifDelivered_8 : decode cX8_ifDelivered 8 = .ok (.invokestatic 205, 3) := by decide +kernel
theorem dX8_ifDelivered_11 : decode cX8_ifDelivered 11 = .ok (.aload_n 0, 1) := by decide +kernel
theorem dX8_ifDelivered_12 : decode cX8_ifDelivered 12 = .ok (.aload_n 3, 1) := by decide +kernel
theorem dX8_ifDelivered_13 : decode cX8_ifDelivered 13 = .ok (.iload_n 2, 1) := by decide +kernel
theorem dX8_ifDelivered_14 : decode cX8_ifDelivered 14 = .ok (.invokevirtual 243, 3) := by decide +kernel
theorem dX8_ifDelivered_17 : decode cX8_ifDelivered 17 = .ok (.ireturn, 1) := by decide +kernel
theorem dX8_meanError_0 : decode cX8_meanError 0 = .ok (.aload_n 0, 1) := by decide +kernel
theorem dX8_meanError_1 : decode cX8_meanError 1 = .ok (.iload_n 1, 1) := by decide +kernel
theorem dX8_meanError_2 : decode cX8_meanError 2 = .ok (.invokevirtual 44, 3) := by decide +kernel
theorem dX8_meanError_5 : decode cX8_meanError 5 = .ok (.getfield 246, 3) := by decide +kernel
theorem dX8_meanError_8 : decode cX8_meanError 8 = .ok (.invokevirtual 249, 3) := by decide +kernel
theorem dX8_meanError_11 : decode cX8_meanError 11 = .ok (.dreturn, 1) := by decide +kernel
theorem dX8_lostShare_0 : decode cX8_lostShare 0 = .ok (.aload_n 0, 1) := by decide +kernel
theorem dX8_lostShare_1 : decode cX8_lostShare 1 = .ok (.invokevirtual 253, 3) := by decide +kernel
theorem dX8_lostShare_4 : decode cX8_lostShare 4 = .ok (.freturn, 1) := by decide +kernel
theorem dX8_digest_0 : decode cX8_digest 0 = .ok (.ldc2_w 257, 3) := by decide +kernel
theorem dX8_digest_3 : decode cX8_digest 3 = .ok (.lstore_n 1, 1) := by decide +kernel
theorem dX8_digest_4 : decode cX8_digest 4 = .ok (.iconst 0, 1) := by decide +kernel
theorem dX8_digest_5 : decode cX8_digest 5 = .ok (.istore_n 3, 1) := by decide +kernel
theorem dX8_digest_6 : decode cX8_digest 6 = .ok (.iload_n 3, 1) := by decide +kernel
theorem dX8_digest_7 : decode cX8_digest 7 = .ok (.bipush 7, 2) := by decide +kernel
theorem dX8_digest_9 : decode cX8_digest 9 = .ok (.if_icmp .gt 20, 3) := by decide +kernel
theorem dX8_digest_12 : decode cX8_digest 12 = .ok (.lload_n 1, 1) := by decide +kernel
theorem dX8_digest_13 : decode cX8_digest 13 = .ok (.aload_n 0, 1) := by decide +kernel
theorem dX8_digest_14 : decode cX8_digest 14 = .ok (.iload_n 3, 1) := by decide +kernel
theorem dX8_digest_15 : decode cX8_digest 15 = .ok (.invokevirtual 231, 3) := by decide +kernel
theorem dX8_digest_18 : decode cX8_digest 18 = .ok (.i2l, 1) := by decide +kernel
theorem dX8_digest_19 : decode cX8_digest 19 = .ok (.invokestatic 259, 3) := by decide +kernel
theorem dX8_digest_22 : decode cX8_digest 22 = .ok (.lstore_n 1, 1) := by decide +kernel
theorem dX8_digest_23 : decode cX8_digest 23 = .ok (.iinc 3 1, 3) := by decide +kernel
theorem dX8_digest_26 : decode cX8_digest 26 = .ok (.goto (-20), 3) := by decide +kernel
theorem dX8_digest_29 : decode cX8_digest 29 = .ok (.iconst 0, 1) := by decide +kernel
theorem dX8_digest_30 : decode cX8_digest 30 = .ok (.istore_n 3, 1) := by decide +kernel
theorem dX8_digest_31 : decode cX8_digest 31 = .ok (.iload_n 3, 1) := by decide +kernel
theorem dX8_digest_32 : decode cX8_digest 32 = .ok (.iconst 3, 1) := by decide +kernel
theorem dX8_digest_33 : decode cX8_digest 33 = .ok (.if_icmp .gt 26, 3) := by decide +kernel
theorem dX8_digest_36 : decode cX8_digest 36 = .ok (.lload_n 1, 1) := by decide +kernel
theorem dX8_digest_37 : decode cX8_digest 37 = .ok (.aload_n 0, 1) := by decide +kernel
theorem dX8_digest_38 : decode cX8_digest 38 = .ok (.getfield 10, 3) := by decide +kernel
theorem dX8_digest_41 : decode cX8_digest 41 = .ok (.getfield 52, 3) := by decide +kernel
theorem dX8_digest_44 : decode cX8_digest 44 = .ok (.iload_n 3, 1) := by decide +kernel
theorem dX8_digest_45 : decode cX8_digest 45 = .ok (.invokevirtual 130, 3) := by decide +kernel
theorem dX8_digest_48 : decode cX8_digest 48 = .ok (.i2l, 1) := by decide +kernel
theorem dX8_digest_49 : decode cX8_digest 49 = .ok (.invokestatic 259, 3) := by decide +kernel
theorem dX8_digest_52 : decode cX8_digest 52 = .ok (.lstore_n 1, 1) := by decide +kernel
theorem dX8_digest_53 : decode cX8_digest 53 = .ok (.iinc 3 1, 3) := by decide +kernel
theorem dX8_digest_56 : decode cX8_digest 56 = .ok (.goto (-25), 3) := by decide +kernel
theorem dX8_digest_59 : decode cX8_digest 59 = .ok (.iconst 0, 1) := by decide +kernel
theorem dX8_digest_60 : decode cX8_digest 60 = .ok (.istore_n 3, 1) := by decide +kernel
theorem dX8_digest_61 : decode cX8_digest 61 = .ok (.iload_n 3, 1) := by decide +kernel
theorem dX8_digest_62 : decode cX8_digest 62 = .ok (.aload_n 0, 1) := by decide +kernel
theorem dX8_digest_63 : decode cX8_digest 63 = .ok (.getfield 10, 3) := by decide +kernel
theorem dX8_digest_66 : decode cX8_digest 66 = .ok (.getfield 263, 3) := by decide +kernel
theorem dX8_digest_69 : decode cX8_digest 69 = .ok (.arraylength, 1) := by decide +kernel
theorem dX8_digest_70 : decode cX8_digest 70 = .ok (.if_icmp .ge 24, 3) := by decide +kernel
theorem dX8_digest_73 : decode cX8_digest 73 = .ok (.aload_n 0, 1) := by decide +kernel
theorem dX8_digest_74 : decode cX8_digest 74 = .ok (.lload_n 1, 1) := by decide +kernel
theorem dX8_digest_75 : decode cX8_digest 75 = .ok (.aload_n 0, 1) := by decide +kernel
theorem dX8_digest_76 : decode cX8_digest 76 = .ok (.getfield 10, 3) := by decide +kernel
theorem dX8_digest_79 : decode cX8_digest 79 = .ok (.getfield 263, 3) := by decide +kernel
theorem dX8_digest_82 : decode cX8_digest 82 = .ok (.iload_n 3, 1) := by decide +kernel
theorem dX8_digest_83 : decode cX8_digest 83 = .ok (.aaload, 1) := by decide +kernel
theorem dX8_digest_84 : decode cX8_digest 84 = .ok (.invokevirtual 267, 3) := by decide +kernel
theorem dX8_digest_87 : decode cX8_digest 87 = .ok (.lstore_n 1, 1) := by decide +kernel
theorem dX8_digest_88 : decode cX8_digest 88 = .ok (.iinc 3 1, 3) := by decide +kernel
theorem dX8_digest_91 : decode cX8_digest 91 = .ok (.goto (-30), 3) := by decide +kernel
theorem dX8_digest_94 : decode cX8_digest 94 = .ok (.lload_n 1, 1) := by decide +kernel
theorem dX8_digest_95 : decode cX8_digest 95 = .ok (.aload_n 0, 1) := by decide +kernel
theorem dX8_digest_96 : decode cX8_digest 96 = .ok (.invokevirtual 253, 3) := by decide +kernel
theorem dX8_digest_99 : decode cX8_digest 99 = .ok (.invokestatic 271, 3) := by decide +kernel
theorem dX8_digest_102 : decode cX8_digest 102 = .ok (.invokestatic 259, 3) := by decide +kernel
theorem dX8_digest_105 : decode cX8_digest 105 = .ok (.lstore_n 1, 1) := by decide +kernel
theorem dX8_digest_106 : decode cX8_digest 106 = .ok (.lload_n 1, 1) := by decide +kernel
theorem dX8_digest_107 : decode cX8_digest 107 = .ok (.aload_n 0, 1) := by decide +kernel
theorem dX8_digest_108 : decode cX8_digest 108 = .ok (.getfield 191, 3) := by decide +kernel
theorem dX8_digest_111 : decode cX8_digest 111 = .ok (.ifCond .eq 7, 3) := by decide +kernel
theorem dX8_digest_114 : decode cX8_digest 114 = .ok (.lconst 1, 1) := by decide +kernel
theorem dX8_digest_115 : decode cX8_digest 115 = .ok (.goto 4, 3) := by decide +kernel
theorem dX8_digest_118 : decode cX8_digest 118 = .ok (.lconst 0, 1) := by decide +kernel
theorem dX8_digest_119 : decode cX8_digest 119 = .ok (.invokestatic 259, 3) := by decide +kernel
theorem dX8_digest_122 : decode cX8_digest 122 = .ok (.lstore_n 1, 1) := by decide +kernel
theorem dX8_digest_123 : decode cX8_digest 123 = .ok (.lload_n 1, 1) := by decide +kernel
theorem dX8_digest_124 : decode cX8_digest 124 = .ok (.aload_n 0, 1) := by decide +kernel
theorem dX8_digest_125 : decode cX8_digest 125 = .ok (.getfield 26, 3) := by decide +kernel
theorem dX8_digest_128 : decode cX8_digest 128 = .ok (.getfield 149, 3) := by decide +kernel
theorem dX8_digest_131 : decode cX8_digest 131 = .ok (.i2l, 1) := by decide +kernel
theorem dX8_digest_132 : decode cX8_digest 132 = .ok (.invokestatic 259, 3) := by decide +kernel
theorem dX8_digest_135 : decode cX8_digest 135 = .ok (.lstore_n 1, 1) := by decide +kernel
theorem dX8_digest_136 : decode cX8_digest 136 = .ok (.iconst 0, 1) := by decide +kernel
theorem dX8_digest_137 : decode cX8_digest 137 = .ok (.istore_n 3, 1) := by decide +kernel
theorem dX8_digest_138 : decode cX8_digest 138 = .ok (.iload_n 3, 1) := by decide +kernel
theorem dX8_digest_139 : decode cX8_digest 139 = .ok (.aload_n 0, 1) := by decide +kernel
theorem dX8_digest_140 : decode cX8_digest 140 = .ok (.getfield 26, 3) := by decide +kernel
theorem dX8_digest_143 : decode cX8_digest 143 = .ok (.getfield 149, 3) := by decide +kernel
theorem dX8_digest_146 : decode cX8_digest 146 = .ok (.if_icmp .ge 23, 3) := by decide +kernel
theorem dX8_digest_149 : decode cX8_digest 149 = .ok (.lload_n 1, 1) := by decide +kernel
theorem dX8_digest_150 : decode cX8_digest 150 = .ok (.aload_n 0, 1) := by decide +kernel
theorem dX8_digest_151 : decode cX8_digest 151 = .ok (.getfield 26, 3) := by decide +kernel
theorem dX8_digest_154 : decode cX8_digest 154 = .ok (.iload_n 3, 1) := by decide +kernel
theorem dX8_digest_155 : decode cX8_digest 155 = .ok (.invokevirtual 275, 3) := by decide +kernel
theorem dX8_digest_158 : decode cX8_digest 158 = .ok (.i2l, 1) := by decide +kernel
theorem dX8_digest_159 : decode cX8_digest 159 = .ok (.invokestatic 259, 3) := by decide +kernel
theorem dX8_digest_162 : decode cX8_digest 162 = .ok (.lstore_n 1, 1) := by decide +kernel
theorem dX8_digest_163 : decode cX8_digest 163 = .ok (.iinc 3 1, 3) := by decide +kernel
theorem dX8_digest_166 : decode cX8_digest 166 = .ok (.goto (-28), 3) := by decide +kernel
theorem dX8_digest_169 : decode cX8_digest 169 = .ok (.lload_n 1, 1) := by decide +kernel
theorem dX8_digest_170 : decode cX8_digest 170 = .ok (.lreturn, 1) := by decide +kernel
theorem dX8_voiceOf_0 : decode cX8_voiceOf 0 = .ok (.iload_n 1, 1) := by decide +kernel
theorem dX8_voiceOf_1 : decode cX8_voiceOf 1 = .ok (.ifCond .lt 15, 3) := by decide +kernel
theorem dX8_voiceOf_4 : decode cX8_voiceOf 4 = .ok (.iload_n 1, 1) := by decide +kernel
theorem dX8_voiceOf_5 : decode cX8_voiceOf 5 = .ok (.aload_n 0, 1) := by decide +kernel
theorem dX8_voiceOf_6 : decode cX8_voiceOf 6 = .ok (.getfield 10, 3) := by decide +kernel
theorem dX8_voiceOf_9 : decode cX8_voiceOf 9 = .ok (.getfield 263, 3) := by decide +kernel
theorem dX8_voiceOf_12 : decode cX8_voiceOf 12 = .ok (.arraylength, 1) := by decide +kernel
theorem dX8_voiceOf_13 : decode cX8_voiceOf 13 = .ok (.if_icmp .lt 14, 3) := by decide +kernel
theorem dX8_voiceOf_16 : decode cX8_voiceOf 16 = .ok (.new 219, 3) := by decide +kernel
theorem dX8_voiceOf_19 : decode cX8_voiceOf 19 = .ok (.dup, 1) := by decide +kernel
theorem dX8_voiceOf_20 : decode cX8_voiceOf 20 = .ok (.ldc_w 279, 3) := by decide +kernel
theorem dX8_voiceOf_23 : decode cX8_voiceOf 23 = .ok (.invokespecial 223, 3) := by decide +kernel
theorem dX8_voiceOf_26 : decode cX8_voiceOf 26 = .ok (.athrow, 1) := by decide +kernel
theorem dX8_voiceOf_27 : decode cX8_voiceOf 27 = .ok (.aload_n 0, 1) := by decide +kernel
theorem dX8_voiceOf_28 : decode cX8_voiceOf 28 = .ok (.getfield 10, 3) := by decide +kernel
theorem dX8_voiceOf_31 : decode cX8_voiceOf 31 = .ok (.getfield 263, 3) := by decide +kernel
theorem dX8_voiceOf_34 : decode cX8_voiceOf 34 = .ok (.iload_n 1, 1) := by decide +kernel
theorem dX8_voiceOf_35 : decode cX8_voiceOf 35 = .ok (.aaload, 1) := by decide +kernel
theorem dX8_voiceOf_36 : decode cX8_voiceOf 36 = .ok (.areturn, 1) := by decide +kernel
theorem dX8_requireSetting_0 : decode cX8_requireSetting 0 = .ok (.iload_n 0, 1) := by decide +kernel
theorem dX8_requireSetting_1 : decode cX8_requireSetting 1 = .ok (.ifCond .lt 8, 3) := by decide +kernel
theorem dX8_requireSetting_4 : decode cX8_requireSetting 4 = .ok (.iload_n 0, 1) := by decide +kernel
theorem dX8_requireSetting_5 : decode cX8_requireSetting 5 = .ok (.iconst 3, 1) := by decide +kernel
theorem dX8_requireSetting_6 : decode cX8_requireSetting 6 = .ok (.if_icmp .le 14, 3) := by decide +kernel
theorem dX8_requireSetting_9 : decode cX8_requireSetting 9 = .ok (.new 219, 3) := by decide +kernel
theorem dX8_requireSetting_12 : decode cX8_requireSetting 12 = .ok (.dup, 1) := by decide +kernel
theorem dX8_requireSetting_13 : decode cX8_requireSetting 13 = .ok (.ldc_w 281, 3) := by decide +kernel
theorem dX8_requireSetting_16 : decode cX8_requireSetting 16 = .ok (.invokespecial 223, 3) := by decide +kernel
theorem dX8_requireSetting_19 : decode cX8_requireSetting 19 = .ok (.athrow, 1) := by decide +kernel
theorem dX8_requireSetting_20 : decode cX8_requireSetting 20 = .ok (.return_, 1) := by decide +kernel
theorem dX8_requireSample_0 : decode cX8_requireSample 0 = .ok (.iload_n 0, 1) := by decide +kernel
theorem dX8_requireSample_1 : decode cX8_requireSample 1 = .ok (.sipush (-2000), 3) := by decide +kernel
theorem dX8_requireSample_4 : decode cX8_requireSample 4 = .ok (.if_icmp .lt 10, 3) := by decide +kernel
theorem dX8_requireSample_7 : decode cX8_requireSample 7 = .ok (.iload_n 0, 1) := by decide +kernel
theorem dX8_requireSample_8 : decode cX8_requireSample 8 = .ok (.sipush 2000, 3) := by decide +kernel
theorem dX8_requireSample_11 : decode cX8_requireSample 11 = .ok (.if_icmp .le 14, 3) := by decide +kernel
theorem dX8_requireSample_14 : decode cX8_requireSample 14 = .ok (.new 125, 3) := by decide +kernel
theorem dX8_requireSample_17 : decode cX8_requireSample 17 = .ok (.dup, 1) := by decide +kernel
theorem dX8_requireSample_18 : decode cX8_requireSample 18 = .ok (.ldc_w 283, 3) := by decide +kernel
theorem dX8_requireSample_21 : decode cX8_requireSample 21 = .ok (.invokespecial 129, 3) := by decide +kernel
theorem dX8_requireSample_24 : decode cX8_requireSample 24 = .ok (.athrow, 1) := by decide +kernel
theorem dX8_requireSample_25 : decode cX8_requireSample 25 = .ok (.return_, 1) := by decide +kernel
theorem dX8_requireWhat_0 : decode cX8_requireWhat 0 = .ok (.iload_n 0, 1) := by decide +kernel
theorem dX8_requireWhat_1 : decode cX8_requireWhat 1 = .ok (.ifCond .lt 8, 3) := by decide +kernel
theorem dX8_requireWhat_4 : decode cX8_requireWhat 4 = .ok (.iload_n 0, 1) := by decide +kernel
theorem dX8_requireWhat_5 : decode cX8_requireWhat 5 = .ok (.iload_n 1, 1) := by decide +kernel
theorem dX8_requireWhat_6 : decode cX8_requireWhat 6 = .ok (.if_icmp .le 14, 3) := by decide +kernel
theorem dX8_requireWhat_9 : decode cX8_requireWhat 9 = .ok (.new 125, 3) := by decide +kernel
theorem dX8_requireWhat_12 : decode cX8_requireWhat 12 = .ok (.dup, 1) := by decide +kernel
theorem dX8_requireWhat_13 : decode cX8_requireWhat 13 = .ok (.ldc_w 285, 3) := by decide +kernel
theorem dX8_requireWhat_16 : decode cX8_requireWhat 16 = .ok (.invokespecial 129, 3) := by decide +kernel
theorem dX8_requireWhat_19 : decode cX8_requireWhat 19 = .ok (.athrow, 1) := by decide +kernel
theorem dX8_requireWhat_20 : decode cX8_requireWhat 20 = .ok (.return_, 1) := by decide +kernel
theorem dX8_requireWaiting_0 : decode cX8_requireWaiting 0 = .ok (.aload_n 0, 1) := by decide +kernel
theorem dX8_requireWaiting_1 : decode cX8_requireWaiting 1 = .ok (.getfield 287, 3) := by decide +kernel
theorem dX8_requireWaiting_4 : decode cX8_requireWaiting 4 = .ok (.iload_n 1, 1) := by decide +kernel
theorem dX8_requireWaiting_5 : decode cX8_requireWaiting 5 = .ok (.if_icmp .ge 14, 3) := by decide +kernel
theorem dX8_requireWaiting_8 : decode cX8_requireWaiting 8 = .ok (.new 62, 3) := by decide +kernel
theorem dX8_requireWaiting_11 : decode cX8_requireWaiting 11 = .ok (.dup, 1) := by decide +kernel
theorem dX8_requireWaiting_12 : decode cX8_requireWaiting 12 = .ok (.ldc_w 290, 3) := by decide +kernel
theorem dX8_requireWaiting_15 : decode cX8_requireWaiting 15 = .ok (.invokespecial 66, 3) := by decide +kernel
theorem dX8_requireWaiting_18 : decode cX8_requireWaiting 18 = .ok (.athrow, 1) := by decide +kernel
theorem dX8_requireWaiting_19 : decode cX8_requireWaiting 19 = .ok (.return_, 1) := by decide +kernel
theorem dX8_saveLive_0 : decode cX8_saveLive 0 = .ok (.aload_n 0, 1) := by decide +kernel
theorem dX8_saveLive_1 : decode cX8_saveLive 1 = .ok (.getfield 200, 3) := by decide +kernel
theorem dX8_saveLive_4 : decode cX8_saveLive 4 = .ok (.aload_n 0, 1) := by decide +kernel
theorem dX8_saveLive_5 : decode cX8_saveLive 5 = .ok (.getfield 19, 3) := by decide +kernel
theorem dX8_saveLive_8 : decode cX8_saveLive 8 = .ok (.arraylength, 1) := by decide +kernel
theorem dX8_saveLive_9 : decode cX8_saveLive 9 = .ok (.if_icmp .lt 7, 3) := by decide +kernel
theorem dX8_saveLive_12 : decode cX8_saveLive 12 = .ok (.aload_n 0, 1) := by decide +kernel
theorem dX8_saveLive_13 : decode cX8_saveLive 13 = .ok (.invokevirtual 292, 3) := by decide +kernel
theorem dX8_saveLive_16 : decode cX8_saveLive 16 = .ok (.aload_n 0, 1) := by decide +kernel
theorem dX8_saveLive_17 : decode cX8_saveLive 17 = .ok (.getfield 200, 3) := by decide +kernel
theorem dX8_saveLive_20 : decode cX8_saveLive 20 = .ok (.ifCond .lt 15, 3) := by decide +kernel
theorem dX8_saveLive_23 : decode cX8_saveLive 23 = .ok (.aload_n 0, 1) := by decide +kernel
theorem dX8_saveLive_24 : decode cX8_saveLive 24 = .ok (.getfield 200, 3) := by decide +kernel
theorem dX8_saveLive_27 : decode cX8_saveLive 27 = .ok (.aload_n 0, 1) := by decide +kernel
theorem dX8_saveLive_28 : decode cX8_saveLive 28 = .ok (.getfield 19, 3) := by decide +kernel
theorem dX8_saveLive_31 : decode cX8_saveLive 31 = .ok (.arraylength, 1) := by decide +kernel
theorem dX8_saveLive_32 : decode cX8_saveLive 32 = .ok (.if_icmp .lt 4, 3) := by decide +kernel
theorem dX8_saveLive_35 : decode cX8_saveLive 35 = .ok (.return_, 1) := by decide +kernel
theorem dX8_saveLive_36 : decode cX8_saveLive 36 = .ok (.aload_n 0, 1) := by decide +kernel
theorem dX8_saveLive_37 : decode cX8_saveLive 37 = .ok (.getfield 19, 3) := by decide +kernel
theorem dX8_saveLive_40 : decode cX8_saveLive 40 = .ok (.aload_n 0, 1) := by decide +kernel
theorem dX8_saveLive_41 : decode cX8_saveLive 41 = .ok (.getfield 200, 3) := by decide +kernel
theorem dX8_saveLive_44 : decode cX8_saveLive 44 = .ok (.aaload, 1) := by decide +kernel
theorem dX8_saveLive_45 : decode cX8_saveLive 45 = .ok (.aload_n 0, 1) := by decide +kernel
theorem dX8_saveLive_46 : decode cX8_saveLive 46 = .ok (.getfield 10, 3) := by decide +kernel
theorem dX8_saveLive_49 : decode cX8_saveLive 49 = .ok (.invokevirtual 187, 3) := by decide +kernel
theorem dX8_saveLive_52 : decode cX8_saveLive 52 = .ok (.aload_n 0, 1) := by decide +kernel
theorem dX8_saveLive_53 : decode cX8_saveLive 53 = .ok (.dup, 1) := by decide +kernel
theorem dX8_saveLive_54 : decode cX8_saveLive 54 = .ok (.getfield 200, 3) := by decide +kernel
theorem dX8_saveLive_57 : decode cX8_saveLive 57 = .ok (.iconst 1, 1) := by decide +kernel
theorem dX8_saveLive_58 : decode cX8_saveLive 58 = .ok (.iadd, 1) := by decide +kernel
theorem dX8_saveLive_59 : decode cX8_saveLive 59 = .ok (.putfield 200, 3) := by decide +kernel
theorem dX8_saveLive_62 : decode cX8_saveLive 62 = .ok (.return_, 1) := by decide +kernel
theorem dX8_dropOldestSaved_0 : decode cX8_dropOldestSaved 0 = .ok (.aload_n 0, 1) := by decide +kernel
theorem dX8_dropOldestSaved_1 : decode cX8_dropOldestSaved 1 = .ok (.getfield 19, 3) := by decide +kernel
theorem dX8_dropOldestSaved_4 : decode cX8_dropOldestSaved 4 = .ok (.iconst 0, 1) := by decide +kernel
theorem dX8_dropOldestSaved_5 : decode cX8_dropOldestSaved 5 = .ok (.aaload, 1) := by decide +kernel
theorem dX8_dropOldestSaved_6 : decode cX8_dropOldestSaved 6 = .ok (.astore_n 1, 1) := by decide +kernel
theorem dX8_dropOldestSaved_7 : decode cX8_dropOldestSaved 7 = .ok (.iconst 1, 1) := by decide +kernel
theorem dX8_dropOldestSaved_8 : decode cX8_dropOldestSaved 8 = .ok (.istore_n 2, 1) := by decide +kernel
theorem dX8_dropOldestSaved_9 : decode cX8_dropOldestSaved 9 = .ok (.iload_n 2, 1) := by decide +kernel
theorem dX8_dropOldestSaved_10 : decode cX8_dropOldestSaved 10 = .ok (.aload_n 0, 1) := by decide +kernel
theorem dX8_dropOldestSaved_11 : decode cX8_dropOldestSaved 11 = .ok (.getfield 19, 3) := by decide +kernel
theorem dX8_dropOldestSaved_14 : decode cX8_dropOldestSaved 14 = .ok (.arraylength, 1) := by decide +kernel
theorem dX8_dropOldestSaved_15 : decode cX8_dropOldestSaved 15 = .ok (.if_icmp .ge 23, 3) := by decide +kernel
theorem dX8_dropOldestSaved_18 : decode cX8_dropOldestSaved 18 = .ok (.aload_n 0, 1) := by decide +kernel
theorem dX8_dropOldestSaved_19 : decode cX8_dropOldestSaved 19 = .ok (.getfield 19, 3) := by decide +kernel
theorem dX8_dropOldestSaved_22 : decode cX8_dropOldestSaved 22 = .ok (.iload_n 2, 1) := by decide +kernel
theorem dX8_dropOldestSaved_23 : decode cX8_dropOldestSaved 23 = .ok (.iconst 1, 1) := by decide +kernel
theorem dX8_dropOldestSaved_24 : decode cX8_dropOldestSaved 24 = .ok (.isub, 1) := by decide +kernel
theorem dX8_dropOldestSaved_25 : decode cX8_dropOldestSaved 25 = .ok (.aload_n 0, 1) := by decide +kernel
theorem dX8_dropOldestSaved_26 : decode cX8_dropOldestSaved 26 = .ok (.getfield 19, 3) := by decide +kernel
theorem dX8_dropOldestSaved_29 : decode cX8_dropOldestSaved 29 = .ok (.iload_n 2, 1) := by decide +kernel
theorem dX8_dropOldestSaved_30 : decode cX8_dropOldestSaved 30 = .ok (.aaload, 1) := by decide +kernel
theorem dX8_dropOldestSaved_31 : decode cX8_dropOldestSaved 31 = .ok (.aastore, 1) := by decide +kernel
theorem dX8_dropOldestSaved_32 : decode cX8_dropOldestSaved 32 = .ok (.iinc 2 1, 3) := by decide +kernel
theorem dX8_dropOldestSaved_35 : decode cX8_dropOldestSaved 35 = .ok (.goto (-26), 3) := by decide +kernel
theorem dX8_dropOldestSaved_38 : decode cX8_dropOldestSaved 38 = .ok (.aload_n 0, 1) := by decide +kernel
theorem dX8_dropOldestSaved_39 : decode cX8_dropOldestSaved 39 = .ok (.getfield 19, 3) := by decide +kernel
theorem dX8_dropOldestSaved_42 : decode cX8_dropOldestSaved 42 = .ok (.aload_n 0, 1) := by decide +kernel
theorem dX8_dropOldestSaved_43 : decode cX8_dropOldestSaved 43 = .ok (.getfield 19, 3) := by decide +kernel
theorem dX8_dropOldestSaved_46 : decode cX8_dropOldestSaved 46 = .ok (.arraylength, 1) := by decide +kernel
theorem dX8_dropOldestSaved_47 : decode cX8_dropOldestSaved 47 = .ok (.iconst 1, 1) := by decide +kernel
theorem dX8_dropOldestSaved_48 : decode cX8_dropOldestSaved 48 = .ok (.isub, 1) := by decide +kernel
theorem dX8_dropOldestSaved_49 : decode cX8_dropOldestSaved 49 = .ok (.aload_n 1, 1) := by decide +kernel
theorem dX8_dropOldestSaved_50 : decode cX8_dropOldestSaved 50 = .ok (.aastore, 1) := by decide +kernel
theorem dX8_dropOldestSaved_51 : decode cX8_dropOldestSaved 51 = .ok (.aload_n 0, 1) := by decide +kernel
theorem dX8_dropOldestSaved_52 : decode cX8_dropOldestSaved 52 = .ok (.aload_n 0, 1) := by decide +kernel
theorem dX8_dropOldestSaved_53 : decode cX8_dropOldestSaved 53 = .ok (.getfield 19, 3) := by decide +kernel
theorem dX8_dropOldestSaved_56 : decode cX8_dropOldestSaved 56 = .ok (.arraylength, 1) := by decide +kernel
theorem dX8_dropOldestSaved_57 : decode cX8_dropOldestSaved 57 = .ok (.iconst 1, 1) := by decide +kernel
theorem dX8_dropOldestSaved_58 : decode cX8_dropOldestSaved 58 = .ok (.isub, 1) := by decide +kernel
theorem dX8_dropOldestSaved_59 : decode cX8_dropOldestSaved 59 = .ok (.putfield 200, 3) := by decide +kernel
theorem dX8_dropOldestSaved_62 : decode cX8_dropOldestSaved 62 = .ok (.return_, 1) := by decide +kernel
theorem dX8_canDo_0 : decode cX8_canDo 0 = .ok (.iload_n 1, 1) := by decide +kernel
theorem dX8_canDo_1 : decode cX8_canDo 1 = .ok (.bipush 100, 2) := by decide +kernel
theorem dX8_canDo_3 : decode cX8_canDo 3 = .ok (.if_icmp .eq 9, 3) := by decide +kernel
theorem dX8_canDo_6 : decode cX8_canDo 6 = .ok (.iload_n 1, 1) := by decide +kernel
theorem dX8_canDo_7 : decode cX8_canDo 7 = .ok (.bipush 108, 2) := by decide +kernel
theorem dX8_canDo_9 : decode cX8_canDo 9 = .ok (.if_icmp .ne 17, 3) := by decide +kernel
theorem dX8_canDo_12 : decode cX8_canDo 12 = .ok (.aload_n 2, 1) := by decide +kernel
theorem dX8_canDo_13 : decode cX8_canDo 13 = .ok (.getfield 287, 3) := by decide +kernel
theorem dX8_canDo_16 : decode cX8_canDo 16 = .ok (.iconst 1, 1) := by decide +kernel
theorem dX8_canDo_17 : decode cX8_canDo 17 = .ok (.if_icmp .lt 7, 3) := by decide +kernel
theorem dX8_canDo_20 : decode cX8_canDo 20 = .ok (.iconst 1, 1) := by decide +kernel
theorem dX8_canDo_21 : decode cX8_canDo 21 = .ok (.goto 4, 3) := by decide +kernel
theorem dX8_canDo_24 : decode cX8_canDo 24 = .ok (.iconst 0, 1) := by decide +kernel
theorem dX8_canDo_25 : decode cX8_canDo 25 = .ok (.ireturn, 1) := by decide +kernel
theorem dX8_canDo_26 : decode cX8_canDo 26 = .ok (.iload_n 1, 1) := by decide +kernel
theorem dX8_canDo_27 : decode cX8_canDo 27 = .ok (.bipush 120, 2) := by decide +kernel
theorem dX8_canDo_29 : decode cX8_canDo 29 = .ok (.if_icmp .ne 17, 3) := by decide +kernel
theorem dX8_canDo_32 : decode cX8_canDo 32 = .ok (.aload_n 2, 1) := by decide +kernel
theorem dX8_canDo_33 : decode cX8_canDo 33 = .ok (.getfield 287, 3) := by decide +kernel
theorem dX8_canDo_36 : decode cX8_canDo 36 = .ok (.iconst 2, 1) := by decide +kernel
theorem dX8_canDo_37 : decode cX8_canDo 37 = .ok (.if_icmp .lt 7, 3) := by decide +kernel
theorem dX8_canDo_40 : decode cX8_canDo 40 = .ok (.iconst 1, 1) := by decide +kernel
theorem dX8_canDo_41 : decode cX8_canDo 41 = .ok (.goto 4, 3) := by decide +kernel
theorem dX8_canDo_44 : decode cX8_canDo 44 = .ok (.iconst 0, 1) := by decide +kernel
theorem dX8_canDo_45 : decode cX8_canDo 45 = .ok (.ireturn, 1) := by decide +kernel
theorem dX8_canDo_46 : decode cX8_canDo 46 = .ok (.aload_n 2, 1) := by decide +kernel
theorem dX8_canDo_47 : decode cX8_canDo 47 = .ok (.aload_n 0, 1) := by decide +kernel
theorem dX8_canDo_48 : decode cX8_canDo 48 = .ok (.getfield 10, 3) := by decide +kernel
theorem dX8_canDo_51 : decode cX8_canDo 51 = .ok (.getfield 52, 3) := by decide +kernel
theorem dX8_canDo_54 : decode cX8_canDo 54 = .ok (.invokevirtual 56, 3) := by decide +kernel
theorem dX8_canDo_57 : decode cX8_canDo 57 = .ok (.ireturn, 1) := by decide +kernel
theorem dX8_doDeed_0 : decode cX8_doDeed 0 = .ok (.iload_n 1, 1) := by decide +kernel
theorem dX8_doDeed_1 : decode cX8_doDeed 1 = .ok (.bipush 100, 2) := by decide +kernel
theorem dX8_doDeed_3 : decode cX8_doDeed 3 = .ok (.if_icmp .ne 11, 3) := by decide +kernel
theorem dX8_doDeed_6 : decode cX8_doDeed 6 = .ok (.aload_n 2, 1) := by decide +kernel
theorem dX8_doDeed_7 : decode cX8_doDeed 7 = .ok (.invokevirtual 106, 3) := by decide +kernel
theorem dX8_doDeed_10 : decode cX8_doDeed 10 = .ok (.pop, 1) := by decide +kernel
theorem dX8_doDeed_11 : decode cX8_doDeed 11 = .ok (.goto 44, 3) := by decide +kernel
theorem dX8_doDeed_14 : decode cX8_doDeed 14 = .ok (.iload_n 1, 1) := by decide +kernel
theorem dX8_doDeed_15 : decode cX8_doDeed 15 = .ok (.bipush 108, 2) := by decide +kernel
theorem dX8_doDeed_17 : decode cX8_doDeed 17 = .ok (.if_icmp .ne 11, 3) := by decide +kernel
theorem dX8_doDeed_20 : decode cX8_doDeed 20 = .ok (.aload_n 2, 1) := by decide +kernel
theorem dX8_doDeed_21 : decode cX8_doDeed 21 = .ok (.invokevirtual 110, 3) := by decide +kernel
theorem dX8_doDeed_24 : decode cX8_doDeed 24 = .ok (.pop, 1) := by decide +kernel
theorem dX8_doDeed_25 : decode cX8_doDeed 25 = .ok (.goto 30, 3) := by decide +kernel
theorem dX8_doDeed_28 : decode cX8_doDeed 28 = .ok (.iload_n 1, 1) := by decide +kernel
theorem dX8_doDeed_29 : decode cX8_doDeed 29 = .ok (.bipush 120, 2) := by decide +kernel
theorem dX8_doDeed_31 : decode cX8_doDeed 31 = .ok (.if_icmp .ne 11, 3) := by decide +kernel
theorem dX8_doDeed_34 : decode cX8_doDeed 34 = .ok (.aload_n 2, 1) := by decide +kernel
theorem dX8_doDeed_35 : decode cX8_doDeed 35 = .ok (.invokevirtual 113, 3) := by decide +kernel
theorem dX8_doDeed_38 : decode cX8_doDeed 38 = .ok (.pop, 1) := by decide +kernel
theorem dX8_doDeed_39 : decode cX8_doDeed 39 = .ok (.goto 16, 3) := by decide +kernel
theorem dX8_doDeed_42 : decode cX8_doDeed 42 = .ok (.aload_n 2, 1) := by decide +kernel
theorem dX8_doDeed_43 : decode cX8_doDeed 43 = .ok (.iload_n 3, 1) := by decide +kernel
theorem dX8_doDeed_44 : decode cX8_doDeed 44 = .ok (.aload_n 0, 1) := by decide +kernel
theorem dX8_doDeed_45 : decode cX8_doDeed 45 = .ok (.getfield 10, 3) := by decide +kernel
theorem dX8_doDeed_48 : decode cX8_doDeed 48 = .ok (.getfield 52, 3) := by decide +kernel
theorem dX8_doDeed_51 : decode cX8_doDeed 51 = .ok (.invokevirtual 72, 3) := by decide +kernel
theorem dX8_doDeed_54 : decode cX8_doDeed 54 = .ok (.pop, 1) := by decide +kernel
theorem dX8_doDeed_55 : decode cX8_doDeed 55 = .ok (.return_, 1) := by decide +kernel
theorem dX8_tellSaying_0 : decode cX8_tellSaying 0 = .ok (.iload_n 2, 1) := by decide +kernel
theorem dX8_tellSaying_1 : decode cX8_tellSaying 1 = .ok (.tableswitch 139 0 8 #[51, 62, 73, 84, 92, 100, 111, 119, 127], 51) := by decide +kernel
theorem dX8_tellSaying_52 : decode cX8_tellSaying 52 = .ok (.aload_n 1, 1) := by decide +kernel
theorem dX8_tellSaying_53 : decode cX8_tellSaying 53 = .ok (.getfield 76, 3) := by decide +kernel
theorem dX8_tellSaying_56 : decode cX8_tellSaying 56 = .ok (.getfield 295, 3) := by decide +kernel
theorem dX8_tellSaying_59 : decode cX8_tellSaying 59 = .ok (.getfield 298, 3) := by decide +kernel
theorem dX8_tellSaying_62 : decode cX8_tellSaying 62 = .ok (.ireturn, 1) := by decide +kernel
theorem dX8_tellSaying_63 : decode cX8_tellSaying 63 = .ok (.aload_n 1, 1) := by decide +kernel
theorem dX8_tellSaying_64 : decode cX8_tellSaying 64 = .ok (.getfield 76, 3) := by decide +kernel
theorem dX8_tellSaying_67 : decode cX8_tellSaying 67 = .ok (.getfield 295, 3) := by decide +kernel
theorem dX8_tellSaying_70 : decode cX8_tellSaying 70 = .ok (.getfield 301, 3) := by decide +kernel
theorem dX8_tellSaying_73 : decode cX8_tellSaying 73 = .ok (.ireturn, 1) := by decide +kernel
theorem dX8_tellSaying_74 : decode cX8_tellSaying 74 = .ok (.aload_n 1, 1) := by decide +kernel
theorem dX8_tellSaying_75 : decode cX8_tellSaying 75 = .ok (.getfield 76, 3) := by decide +kernel
theorem dX8_tellSaying_78 : decode cX8_tellSaying 78 = .ok (.getfield 295, 3) := by decide +kernel
theorem dX8_tellSaying_81 : decode cX8_tellSaying 81 = .ok (.invokevirtual 304, 3) := by decide +kernel
theorem dX8_tellSaying_84 : decode cX8_tellSaying 84 = .ok (.ireturn, 1) := by decide +kernel
theorem dX8_tellSaying_85 : decode cX8_tellSaying 85 = .ok (.aload_n 1, 1) := by decide +kernel
theorem dX8_tellSaying_86 : decode cX8_tellSaying 86 = .ok (.getfield 76, 3) := by decide +kernel
theorem dX8_tellSaying_89 : decode cX8_tellSaying 89 = .ok (.getfield 307, 3) := by decide +kernel
theorem dX8_tellSaying_92 : decode cX8_tellSaying 92 = .ok (.ireturn, 1) := by decide +kernel
theorem dX8_tellSaying_93 : decode cX8_tellSaying 93 = .ok (.aload_n 1, 1) := by decide +kernel
theorem dX8_tellSaying_94 : decode cX8_tellSaying 94 = .ok (.getfield 76, 3) := by decide +kernel
theorem dX8_tellSaying_97 : decode cX8_tellSaying 97 = .ok (.getfield 310, 3) := by decide +kernel
theorem dX8_tellSaying_100 : decode cX8_tellSaying 100 = .ok (.ireturn, 1) := by decide +kernel
theorem dX8_tellSaying_101 : decode cX8_tellSaying 101 = .ok (.aload_n 1, 1) := by decide +kernel
theorem dX8_tellSaying_102 : decode cX8_tellSaying 102 = .ok (.getfield 76, 3) := by decide +kernel
theorem dX8_tellSaying_105 : decode cX8_tellSaying 105 = .ok (.getfield 80, 3) := by decide +kernel
theorem dX8_tellSaying_108 : decode cX8_tellSaying 108 = .ok (.getfield 86, 3) := by decide +kernel
theorem dX8_tellSaying_111 : decode cX8_tellSaying 111 = .ok (.ireturn, 1) := by decide +kernel
theorem dX8_tellSaying_112 : decode cX8_tellSaying 112 = .ok (.aload_n 1, 1) := by decide +kernel
theorem dX8_tellSaying_113 : decode cX8_tellSaying 113 = .ok (.getfield 76, 3) := by decide +kernel
theorem dX8_tellSaying_116 : decode cX8_tellSaying 116 = .ok (.getfield 313, 3) := by decide +kernel
theorem dX8_tellSaying_119 : decode cX8_tellSaying 119 = .ok (.ireturn, 1) := by decide +kernel
theorem dX8_tellSaying_120 : decode cX8_tellSaying 120 = .ok (.aload_n 1, 1) := by decide +kernel
theorem dX8_tellSaying_121 : decode cX8_tellSaying 121 = .ok (.getfield 76, 3) := by decide +kernel
theorem dX8_tellSaying_124 : decode cX8_tellSaying 124 = .ok (.getfield 316, 3) := by decide +kernel
theorem dX8_tellSaying_127 : decode cX8_tellSaying 127 = .ok (.ireturn, 1) := by decide +kernel
theorem dX8_tellSaying_128 : decode cX8_tellSaying 128 = .ok (.aload_n 1, 1) := by decide +kernel
theorem dX8_tellSaying_129 : decode cX8_tellSaying 129 = .ok (.getfield 76, 3) := by decide +kernel
theorem dX8_tellSaying_132 : decode cX8_tellSaying 132 = .ok (.aload_n 0, 1) := by decide +kernel
theorem dX8_tellSaying_133 : decode cX8_tellSaying 133 = .ok (.getfield 33, 3) := by decide +kernel
theorem dX8_tellSaying_136 : decode cX8_tellSaying 136 = .ok (.invokevirtual 319, 3) := by decide +kernel
theorem dX8_tellSaying_139 : decode cX8_tellSaying 139 = .ok (.ireturn, 1) := by decide +kernel
theorem dX8_tellSaying_140 : decode cX8_tellSaying 140 = .ok (.aload_n 1, 1) := by decide +kernel
theorem dX8_tellSaying_141 : decode cX8_tellSaying 141 = .ok (.getfield 287, 3) := by decide +kernel
theorem dX8_tellSaying_144 : decode cX8_tellSaying 144 = .ok (.ireturn, 1) := by decide +kernel
theorem dX8_tellHearing_0 : decode cX8_tellHearing 0 = .ok (.iload_n 2, 1) := by decide +kernel
theorem dX8_tellHearing_1 : decode cX8_tellHearing 1 = .ok (.bipush 11, 2) := by decide +kernel
theorem dX8_tellHearing_3 : decode cX8_tellHearing 3 = .ok (.if_icmp .ne 10, 3) := by decide +kernel
theorem dX8_tellHearing_6 : decode cX8_tellHearing 6 = .ok (.aload_n 1, 1) := by decide +kernel
theorem dX8_tellHearing_7 : decode cX8_tellHearing 7 = .ok (.getfield 323, 3) := by decide +kernel
theorem dX8_tellHearing_10 : decode cX8_tellHearing 10 = .ok (.goto 11, 3) := by decide +kernel
theorem dX8_tellHearing_13 : decode cX8_tellHearing 13 = .ok (.aload_n 1, 1) := by decide +kernel
theorem dX8_tellHearing_14 : decode cX8_tellHearing 14 = .ok (.getfield 246, 3) := by decide +kernel
theorem dX8_tellHearing_17 : decode cX8_tellHearing 17 = .ok (.iload_n 2, 1) := by decide +kernel
theorem dX8_tellHearing_18 : decode cX8_tellHearing 18 = .ok (.invokevirtual 326, 3) := by decide +kernel
theorem dX8_tellHearing_21 : decode cX8_tellHearing 21 = .ok (.ireturn, 1) := by decide +kernel
theorem dX8_tellWhy_0 : decode cX8_tellWhy 0 = .ok (.aload_n 0, 1) := by decide +kernel
theorem dX8_tellWhy_1 : decode cX8_tellWhy 1 = .ok (.aload_n 1, 1) := by decide +kernel
theorem dX8_tellWhy_2 : decode cX8_tellWhy 2 = .ok (.invokevirtual 327, 3) := by decide +kernel
theorem dX8_tellWhy_5 : decode cX8_tellWhy 5 = .ok (.aload_n 0, 1) := by decide +kernel
theorem dX8_tellWhy_6 : decode cX8_tellWhy 6 = .ok (.aload_n 1, 1) := by decide +kernel
theorem dX8_tellWhy_7 : decode cX8_tellWhy 7 = .ok (.invokevirtual 331, 3) := by decide +kernel
theorem dX8_tellWhy_10 : decode cX8_tellWhy 10 = .ok (.ifCond .eq 5, 3) := by decide +kernel
theorem dX8_tellWhy_13 : decode cX8_tellWhy 13 = .ok (.iconst 0, 1) := by decide +kernel
theorem dX8_tellWhy_14 : decode cX8_tellWhy 14 = .ok (.ireturn, 1) := by decide +kernel
theorem dX8_tellWhy_15 : decode cX8_tellWhy 15 = .ok (.aload_n 0, 1) := by decide +kernel
theorem dX8_tellWhy_16 : decode cX8_tellWhy 16 = .ok (.getfield 40, 3) := by decide +kernel
theorem dX8_tellWhy_19 : decode cX8_tellWhy 19 = .ok (.getfield 335, 3) := by decide +kernel
theorem dX8_tellWhy_22 : decode cX8_tellWhy 22 = .ok (.aload_n 1, 1) := by decide +kernel
theorem dX8_tellWhy_23 : decode cX8_tellWhy 23 = .ok (.getfield 246, 3) := by decide +kernel
theorem dX8_tellWhy_26 : decode cX8_tellWhy 26 = .ok (.getfield 335, 3) := by decide +kernel
theorem dX8_tellWhy_29 : decode cX8_tellWhy 29 = .ok (.if_icmp .ne 41, 3) := by decide +kernel
theorem dX8_tellWhy_32 : decode cX8_tellWhy 32 = .ok (.aload_n 0, 1) := by decide +kernel
theorem dX8_tellWhy_33 : decode cX8_tellWhy 33 = .ok (.getfield 40, 3) := by decide +kernel
theorem dX8_tellWhy_36 : decode cX8_tellWhy 36 = .ok (.getfield 338, 3) := by decide +kernel
theorem dX8_tellWhy_39 : decode cX8_tellWhy 39 = .ok (.aload_n 1, 1) := by decide +kernel
theorem dX8_tellWhy_40 : decode cX8_tellWhy 40 = .ok (.getfield 246, 3) := by decide +kernel
theorem dX8_tellWhy_43 : decode cX8_tellWhy 43 = .ok (.getfield 338, 3) := by decide +kernel
theorem dX8_tellWhy_46 : decode cX8_tellWhy 46 = .ok (.if_icmp .ne 24, 3) := by decide +kernel
theorem dX8_tellWhy_49 : decode cX8_tellWhy 49 = .ok (.aload_n 0, 1) := by decide +kernel
theorem dX8_tellWhy_50 : decode cX8_tellWhy 50 = .ok (.getfield 40, 3) := by decide +kernel
theorem dX8_tellWhy_53 : decode cX8_tellWhy 53 = .ok (.getfield 341, 3) := by decide +kernel
theorem dX8_tellWhy_56 : decode cX8_tellWhy 56 = .ok (.aload_n 1, 1) := by decide +kernel
theorem dX8_tellWhy_57 : decode cX8_tellWhy 57 = .ok (.getfield 76, 3) := by decide +kernel
theorem dX8_tellWhy_60 : decode cX8_tellWhy 60 = .ok (.getfield 313, 3) := by decide +kernel
theorem dX8_tellWhy_63 : decode cX8_tellWhy 63 = .ok (.if_icmp .ne 7, 3) := by decide +kernel
theorem dX8_tellWhy_66 : decode cX8_tellWhy 66 = .ok (.iconst 1, 1) := by decide +kernel
theorem dX8_tellWhy_67 : decode cX8_tellWhy 67 = .ok (.goto 4, 3) := by decide +kernel
theorem dX8_tellWhy_70 : decode cX8_tellWhy 70 = .ok (.iconst 0, 1) := by decide +kernel
theorem dX8_tellWhy_71 : decode cX8_tellWhy 71 = .ok (.istore_n 2, 1) := by decide +kernel
theorem dX8_tellWhy_72 : decode cX8_tellWhy 72 = .ok (.iload_n 2, 1) := by decide +kernel
theorem dX8_tellWhy_73 : decode cX8_tellWhy 73 = .ok (.ifCond .eq 7, 3) := by decide +kernel
theorem dX8_tellWhy_76 : decode cX8_tellWhy 76 = .ok (.iconst 2, 1) := by decide +kernel
theorem dX8_tellWhy_77 : decode cX8_tellWhy 77 = .ok (.goto 4, 3) := by decide +kernel
theorem dX8_tellWhy_80 : decode cX8_tellWhy 80 = .ok (.iconst 1, 1) := by decide +kernel
theorem dX8_tellWhy_81 : decode cX8_tellWhy 81 = .ok (.ireturn, 1) := by decide +kernel
theorem dX8_tellCount_0 : decode cX8_tellCount 0 = .ok (.iload_n 1, 1) := by decide +kernel
theorem dX8_tellCount_1 : decode cX8_tellCount 1 = .ok (.bipush 7, 2) := by decide +kernel
theorem dX8_tellCount_3 : decode cX8_tellCount 3 = .ok (.if_icmp .ne 8, 3) := by decide +kernel
theorem dX8_tellCount_6 : decode cX8_tellCount 6 = .ok (.aload_n 0, 1) := by decide +kernel
theorem dX8_tellCount_7 : decode cX8_tellCount 7 = .ok (.getfield 200, 3) := by decide +kernel
theorem dX8_tellCount_10 : decode cX8_tellCount 10 = .ok (.ireturn, 1) := by decide +kernel
theorem dX8_tellCount_11 : decode cX8_tellCount 11 = .ok (.iload_n 1, 1) := by decide +kernel
theorem dX8_tellCount_12 : decode cX8_tellCount 12 = .ok (.bipush 6, 2) := by decide +kernel
theorem dX8_tellCount_14 : decode cX8_tellCount 14 = .ok (.if_icmp .ge 9, 3) := by decide +kernel
theorem dX8_tellCount_17 : decode cX8_tellCount 17 = .ok (.aload_n 0, 1) := by decide +kernel
theorem dX8_tellCount_18 : decode cX8_tellCount 18 = .ok (.iload_n 1, 1) := by decide +kernel
theorem dX8_tellCount_19 : decode cX8_tellCount 19 = .ok (.invokevirtual 195, 3) := by decide +kernel
theorem dX8_tellCount_22 : decode cX8_tellCount 22 = .ok (.ireturn, 1) := by decide +kernel
theorem dX8_tellCount_23 : decode cX8_tellCount 23 = .ok (.iconst 0, 1) := by decide +kernel
theorem dX8_tellCount_24 : decode cX8_tellCount 24 = .ok (.istore_n 2, 1) := by decide +kernel
theorem dX8_tellCount_25 : decode cX8_tellCount 25 = .ok (.iconst 0, 1) := by decide +kernel
theorem dX8_tellCount_26 : decode cX8_tellCount 26 = .ok (.istore_n 3, 1) := by decide +kernel
theorem dX8_tellCount_27 : decode cX8_tellCount 27 = .ok (.iload_n 3, 1) := by decide +kernel
theorem dX8_tellCount_28 : decode cX8_tellCount 28 = .ok (.aload_n 0, 1) := by decide +kernel
theorem dX8_tellCount_29 : decode cX8_tellCount 29 = .ok (.getfield 10, 3) := by decide +kernel
theorem dX8_tellCount_32 : decode cX8_tellCount 32 = .ok (.getfield 263, 3) := by decide +kernel
theorem dX8_tellCount_35 : decode cX8_tellCount 35 = .ok (.arraylength, 1) := by decide +kernel
theorem dX8_tellCount_36 : decode cX8_tellCount 36 = .ok (.if_icmp .ge 28, 3) := by decide +kernel
theorem dX8_tellCount_39 : decode cX8_tellCount 39 = .ok (.aload_n 0, 1) := by decide +kernel
theorem dX8_tellCount_40 : decode cX8_tellCount 40 = .ok (.aload_n 0, 1) := by decide +kernel
theorem dX8_tellCount_41 : decode cX8_tellCount 41 = .ok (.getfield 10, 3) := by decide +kernel
theorem dX8_tellCount_44 : decode cX8_tellCount 44 = .ok (.getfield 263, 3) := by decide +kernel
theorem dX8_tellCount_47 : decode cX8_tellCount 47 = .ok (.iload_n 3, 1) := by decide +kernel
theorem dX8_tellCount_48 : decode cX8_tellCount 48 = .ok (.aaload, 1) := by decide +kernel
theorem dX8_tellCount_49 : decode cX8_tellCount 49 = .ok (.invokevirtual 227, 3) := by decide +kernel
theorem dX8_tellCount_52 : decode cX8_tellCount 52 = .ok (.ifCond .ne 6, 3) := by decide +kernel
theorem dX8_tellCount_55 : decode cX8_tellCount 55 = .ok (.iinc 2 1, 3) := by decide +kernel
theorem dX8_tellCount_58 : decode cX8_tellCount 58 = .ok (.iinc 3 1, 3) := by decide +kernel
theorem dX8_tellCount_61 : decode cX8_tellCount 61 = .ok (.goto (-34), 3) := by decide +kernel
theorem dX8_tellCount_64 : decode cX8_tellCount 64 = .ok (.iload_n 2, 1) := by decide +kernel
theorem dX8_tellCount_65 : decode cX8_tellCount 65 = .ok (.ireturn, 1) := by decide +kernel
theorem dX8_sumOver_0 : decode cX8_sumOver 0 = .ok (.iconst 0, 1) := by decide +kernel
theorem dX8_sumOver_1 : decode cX8_sumOver 1 = .ok (.istore_n 2, 1) := by decide +kernel
theorem dX8_sumOver_2 : decode cX8_sumOver 2 = .ok (.iconst 0, 1) := by decide +kernel
theorem dX8_sumOver_3 : decode cX8_sumOver 3 = .ok (.istore_n 3, 1) := by decide +kernel
theorem dX8_sumOver_4 : decode cX8_sumOver 4 = .ok (.iload_n 3, 1) := by decide +kernel
theorem dX8_sumOver_5 : decode cX8_sumOver 5 = .ok (.aload_n 0, 1) := by decide +kernel
theorem dX8_sumOver_6 : decode cX8_sumOver 6 = .ok (.getfield 10, 3) := by decide +kernel
theorem dX8_sumOver_9 : decode cX8_sumOver 9 = .ok (.getfield 263, 3) := by decide +kernel
theorem dX8_sumOver_12 : decode cX8_sumOver 12 = .ok (.arraylength, 1) := by decide +kernel
theorem dX8_sumOver_13 : decode cX8_sumOver 13 = .ok (.if_icmp .ge 25, 3) := by decide +kernel
theorem dX8_sumOver_16 : decode cX8_sumOver 16 = .ok (.iload_n 2, 1) := by decide +kernel
theorem dX8_sumOver_17 : decode cX8_sumOver 17 = .ok (.aload_n 0, 1) := by decide +kernel
theorem dX8_sumOver_18 : decode cX8_sumOver 18 = .ok (.getfield 10, 3) := by decide +kernel
theorem dX8_sumOver_21 : decode cX8_sumOver 21 = .ok (.getfield 263, 3) := by decide +kernel
theorem dX8_sumOver_24 : decode cX8_sumOver 24 = .ok (.iload_n 3, 1) := by decide +kernel
theorem dX8_sumOver_25 : decode cX8_sumOver 25 = .ok (.aaload, 1) := by decide +kernel
theorem dX8_sumOver_26 : decode cX8_sumOver 26 = .ok (.iload_n 1, 1) := by decide +kernel
theorem dX8_sumOver_27 : decode cX8_sumOver 27 = .ok (.invokevirtual 344, 3) := by decide +kernel
theorem dX8_sumOver_30 : decode cX8_sumOver 30 = .ok (.iadd, 1) := by decide +kernel
theorem dX8_sumOver_31 : decode cX8_sumOver 31 = .ok (.istore_n 2, 1) := by decide +kernel
theorem dX8_sumOver_32 : decode cX8_sumOver 32 = .ok (.iinc 3 1, 3) := by decide +kernel
theorem dX8_sumOver_35 : decode cX8_sumOver 35 = .ok (.goto (-31), 3) := by decide +kernel
theorem dX8_sumOver_38 : decode cX8_sumOver 38 = .ok (.iload_n 2, 1) := by decide +kernel
theorem dX8_sumOver_39 : decode cX8_sumOver 39 = .ok (.ireturn, 1) := by decide +kernel
theorem dX8_tellCode_0 : decode cX8_tellCode 0 = .ok (.aload_n 0, 1) := by decide +kernel
theorem dX8_tellCode_1 : decode cX8_tellCode 1 = .ok (.getfield 33, 3) := by decide +kernel
theorem dX8_tellCode_4 : decode cX8_tellCode 4 = .ok (.aload_n 1, 1) := by decide +kernel
theorem dX8_tellCode_5 : decode cX8_tellCode 5 = .ok (.getfield 76, 3) := by decide +kernel
theorem dX8_tellCode_8 : decode cX8_tellCode 8 = .ok (.getfield 295, 3) := by decide +kernel
theorem dX8_tellCode_11 : decode cX8_tellCode 11 = .ok (.invokevirtual 347, 3) := by decide +kernel
theorem dX8_tellCode_14 : decode cX8_tellCode 14 = .ok (.iload_n 3, 1) := by decide +kernel
theorem dX8_tellCode_15 : decode cX8_tellCode 15 = .ok (.iconst 3, 1) := by decide +kernel
theorem dX8_tellCode_16 : decode cX8_tellCode 16 = .ok (.if_icmp .ge 14, 3) := by decide +kernel
theorem dX8_tellCode_19 : decode cX8_tellCode 19 = .ok (.aload_n 0, 1) := by decide +kernel
theorem dX8_tellCode_20 : decode cX8_tellCode 20 = .ok (.getfield 33, 3) := by decide +kernel
theorem dX8_tellCode_23 : decode cX8_tellCode 23 = .ok (.iload_n 2, 1) := by decide +kernel
theorem dX8_tellCode_24 : decode cX8_tellCode 24 = .ok (.invokevirtual 350, 3) := by decide +kernel
theorem dX8_tellCode_27 : decode cX8_tellCode 27 = .ok (.goto 11, 3) := by decide +kernel
theorem dX8_tellCode_30 : decode cX8_tellCode 30 = .ok (.aload_n 0, 1) := by decide +kernel
theorem dX8_tellCode_31 : decode cX8_tellCode 31 = .ok (.getfield 33, 3) := by decide +kernel
theorem dX8_tellCode_34 : decode cX8_tellCode 34 = .ok (.iload_n 2, 1) := by decide +kernel
theorem dX8_tellCode_35 : decode cX8_tellCode 35 = .ok (.invokevirtual 353, 3) := by decide +kernel
theorem dX8_tellCode_38 : decode cX8_tellCode 38 = .ok (.istore 4, 2) := by decide +kernel
theorem dX8_tellCode_40 : decode cX8_tellCode 40 = .ok (.iload_n 3, 1) := by decide +kernel
theorem dX8_tellCode_41 : decode cX8_tellCode 41 = .ok (.ifCond .eq 8, 3) := by decide +kernel
theorem dX8_tellCode_44 : decode cX8_tellCode 44 = .ok (.iload_n 3, 1) := by decide +kernel
theorem dX8_tellCode_45 : decode cX8_tellCode 45 = .ok (.iconst 3, 1) := by decide +kernel
theorem dX8_tellCode_46 : decode cX8_tellCode 46 = .ok (.if_icmp .ne 6, 3) := by decide +kernel
theorem dX8_tellCode_49 : decode cX8_tellCode 49 = .ok (.iload 4, 2) := by decide +kernel
theorem dX8_tellCode_51 : decode cX8_tellCode 51 = .ok (.ireturn, 1) := by decide +kernel
theorem dX8_tellCode_52 : decode cX8_tellCode 52 = .ok (.aload_n 0, 1) := by decide +kernel
theorem dX8_tellCode_53 : decode cX8_tellCode 53 = .ok (.getfield 33, 3) := by decide +kernel
theorem dX8_tellCode_56 : decode cX8_tellCode 56 = .ok (.iload 4, 2) := by decide +kernel
theorem dX8_tellCode_58 : decode cX8_tellCode 58 = .ok (.invokevirtual 356, 3) := by decide +kernel
theorem dX8_tellCode_61 : decode cX8_tellCode 61 = .ok (.iload_n 3, 1) := by decide +kernel
theorem dX8_tellCode_62 : decode cX8_tellCode 62 = .ok (.iconst 2, 1) := by decide +kernel
theorem dX8_tellCode_63 : decode cX8_tellCode 63 = .ok (.if_icmp .ne 13, 3) := by decide +kernel
theorem dX8_tellCode_66 : decode cX8_tellCode 66 = .ok (.aload_n 0, 1) := by decide +kernel
theorem dX8_tellCode_67 : decode cX8_tellCode 67 = .ok (.getfield 33, 3) := by decide +kernel
theorem dX8_tellCode_70 : decode cX8_tellCode 70 = .ok (.getfield 301, 3) := by decide +kernel
theorem dX8_tellCode_73 : decode cX8_tellCode 73 = .ok (.goto 10, 3) := by decide +kernel
theorem dX8_tellCode_76 : decode cX8_tellCode 76 = .ok (.aload_n 0, 1) := by decide +kernel
theorem dX8_tellCode_77 : decode cX8_tellCode 77 = .ok (.getfield 33, 3) := by decide +kernel
theorem dX8_tellCode_80 : decode cX8_tellCode 80 = .ok (.getfield 298, 3) := by decide +kernel
theorem dX8_tellCode_83 : decode cX8_tellCode 83 = .ok (.ireturn, 1) := by decide +kernel
theorem dX8_codesToComeNear_0 : decode cX8_codesToComeNear 0 = .ok (.aload_n 0, 1) := by decide +kernel
theorem dX8_codesToComeNear_1 : decode cX8_codesToComeNear 1 = .ok (.getfield 33, 3) := by decide +kernel
theorem dX8_codesToComeNear_4 : decode cX8_codesToComeNear 4 = .ok (.aload_n 1, 1) := by decide +kernel
theorem dX8_codesToComeNear_5 : decode cX8_codesToComeNear 5 = .ok (.getfield 76, 3) := by decide +kernel
theorem dX8_codesToComeNear_8 : decode cX8_codesToComeNear 8 = .ok (.getfield 295, 3) := by decide +kernel
theorem dX8_codesToComeNear_11 : decode cX8_codesToComeNear 11 = .ok (.invokevirtual 347, 3) := by decide +kernel
theorem dX8_codesToComeNear_14 : decode cX8_codesToComeNear 14 = .ok (.iconst 0, 1) := by decide +kernel
theorem dX8_codesToComeNear_15 : decode cX8_codesToComeNear 15 = .ok (.istore 4, 2) := by decide +kernel
theorem dX8_codesToComeNear_17 : decode cX8_codesToComeNear 17 = .ok (.iload 4, 2) := by decide +kernel
theorem dX8_codesToComeNear_19 : decode cX8_codesToComeNear 19 = .ok (.bipush 60, 2) := by decide +kernel
theorem dX8_codesToComeNear_21 : decode cX8_codesToComeNear 21 = .ok (.if_icmp .gt 42, 3) := by decide +kernel
theorem dX8_codesToComeNear_24 : decode cX8_codesToComeNear 24 = .ok (.aload_n 0, 1) := by decide +kernel
theorem dX8_codesToComeNear_25 : decode cX8_codesToComeNear 25 = .ok (.getfield 33, 3) := by decide +kernel
theorem dX8_codesToComeNear_28 : decode cX8_codesToComeNear 28 = .ok (.getfield 298, 3) := by decide +kernel
theorem dX8_codesToComeNear_31 : decode cX8_codesToComeNear 31 = .ok (.iload_n 2, 1) := by decide +kernel
theorem dX8_codesToComeNear_32 : decode cX8_codesToComeNear 32 = .ok (.invokestatic 359, 3) := by decide +kernel
theorem dX8_codesToComeNear_35 : decode cX8_codesToComeNear 35 = .ok (.iload_n 3, 1) := by decide +kernel
theorem dX8_codesToComeNear_36 : decode cX8_codesToComeNear 36 = .ok (.if_icmp .ge 6, 3) := by decide +kernel
theorem dX8_codesToComeNear_39 : decode cX8_codesToComeNear 39 = .ok (.iload 4, 2) := by decide +kernel
theorem dX8_codesToComeNear_41 : decode cX8_codesToComeNear 41 = .ok (.ireturn, 1) := by decide +kernel
theorem dX8_codesToComeNear_42 : decode cX8_codesToComeNear 42 = .ok (.aload_n 0, 1) := by decide +kernel
theorem dX8_codesToComeNear_43 : decode cX8_codesToComeNear 43 = .ok (.getfield 33, 3) := by decide +kernel
theorem dX8_codesToComeNear_46 : decode cX8_codesToComeNear 46 = .ok (.aload_n 0, 1) := by decide +kernel
theorem dX8_codesToComeNear_47 : decode cX8_codesToComeNear 47 = .ok (.getfield 33, 3) := by decide +kernel
theorem dX8_codesToComeNear_50 : decode cX8_codesToComeNear 50 = .ok (.iload_n 2, 1) := by decide +kernel
theorem dX8_codesToComeNear_51 : decode cX8_codesToComeNear 51 = .ok (.invokevirtual 350, 3) := by decide +kernel
theorem dX8_codesToComeNear_54 : decode cX8_codesToComeNear 54 = .ok (.invokevirtual 356, 3) := by decide +kernel
theorem dX8_codesToComeNear_57 : decode cX8_codesToComeNear 57 = .ok (.iinc 4 1, 3) := by decide +kernel
theorem dX8_codesToComeNear_60 : decode cX8_codesToComeNear 60 = .ok (.goto (-43), 3) := by decide +kernel
theorem dX8_codesToComeNear_63 : decode cX8_codesToComeNear 63 = .ok (.sipush (-10000), 3) := by decide +kernel
theorem dX8_codesToComeNear_66 : decode cX8_codesToComeNear 66 = .ok (.ireturn, 1) := by decide +kernel
theorem dX8_tellIfAllCame_0 : decode cX8_tellIfAllCame 0 = .ok (.aload_n 0, 1) := by decide +kernel
theorem dX8_tellIfAllCame_1 : decode cX8_tellIfAllCame 1 = .ok (.aload_n 1, 1) := by decide +kernel
theorem dX8_tellIfAllCame_2 : decode cX8_tellIfAllCame 2 = .ok (.invokevirtual 327, 3) := by decide +kernel
theorem dX8_tellIfAllCame_5 : decode cX8_tellIfAllCame 5 = .ok (.iload_n 2, 1) := by decide +kernel
theorem dX8_tellIfAllCame_6 : decode cX8_tellIfAllCame 6 = .ok (.tableswitch 69 0 2 #[26, 37, 53], 26) := by decide +kernel
theorem dX8_tellIfAllCame_32 : decode cX8_tellIfAllCame 32 = .ok (.aload_n 0, 1) := by decide +kernel
theorem dX8_tellIfAllCame_33 : decode cX8_tellIfAllCame 33 = .ok (.getfield 40, 3) := by decide +kernel
theorem dX8_tellIfAllCame_36 : decode cX8_tellIfAllCame 36 = .ok (.getfield 363, 3) := by decide +kernel
theorem dX8_tellIfAllCame_39 : decode cX8_tellIfAllCame 39 = .ok (.getfield 298, 3) := by decide +kernel
theorem dX8_tellIfAllCame_42 : decode cX8_tellIfAllCame 42 = .ok (.ireturn, 1) := by decide +kernel
theorem dX8_tellIfAllCame_43 : decode cX8_tellIfAllCame 43 = .ok (.aload_n 0, 1) := by decide +kernel
theorem dX8_tellIfAllCame_44 : decode cX8_tellIfAllCame 44 = .ok (.getfield 40, 3) := by decide +kernel
theorem dX8_tellIfAllCame_47 : decode cX8_tellIfAllCame 47 = .ok (.getfield 364, 3) := by decide +kernel
theorem dX8_tellIfAllCame_50 : decode cX8_tellIfAllCame 50 = .ok (.aload_n 1, 1) := by decide +kernel
theorem dX8_tellIfAllCame_51 : decode cX8_tellIfAllCame 51 = .ok (.getfield 246, 3) := by decide +kernel
theorem dX8_tellIfAllCame_54 : decode cX8_tellIfAllCame 54 = .ok (.getfield 364, 3) := by decide +kernel
theorem dX8_tellIfAllCame_57 : decode cX8_tellIfAllCame 57 = .ok (.isub, 1) := by decide +kernel
theorem dX8_tellIfAllCame_58 : decode cX8_tellIfAllCame 58 = .ok (.ireturn, 1) := by decide +kernel
theorem dX8_tellIfAllCame_59 : decode cX8_tellIfAllCame 59 = .ok (.aload_n 0, 1) := by decide +kernel
theorem dX8_tellIfAllCame_60 : decode cX8_tellIfAllCame 60 = .ok (.getfield 40, 3) := by decide +kernel
theorem dX8_tellIfAllCame_63 : decode cX8_tellIfAllCame 63 = .ok (.getfield 338, 3) := by decide +kernel
theorem dX8_tellIfAllCame_66 : decode cX8_tellIfAllCame 66 = .ok (.aload_n 1, 1) := by decide +kernel
theorem dX8_tellIfAllCame_67 : decode cX8_tellIfAllCame 67 = .ok (.getfield 246, 3) := by decide +kernel
theorem dX8_tellIfAllCame_70 : decode cX8_tellIfAllCame 70 = .ok (.getfield 338, 3) := by decide +kernel
theorem dX8_tellIfAllCame_73 : decode cX8_tellIfAllCame 73 = .ok (.isub, 1) := by decide +kernel
theorem dX8_tellIfAllCame_74 : decode cX8_tellIfAllCame 74 = .ok (.ireturn, 1) := by decide +kernel
theorem dX8_tellIfAllCame_75 : decode cX8_tellIfAllCame 75 = .ok (.aload_n 0, 1) := by decide +kernel
theorem dX8_tellIfAllCame_76 : decode cX8_tellIfAllCame 76 = .ok (.getfield 40, 3) := by decide +kernel
theorem dX8_tellIfAllCame_79 : decode cX8_tellIfAllCame 79 = .ok (.getfield 367, 3) := by decide +kernel
theorem dX8_tellIfAllCame_82 : decode cX8_tellIfAllCame 82 = .ok (.aload_n 1, 1) := by decide +kernel
theorem dX8_tellIfAllCame_83 : decode cX8_tellIfAllCame 83 = .ok (.getfield 246, 3) := by decide +kernel
theorem dX8_tellIfAllCame_86 : decode cX8_tellIfAllCame 86 = .ok (.getfield 367, 3) := by decide +kernel
theorem dX8_tellIfAllCame_89 : decode cX8_tellIfAllCame 89 = .ok (.isub, 1) := by decide +kernel
theorem dX8_tellIfAllCame_90 : decode cX8_tellIfAllCame 90 = .ok (.ireturn, 1) := by decide +kernel
theorem dX8_letAllCome_0 : decode cX8_letAllCome 0 = .ok (.aload_n 0, 1) := by decide +kernel
theorem dX8_letAllCome_1 : decode cX8_letAllCome 1 = .ok (.getfield 40, 3) := by decide +kernel
theorem dX8_letAllCome_4 : decode cX8_letAllCome 4 = .ok (.aload_n 1, 1) := by decide +kernel
theorem dX8_letAllCome_5 : decode cX8_letAllCome 5 = .ok (.getfield 246, 3) := by decide +kernel
theorem dX8_letAllCome_8 : decode cX8_letAllCome 8 = .ok (.invokevirtual 370, 3) := by decide +kernel
theorem dX8_letAllCome_11 : decode cX8_letAllCome 11 = .ok (.iconst 0, 1) := by decide +kernel
theorem dX8_letAllCome_12 : decode cX8_letAllCome 12 = .ok (.istore_n 2, 1) := by decide +kernel
theorem dX8_letAllCome_13 : decode cX8_letAllCome 13 = .ok (.iload_n 2, 1) := by decide +kernel
theorem dX8_letAllCome_14 : decode cX8_letAllCome 14 = .ok (.aload_n 1, 1) := by decide +kernel
theorem dX8_letAllCome_15 : decode cX8_letAllCome 15 = .ok (.getfield 287, 3) := by decide +kernel
theorem dX8_letAllCome_18 : decode cX8_letAllCome 18 = .ok (.if_icmp .ge 32, 3) := by decide +kernel
theorem dX8_letAllCome_21 : decode cX8_letAllCome 21 = .ok (.iload_n 2, 1) := by decide +kernel
theorem dX8_letAllCome_22 : decode cX8_letAllCome 22 = .ok (.aload_n 1, 1) := by decide +kernel
theorem dX8_letAllCome_23 : decode cX8_letAllCome 23 = .ok (.getfield 373, 3) := by decide +kernel
theorem dX8_letAllCome_26 : decode cX8_letAllCome 26 = .ok (.arraylength, 1) := by decide +kernel
theorem dX8_letAllCome_27 : decode cX8_letAllCome 27 = .ok (.if_icmp .ge 23, 3) := by decide +kernel
theorem dX8_letAllCome_30 : decode cX8_letAllCome 30 = .ok (.aload_n 0, 1) := by decide +kernel
theorem dX8_letAllCome_31 : decode cX8_letAllCome 31 = .ok (.getfield 40, 3) := by decide +kernel
theorem dX8_letAllCome_34 : decode cX8_letAllCome 34 = .ok (.aload_n 1, 1) := by decide +kernel
theorem dX8_letAllCome_35 : decode cX8_letAllCome 35 = .ok (.getfield 373, 3) := by decide +kernel
theorem dX8_letAllCome_38 : decode cX8_letAllCome 38 = .ok (.iload_n 2, 1) := by decide +kernel
theorem dX8_letAllCome_39 : decode cX8_letAllCome 39 = .ok (.aaload, 1) := by decide +kernel
theorem dX8_letAllCome_40 : decode cX8_letAllCome 40 = .ok (.invokevirtual 377, 3) := by decide +kernel
theorem dX8_letAllCome_43 : decode cX8_letAllCome 43 = .ok (.pop, 1) := by decide +kernel
theorem dX8_letAllCome_44 : decode cX8_letAllCome 44 = .ok (.iinc 2 1, 3) := by decide +kernel
theorem dX8_letAllCome_47 : decode cX8_letAllCome 47 = .ok (.goto (-34), 3) := by decide +kernel
theorem dX8_letAllCome_50 : decode cX8_letAllCome 50 = .ok (.return_, 1) := by decide +kernel
theorem dX8_wouldAgree_0 : decode cX8_wouldAgree 0 = .ok (.aload_n 0, 1) := by decide +kernel
theorem dX8_wouldAgree_1 : decode cX8_wouldAgree 1 = .ok (.getfield 33, 3) := by decide +kernel
theorem dX8_wouldAgree_4 : decode cX8_wouldAgree 4 = .ok (.aload_n 0, 1) := by decide +kernel
theorem dX8_wouldAgree_5 : decode cX8_wouldAgree 5 = .ok (.getfield 40, 3) := by decide +kernel
theorem dX8_wouldAgree_8 : decode cX8_wouldAgree 8 = .ok (.getfield 363, 3) := by decide +kernel
theorem dX8_wouldAgree_11 : decode cX8_wouldAgree 11 = .ok (.invokevirtual 347, 3) := by decide +kernel
theorem dX8_wouldAgree_14 : decode cX8_wouldAgree 14 = .ok (.aload_n 0, 1) := by decide +kernel
theorem dX8_wouldAgree_15 : decode cX8_wouldAgree 15 = .ok (.getfield 33, 3) := by decide +kernel
theorem dX8_wouldAgree_18 : decode cX8_wouldAgree 18 = .ok (.aload_n 1, 1) := by decide +kernel
theorem dX8_wouldAgree_19 : decode cX8_wouldAgree 19 = .ok (.getfield 76, 3) := by decide +kernel
theorem dX8_wouldAgree_22 : decode cX8_wouldAgree 22 = .ok (.getfield 80, 3) := by decide +kernel
theorem dX8_wouldAgree_25 : decode cX8_wouldAgree 25 = .ok (.invokevirtual 381, 3) := by decide +kernel
theorem dX8_wouldAgree_28 : decode cX8_wouldAgree 28 = .ok (.aload_n 0, 1) := by decide +kernel
theorem dX8_wouldAgree_29 : decode cX8_wouldAgree 29 = .ok (.getfield 33, 3) := by decide +kernel
theorem dX8_wouldAgree_32 : decode cX8_wouldAgree 32 = .ok (.aload_n 1, 1) := by decide +kernel
theorem dX8_wouldAgree_33 : decode cX8_wouldAgree 33 = .ok (.getfield 76, 3) := by decide +kernel
theorem dX8_wouldAgree_36 : decode cX8_wouldAgree 36 = .ok (.getfield 295, 3) := by decide +kernel
theorem dX8_wouldAgree_39 : decode cX8_wouldAgree 39 = .ok (.getfield 298, 3) := by decide +kernel
theorem dX8_wouldAgree_42 : decode cX8_wouldAgree 42 = .ok (.aload_n 1, 1) := by decide +kernel
theorem dX8_wouldAgree_43 : decode cX8_wouldAgree 43 = .ok (.getfield 76, 3) := by decide +kernel
theorem dX8_wouldAgree_46 : decode cX8_wouldAgree 46 = .ok (.getfield 295, 3) := by decide +kernel
theorem dX8_wouldAgree_49 : decode cX8_wouldAgree 49 = .ok (.getfield 301, 3) := by decide +kernel
theorem dX8_wouldAgree_52 : decode cX8_wouldAgree 52 = .ok (.invokevirtual 385, 3) := by decide +kernel
theorem dX8_wouldAgree_55 : decode cX8_wouldAgree 55 = .ok (.ireturn, 1) := by decide +kernel
theorem dX8_shareOfLost_0 : decode cX8_shareOfLost 0 = .ok (.aload_n 0, 1) := by decide +kernel
theorem dX8_shareOfLost_1 : decode cX8_shareOfLost 1 = .ok (.iconst 2, 1) := by decide +kernel
theorem dX8_shareOfLost_2 : decode cX8_shareOfLost 2 = .ok (.invokevirtual 195, 3) := by decide +kernel
theorem dX8_shareOfLost_5 : decode cX8_shareOfLost 5 = .ok (.istore_n 1, 1) := by decide +kernel
theorem dX8_shareOfLost_6 : decode cX8_shareOfLost 6 = .ok (.iload_n 1, 1) := by decide +kernel
theorem dX8_shareOfLost_7 : decode cX8_shareOfLost 7 = .ok (.ifCond .le 15, 3) := by decide +kernel
theorem dX8_shareOfLost_10 : decode cX8_shareOfLost 10 = .ok (.aload_n 0, 1) := by decide +kernel
theorem dX8_shareOfLost_11 : decode cX8_shareOfLost 11 = .ok (.iconst 4, 1) := by decide +kernel
theorem dX8_shareOfLost_12 : decode cX8_shareOfLost 12 = .ok (.invokevirtual 195, 3) := by decide +kernel
theorem dX8_shareOfLost_15 : decode cX8_shareOfLost 15 = .ok (.i2f, 1) := by decide +kernel
theorem dX8_shareOfLost_16 : decode cX8_shareOfLost 16 = .ok (.iload_n 1, 1) := by decide +kernel
theorem dX8_shareOfLost_17 : decode cX8_shareOfLost 17 = .ok (.i2f, 1) := by decide +kernel
theorem dX8_shareOfLost_18 : decode cX8_shareOfLost 18 = .ok (.fdiv, 1) := by decide +kernel
theorem dX8_shareOfLost_19 : decode cX8_shareOfLost 19 = .ok (.goto 4, 3) := by decide +kernel
theorem dX8_shareOfLost_22 : decode cX8_shareOfLost 22 = .ok (.fconst 0, 1) := by decide +kernel
theorem dX8_shareOfLost_23 : decode cX8_shareOfLost 23 = .ok (.freturn, 1) := by decide +kernel
theorem dX8_mixed_0 : decode cX8_mixed 0 = .ok (.ldc2_w 388, 3) := by decide +kernel
theorem dX8_mixed_3 : decode cX8_mixed 3 = .ok (.lload_n 0, 1) := by decide +kernel
theorem dX8_mixed_4 : decode cX8_mixed 4 = .ok (.lmul, 1) := by decide +kernel
theorem dX8_mixed_5 : decode cX8_mixed 5 = .ok (.lload_n 2, 1) := by decide +kernel
theorem dX8_mixed_6 : decode cX8_mixed 6 = .ok (.ladd, 1) := by decide +kernel
theorem dX8_mixed_7 : decode cX8_mixed 7 = .ok (.lreturn, 1) := by decide +kernel
theorem dX8_withVoice_0 : decode cX8_withVoice 0 = .ok (.lload_n 1, 1) := by decide +kernel
theorem dX8_withVoice_1 : decode cX8_withVoice 1 = .ok (.lstore 4, 2) := by decide +kernel
theorem dX8_withVoice_3 : decode cX8_withVoice 3 = .ok (.iconst 0, 1) := by decide +kernel
theorem dX8_withVoice_4 : decode cX8_withVoice 4 = .ok (.istore 6, 2) := by decide +kernel
theorem dX8_withVoice_6 : decode cX8_withVoice 6 = .ok (.iload 6, 2) := by decide +kernel
theorem dX8_withVoice_8 : decode cX8_withVoice 8 = .ok (.bipush 9, 2) := by decide +kernel
theorem dX8_withVoice_10 : decode cX8_withVoice 10 = .ok (.if_icmp .gt 24, 3) := by decide +kernel
theorem dX8_withVoice_13 : decode cX8_withVoice 13 = .ok (.lload 4, 2) := by decide +kernel
theorem dX8_withVoice_15 : decode cX8_withVoice 15 = .ok (.aload_n 0, 1) := by decide +kernel
theorem dX8_withVoice_16 : decode cX8_withVoice 16 = .ok (.aload_n 3, 1) := by decide +kernel
theorem dX8_withVoice_17 : decode cX8_withVoice 17 = .ok (.iload 6, 2) := by decide +kernel
theorem dX8_withVoice_19 : decode cX8_withVoice 19 = .ok (.invokevirtual 208, 3) := by decide +kernel
theorem dX8_withVoice_22 : decode cX8_withVoice 22 = .ok (.i2l, 1) := by decide +kernel
theorem dX8_withVoice_23 : decode cX8_withVoice 23 = .ok (.invokestatic 259, 3) := by decide +kernel
theorem dX8_withVoice_26 : decode cX8_withVoice 26 = .ok (.lstore 4, 2) := by decide +kernel
theorem dX8_withVoice_28 : decode cX8_withVoice 28 = .ok (.iinc 6 1, 3) := by decide +kernel
theorem dX8_withVoice_31 : decode cX8_withVoice 31 = .ok (.goto (-25), 3) := by decide +kernel
theorem dX8_withVoice_34 : decode cX8_withVoice 34 = .ok (.iconst 0, 1) := by decide +kernel
theorem dX8_withVoice_35 : decode cX8_withVoice 35 = .ok (.istore 6, 2) := by decide +kernel
theorem dX8_withVoice_37 : decode cX8_withVoice 37 = .ok (.iload 6, 2) := by decide +kernel
theorem dX8_withVoice_39 : decode cX8_withVoice 39 = .ok (.bipush 11, 2) := by decide +kernel
theorem dX8_withVoice_41 : decode cX8_withVoice 41 = .ok (.if_icmp .gt 24, 3) := by decide +kernel
theorem dX8_withVoice_44 : decode cX8_withVoice 44 = .ok (.lload 4, 2) := by decide +kernel
theorem dX8_withVoice_46 : decode cX8_withVoice 46 = .ok (.aload_n 0, 1) := by decide +kernel
theorem dX8_withVoice_47 : decode cX8_withVoice 47 = .ok (.aload_n 3, 1) := by decide +kernel
theorem dX8_withVoice_48 : decode cX8_withVoice 48 = .ok (.iload 6, 2) := by decide +kernel
theorem dX8_withVoice_50 : decode cX8_withVoice 50 = .ok (.invokevirtual 212, 3) := by decide +kernel
theorem dX8_withVoice_53 : decode cX8_withVoice 53 = .ok (.i2l, 1) := by decide +kernel
theorem dX8_withVoice_54 : decode cX8_withVoice 54 = .ok (.invokestatic 259, 3) := by decide +kernel
theorem dX8_withVoice_57 : decode cX8_withVoice 57 = .ok (.lstore 4, 2) := by decide +kernel
theorem dX8_withVoice_59 : decode cX8_withVoice 59 = .ok (.iinc 6 1, 3) := by decide +kernel
theorem dX8_withVoice_62 : decode cX8_withVoice 62 = .ok (.goto (-25), 3) := by decide +kernel
theorem dX8_withVoice_65 : decode cX8_withVoice 65 = .ok (.iconst 0, 1) := by decide +kernel
theorem dX8_withVoice_66 : decode cX8_withVoice 66 = .ok (.istore 6, 2) := by decide +kernel
theorem dX8_withVoice_68 : decode cX8_withVoice 68 = .ok (.iload 6, 2) := by decide +kernel
theorem dX8_withVoice_70 : decode cX8_withVoice 70 = .ok (.aload_n 3, 1) := by decide +kernel
theorem dX8_withVoice_71 : decode cX8_withVoice 71 = .ok (.getfield 287, 3) := by decide +kernel
theorem dX8_withVoice_74 : decode cX8_withVoice 74 = .ok (.if_icmp .ge 33, 3) := by decide +kernel
theorem dX8_withVoice_77 : decode cX8_withVoice 77 = .ok (.iload 6, 2) := by decide +kernel
theorem dX8_withVoice_79 : decode cX8_withVoice 79 = .ok (.aload_n 3, 1) := by decide +kernel
theorem dX8_withVoice_80 : decode cX8_withVoice 80 = .ok (.getfield 373, 3) := by decide +kernel
theorem dX8_withVoice_83 : decode cX8_withVoice 83 = .ok (.arraylength, 1) := by decide +kernel
theorem dX8_withVoice_84 : decode cX8_withVoice 84 = .ok (.if_icmp .ge 23, 3) := by decide +kernel
theorem dX8_withVoice_87 : decode cX8_withVoice 87 = .ok (.lload 4, 2) := by decide +kernel
theorem dX8_withVoice_89 : decode cX8_withVoice 89 = .ok (.aload_n 3, 1) := by decide +kernel
theorem dX8_withVoice_90 : decode cX8_withVoice 90 = .ok (.getfield 373, 3) := by decide +kernel
theorem dX8_withVoice_93 : decode cX8_withVoice 93 = .ok (.iload 6, 2) := by decide +kernel
theorem dX8_withVoice_95 : decode cX8_withVoice 95 = .ok (.aaload, 1) := by decide +kernel
theorem dX8_withVoice_96 : decode cX8_withVoice 96 = .ok (.invokestatic 390, 3) := by decide +kernel
theorem dX8_withVoice_99 : decode cX8_withVoice 99 = .ok (.lstore 4, 2) := by decide +kernel
theorem dX8_withVoice_101 : decode cX8_withVoice 101 = .ok (.iinc 6 1, 3) := by decide +kernel
theorem dX8_withVoice_104 : decode cX8_withVoice 104 = .ok (.goto (-36), 3) := by decide +kernel
theorem dX8_withVoice_107 : decode cX8_withVoice 107 = .ok (.lload 4, 2) := by decide +kernel
theorem dX8_withVoice_109 : decode cX8_withVoice 109 = .ok (.aload_n 0, 1) := by decide +kernel
theorem dX8_withVoice_110 : decode cX8_withVoice 110 = .ok (.aload_n 3, 1) := by decide +kernel
theorem dX8_withVoice_111 : decode cX8_withVoice 111 = .ok (.invokevirtual 227, 3) := by decide +kernel
theorem dX8_withVoice_114 : decode cX8_withVoice 114 = .ok (.i2l, 1) := by decide +kernel
theorem dX8_withVoice_115 : decode cX8_withVoice 115 = .ok (.invokestatic 259, 3) := by decide +kernel
theorem dX8_withVoice_118 : decode cX8_withVoice 118 = .ok (.lstore 4, 2) := by decide +kernel
theorem dX8_withVoice_120 : decode cX8_withVoice 120 = .ok (.iconst 0, 1) := by decide +kernel
theorem dX8_withVoice_121 : decode cX8_withVoice 121 = .ok (.istore 6, 2) := by decide +kernel
theorem dX8_withVoice_123 : decode cX8_withVoice 123 = .ok (.iload 6, 2) := by decide +kernel
theorem dX8_withVoice_125 : decode cX8_withVoice 125 = .ok (.iconst 4, 1) := by decide +kernel
theorem dX8_withVoice_126 : decode cX8_withVoice 126 = .ok (.if_icmp .gt 26, 3) := by decide +kernel
theorem dX8_withVoice_129 : decode cX8_withVoice 129 = .ok (.lload 4, 2) := by decide +kernel
theorem dX8_withVoice_131 : decode cX8_withVoice 131 = .ok (.aload_n 0, 1) := by decide +kernel
theorem dX8_withVoice_132 : decode cX8_withVoice 132 = .ok (.aload_n 3, 1) := by decide +kernel
theorem dX8_withVoice_133 : decode cX8_withVoice 133 = .ok (.bipush 100, 2) := by decide +kernel
theorem dX8_withVoice_135 : decode cX8_withVoice 135 = .ok (.iload 6, 2) := by decide +kernel
theorem dX8_withVoice_137 : decode cX8_withVoice 137 = .ok (.invokevirtual 234, 3) := by decide +kernel
theorem dX8_withVoice_140 : decode cX8_withVoice 140 = .ok (.i2l, 1) := by decide +kernel
theorem dX8_withVoice_141 : decode cX8_withVoice 141 = .ok (.invokestatic 259, 3) := by decide +kernel
theorem dX8_withVoice_144 : decode cX8_withVoice 144 = .ok (.lstore 4, 2) := by decide +kernel
theorem dX8_withVoice_146 : decode cX8_withVoice 146 = .ok (.iinc 6 1, 3) := by decide +kernel
theorem dX8_withVoice_149 : decode cX8_withVoice 149 = .ok (.goto (-26), 3) := by decide +kernel
theorem dX8_withVoice_152 : decode cX8_withVoice 152 = .ok (.lload 4, 2) := by decide +kernel
theorem dX8_withVoice_154 : decode cX8_withVoice 154 = .ok (.aload_n 0, 1) := by decide +kernel
theorem dX8_withVoice_155 : decode cX8_withVoice 155 = .ok (.aload_n 3, 1) := by decide +kernel
theorem dX8_withVoice_156 : decode cX8_withVoice 156 = .ok (.sipush (-500), 3) := by decide +kernel
theorem dX8_withVoice_159 : decode cX8_withVoice 159 = .ok (.bipush 50, 2) := by decide +kernel
theorem dX8_withVoice_161 : decode cX8_withVoice 161 = .ok (.invokevirtual 240, 3) := by decide +kernel
theorem dX8_withVoice_164 : decode cX8_withVoice 164 = .ok (.i2l, 1) := by decide +kernel
theorem dX8_withVoice_165 : decode cX8_withVoice 165 = .ok (.invokestatic 259, 3) := by decide +kernel
theorem dX8_withVoice_168 : decode cX8_withVoice 168 = .ok (.lstore 4, 2) := by decide +kernel
theorem dX8_withVoice_170 : decode cX8_withVoice 170 = .ok (.iconst 0, 1) := by decide +kernel
theorem dX8_withVoice_171 : decode cX8_withVoice 171 = .ok (.istore 6, 2) := by decide +kernel
theorem dX8_withVoice_173 : decode cX8_withVoice 173 = .ok (.iload 6, 2) := by decide +kernel
theorem dX8_withVoice_175 : decode cX8_withVoice 175 = .ok (.iconst 3, 1) := by decide +kernel
theorem dX8_withVoice_176 : decode cX8_withVoice 176 = .ok (.if_icmp .gt 24, 3) := by decide +kernel
theorem dX8_withVoice_179 : decode cX8_withVoice 179 = .ok (.lload 4, 2) := by decide +kernel
theorem dX8_withVoice_181 : decode cX8_withVoice 181 = .ok (.aload_n 0, 1) := by decide +kernel
theorem dX8_withVoice_182 : decode cX8_withVoice 182 = .ok (.aload_n 3, 1) := by decide +kernel
theorem dX8_withVoice_183 : decode cX8_withVoice 183 = .ok (.iload 6, 2) := by decide +kernel
theorem dX8_withVoice_185 : decode cX8_withVoice 185 = .ok (.invokevirtual 243, 3) := by decide +kernel
theorem dX8_withVoice_188 : decode cX8_withVoice 188 = .ok (.i2l, 1) := by decide +kernel
theorem dX8_withVoice_189 : decode cX8_withVoice 189 = .ok (.invokestatic 259, 3) := by decide +kernel
theorem dX8_withVoice_192 : decode cX8_withVoice 192 = .ok (.lstore 4, 2) := by decide +kernel
theorem dX8_withVoice_194 : decode cX8_withVoice 194 = .ok (.iinc 6 1, 3) := by decide +kernel
theorem dX8_withVoice_197 : decode cX8_withVoice 197 = .ok (.goto (-24), 3) := by decide +kernel
theorem dX8_withVoice_200 : decode cX8_withVoice 200 = .ok (.lload 4, 2) := by decide +kernel
theorem dX8_withVoice_202 : decode cX8_withVoice 202 = .ok (.aload_n 3, 1) := by decide +kernel
theorem dX8_withVoice_203 : decode cX8_withVoice 203 = .ok (.getfield 246, 3) := by decide +kernel
theorem dX8_withVoice_206 : decode cX8_withVoice 206 = .ok (.invokevirtual 249, 3) := by decide +kernel
theorem dX8_withVoice_209 : decode cX8_withVoice 209 = .ok (.invokestatic 394, 3) := by decide +kernel
theorem dX8_withVoice_212 : decode cX8_withVoice 212 = .ok (.invokestatic 259, 3) := by decide +kernel
theorem dX8_withVoice_215 : decode cX8_withVoice 215 = .ok (.lreturn, 1) := by decide +kernel
theorem dX8_withPacket_0 : decode cX8_withPacket 0 = .ok (.lload_n 0, 1) := by decide +kernel
theorem dX8_withPacket_1 : decode cX8_withPacket 1 = .ok (.lstore_n 3, 1) := by decide +kernel
theorem dX8_withPacket_2 : decode cX8_withPacket 2 = .ok (.iconst 0, 1) := by decide +kernel
theorem dX8_withPacket_3 : decode cX8_withPacket 3 = .ok (.istore 5, 2) := by decide +kernel
theorem dX8_withPacket_5 : decode cX8_withPacket 5 = .ok (.iload 5, 2) := by decide +kernel
theorem dX8_withPacket_7 : decode cX8_withPacket 7 = .ok (.iconst 5, 1) := by decide +kernel
theorem dX8_withPacket_8 : decode cX8_withPacket 8 = .ok (.if_icmp .gt 21, 3) := by decide +kernel
theorem dX8_withPacket_11 : decode cX8_withPacket 11 = .ok (.lload_n 3, 1) := by decide +kernel
theorem dX8_withPacket_12 : decode cX8_withPacket 12 = .ok (.aload_n 2, 1) := by decide +kernel
theorem dX8_withPacket_13 : decode cX8_withPacket 13 = .ok (.iload 5, 2) := by decide +kernel
theorem dX8_withPacket_15 : decode cX8_withPacket 15 = .ok (.invokevirtual 224, 3) := by decide +kernel
theorem dX8_withPacket_18 : decode cX8_withPacket 18 = .ok (.i2l, 1) := by decide +kernel
theorem dX8_withPacket_19 : decode cX8_withPacket 19 = .ok (.invokestatic 259, 3) := by decide +kernel
theorem dX8_withPacket_22 : decode cX8_withPacket 22 = .ok (.lstore_n 3, 1) := by decide +kernel
theorem dX8_withPacket_23 : decode cX8_withPacket 23 = .ok (.iinc 5 1, 3) := by decide +kernel
theorem dX8_withPacket_26 : decode cX8_withPacket 26 = .ok (.goto (-21), 3) := by decide +kernel
theorem dX8_withPacket_29 : decode cX8_withPacket 29 = .ok (.lload_n 3, 1) := by decide +kernel
theorem dX8_withPacket_30 : decode cX8_withPacket 30 = .ok (.lreturn, 1) := by decide +kernel
theorem dX8_bitsOfDouble_0 : decode cX8_bitsOfDouble 0 = .ok (.dload_n 0, 1) := by decide +kernel
theorem dX8_bitsOfDouble_1 : decode cX8_bitsOfDouble 1 = .ok (.dconst 0, 1) := by decide +kernel
theorem dX8_bitsOfDouble_2 : decode cX8_bitsOfDouble 2 = .ok (.dcmp .l, 1) := by decide +kernel
theorem dX8_bitsOfDouble_3 : decode cX8_bitsOfDouble 3 = .ok (.ifCond .gt 5, 3) := by decide +kernel
theorem dX8_bitsOfDouble_6 : decode cX8_bitsOfDouble 6 = .ok (.lconst 0, 1) := by decide +kernel
theorem dX8_bitsOfDouble_7 : decode cX8_bitsOfDouble 7 = .ok (.lreturn, 1) := by decide +kernel
theorem dX8_bitsOfDouble_8 : decode cX8_bitsOfDouble 8 = .ok (.dload_n 0, 1) := by decide +kernel
theorem dX8_bitsOfDouble_9 : decode cX8_bitsOfDouble 9 = .ok (.dstore_n 2, 1) := by decide +kernel
theorem dX8_bitsOfDouble_10 : decode cX8_bitsOfDouble 10 = .ok (.ldc2_w 398, 3) := by decide +kernel
theorem dX8_bitsOfDouble_13 : decode cX8_bitsOfDouble 13 = .ok (.lstore 4, 2) := by decide +kernel
theorem dX8_bitsOfDouble_15 : decode cX8_bitsOfDouble 15 = .ok (.iconst 0, 1) := by decide +kernel
theorem dX8_bitsOfDouble_16 : decode cX8_bitsOfDouble 16 = .ok (.istore 6, 2) := by decide +kernel
theorem dX8_bitsOfDouble_18 : decode cX8_bitsOfDouble 18 = .ok (.iload 6, 2) := by decide +kernel
theorem dX8_bitsOfDouble_20 : decode cX8_bitsOfDouble 20 = .ok (.sipush 1023, 3) := by decide +kernel
theorem dX8_bitsOfDouble_23 : decode cX8_bitsOfDouble 23 = .ok (.if_icmp .ge 29, 3) := by decide +kernel
theorem dX8_bitsOfDouble_26 : decode cX8_bitsOfDouble 26 = .ok (.dload_n 2, 1) := by decide +kernel
theorem dX8_bitsOfDouble_27 : decode cX8_bitsOfDouble 27 = .ok (.ldc2_w 400, 3) := by decide +kernel
theorem dX8_bitsOfDouble_30 : decode cX8_bitsOfDouble 30 = .ok (.dcmp .l, 1) := by decide +kernel
theorem dX8_bitsOfDouble_31 : decode cX8_bitsOfDouble 31 = .ok (.ifCond .lt 21, 3) := by decide +kernel
theorem dX8_bitsOfDouble_34 : decode cX8_bitsOfDouble 34 = .ok (.dload_n 2, 1) := by decide +kernel
theorem dX8_bitsOfDouble_35 : decode cX8_bitsOfDouble 35 = .ok (.ldc2_w 400, 3) := by decide +kernel
theorem dX8_bitsOfDouble_38 : decode cX8_bitsOfDouble 38 = .ok (.ddiv, 1) := by decide +kernel
theorem dX8_bitsOfDouble_39 : decode cX8_bitsOfDouble 39 = .ok (.dstore_n 2, 1) := by decide +kernel
theorem dX8_bitsOfDouble_40 : decode cX8_bitsOfDouble 40 = .ok (.lload 4, 2) := by decide +kernel
theorem dX8_bitsOfDouble_42 : decode cX8_bitsOfDouble 42 = .ok (.lconst 1, 1) := by decide +kernel
theorem dX8_bitsOfDouble_43 : decode cX8_bitsOfDouble 43 = .ok (.ladd, 1) := by decide +kernel
theorem dX8_bitsOfDouble_44 : decode cX8_bitsOfDouble 44 = .ok (.lstore 4, 2) := by decide +kernel
theorem dX8_bitsOfDouble_46 : decode cX8_bitsOfDouble 46 = .ok (.iinc 6 1, 3) := by decide +kernel
theorem dX8_bitsOfDouble_49 : decode cX8_bitsOfDouble 49 = .ok (.goto (-31), 3) := by decide +kernel
theorem dX8_bitsOfDouble_52 : decode cX8_bitsOfDouble 52 = .ok (.iconst 0, 1) := by decide +kernel
theorem dX8_bitsOfDouble_53 : decode cX8_bitsOfDouble 53 = .ok (.istore 6, 2) := by decide +kernel
theorem dX8_bitsOfDouble_55 : decode cX8_bitsOfDouble 55 = .ok (.iload 6, 2) := by decide +kernel
theorem dX8_bitsOfDouble_57 : decode cX8_bitsOfDouble 57 = .ok (.sipush 1023, 3) := by decide +kernel
theorem dX8_bitsOfDouble_60 : decode cX8_bitsOfDouble 60 = .ok (.if_icmp .ge 27, 3) := by decide +kernel
theorem dX8_bitsOfDouble_63 : decode cX8_bitsOfDouble 63 = .ok (.dload_n 2, 1) := by decide +kernel
theorem dX8_bitsOfDouble_64 : decode cX8_bitsOfDouble 64 = .ok (.dconst 1, 1) := by decide +kernel
theorem dX8_bitsOfDouble_65 : decode cX8_bitsOfDouble 65 = .ok (.dcmp .g, 1) := by decide +kernel
theorem dX8_bitsOfDouble_66 : decode cX8_bitsOfDouble 66 = .ok (.ifCond .ge 21, 3) := by decide +kernel
theorem dX8_bitsOfDouble_69 : decode cX8_bitsOfDouble 69 = .ok (.dload_n 2, 1) := by decide +kernel
theorem dX8_bitsOfDouble_70 : decode cX8_bitsOfDouble 70 = .ok (.ldc2_w 400, 3) := by decide +kernel
theorem dX8_bitsOfDouble_73 : decode cX8_bitsOfDouble 73 = .ok (.dmul, 1) := by decide +kernel
theorem dX8_bitsOfDouble_74 : decode cX8_bitsOfDouble 74 = .ok (.dstore_n 2, 1) := by decide +kernel
theorem dX8_bitsOfDouble_75 : decode cX8_bitsOfDouble 75 = .ok (.lload 4, 2) := by decide +kernel
theorem dX8_bitsOfDouble_77 : decode cX8_bitsOfDouble 77 = .ok (.lconst 1, 1) := by decide +kernel
theorem dX8_bitsOfDouble_78 : decode cX8_bitsOfDouble 78 = .ok (.lsub, 1) := by decide +kernel
theorem dX8_bitsOfDouble_79 : decode cX8_bitsOfDouble 79 = .ok (.lstore 4, 2) := by decide +kernel
theorem dX8_bitsOfDouble_81 : decode cX8_bitsOfDouble 81 = .ok (.iinc 6 1, 3) := by decide +kernel
theorem dX8_bitsOfDouble_84 : decode cX8_bitsOfDouble 84 = .ok (.goto (-29), 3) := by decide +kernel
theorem dX8_bitsOfDouble_87 : decode cX8_bitsOfDouble 87 = .ok (.lload 4, 2) := by decide +kernel
theorem dX8_bitsOfDouble_89 : decode cX8_bitsOfDouble 89 = .ok (.bipush 52, 2) := by decide +kernel
theorem dX8_bitsOfDouble_91 : decode cX8_bitsOfDouble 91 = .ok (.lshl, 1) := by decide +kernel
theorem dX8_bitsOfDouble_92 : decode cX8_bitsOfDouble 92 = .ok (.dload_n 2, 1) := by decide +kernel
theorem dX8_bitsOfDouble_93 : decode cX8_bitsOfDouble 93 = .ok (.dconst 1, 1) := by decide +kernel
theorem dX8_bitsOfDouble_94 : decode cX8_bitsOfDouble 94 = .ok (.dsub, 1) := by decide +kernel
theorem dX8_bitsOfDouble_95 : decode cX8_bitsOfDouble 95 = .ok (.ldc2_w 402, 3) := by decide +kernel
theorem dX8_bitsOfDouble_98 : decode cX8_bitsOfDouble 98 = .ok (.dmul, 1) := by decide +kernel
theorem dX8_bitsOfDouble_99 : decode cX8_bitsOfDouble 99 = .ok (.d2l, 1) := by decide +kernel
theorem dX8_bitsOfDouble_100 : decode cX8_bitsOfDouble 100 = .ok (.ladd, 1) := by decide +kernel
theorem dX8_bitsOfDouble_101 : decode cX8_bitsOfDouble 101 = .ok (.lreturn, 1) := by decide +kernel
theorem dX8_bitsOfFloat_0 : decode cX8_bitsOfFloat 0 = .ok (.fload_n 0, 1) := by decide +kernel
theorem dX8_bitsOfFloat_1 : decode cX8_bitsOfFloat 1 = .ok (.fconst 0, 1) := by decide +kernel
theorem dX8_bitsOfFloat_2 : decode cX8_bitsOfFloat 2 = .ok (.fcmp .l, 1) := by decide +kernel
theorem dX8_bitsOfFloat_3 : decode cX8_bitsOfFloat 3 = .ok (.ifCond .gt 5, 3) := by decide +kernel
theorem dX8_bitsOfFloat_6 : decode cX8_bitsOfFloat 6 = .ok (.lconst 0, 1) := by decide +kernel
theorem dX8_bitsOfFloat_7 : decode cX8_bitsOfFloat 7 = .ok (.lreturn, 1) := by decide +kernel
theorem dX8_bitsOfFloat_8 : decode cX8_bitsOfFloat 8 = .ok (.fload_n 0, 1) := by decide +kernel
theorem dX8_bitsOfFloat_9 : decode cX8_bitsOfFloat 9 = .ok (.f2d, 1) := by decide +kernel
theorem dX8_bitsOfFloat_10 : decode cX8_bitsOfFloat 10 = .ok (.invokestatic 394, 3) := by decide +kernel
theorem dX8_bitsOfFloat_13 : decode cX8_bitsOfFloat 13 = .ok (.lstore_n 1, 1) := by decide +kernel
theorem dX8_bitsOfFloat_14 : decode cX8_bitsOfFloat 14 = .ok (.lload_n 1, 1) := by decide +kernel
theorem dX8_bitsOfFloat_15 : decode cX8_bitsOfFloat 15 = .ok (.bipush 52, 2) := by decide +kernel
theorem dX8_bitsOfFloat_17 : decode cX8_bitsOfFloat 17 = .ok (.lshr, 1) := by decide +kernel
theorem dX8_bitsOfFloat_18 : decode cX8_bitsOfFloat 18 = .ok (.ldc2_w 398, 3) := by decide +kernel
theorem dX8_bitsOfFloat_21 : decode cX8_bitsOfFloat 21 = .ok (.lsub, 1) := by decide +kernel
theorem dX8_bitsOfFloat_22 : decode cX8_bitsOfFloat 22 = .ok (.ldc2_w 404, 3) := by decide +kernel
theorem dX8_bitsOfFloat_25 : decode cX8_bitsOfFloat 25 = .ok (.ladd, 1) := by decide +kernel
theorem dX8_bitsOfFloat_26 : decode cX8_bitsOfFloat 26 = .ok (.lstore_n 3, 1) := by decide +kernel
theorem dX8_bitsOfFloat_27 : decode cX8_bitsOfFloat 27 = .ok (.lload_n 1, 1) := by decide +kernel
theorem dX8_bitsOfFloat_28 : decode cX8_bitsOfFloat 28 = .ok (.ldc2_w 406, 3) := by decide +kernel
theorem dX8_bitsOfFloat_31 : decode cX8_bitsOfFloat 31 = .ok (.land, 1) := by decide +kernel
theorem dX8_bitsOfFloat_32 : decode cX8_bitsOfFloat 32 = .ok (.bipush 29, 2) := by decide +kernel
theorem dX8_bitsOfFloat_34 : decode cX8_bitsOfFloat 34 = .ok (.lshr, 1) := by decide +kernel
theorem dX8_bitsOfFloat_35 : decode cX8_bitsOfFloat 35 = .ok (.lstore 5, 2) := by decide +kernel
theorem dX8_bitsOfFloat_37 : decode cX8_bitsOfFloat 37 = .ok (.lload_n 3, 1) := by decide +kernel
theorem dX8_bitsOfFloat_38 : decode cX8_bitsOfFloat 38 = .ok (.bipush 23, 2) := by decide +kernel
theorem dX8_bitsOfFloat_40 : decode cX8_bitsOfFloat 40 = .ok (.lshl, 1) := by decide +kernel
theorem dX8_bitsOfFloat_41 : decode cX8_bitsOfFloat 41 = .ok (.lload 5, 2) := by decide +kernel
theorem dX8_bitsOfFloat_43 : decode cX8_bitsOfFloat 43 = .ok (.ladd, 1) := by decide +kernel
theorem dX8_bitsOfFloat_44 : decode cX8_bitsOfFloat 44 = .ok (.lreturn, 1) := by decide +kernel
theorem dX8_distance_0 : decode cX8_distance 0 = .ok (.iload_n 0, 1) := by decide +kernel
theorem dX8_distance_1 : decode cX8_distance 1 = .ok (.iload_n 1, 1) := by decide +kernel
theorem dX8_distance_2 : decode cX8_distance 2 = .ok (.if_icmp .ge 9, 3) := by decide +kernel
theorem dX8_distance_5 : decode cX8_distance 5 = .ok (.iload_n 1, 1) := by decide +kernel
theorem dX8_distance_6 : decode cX8_distance 6 = .ok (.iload_n 0, 1) := by decide +kernel
theorem dX8_distance_7 : decode cX8_distance 7 = .ok (.isub, 1) := by decide +kernel
theorem dX8_distance_8 : decode cX8_distance 8 = .ok (.goto 6, 3) := by decide +kernel
theorem dX8_distance_11 : decode cX8_distance 11 = .ok (.iload_n 0, 1) := by decide +kernel
theorem dX8_distance_12 : decode cX8_distance 12 = .ok (.iload_n 1, 1) := by decide +kernel
theorem dX8_distance_13 : decode cX8_distance 13 = .ok (.isub, 1) := by decide +kernel
theorem dX8_distance_14 : decode cX8_distance 14 = .ok (.ireturn, 1) := by decide +kernel
theorem dX9_init_0 : decode cX9_init 0 = .ok (.aload_n 0, 1) := by decide +kernel
theorem dX9_init_1 : decode cX9_init 1 = .ok (.invokespecial 1, 3) := by decide +kernel
theorem dX9_init_4 : decode cX9_init 4 = .ok (.aload_n 0, 1) := by decide +kernel
theorem dX9_init_5 : decode cX9_init 5 = .ok (.sipush 626, 3) := by decide +kernel
theorem dX9_init_8 : decode cX9_init 8 = .ok (.newarray .int, 2) := by decide +kernel
theorem dX9_init_10 : decode cX9_init 10 = .ok (.putfield 7, 3) := by decide +kernel
theorem dX9_init_13 : decode cX9_init 13 = .ok (.aload_n 0, 1) := by decide +kernel
theorem dX9_init_14 : decode cX9_init 14 = .ok (.sipush 3756, 3) := by decide +kernel
theorem dX9_init_17 : decode cX9_init 17 = .ok (.newarray .int, 2) := by decide +kernel
theorem dX9_init_19 : decode cX9_init 19 = .ok (.putfield 13, 3) := by decide +kernel
theorem dX9_init_22 : decode cX9_init 22 = .ok (.aload_n 0, 1) := by decide +kernel
theorem dX9_init_23 : decode cX9_init 23 = .ok (.sipush 626, 3) := by decide +kernel
theorem dX9_init_26 : decode cX9_init 26 = .ok (.newarray .int, 2) := by decide +kernel
theorem dX9_init_28 : decode cX9_init 28 = .ok (.putfield 16, 3) := by decide +kernel
theorem dX9_init_31 : decode cX9_init 31 = .ok (.aload_n 0, 1) := by decide +kernel
theorem dX9_init_32 : decode cX9_init 32 = .ok (.sipush 626, 3) := by decide +kernel
theorem dX9_init_35 : decode cX9_init 35 = .ok (.newarray .int, 2) := by decide +kernel
theorem dX9_init_37 : decode cX9_init 37 = .ok (.putfield 19, 3) := by decide +kernel
theorem dX9_init_40 : decode cX9_init 40 = .ok (.aload_n 0, 1) := by decide +kernel
theorem dX9_init_41 : decode cX9_init 41 = .ok (.bipush 25, 2) := by decide +kernel
theorem dX9_init_43 : decode cX9_init 43 = .ok (.newarray .int, 2) := by decide +kernel
theorem dX9_init_45 : decode cX9_init 45 = .ok (.putfield 22, 3) := by decide +kernel
theorem dX9_init_48 : decode cX9_init 48 = .ok (.aload_n 0, 1) := by decide +kernel
theorem dX9_init_49 : decode cX9_init 49 = .ok (.bipush 60, 2) := by decide +kernel
theorem dX9_init_51 : decode cX9_init 51 = .ok (.newarray .int, 2) := by decide +kernel
theorem dX9_init_53 : decode cX9_init 53 = .ok (.putfield 25, 3) := by decide +kernel
theorem dX9_init_56 : decode cX9_init 56 = .ok (.aload_n 0, 1) := by decide +kernel
theorem dX9_init_57 : decode cX9_init 57 = .ok (.bipush 32, 2) := by decide +kernel
theorem dX9_init_59 : decode cX9_init 59 = .ok (.newarray .int, 2) := by decide +kernel
theorem dX9_init_61 : decode cX9_init 61 = .ok (.putfield 28, 3) := by decide +kernel
theorem dX9_init_64 : decode cX9_init 64 = .ok (.aload_n 0, 1) := by decide +kernel
theorem dX9_init_65 : decode cX9_init 65 = .ok (.bipush 32, 2) := by decide +kernel
theorem dX9_init_67 : decode cX9_init 67 = .ok (.newarray .int, 2) := by decide +kernel
theorem dX9_init_69 : decode cX9_init 69 = .ok (.putfield 31, 3) := by decide +kernel
theorem dX9_init_72 : decode cX9_init 72 = .ok (.aload_n 0, 1) := by decide +kernel
theorem dX9_init_73 : decode cX9_init 73 = .ok (.bipush 32, 2) := by decide +kernel
theorem dX9_init_75 : decode cX9_init 75 = .ok (.newarray .int, 2) := by decide +kernel
theorem dX9_init_77 : decode cX9_init 77 = .ok (.putfield 34, 3) := by decide +kernel
theorem dX9_init_80 : decode cX9_init 80 = .ok (.aload_n 0, 1) := by decide +kernel
theorem dX9_init_81 : decode cX9_init 81 = .ok (.getfield 7, 3) := by decide +kernel
theorem dX9_init_84 : decode cX9_init 84 = .ok (.iconst 0, 1) := by decide +kernel
theorem dX9_init_85 : decode cX9_init 85 = .ok (.iconst 1, 1) := by decide +kernel
theorem dX9_init_86 : decode cX9_init 86 = .ok (.iastore, 1) := by decide +kernel
theorem dX9_init_87 : decode cX9_init 87 = .ok (.aload_n 0, 1) := by decide +kernel
theorem dX9_init_88 : decode cX9_init 88 = .ok (.getfield 7, 3) := by decide +kernel
theorem dX9_init_91 : decode cX9_init 91 = .ok (.iconst 2, 1) := by decide +kernel
theorem dX9_init_92 : decode cX9_init 92 = .ok (.iconst 4, 1) := by decide +kernel
theorem dX9_init_93 : decode cX9_init 93 = .ok (.iastore, 1) := by decide +kernel
theorem dX9_init_94 : decode cX9_init 94 = .ok (.aload_n 0, 1) := by decide +kernel
theorem dX9_init_95 : decode cX9_init 95 = .ok (.getfield 7, 3) := by decide +kernel
theorem dX9_init_98 : decode cX9_init 98 = .ok (.iconst 3, 1) := by decide +kernel
theorem dX9_init_99 : decode cX9_init 99 = .ok (.iconst 3, 1) := by decide +kernel
theorem dX9_init_100 : decode cX9_init 100 = .ok (.iastore, 1) := by decide +kernel
theorem dX9_init_101 : decode cX9_init 101 = .ok (.aload_n 0, 1) := by decide +kernel
theorem dX9_init_102 : decode cX9_init 102 = .ok (.getfield 22, 3) := by decide +kernel
theorem dX9_init_105 : decode cX9_init 105 = .ok (.iconst 0, 1) := by decide +kernel
theorem dX9_init_106 : decode cX9_init 106 = .ok (.bipush 8, 2) := by decide +kernel
theorem dX9_init_108 : decode cX9_init 108 = .ok (.iastore, 1) := by decide +kernel
theorem dX9_init_109 : decode cX9_init 109 = .ok (.iconst 1, 1) := by decide +kernel
theorem dX9_init_110 : decode cX9_init 110 = .ok (.istore_n 1, 1) := by decide +kernel
theorem dX9_init_111 : decode cX9_init 111 = .ok (.iload_n 1, 1) := by decide +kernel
theorem dX9_init_112 : decode cX9_init 112 = .ok (.bipush 24, 2) := by decide +kernel
theorem dX9_init_114 : decode cX9_init 114 = .ok (.if_icmp .gt 27, 3) := by decide +kernel
theorem dX9_init_117 : decode cX9_init 117 = .ok (.aload_n 0, 1) := by decide +kernel
theorem dX9_init_118 : decode cX9_init 118 = .ok (.getfield 22, 3) := by decide +kernel
theorem dX9_init_121 : decode cX9_init 121 = .ok (.iload_n 1, 1) := by decide +kernel
theorem dX9_init_122 : decode cX9_init 122 = .ok (.iconst 5, 1) := by decide +kernel
theorem dX9_init_123 : decode cX9_init 123 = .ok (.aload_n 0, 1) := by decide +kernel
theorem dX9_init_124 : decode cX9_init 124 = .ok (.getfield 22, 3) := by decide +kernel
theorem dX9_init_127 : decode cX9_init 127 = .ok (.iload_n 1, 1) := by decide +kernel
theorem dX9_init_128 : decode cX9_init 128 = .ok (.iconst 1, 1) := by decide +kernel
theorem dX9_init_129 : decode cX9_init 129 = .ok (.isub, 1) := by decide +kernel
theorem dX9_init_130 : decode cX9_init 130 = .ok (.iaload, 1) := by decide +kernel
theorem dX9_init_131 : decode cX9_init 131 = .ok (.imul, 1) := by decide +kernel
theorem dX9_init_132 : decode cX9_init 132 = .ok (.iconst 4, 1) := by decide +kernel
theorem dX9_init_133 : decode cX9_init 133 = .ok (.idiv, 1) := by decide +kernel
theorem dX9_init_134 : decode cX9_init 134 = .ok (.iastore, 1) := by decide +kernel
theorem dX9_init_135 : decode cX9_init 135 = .ok (.iinc 1 1, 3) := by decide +kernel
theorem dX9_init_138 : decode cX9_init 138 = .ok (.goto (-27), 3) := by decide +kernel
theorem dX9_init_141 : decode cX9_init 141 = .ok (.return_, 1) := by decide +kernel
theorem dX9_thrown_0 : decode cX9_thrown 0 = .ok (.aload_n 0, 1) := by decide +kernel
theorem dX9_thrown_1 : decode cX9_thrown 1 = .ok (.getfield 37, 3) := by decide +kernel
theorem dX9_thrown_4 : decode cX9_thrown 4 = .ok (.ireturn, 1) := by decide +kernel
theorem dX9_fails_0 : decode cX9_fails 0 = .ok (.aload_n 0, 1) := by decide +kernel
theorem dX9_fails_1 : decode cX9_fails 1 = .ok (.iload_n 1, 1) := by decide +kernel
theorem dX9_fails_2 : decode cX9_fails 2 = .ok (.putfield 37, 3) := by decide +kernel
theorem dX9_fails_5 : decode cX9_fails 5 = .ok (.iconst 0, 1) := by decide +kernel
theorem dX9_fails_6 : decode cX9_fails 6 = .ok (.ireturn, 1) := by decide +kernel
theorem dX9_in_0 : decode cX9_in 0 = .ok (.iload_n 0, 1) := by decide +kernel
theorem dX9_in_1 : decode cX9_in 1 = .ok (.iload_n 1, 1) := by decide +kernel
theorem dX9_in_2 : decode cX9_in 2 = .ok (.if_icmp .lt 12, 3) := by decide +kernel
theorem dX9_in_5 : decode cX9_in 5 = .ok (.iload_n 0, 1) := by decide +kernel
theorem dX9_in_6 : decode cX9_in 6 = .ok (.iload_n 2, 1) := by decide +kernel
theorem dX9_in_7 : decode cX9_in 7 = .ok (.if_icmp .gt 7, 3) := by decide +kernel
theorem dX9_in_10 : decode cX9_in 10 = .ok (.iconst 1, 1) := by decide +kernel
theorem dX9_in_11 : decode cX9_in 11 = .ok (.goto 4, 3) := by decide +kernel
theorem dX9_in_14 : decode cX9_in 14 = .ok (.iconst 0, 1) := by decide +kernel
theorem dX9_in_15 : decode cX9_in 15 = .ok (.ireturn, 1) := by decide +kernel
theorem dX9_isVoice_0 : decode cX9_isVoice 0 = .ok (.iload_n 0, 1) := by decide +kernel
theorem dX9_isVoice_1 : decode cX9_isVoice 1 = .ok (.iconst 0, 1) := by decide +kernel
theorem dX9_isVoice_2 : decode cX9_isVoice 2 = .ok (.iconst 2, 1) := by decide +kernel
theorem dX9_isVoice_3 : decode cX9_isVoice 3 = .ok (.invokestatic 41, 3) := by decide +kernel
theorem dX9_isVoice_6 : decode cX9_isVoice 6 = .ok (.ireturn, 1) := by decide +kernel
theorem dX9_isSample_0 : decode cX9_isSample 0 = .ok (.iload_n 0, 1) := by decide +kernel
theorem dX9_isSample_1 : decode cX9_isSample 1 = .ok (.sipush (-2000), 3) := by decide +kernel
theorem dX9_isSample_4 : decode cX9_isSample 4 = .ok (.sipush 2000, 3) := by decide +kernel
theorem dX9_isSample_7 : decode cX9_isSample 7 = .ok (.invokestatic 41, 3) := by decide +kernel
theorem dX9_isSample_10 : decode cX9_isSample 10 = .ok (.ireturn, 1) := by decide +kernel
theorem dX9_size_0 : decode cX9_size 0 = .ok (.iload_n 0, 1) := by decide +kernel
theorem dX9_size_1 : decode cX9_size 1 = .ok (.ifCond .ge 8, 3) := by decide +kernel
theorem dX9_size_4 : decode cX9_size 4 = .ok (.iload_n 0, 1) := by decide +kernel
theorem dX9_size_5 : decode cX9_size 5 = .ok (.ineg, 1) := by decide +kernel
theorem dX9_size_6 : decode cX9_size 6 = .ok (.goto 4, 3) := by decide +kernel
theorem dX9_size_9 : decode cX9_size 9 = .ok (.iload_n 0, 1) := by decide +kernel
theorem dX9_size_10 : decode cX9_size 10 = .ok (.ireturn, 1) := by decide +kernel
theorem dX9_of_0 : decode cX9_of 0 = .ok (.aload_n 0, 1) := by decide +kernel
theorem dX9_of_1 : decode cX9_of 1 = .ok (.getfield 7, 3) := by decide +kernel
theorem dX9_of_4 : decode cX9_of 4 = .ok (.iconst 5, 1) := by decide +kernel
theorem dX9_of_5 : decode cX9_of 5 = .ok (.sipush 207, 3) := by decide +kernel
theorem dX9_of_8 : decode cX9_of 8 = .ok (.iload_n 1, 1) := by decide +kernel
theorem dX9_of_9 : decode cX9_of 9 = .ok (.imul, 1) := by decide +kernel
theorem dX9_of_10 : decode cX9_of 10 = .ok (.iadd, 1) := by decide +kernel
theorem dX9_of_11 : decode cX9_of 11 = .ok (.iload_n 2, 1) := by decide +kernel
theorem dX9_of_12 : decode cX9_of 12 = .ok (.iadd, 1) := by decide +kernel
theorem dX9_of_13 : decode cX9_of 13 = .ok (.iaload, 1) := by decide +kernel
theorem dX9_of_14 : decode cX9_of 14 = .ok (.ireturn, 1) := by decide +kernel
theorem dX9_put_0 : decode cX9_put 0 = .ok (.aload_n 0, 1) := by decide +kernel
theorem dX9_put_1 : decode cX9_put 1 = .ok (.getfield 7, 3) := by decide +kernel
theorem dX9_put_4 : decode cX9_put 4 = .ok (.iconst 5, 1) := by decide +kernel
theorem dX9_put_5 : decode cX9_put 5 = .ok (.sipush 207, 3) := by decide +kernel
theorem dX9_put_8 : decode cX9_put 8 = .ok (.iload_n 1, 1) := by decide +kernel
theorem dX9_put_9 : decode cX9_put 9 = .ok (.imul, 1) := by decide +kernel
theorem dX9_put_10 : decode cX9_put 10 = .ok (.iadd, 1) := by decide +kernel
theorem dX9_put_11 : decode cX9_put 11 = .ok (.iload_n 2, 1) := by decide +kernel
theorem dX9_put_12 : decode cX9_put 12 = .ok (.iadd, 1) := by decide +kernel
theorem dX9_put_13 : decode cX9_put 13 = .ok (.iload_n 3, 1) := by decide +kernel
theorem dX9_put_14 : decode cX9_put 14 = .ok (.iastore, 1) := by decide +kernel
theorem dX9_put_15 : decode cX9_put 15 = .ok (.return_, 1) := by decide +kernel
theorem dX9_add_0 : decode cX9_add 0 = .ok (.aload_n 0, 1) := by decide +kernel
theorem dX9_add_1 : decode cX9_add 1 = .ok (.getfield 7, 3) := by decide +kernel
theorem dX9_add_4 : decode cX9_add 4 = .ok (.iconst 5, 1) := by decide +kernel
theorem dX9_add_5 : decode cX9_add 5 = .ok (.sipush 207, 3) := by decide +kernel
theorem dX9_add_8 : decode cX9_add 8 = .ok (.iload_n 1, 1) := by decide +kernel
theorem dX9_add_9 : decode cX9_add 9 = .ok (.imul, 1) := by decide +kernel
theorem dX9_add_10 : decode cX9_add 10 = .ok (.iadd, 1) := by decide +kernel
theorem dX9_add_11 : decode cX9_add 11 = .ok (.iload_n 2, 1) := by decide +kernel
theorem dX9_add_12 : decode cX9_add 12 = .ok (.iadd, 1) := by decide +kernel
theorem dX9_add_13 : decode cX9_add 13 = .ok (.dup2, 1) := by decide +kernel
theorem dX9_add_14 : decode cX9_add 14 = .ok (.iaload, 1) := by decide +kernel
theorem dX9_add_15 : decode cX9_add 15 = .ok (.iload_n 3, 1) := by decide +kernel
theorem dX9_add_16 : decode cX9_add 16 = .ok (.iadd, 1) := by decide +kernel
theorem dX9_add_17 : decode cX9_add 17 = .ok (.iastore, 1) := by decide +kernel
theorem dX9_add_18 : decode cX9_add 18 = .ok (.return_, 1) := by decide +kernel
theorem dX9_packetAt_0 : decode cX9_packetAt 0 = .ok (.iconst 5, 1) := by decide +kernel
theorem dX9_packetAt_1 : decode cX9_packetAt 1 = .ok (.sipush 207, 3) := by decide +kernel
theorem dX9_packetAt_4 : decode cX9_packetAt 4 = .ok (.iload_n 0, 1) := by decide +kernel
theorem dX9_packetAt_5 : decode cX9_packetAt 5 = .ok (.imul, 1) := by decide +kernel
theorem dX9_packetAt_6 : decode cX9_packetAt 6 = .ok (.iadd, 1) := by decide +kernel
theorem dX9_packetAt_7 : decode cX9_packetAt 7 = .ok (.bipush 39, 2) := by decide +kernel
theorem dX9_packetAt_9 : decode cX9_packetAt 9 = .ok (.iadd, 1) := by decide +kernel
theorem dX9_packetAt_10 : decode cX9_packetAt 10 = .ok (.bipush 21, 2) := by decide +kernel
theorem dX9_packetAt_12 : decode cX9_packetAt 12 = .ok (.iload_n 1, 1) := by decide +kernel
theorem dX9_packetAt_13 : decode cX9_packetAt 13 = .ok (.imul, 1) := by decide +kernel
theorem dX9_packetAt_14 : decode cX9_packetAt 14 = .ok (.iadd, 1) := by decide +kernel
theorem dX9_packetAt_15 : decode cX9_packetAt 15 = .ok (.ireturn, 1) := by decide +kernel
theorem dX9_save_0 : decode cX9_save 0 = .ok (.aload_n 0, 1) := by decide +kernel
theorem dX9_save_1 : decode cX9_save 1 = .ok (.getfield 45, 3) := by decide +kernel
theorem dX9_save_4 : decode cX9_save 4 = .ok (.bipush 6, 2) := by decide +kernel
theorem dX9_save_6 : decode cX9_save 6 = .ok (.if_icmp .ne 44, 3) := by decide +kernel
theorem dX9_save_9 : decode cX9_save 9 = .ok (.iconst 0, 1) := by decide +kernel
theorem dX9_save_10 : decode cX9_save 10 = .ok (.istore_n 1, 1) := by decide +kernel
theorem dX9_save_11 : decode cX9_save 11 = .ok (.iload_n 1, 1) := by decide +kernel
theorem dX9_save_12 : decode cX9_save 12 = .ok (.sipush 3130, 3) := by decide +kernel
theorem dX9_save_15 : decode cX9_save 15 = .ok (.if_icmp .ge 25, 3) := by decide +kernel
theorem dX9_save_18 : decode cX9_save 18 = .ok (.aload_n 0, 1) := by decide +kernel
theorem dX9_save_19 : decode cX9_save 19 = .ok (.getfield 13, 3) := by decide +kernel
theorem dX9_save_22 : decode cX9_save 22 = .ok (.iload_n 1, 1) := by decide +kernel
theorem dX9_save_23 : decode cX9_save 23 = .ok (.aload_n 0, 1) := by decide +kernel
theorem dX9_save_24 : decode cX9_save 24 = .ok (.getfield 13, 3) := by decide +kernel
theorem dX9_save_27 : decode cX9_save 27 = .ok (.iload_n 1, 1) := by decide +kernel
theorem dX9_save_28 : decode cX9_save 28 = .ok (.sipush 626, 3) := by decide +kernel
theorem dX9_save_31 : decode cX9_save 31 = .ok (.iadd, 1) := by decide +kernel
theorem dX9_save_32 : decode cX9_save 32 = .ok (.iaload, 1) := by decide +kernel
theorem dX9_save_33 : decode cX9_save 33 = .ok (.iastore, 1) := by decide +kernel
theorem dX9_save_34 : decode cX9_save 34 = .ok (.iinc 1 1, 3) := by decide +kernel
theorem dX9_save_37 : decode cX9_save 37 = .ok (.goto (-26), 3) := by decide +kernel
theorem dX9_save_40 : decode cX9_save 40 = .ok (.aload_n 0, 1) := by decide +kernel
theorem dX9_save_41 : decode cX9_save 41 = .ok (.dup, 1) := by decide +kernel
theorem dX9_save_42 : decode cX9_save 42 = .ok (.getfield 45, 3) := by decide +kernel
theorem dX9_save_45 : decode cX9_save 45 = .ok (.iconst 1, 1) := by decide +kernel
theorem dX9_save_46 : decode cX9_save 46 = .ok (.isub, 1) := by decide +kernel
theorem dX9_save_47 : decode cX9_save 47 = .ok (.putfield 45, 3) := by decide +kernel
theorem dX9_save_50 : decode cX9_save 50 = .ok (.iconst 0, 1) := by decide +kernel
theorem dX9_save_51 : decode cX9_save 51 = .ok (.istore_n 1, 1) := by decide +kernel
theorem dX9_save_52 : decode cX9_save 52 = .ok (.iload_n 1, 1) := by decide +kernel
theorem dX9_save_53 : decode cX9_save 53 = .ok (.sipush 626, 3) := by decide +kernel
theorem dX9_save_56 : decode cX9_save 56 = .ok (.if_icmp .ge 30, 3) := by decide +kernel
theorem dX9_save_59 : decode cX9_save 59 = .ok (.aload_n 0, 1) := by decide +kernel
theorem dX9_save_60 : decode cX9_save 60 = .ok (.getfield 13, 3) := by decide +kernel
theorem dX9_save_63 : decode cX9_save 63 = .ok (.sipush 626, 3) := by decide +kernel
theorem dX9_save_66 : decode cX9_save 66 = .ok (.aload_n 0, 1) := by decide +kernel
theorem dX9_save_67 : decode cX9_save 67 = .ok (.getfield 45, 3) := by decide +kernel
theorem dX9_save_70 : decode cX9_save 70 = .ok (.imul, 1) := by decide +kernel
theorem dX9_save_71 : decode cX9_save 71 = .ok (.iload_n 1, 1) := by decide +kernel
theorem dX9_save_72 : decode cX9_save 72 = .ok (.iadd, 1) := by decide +kernel
theorem dX9_save_73 : decode cX9_save 73 = .ok (.aload_n 0, 1) := by decide +kernel
theorem dX9_save_74 : decode cX9_save 74 = .ok (.getfield 7, 3) := by decide +kernel
theorem dX9_save_77 : decode cX9_save 77 = .ok (.iload_n 1, 1) := by decide +kernel
theorem dX9_save_78 : decode cX9_save 78 = .ok (.iaload, 1) := by decide +kernel
theorem dX9_save_79 : decode cX9_save 79 = .ok (.iastore, 1) := by decide +kernel
theorem dX9_save_80 : decode cX9_save 80 = .ok (.iinc 1 1, 3) := by decide +kernel
theorem dX9_save_83 : decode cX9_save 83 = .ok (.goto (-31), 3) := by decide +kernel
theorem dX9_save_86 : decode cX9_save 86 = .ok (.aload_n 0, 1) := by decide +kernel
theorem dX9_save_87 : decode cX9_save 87 = .ok (.dup, 1) := by decide +kernel
theorem dX9_save_88 : decode cX9_save 88 = .ok (.getfield 45, 3) := by decide +kernel
theorem dX9_save_91 : decode cX9_save 91 = .ok (.iconst 1, 1) := by decide +kernel
theorem dX9_save_92 : decode cX9_save 92 = .ok (.iadd, 1) := by decide +kernel
theorem dX9_save_93 : decode cX9_save 93 = .ok (.putfield 45, 3) := by decide +kernel
theorem dX9_save_96 : decode cX9_save 96 = .ok (.return_, 1) := by decide +kernel
theorem dX9_putAside_0 : decode cX9_putAside 0 = .ok (.iconst 0, 1) := by decide +kernel
theorem dX9_putAside_1 : decode cX9_putAside 1 = .ok (.istore_n 1, 1) := by decide +kernel
theorem dX9_putAside_2 : decode cX9_putAside 2 = .ok (.iload_n 1, 1) := by decide +kernel
theorem dX9_putAside_3 : decode cX9_putAside 3 = .ok (.sipush 626, 3) := by decide +kernel
theorem dX9_putAside_6 : decode cX9_putAside 6 = .ok (.if_icmp .ge 21, 3) := by decide +kernel
theorem dX9_putAside_9 : decode cX9_putAside 9 = .ok (.aload_n 0, 1) := by decide +kernel
theorem dX9_putAside_10 : decode cX9_putAside 10 = .ok (.getfield 19, 3) := by decide +kernel
theorem dX9_putAside_13 : decode cX9_putAside 13 = .ok (.iload_n 1, 1) := by decide +kernel
theorem dX9_putAside_14 : decode cX9_putAside 14 = .ok (.aload_n 0, 1) := by decide +kernel
theorem dX9_putAside_15 : decode cX9_putAside 15 = .ok (.getfield 7, 3) := by decide +kernel
theorem dX9_putAside_18 : decode cX9_putAside 18 = .ok (.iload_n 1, 1) := by decide +kernel
theorem dX9_putAside_19 : decode cX9_putAside 19 = .ok (.iaload, 1) := by decide +kernel
theorem dX9_putAside_20 : decode cX9_putAside 20 = .ok (.iastore, 1) := by decide +kernel
theorem dX9_putAside_21 : decode cX9_putAside 21 = .ok (.iinc 1 1, 3) := by decide +kernel
theorem dX9_putAside_24 : decode cX9_putAside 24 = .ok (.goto (-22), 3) := by decide +kernel
theorem dX9_putAside_27 : decode cX9_putAside 27 = .ok (.return_, 1) := by decide +kernel
theorem dX9_putBack_0 : decode cX9_putBack 0 = .ok (.iconst 0, 1) := by decide +kernel
theorem dX9_putBack_1 : decode cX9_putBack 1 = .ok (.istore_n 1, 1) := by decide +kernel
theorem dX9_putBack_2 : decode cX9_putBack 2 = .ok (.iload_n 1, 1) := by decide +kernel
theorem dX9_putBack_3 : decode cX9_putBack 3 = .ok (.sipush 626, 3) := by decide +kernel
theorem dX9_putBack_6 : decode cX9_putBack 6 = .ok (.if_icmp .ge 21, 3) := by decide +kernel
theorem dX9_putBack_9 : decode cX9_putBack 9 = .ok (.aload_n 0, 1) := by decide +kernel
theorem dX9_putBack_10 : decode cX9_putBack 10 = .ok (.getfield 7, 3) := by decide +kernel
theorem dX9_putBack_13 : decode cX9_putBack 13 = .ok (.iload_n 1, 1) := by decide +kernel
theorem dX9_putBack_14 : decode cX9_putBack 14 = .ok (.aload_n 0, 1) := by decide +kernel
theorem dX9_putBack_15 : decode cX9_putBack 15 = .ok (.getfield 19, 3) := by decide +kernel
theorem dX9_putBack_18 : decode cX9_putBack 18 = .ok (.iload_n 1, 1) := by decide +kernel
theorem dX9_putBack_19 : decode cX9_putBack 19 = .ok (.iaload, 1) := by decide +kernel
theorem dX9_putBack_20 : decode cX9_putBack 20 = .ok (.iastore, 1) := by decide +kernel
theorem dX9_putBack_21 : decode cX9_putBack 21 = .ok (.iinc 1 1, 3) := by decide +kernel
theorem dX9_putBack_24 : decode cX9_putBack 24 = .ok (.goto (-22), 3) := by decide +kernel
theorem dX9_putBack_27 : decode cX9_putBack 27 = .ok (.return_, 1) := by decide +kernel
theorem dX9_codeOf_0 : decode cX9_codeOf 0 = .ok (.aload_n 0, 1) := by decide +kernel
theorem dX9_codeOf_1 : decode cX9_codeOf 1 = .ok (.getfield 22, 3) := by decide +kernel
theorem dX9_codeOf_4 : decode cX9_codeOf 4 = .ok (.iload_n 3, 1) := by decide +kernel
theorem dX9_codeOf_5 : decode cX9_codeOf 5 = .ok (.iaload, 1) := by decide +kernel
theorem dX9_codeOf_6 : decode cX9_codeOf 6 = .ok (.istore 4, 2) := by decide +kernel
theorem dX9_codeOf_8 : decode cX9_codeOf 8 = .ok (.iload_n 1, 1) := by decide +kernel
theorem dX9_codeOf_9 : decode cX9_codeOf 9 = .ok (.iload_n 2, 1) := by decide +kernel
theorem dX9_codeOf_10 : decode cX9_codeOf 10 = .ok (.isub, 1) := by decide +kernel
theorem dX9_codeOf_11 : decode cX9_codeOf 11 = .ok (.invokestatic 48, 3) := by decide +kernel
theorem dX9_codeOf_14 : decode cX9_codeOf 14 = .ok (.istore 5, 2) := by decide +kernel
theorem dX9_codeOf_16 : decode cX9_codeOf 16 = .ok (.iload_n 1, 1) := by decide +kernel
theorem dX9_codeOf_17 : decode cX9_codeOf 17 = .ok (.iload_n 2, 1) := by decide +kernel
theorem dX9_codeOf_18 : decode cX9_codeOf 18 = .ok (.if_icmp .ge 8, 3) := by decide +kernel
theorem dX9_codeOf_21 : decode cX9_codeOf 21 = .ok (.bipush 8, 2) := by decide +kernel
theorem dX9_codeOf_23 : decode cX9_codeOf 23 = .ok (.goto 4, 3) := by decide +kernel
theorem dX9_codeOf_26 : decode cX9_codeOf 26 = .ok (.iconst 0, 1) := by decide +kernel
theorem dX9_codeOf_27 : decode cX9_codeOf 27 = .ok (.istore 6, 2) := by decide +kernel
theorem dX9_codeOf_29 : decode cX9_codeOf 29 = .ok (.iload 5, 2) := by decide +kernel
theorem dX9_codeOf_31 : decode cX9_codeOf 31 = .ok (.iload 4, 2) := by decide +kernel
theorem dX9_codeOf_33 : decode cX9_codeOf 33 = .ok (.if_icmp .lt 13, 3) := by decide +kernel
theorem dX9_codeOf_36 : decode cX9_codeOf 36 = .ok (.iinc 6 4, 3) := by decide +kernel
theorem dX9_codeOf_39 : decode cX9_codeOf 39 = .ok (.iload 5, 2) := by decide +kernel
theorem dX9_codeOf_41 : decode cX9_codeOf 41 = .ok (.iload 4, 2) := by decide +kernel
theorem dX9_codeOf_43 : decode cX9_codeOf 43 = .ok (.isub, 1) := by decide +kernel
theorem dX9_codeOf_44 : decode cX9_codeOf 44 = .ok (.istore 5, 2) := by decide +kernel
theorem dX9_codeOf_46 : decode cX9_codeOf 46 = .ok (.iload 5, 2) := by decide +kernel
theorem dX9_codeOf_48 : decode cX9_codeOf 48 = .ok (.iload 4, 2) := by decide +kernel
theorem dX9_codeOf_50 : decode cX9_codeOf 50 = .ok (.iconst 2, 1) := by decide +kernel
theorem dX9_codeOf_51 : decode cX9_codeOf 51 = .ok (.idiv, 1) := by decide +kernel
theorem dX9_codeOf_52 : decode cX9_codeOf 52 = .ok (.if_icmp .lt 15, 3) := by decide +kernel
theorem dX9_codeOf_55 : decode cX9_codeOf 55 = .ok (.iinc 6 2, 3) := by decide +kernel
theorem dX9_codeOf_58 : decode cX9_codeOf 58 = .ok (.iload 5, 2) := by decide +kernel
theorem dX9_codeOf_60 : decode cX9_codeOf 60 = .ok (.iload 4, 2) := by decide +kernel
theorem dX9_codeOf_62 : decode cX9_codeOf 62 = .ok (.iconst 2, 1) := by decide +kernel
theorem dX9_codeOf_63 : decode cX9_codeOf 63 = .ok (.idiv, 1) := by decide +kernel
theorem dX9_codeOf_64 : decode cX9_codeOf 64 = .ok (.isub, 1) := by decide +kernel
theorem dX9_codeOf_65 : decode cX9_codeOf 65 = .ok (.istore 5, 2) := by decide +kernel
theorem dX9_codeOf_67 : decode cX9_codeOf 67 = .ok (.iload 5, 2) := by decide +kernel
theorem dX9_codeOf_69 : decode cX9_codeOf 69 = .ok (.iload 4, 2) := by decide +kernel
theorem dX9_codeOf_71 : decode cX9_codeOf 71 = .ok (.iconst 4, 1) := by decide +kernel
theorem dX9_codeOf_72 : decode cX9_codeOf 72 = .ok (.idiv, 1) := by decide +kernel
theorem dX9_codeOf_73 : decode cX9_codeOf 73 = .ok (.if_icmp .lt 10, 3) := by decide +kernel
theorem dX9_codeOf_76 : decode cX9_codeOf 76 = .ok (.iload 6, 2) := by decide +kernel
theorem dX9_codeOf_78 : decode cX9_codeOf 78 = .ok (.iconst 1, 1) := by decide +kernel
theorem dX9_codeOf_79 : decode cX9_codeOf 79 = .ok (.iadd, 1) := by decide +kernel
theorem dX9_codeOf_80 : decode cX9_codeOf 80 = .ok (.goto 5, 3) := by decide +kernel
theorem dX9_codeOf_83 : decode cX9_codeOf 83 = .ok (.iload 6, 2) := by decide +kernel
theorem dX9_codeOf_85 : decode cX9_codeOf 85 = .ok (.ireturn, 1) := by decide +kernel
theorem dX9_guessBehind_0 : decode cX9_guessBehind 0 = .ok (.aload_n 0, 1) := by decide +kernel
theorem dX9_guessBehind_1 : decode cX9_guessBehind 1 = .ok (.getfield 22, 3) := by decide +kernel
theorem dX9_guessBehind_4 : decode cX9_guessBehind 4 = .ok (.iload_n 2, 1) := by decide +kernel
theorem dX9_guessBehind_5 : decode cX9_guessBehind 5 = .ok (.iaload, 1) := by decide +kernel
theorem dX9_guessBehind_6 : decode cX9_guessBehind 6 = .ok (.istore 4, 2) := by decide +kernel
theorem dX9_guessBehind_8 : decode cX9_guessBehind 8 = .ok (.iload 4, 2) := by decide +kernel
theorem dX9_guessBehind_10 : decode cX9_guessBehind 10 = .ok (.bipush 8, 2) := by decide +kernel
theorem dX9_guessBehind_12 : decode cX9_guessBehind 12 = .ok (.idiv, 1) := by decide +kernel
theorem dX9_guessBehind_13 : decode cX9_guessBehind 13 = .ok (.iload_n 3, 1) := by decide +kernel
theorem dX9_guessBehind_14 : decode cX9_guessBehind 14 = .ok (.iconst 4, 1) := by decide +kernel
theorem dX9_guessBehind_15 : decode cX9_guessBehind 15 = .ok (.iand, 1) := by decide +kernel
theorem dX9_guessBehind_16 : decode cX9_guessBehind 16 = .ok (.ifCond .le 8, 3) := by decide +kernel
theorem dX9_guessBehind_19 : decode cX9_guessBehind 19 = .ok (.iload 4, 2) := by decide +kernel
theorem dX9_guessBehind_21 : decode cX9_guessBehind 21 = .ok (.goto 4, 3) := by decide +kernel
theorem dX9_guessBehind_24 : decode cX9_guessBehind 24 = .ok (.iconst 0, 1) := by decide +kernel
theorem dX9_guessBehind_25 : decode cX9_guessBehind 25 = .ok (.iadd, 1) := by decide +kernel
theorem dX9_guessBehind_26 : decode cX9_guessBehind 26 = .ok (.iload_n 3, 1) := by decide +kernel
theorem dX9_guessBehind_27 : decode cX9_guessBehind 27 = .ok (.iconst 2, 1) := by decide +kernel
theorem dX9_guessBehind_28 : decode cX9_guessBehind 28 = .ok (.iand, 1) := by decide +kernel
theorem dX9_guessBehind_29 : decode cX9_guessBehind 29 = .ok (.ifCond .le 10, 3) := by decide +kernel
theorem dX9_guessBehind_32 : decode cX9_guessBehind 32 = .ok (.iload 4, 2) := by decide +kernel
theorem dX9_guessBehind_34 : decode cX9_guessBehind 34 = .ok (.iconst 2, 1) := by decide +kernel
theorem dX9_guessBehind_35 : decode cX9_guessBehind 35 = .ok (.idiv, 1) := by decide +kernel
theorem dX9_guessBehind_36 : decode cX9_guessBehind 36 = .ok (.goto 4, 3) := by decide +kernel
theorem dX9_guessBehind_39 : decode cX9_guessBehind 39 = .ok (.iconst 0, 1) := by decide +kernel
theorem dX9_guessBehind_40 : decode cX9_guessBehind 40 = .ok (.iadd, 1) := by decide +kernel
theorem dX9_guessBehind_41 : decode cX9_guessBehind 41 = .ok (.iload_n 3, 1) := by decide +kernel
theorem dX9_guessBehind_42 : decode cX9_guessBehind 42 = .ok (.iconst 1, 1) := by decide +kernel
theorem dX9_guessBehind_43 : decode cX9_guessBehind 43 = .ok (.iand, 1) := by decide +kernel
theorem dX9_guessBehind_44 : decode cX9_guessBehind 44 = .ok (.ifCond .le 10, 3) := by decide +kernel
theorem dX9_guessBehind_47 : decode cX9_guessBehind 47 = .ok (.iload 4, 2) := by decide +kernel
theorem dX9_guessBehind_49 : decode cX9_guessBehind 49 = .ok (.iconst 4, 1) := by decide +kernel
theorem dX9_guessBehind_50 : decode cX9_guessBehind 50 = .ok (.idiv, 1) := by decide +kernel
theorem dX9_guessBehind_51 : decode cX9_guessBehind 51 = .ok (.goto 4, 3) := by decide +kernel
theorem dX9_guessBehind_54 : decode cX9_guessBehind 54 = .ok (.iconst 0, 1) := by decide +kernel
theorem dX9_guessBehind_55 : decode cX9_guessBehind 55 = .ok (.iadd, 1) := by decide +kernel
theorem dX9_guessBehind_56 : decode cX9_guessBehind 56 = .ok (.istore 5, 2) := by decide +kernel
theorem dX9_guessBehind_58 : decode cX9_guessBehind 58 = .ok (.iload_n 3, 1) := by decide +kernel
theorem dX9_guessBehind_59 : decode cX9_guessBehind 59 = .ok (.bipush 8, 2) := by decide +kernel
theorem dX9_guessBehind_61 : decode cX9_guessBehind 61 = .ok (.iand, 1) := by decide +kernel
theorem dX9_guessBehind_62 : decode cX9_guessBehind 62 = .ok (.ifCond .le 10, 3) := by decide +kernel
theorem dX9_guessBehind_65 : decode cX9_guessBehind 65 = .ok (.iload_n 1, 1) := by decide +kernel
theorem dX9_guessBehind_66 : decode cX9_guessBehind 66 = .ok (.iload 5, 2) := by decide +kernel
theorem dX9_guessBehind_68 : decode cX9_guessBehind 68 = .ok (.isub, 1) := by decide +kernel
theorem dX9_guessBehind_69 : decode cX9_guessBehind 69 = .ok (.goto 7, 3) := by decide +kernel
theorem dX9_guessBehind_72 : decode cX9_guessBehind 72 = .ok (.iload_n 1, 1) := by decide +kernel
theorem dX9_guessBehind_73 : decode cX9_guessBehind 73 = .ok (.iload 5, 2) := by decide +kernel
theorem dX9_guessBehind_75 : decode cX9_guessBehind 75 = .ok (.iadd, 1) := by decide +kernel
theorem dX9_guessBehind_76 : decode cX9_guessBehind 76 = .ok (.istore 6, 2) := by decide +kernel
theorem dX9_guessBehind_78 : decode cX9_guessBehind 78 = .ok (.iload 6, 2) := by decide +kernel
theorem dX9_guessBehind_80 : decode cX9_guessBehind 80 = .ok (.sipush 2000, 3) := by decide +kernel
theorem dX9_guessBehind_83 : decode cX9_guessBehind 83 = .ok (.if_icmp .le 9, 3) := by decide +kernel
theorem dX9_guessBehind_86 : decode cX9_guessBehind 86 = .ok (.sipush 2000, 3) := by decide +kernel
theorem dX9_guessBehind_89 : decode cX9_guessBehind 89 = .ok (.goto 19, 3) := by decide +kernel
theorem dX9_guessBehind_92 : decode cX9_guessBehind 92 = .ok (.iload 6, 2) := by decide +kernel
theorem dX9_guessBehind_94 : decode cX9_guessBehind 94 = .ok (.sipush (-2000), 3) := by decide +kernel
theorem dX9_guessBehind_97 : decode cX9_guessBehind 97 = .ok (.if_icmp .ge 9, 3) := by decide +kernel
theorem dX9_guessBehind_100 : decode cX9_guessBehind 100 = .ok (.sipush (-2000), 3) := by decide +kernel
theorem dX9_guessBehind_103 : decode cX9_guessBehind 103 = .ok (.goto 5, 3) := by decide +kernel
theorem dX9_guessBehind_106 : decode cX9_guessBehind 106 = .ok (.iload 6, 2) := by decide +kernel
theorem dX9_guessBehind_108 : decode cX9_guessBehind 108 = .ok (.ireturn, 1) := by decide +kernel
theorem dX9_indexBehind_0 : decode cX9_indexBehind 0 = .ok (.iload_n 1, 1) := by decide +kernel
theorem dX9_indexBehind_1 : decode cX9_indexBehind 1 = .ok (.bipush 7, 2) := by decide +kernel
theorem dX9_indexBehind_3 : decode cX9_indexBehind 3 = .ok (.iand, 1) := by decide +kernel
theorem dX9_indexBehind_4 : decode cX9_indexBehind 4 = .ok (.istore_n 2, 1) := by decide +kernel
theorem dX9_indexBehind_5 : decode cX9_indexBehind 5 = .ok (.iload_n 2, 1) := by decide +kernel
theorem dX9_indexBehind_6 : decode cX9_indexBehind 6 = .ok (.iconst 4, 1) := by decide +kernel
theorem dX9_indexBehind_7 : decode cX9_indexBehind 7 = .ok (.if_icmp .ge 9, 3) := by decide +kernel
theorem dX9_indexBehind_10 : decode cX9_indexBehind 10 = .ok (.iload_n 0, 1) := by decide +kernel
theorem dX9_indexBehind_11 : decode cX9_indexBehind 11 = .ok (.iconst 1, 1) := by decide +kernel
theorem dX9_indexBehind_12 : decode cX9_indexBehind 12 = .ok (.isub, 1) := by decide +kernel
theorem dX9_indexBehind_13 : decode cX9_indexBehind 13 = .ok (.goto 10, 3) := by decide +kernel
theorem dX9_indexBehind_16 : decode cX9_indexBehind 16 = .ok (.iload_n 0, 1) := by decide +kernel
theorem dX9_indexBehind_17 : decode cX9_indexBehind 17 = .ok (.iconst 2, 1) := by decide +kernel
theorem dX9_indexBehind_18 : decode cX9_indexBehind 18 = .ok (.iload_n 2, 1) := by decide +kernel
theorem dX9_indexBehind_19 : decode cX9_indexBehind 19 = .ok (.iconst 3, 1) := by decide +kernel
theorem dX9_indexBehind_20 : decode cX9_indexBehind 20 = .ok (.isub, 1) := by decide +kernel
theorem dX9_indexBehind_21 : decode cX9_indexBehind 21 = .ok (.imul, 1) := by decide +kernel
theorem dX9_indexBehind_22 : decode cX9_indexBehind 22 = .ok (.iadd, 1) := by decide +kernel
theorem dX9_indexBehind_23 : decode cX9_indexBehind 23 = .ok (.istore_n 3, 1) := by decide +kernel
theorem dX9_indexBehind_24 : decode cX9_indexBehind 24 = .ok (.iload_n 3, 1) := by decide +kernel
theorem dX9_indexBehind_25 : decode cX9_indexBehind 25 = .ok (.ifCond .ge 7, 3) := by decide +kernel
theorem dX9_indexBehind_28 : decode cX9_indexBehind 28 = .ok (.iconst 0, 1) := by decide +kernel
theorem dX9_indexBehind_29 : decode cX9_indexBehind 29 = .ok (.goto 15, 3) := by decide +kernel
theorem dX9_indexBehind_32 : decode cX9_indexBehind 32 = .ok (.iload_n 3, 1) := by decide +kernel
theorem dX9_indexBehind_33 : decode cX9_indexBehind 33 = .ok (.bipush 24, 2) := by decide +kernel
theorem dX9_indexBehind_35 : decode cX9_indexBehind 35 = .ok (.if_icmp .le 8, 3) := by decide +kernel
theorem dX9_indexBehind_38 : decode cX9_indexBehind 38 = .ok (.bipush 24, 2) := by decide +kernel
theorem dX9_indexBehind_40 : decode cX9_indexBehind 40 = .ok (.goto 4, 3) := by decide +kernel
theorem dX9_indexBehind_43 : decode cX9_indexBehind 43 = .ok (.iload_n 3, 1) := by decide +kernel
theorem dX9_indexBehind_44 : decode cX9_indexBehind 44 = .ok (.ireturn, 1) := by decide +kernel
theorem dX9_follow_0 : decode cX9_follow 0 = .ok (.aload_n 0, 1) := by decide +kernel
theorem dX9_follow_1 : decode cX9_follow 1 = .ok (.iload_n 1, 1) := by decide +kernel
theorem dX9_follow_2 : decode cX9_follow 2 = .ok (.iload_n 2, 1) := by decide +kernel
theorem dX9_follow_3 : decode cX9_follow 3 = .ok (.iconst 1, 1) := by decide +kernel
theorem dX9_follow_4 : decode cX9_follow 4 = .ok (.iadd, 1) := by decide +kernel
theorem dX9_follow_5 : decode cX9_follow 5 = .ok (.invokevirtual 52, 3) := by decide +kernel
theorem dX9_follow_8 : decode cX9_follow 8 = .ok (.istore 4, 2) := by decide +kernel
theorem dX9_follow_10 : decode cX9_follow 10 = .ok (.aload_n 0, 1) := by decide +kernel
theorem dX9_follow_11 : decode cX9_follow 11 = .ok (.iload_n 1, 1) := by decide +kernel
theorem dX9_follow_12 : decode cX9_follow 12 = .ok (.iload_n 2, 1) := by decide +kernel
theorem dX9_follow_13 : decode cX9_follow 13 = .ok (.aload_n 0, 1) := by decide +kernel
theorem dX9_follow_14 : decode cX9_follow 14 = .ok (.aload_n 0, 1) := by decide +kernel
theorem dX9_follow_15 : decode cX9_follow 15 = .ok (.iload_n 1, 1) := by decide +kernel
theorem dX9_follow_16 : decode cX9_follow 16 = .ok (.iload_n 2, 1) := by decide +kernel
theorem dX9_follow_17 : decode cX9_follow 17 = .ok (.invokevirtual 52, 3) := by decide +kernel
theorem dX9_follow_20 : decode cX9_follow 20 = .ok (.iload 4, 2) := by decide +kernel
theorem dX9_follow_22 : decode cX9_follow 22 = .ok (.iload_n 3, 1) := by decide +kernel
theorem dX9_follow_23 : decode cX9_follow 23 = .ok (.invokevirtual 56, 3) := by decide +kernel
theorem dX9_follow_26 : decode cX9_follow 26 = .ok (.invokevirtual 60, 3) := by decide +kernel
theorem dX9_follow_29 : decode cX9_follow 29 = .ok (.aload_n 0, 1) := by decide +kernel
theorem dX9_follow_30 : decode cX9_follow 30 = .ok (.iload_n 1, 1) := by decide +kernel
theorem dX9_follow_31 : decode cX9_follow 31 = .ok (.iload_n 2, 1) := by decide +kernel
theorem dX9_follow_32 : decode cX9_follow 32 = .ok (.iconst 1, 1) := by decide +kernel
theorem dX9_follow_33 : decode cX9_follow 33 = .ok (.iadd, 1) := by decide +kernel
theorem dX9_follow_34 : decode cX9_follow 34 = .ok (.iload 4, 2) := by decide +kernel
theorem dX9_follow_36 : decode cX9_follow 36 = .ok (.iload_n 3, 1) := by decide +kernel
theorem dX9_follow_37 : decode cX9_follow 37 = .ok (.invokestatic 64, 3) := by decide +kernel
theorem dX9_follow_40 : decode cX9_follow 40 = .ok (.invokevirtual 60, 3) := by decide +kernel
theorem dX9_follow_43 : decode cX9_follow 43 = .ok (.return_, 1) := by decide +kernel
theorem dX9_makesCode_0 : decode cX9_makesCode 0 = .ok (.aload_n 0, 1) := by decide +kernel
theorem dX9_makesCode_1 : decode cX9_makesCode 1 = .ok (.iload_n 1, 1) := by decide +kernel
theorem dX9_makesCode_2 : decode cX9_makesCode 2 = .ok (.iconst 2, 1) := by decide +kernel
theorem dX9_makesCode_3 : decode cX9_makesCode 3 = .ok (.invokevirtual 52, 3) := by decide +kernel
theorem dX9_makesCode_6 : decode cX9_makesCode 6 = .ok (.iconst 1, 1) := by decide +kernel
theorem dX9_makesCode_7 : decode cX9_makesCode 7 = .ok (.iadd, 1) := by decide +kernel
theorem dX9_makesCode_8 : decode cX9_makesCode 8 = .ok (.aload_n 0, 1) := by decide +kernel
theorem dX9_makesCode_9 : decode cX9_makesCode 9 = .ok (.getfield 7, 3) := by decide +kernel
theorem dX9_makesCode_12 : decode cX9_makesCode 12 = .ok (.iconst 0, 1) := by decide +kernel
theorem dX9_makesCode_13 : decode cX9_makesCode 13 = .ok (.iaload, 1) := by decide +kernel
theorem dX9_makesCode_14 : decode cX9_makesCode 14 = .ok (.if_icmp .lt 7, 3) := by decide +kernel
theorem dX9_makesCode_17 : decode cX9_makesCode 17 = .ok (.iconst 1, 1) := by decide +kernel
theorem dX9_makesCode_18 : decode cX9_makesCode 18 = .ok (.goto 4, 3) := by decide +kernel
theorem dX9_makesCode_21 : decode cX9_makesCode 21 = .ok (.iconst 0, 1) := by decide +kernel
theorem dX9_makesCode_22 : decode cX9_makesCode 22 = .ok (.ireturn, 1) := by decide +kernel
theorem dX9_canSay_0 : decode cX9_canSay 0 = .ok (.aload_n 0, 1) := by decide +kernel
theorem dX9_canSay_1 : decode cX9_canSay 1 = .ok (.iload_n 1, 1) := by decide +kernel
theorem dX9_canSay_2 : decode cX9_canSay 2 = .ok (.bipush 38, 2) := by decide +kernel
theorem dX9_canSay_4 : decode cX9_canSay 4 = .ok (.invokevirtual 52, 3) := by decide +kernel
theorem dX9_canSay_7 : decode cX9_canSay 7 = .ok (.bipush 8, 2) := by decide +kernel
theorem dX9_canSay_9 : decode cX9_canSay 9 = .ok (.if_icmp .lt 32, 3) := by decide +kernel
theorem dX9_canSay_12 : decode cX9_canSay 12 = .ok (.aload_n 0, 1) := by decide +kernel
theorem dX9_canSay_13 : decode cX9_canSay 13 = .ok (.iload_n 1, 1) := by decide +kernel
theorem dX9_canSay_14 : decode cX9_canSay 14 = .ok (.iconst 4, 1) := by decide +kernel
theorem dX9_canSay_15 : decode cX9_canSay 15 = .ok (.invokevirtual 52, 3) := by decide +kernel
theorem dX9_canSay_18 : decode cX9_canSay 18 = .ok (.aload_n 0, 1) := by decide +kernel
theorem dX9_canSay_19 : decode cX9_canSay 19 = .ok (.iload_n 1, 1) := by decide +kernel
theorem dX9_canSay_20 : decode cX9_canSay 20 = .ok (.invokevirtual 67, 3) := by decide +kernel
theorem dX9_canSay_23 : decode cX9_canSay 23 = .ok (.ifCond .eq 7, 3) := by decide +kernel
theorem dX9_canSay_26 : decode cX9_canSay 26 = .ok (.iconst 1, 1) := by decide +kernel
theorem dX9_canSay_27 : decode cX9_canSay 27 = .ok (.goto 4, 3) := by decide +kernel
theorem dX9_canSay_30 : decode cX9_canSay 30 = .ok (.iconst 0, 1) := by decide +kernel
theorem dX9_canSay_31 : decode cX9_canSay 31 = .ok (.iadd, 1) := by decide +kernel
theorem dX9_canSay_32 : decode cX9_canSay 32 = .ok (.aload_n 0, 1) := by decide +kernel
theorem dX9_canSay_33 : decode cX9_canSay 33 = .ok (.getfield 7, 3) := by decide +kernel
theorem dX9_canSay_36 : decode cX9_canSay 36 = .ok (.iconst 2, 1) := by decide +kernel
theorem dX9_canSay_37 : decode cX9_canSay 37 = .ok (.iaload, 1) := by decide +kernel
theorem dX9_canSay_38 : decode cX9_canSay 38 = .ok (.if_icmp .ge 7, 3) := by decide +kernel
theorem dX9_canSay_41 : decode cX9_canSay 41 = .ok (.iconst 1, 1) := by decide +kernel
theorem dX9_canSay_42 : decode cX9_canSay 42 = .ok (.goto 4, 3) := by decide +kernel
theorem dX9_canSay_45 : decode cX9_canSay 45 = .ok (.iconst 0, 1) := by decide +kernel
theorem dX9_canSay_46 : decode cX9_canSay 46 = .ok (.ireturn, 1) := by decide +kernel
theorem dX9_makePacket_0 : decode cX9_makePacket 0 = .ok (.iload_n 1, 1) := by decide +kernel
theorem dX9_makePacket_1 : decode cX9_makePacket 1 = .ok (.aload_n 0, 1) := by decide +kernel
theorem dX9_makePacket_2 : decode cX9_makePacket 2 = .ok (.iload_n 1, 1) := by decide +kernel
theorem dX9_makePacket_3 : decode cX9_makePacket 3 = .ok (.bipush 38, 2) := by decide +kernel
theorem dX9_makePacket_5 : decode cX9_makePacket 5 = .ok (.invokevirtual 52, 3) := by decide +kernel
theorem dX9_makePacket_8 : decode cX9_makePacket 8 = .ok (.invokestatic 71, 3) := by decide +kernel
theorem dX9_makePacket_11 : decode cX9_makePacket 11 = .ok (.istore_n 2, 1) := by decide +kernel
theorem dX9_makePacket_12 : decode cX9_makePacket 12 = .ok (.aload_n 0, 1) := by decide +kernel
theorem dX9_makePacket_13 : decode cX9_makePacket 13 = .ok (.iload_n 1, 1) := by decide +kernel
theorem dX9_makePacket_14 : decode cX9_makePacket 14 = .ok (.bipush 21, 2) := by decide +kernel
theorem dX9_makePacket_16 : decode cX9_makePacket 16 = .ok (.invokevirtual 52, 3) := by decide +kernel
theorem dX9_makePacket_19 : decode cX9_makePacket 19 = .ok (.ifCond .eq 21, 3) := by decide +kernel
theorem dX9_makePacket_22 : decode cX9_makePacket 22 = .ok (.aload_n 0, 1) := by decide +kernel
theorem dX9_makePacket_23 : decode cX9_makePacket 23 = .ok (.iload_n 1, 1) := by decide +kernel
theorem dX9_makePacket_24 : decode cX9_makePacket 24 = .ok (.bipush 23, 2) := by decide +kernel
theorem dX9_makePacket_26 : decode cX9_makePacket 26 = .ok (.invokevirtual 52, 3) := by decide +kernel
theorem dX9_makePacket_29 : decode cX9_makePacket 29 = .ok (.iconst 1, 1) := by decide +kernel
theorem dX9_makePacket_30 : decode cX9_makePacket 30 = .ok (.iadd, 1) := by decide +kernel
theorem dX9_makePacket_31 : decode cX9_makePacket 31 = .ok (.aload_n 0, 1) := by decide +kernel
theorem dX9_makePacket_32 : decode cX9_makePacket 32 = .ok (.getfield 7, 3) := by decide +kernel
theorem dX9_makePacket_35 : decode cX9_makePacket 35 = .ok (.iconst 3, 1) := by decide +kernel
theorem dX9_makePacket_36 : decode cX9_makePacket 36 = .ok (.iaload, 1) := by decide +kernel
theorem dX9_makePacket_37 : decode cX9_makePacket 37 = .ok (.if_icmp .lt 7, 3) := by decide +kernel
theorem dX9_makePacket_40 : decode cX9_makePacket 40 = .ok (.iconst 1, 1) := by decide +kernel
theorem dX9_makePacket_41 : decode cX9_makePacket 41 = .ok (.goto 4, 3) := by decide +kernel
theorem dX9_makePacket_44 : decode cX9_makePacket 44 = .ok (.iconst 0, 1) := by decide +kernel
theorem dX9_makePacket_45 : decode cX9_makePacket 45 = .ok (.istore_n 3, 1) := by decide +kernel
theorem dX9_makePacket_46 : decode cX9_makePacket 46 = .ok (.aload_n 0, 1) := by decide +kernel
theorem dX9_makePacket_47 : decode cX9_makePacket 47 = .ok (.getfield 7, 3) := by decide +kernel
theorem dX9_makePacket_50 : decode cX9_makePacket 50 = .ok (.iload_n 2, 1) := by decide +kernel
theorem dX9_makePacket_51 : decode cX9_makePacket 51 = .ok (.iconst 0, 1) := by decide +kernel
theorem dX9_makePacket_52 : decode cX9_makePacket 52 = .ok (.iadd, 1) := by decide +kernel
theorem dX9_makePacket_53 : decode cX9_makePacket 53 = .ok (.aload_n 0, 1) := by decide +kernel
theorem dX9_makePacket_54 : decode cX9_makePacket 54 = .ok (.iload_n 1, 1) := by decide +kernel
theorem dX9_makePacket_55 : decode cX9_makePacket 55 = .ok (.bipush 21, 2) := by decide +kernel
theorem dX9_makePacket_57 : decode cX9_makePacket 57 = .ok (.invokevirtual 52, 3) := by decide +kernel
theorem dX9_makePacket_60 : decode cX9_makePacket 60 = .ok (.iastore, 1) := by decide +kernel
theorem dX9_makePacket_61 : decode cX9_makePacket 61 = .ok (.aload_n 0, 1) := by decide +kernel
theorem dX9_makePacket_62 : decode cX9_makePacket 62 = .ok (.getfield 7, 3) := by decide +kernel
theorem dX9_makePacket_65 : decode cX9_makePacket 65 = .ok (.iload_n 2, 1) := by decide +kernel
theorem dX9_makePacket_66 : decode cX9_makePacket 66 = .ok (.iconst 1, 1) := by decide +kernel
theorem dX9_makePacket_67 : decode cX9_makePacket 67 = .ok (.iadd, 1) := by decide +kernel
theorem dX9_makePacket_68 : decode cX9_makePacket 68 = .ok (.aload_n 0, 1) := by decide +kernel
theorem dX9_makePacket_69 : decode cX9_makePacket 69 = .ok (.iload_n 1, 1) := by decide +kernel
theorem dX9_makePacket_70 : decode cX9_makePacket 70 = .ok (.iconst 4, 1) := by decide +kernel
theorem dX9_makePacket_71 : decode cX9_makePacket 71 = .ok (.invokevirtual 52, 3) := by decide +kernel
theorem dX9_makePacket_74 : decode cX9_makePacket 74 = .ok (.iastore, 1) := by decide +kernel
theorem dX9_makePacket_75 : decode cX9_makePacket 75 = .ok (.aload_n 0, 1) := by decide +kernel
theorem dX9_makePacket_76 : decode cX9_makePacket 76 = .ok (.getfield 7, 3) := by decide +kernel
theorem dX9_makePacket_79 : decode cX9_makePacket 79 = .ok (.iload_n 2, 1) := by decide +kernel
theorem dX9_makePacket_80 : decode cX9_makePacket 80 = .ok (.iconst 2, 1) := by decide +kernel
theorem dX9_makePacket_81 : decode cX9_makePacket 81 = .ok (.iadd, 1) := by decide +kernel
theorem dX9_makePacket_82 : decode cX9_makePacket 82 = .ok (.iload_n 3, 1) := by decide +kernel
theorem dX9_makePacket_83 : decode cX9_makePacket 83 = .ok (.ifCond .eq 7, 3) := by decide +kernel
theorem dX9_makePacket_86 : decode cX9_makePacket 86 = .ok (.iconst 1, 1) := by decide +kernel
theorem dX9_makePacket_87 : decode cX9_makePacket 87 = .ok (.goto 4, 3) := by decide +kernel
theorem dX9_makePacket_90 : decode cX9_makePacket 90 = .ok (.iconst 0, 1) := by decide +kernel
theorem dX9_makePacket_91 : decode cX9_makePacket 91 = .ok (.iastore, 1) := by decide +kernel
theorem dX9_makePacket_92 : decode cX9_makePacket 92 = .ok (.aload_n 0, 1) := by decide +kernel
theorem dX9_makePacket_93 : decode cX9_makePacket 93 = .ok (.getfield 7, 3) := by decide +kernel
theorem dX9_makePacket_96 : decode cX9_makePacket 96 = .ok (.iload_n 2, 1) := by decide +kernel
theorem dX9_makePacket_97 : decode cX9_makePacket 97 = .ok (.iconst 3, 1) := by decide +kernel
theorem dX9_makePacket_98 : decode cX9_makePacket 98 = .ok (.iadd, 1) := by decide +kernel
theorem dX9_makePacket_99 : decode cX9_makePacket 99 = .ok (.iload_n 3, 1) := by decide +kernel
theorem dX9_makePacket_100 : decode cX9_makePacket 100 = .ok (.ifCond .eq 13, 3) := by decide +kernel
theorem dX9_makePacket_103 : decode cX9_makePacket 103 = .ok (.aload_n 0, 1) := by decide +kernel
theorem dX9_makePacket_104 : decode cX9_makePacket 104 = .ok (.iload_n 1, 1) := by decide +kernel
theorem dX9_makePacket_105 : decode cX9_makePacket 105 = .ok (.bipush 24, 2) := by decide +kernel
theorem dX9_makePacket_107 : decode cX9_makePacket 107 = .ok (.invokevirtual 52, 3) := by decide +kernel
theorem dX9_makePacket_110 : decode cX9_makePacket 110 = .ok (.goto 6, 3) := by decide +kernel
theorem dX9_makePacket_113 : decode cX9_makePacket 113 = .ok (.sipush (-10000), 3) := by decide +kernel
theorem dX9_makePacket_116 : decode cX9_makePacket 116 = .ok (.iastore, 1) := by decide +kernel
theorem dX9_makePacket_117 : decode cX9_makePacket 117 = .ok (.aload_n 0, 1) := by decide +kernel
theorem dX9_makePacket_118 : decode cX9_makePacket 118 = .ok (.getfield 7, 3) := by decide +kernel
theorem dX9_makePacket_121 : decode cX9_makePacket 121 = .ok (.iload_n 2, 1) := by decide +kernel
theorem dX9_makePacket_122 : decode cX9_makePacket 122 = .ok (.iconst 4, 1) := by decide +kernel
theorem dX9_makePacket_123 : decode cX9_makePacket 123 = .ok (.iadd, 1) := by decide +kernel
theorem dX9_makePacket_124 : decode cX9_makePacket 124 = .ok (.iload_n 3, 1) := by decide +kernel
theorem dX9_makePacket_125 : decode cX9_makePacket 125 = .ok (.ifCond .eq 13, 3) := by decide +kernel
theorem dX9_makePacket_128 : decode cX9_makePacket 128 = .ok (.aload_n 0, 1) := by decide +kernel
theorem dX9_makePacket_129 : decode cX9_makePacket 129 = .ok (.iload_n 1, 1) := by decide +kernel
theorem dX9_makePacket_130 : decode cX9_makePacket 130 = .ok (.bipush 25, 2) := by decide +kernel
theorem dX9_makePacket_132 : decode cX9_makePacket 132 = .ok (.invokevirtual 52, 3) := by decide +kernel
theorem dX9_makePacket_135 : decode cX9_makePacket 135 = .ok (.goto 6, 3) := by decide +kernel
theorem dX9_makePacket_138 : decode cX9_makePacket 138 = .ok (.sipush (-10000), 3) := by decide +kernel
theorem dX9_makePacket_141 : decode cX9_makePacket 141 = .ok (.iastore, 1) := by decide +kernel
theorem dX9_makePacket_142 : decode cX9_makePacket 142 = .ok (.iconst 0, 1) := by decide +kernel
theorem dX9_makePacket_143 : decode cX9_makePacket 143 = .ok (.istore 4, 2) := by decide +kernel
theorem dX9_makePacket_145 : decode cX9_makePacket 145 = .ok (.iload 4, 2) := by decide +kernel
theorem dX9_makePacket_147 : decode cX9_makePacket 147 = .ok (.bipush 16, 2) := by decide +kernel
theorem dX9_makePacket_149 : decode cX9_makePacket 149 = .ok (.if_icmp .ge 39, 3) := by decide +kernel
theorem dX9_makePacket_152 : decode cX9_makePacket 152 = .ok (.aload_n 0, 1) := by decide +kernel
theorem dX9_makePacket_153 : decode cX9_makePacket 153 = .ok (.getfield 7, 3) := by decide +kernel
theorem dX9_makePacket_156 : decode cX9_makePacket 156 = .ok (.iload_n 2, 1) := by decide +kernel
theorem dX9_makePacket_157 : decode cX9_makePacket 157 = .ok (.iconst 5, 1) := by decide +kernel
theorem dX9_makePacket_158 : decode cX9_makePacket 158 = .ok (.iadd, 1) := by decide +kernel
theorem dX9_makePacket_159 : decode cX9_makePacket 159 = .ok (.iload 4, 2) := by decide +kernel
theorem dX9_makePacket_161 : decode cX9_makePacket 161 = .ok (.iadd, 1) := by decide +kernel
theorem dX9_makePacket_162 : decode cX9_makePacket 162 = .ok (.aload_n 0, 1) := by decide +kernel
theorem dX9_makePacket_163 : decode cX9_makePacket 163 = .ok (.iload_n 1, 1) := by decide +kernel
theorem dX9_makePacket_164 : decode cX9_makePacket 164 = .ok (.iconst 5, 1) := by decide +kernel
theorem dX9_makePacket_165 : decode cX9_makePacket 165 = .ok (.iload 4, 2) := by decide +kernel
theorem dX9_makePacket_167 : decode cX9_makePacket 167 = .ok (.iadd, 1) := by decide +kernel
theorem dX9_makePacket_168 : decode cX9_makePacket 168 = .ok (.invokevirtual 52, 3) := by decide +kernel
theorem dX9_makePacket_171 : decode cX9_makePacket 171 = .ok (.iastore, 1) := by decide +kernel
theorem dX9_makePacket_172 : decode cX9_makePacket 172 = .ok (.aload_n 0, 1) := by decide +kernel
theorem dX9_makePacket_173 : decode cX9_makePacket 173 = .ok (.iload_n 1, 1) := by decide +kernel
theorem dX9_makePacket_174 : decode cX9_makePacket 174 = .ok (.iconst 5, 1) := by decide +kernel
theorem dX9_makePacket_175 : decode cX9_makePacket 175 = .ok (.iload 4, 2) := by decide +kernel
theorem dX9_makePacket_177 : decode cX9_makePacket 177 = .ok (.iadd, 1) := by decide +kernel
theorem dX9_makePacket_178 : decode cX9_makePacket 178 = .ok (.iconst 0, 1) := by decide +kernel
theorem dX9_makePacket_179 : decode cX9_makePacket 179 = .ok (.invokevirtual 60, 3) := by decide +kernel
theorem dX9_makePacket_182 : decode cX9_makePacket 182 = .ok (.iinc 4 1, 3) := by decide +kernel
theorem dX9_makePacket_185 : decode cX9_makePacket 185 = .ok (.goto (-40), 3) := by decide +kernel
theorem dX9_makePacket_188 : decode cX9_makePacket 188 = .ok (.aload_n 0, 1) := by decide +kernel
theorem dX9_makePacket_189 : decode cX9_makePacket 189 = .ok (.iload_n 1, 1) := by decide +kernel
theorem dX9_makePacket_190 : decode cX9_makePacket 190 = .ok (.bipush 23, 2) := by decide +kernel
theorem dX9_makePacket_192 : decode cX9_makePacket 192 = .ok (.iload_n 3, 1) := by decide +kernel
theorem dX9_makePacket_193 : decode cX9_makePacket 193 = .ok (.ifCond .eq 7, 3) := by decide +kernel
theorem dX9_makePacket_196 : decode cX9_makePacket 196 = .ok (.iconst 0, 1) := by decide +kernel
theorem dX9_makePacket_197 : decode cX9_makePacket 197 = .ok (.goto 12, 3) := by decide +kernel
theorem dX9_makePacket_200 : decode cX9_makePacket 200 = .ok (.aload_n 0, 1) := by decide +kernel
theorem dX9_makePacket_201 : decode cX9_makePacket 201 = .ok (.iload_n 1, 1) := by decide +kernel
theorem dX9_makePacket_202 : decode cX9_makePacket 202 = .ok (.bipush 23, 2) := by decide +kernel
theorem dX9_makePacket_204 : decode cX9_makePacket 204 = .ok (.invokevirtual 52, 3) := by decide +kernel
theorem dX9_makePacket_207 : decode cX9_makePacket 207 = .ok (.iconst 1, 1) := by decide +kernel
theorem dX9_makePacket_208 : decode cX9_makePacket 208 = .ok (.iadd, 1) := by decide +kernel
theorem dX9_makePacket_209 : decode cX9_makePacket 209 = .ok (.invokevirtual 60, 3) := by decide +kernel
theorem dX9_makePacket_212 : decode cX9_makePacket 212 = .ok (.aload_n 0, 1) := by decide +kernel
theorem dX9_makePacket_213 : decode cX9_makePacket 213 = .ok (.iload_n 1, 1) := by decide +kernel
theorem dX9_makePacket_214 : decode cX9_makePacket 214 = .ok (.iconst 4, 1) := by decide +kernel
theorem dX9_makePacket_215 : decode cX9_makePacket 215 = .ok (.iconst 0, 1) := by decide +kernel
theorem dX9_makePacket_216 : decode cX9_makePacket 216 = .ok (.invokevirtual 60, 3) := by decide +kernel
theorem dX9_makePacket_219 : decode cX9_makePacket 219 = .ok (.aload_n 0, 1) := by decide +kernel
theorem dX9_makePacket_220 : decode cX9_makePacket 220 = .ok (.iload_n 1, 1) := by decide +kernel
theorem dX9_makePacket_221 : decode cX9_makePacket 221 = .ok (.bipush 21, 2) := by decide +kernel
theorem dX9_makePacket_223 : decode cX9_makePacket 223 = .ok (.iconst 1, 1) := by decide +kernel
theorem dX9_makePacket_224 : decode cX9_makePacket 224 = .ok (.invokevirtual 74, 3) := by decide +kernel
theorem dX9_makePacket_227 : decode cX9_makePacket 227 = .ok (.aload_n 0, 1) := by decide +kernel
theorem dX9_makePacket_228 : decode cX9_makePacket 228 = .ok (.iload_n 1, 1) := by decide +kernel
theorem dX9_makePacket_229 : decode cX9_makePacket 229 = .ok (.bipush 38, 2) := by decide +kernel
theorem dX9_makePacket_231 : decode cX9_makePacket 231 = .ok (.iconst 1, 1) := by decide +kernel
theorem dX9_makePacket_232 : decode cX9_makePacket 232 = .ok (.invokevirtual 74, 3) := by decide +kernel
theorem dX9_makePacket_235 : decode cX9_makePacket 235 = .ok (.return_, 1) := by decide +kernel
theorem dX9_makeCode_0 : decode cX9_makeCode 0 = .ok (.aload_n 0, 1) := by decide +kernel
theorem dX9_makeCode_1 : decode cX9_makeCode 1 = .ok (.iload_n 1, 1) := by decide +kernel
theorem dX9_makeCode_2 : decode cX9_makeCode 2 = .ok (.iconst 3, 1) := by decide +kernel
theorem dX9_makeCode_3 : decode cX9_makeCode 3 = .ok (.invokevirtual 52, 3) := by decide +kernel
theorem dX9_makeCode_6 : decode cX9_makeCode 6 = .ok (.aload_n 0, 1) := by decide +kernel
theorem dX9_makeCode_7 : decode cX9_makeCode 7 = .ok (.iload_n 1, 1) := by decide +kernel
theorem dX9_makeCode_8 : decode cX9_makeCode 8 = .ok (.iconst 2, 1) := by decide +kernel
theorem dX9_makeCode_9 : decode cX9_makeCode 9 = .ok (.invokevirtual 52, 3) := by decide +kernel
theorem dX9_makeCode_12 : decode cX9_makeCode 12 = .ok (.idiv, 1) := by decide +kernel
theorem dX9_makeCode_13 : decode cX9_makeCode 13 = .ok (.istore_n 2, 1) := by decide +kernel
theorem dX9_makeCode_14 : decode cX9_makeCode 14 = .ok (.iload_n 2, 1) := by decide +kernel
theorem dX9_makeCode_15 : decode cX9_makeCode 15 = .ok (.invokestatic 48, 3) := by decide +kernel
theorem dX9_makeCode_18 : decode cX9_makeCode 18 = .ok (.aload_n 0, 1) := by decide +kernel
theorem dX9_makeCode_19 : decode cX9_makeCode 19 = .ok (.getfield 7, 3) := by decide +kernel
theorem dX9_makeCode_22 : decode cX9_makeCode 22 = .ok (.iconst 1, 1) := by decide +kernel
theorem dX9_makeCode_23 : decode cX9_makeCode 23 = .ok (.iaload, 1) := by decide +kernel
theorem dX9_makeCode_24 : decode cX9_makeCode 24 = .ok (.if_icmp .ge 7, 3) := by decide +kernel
theorem dX9_makeCode_27 : decode cX9_makeCode 27 = .ok (.iconst 0, 1) := by decide +kernel
theorem dX9_makeCode_28 : decode cX9_makeCode 28 = .ok (.goto 4, 3) := by decide +kernel
theorem dX9_makeCode_31 : decode cX9_makeCode 31 = .ok (.iload_n 2, 1) := by decide +kernel
theorem dX9_makeCode_32 : decode cX9_makeCode 32 = .ok (.istore_n 2, 1) := by decide +kernel
theorem dX9_makeCode_33 : decode cX9_makeCode 33 = .ok (.aload_n 0, 1) := by decide +kernel
theorem dX9_makeCode_34 : decode cX9_makeCode 34 = .ok (.iload_n 1, 1) := by decide +kernel
theorem dX9_makeCode_35 : decode cX9_makeCode 35 = .ok (.iconst 3, 1) := by decide +kernel
theorem dX9_makeCode_36 : decode cX9_makeCode 36 = .ok (.iconst 0, 1) := by decide +kernel
theorem dX9_makeCode_37 : decode cX9_makeCode 37 = .ok (.invokevirtual 60, 3) := by decide +kernel
theorem dX9_makeCode_40 : decode cX9_makeCode 40 = .ok (.aload_n 0, 1) := by decide +kernel
theorem dX9_makeCode_41 : decode cX9_makeCode 41 = .ok (.iload_n 1, 1) := by decide +kernel
theorem dX9_makeCode_42 : decode cX9_makeCode 42 = .ok (.iconst 2, 1) := by decide +kernel
theorem dX9_makeCode_43 : decode cX9_makeCode 43 = .ok (.iconst 0, 1) := by decide +kernel
theorem dX9_makeCode_44 : decode cX9_makeCode 44 = .ok (.invokevirtual 60, 3) := by decide +kernel
theorem dX9_makeCode_47 : decode cX9_makeCode 47 = .ok (.aload_n 0, 1) := by decide +kernel
theorem dX9_makeCode_48 : decode cX9_makeCode 48 = .ok (.iload_n 2, 1) := by decide +kernel
theorem dX9_makeCode_49 : decode cX9_makeCode 49 = .ok (.aload_n 0, 1) := by decide +kernel
theorem dX9_makeCode_50 : decode cX9_makeCode 50 = .ok (.iload_n 1, 1) := by decide +kernel
theorem dX9_makeCode_51 : decode cX9_makeCode 51 = .ok (.iconst 0, 1) := by decide +kernel
theorem dX9_makeCode_52 : decode cX9_makeCode 52 = .ok (.invokevirtual 52, 3) := by decide +kernel
theorem dX9_makeCode_55 : decode cX9_makeCode 55 = .ok (.aload_n 0, 1) := by decide +kernel
theorem dX9_makeCode_56 : decode cX9_makeCode 56 = .ok (.iload_n 1, 1) := by decide +kernel
theorem dX9_makeCode_57 : decode cX9_makeCode 57 = .ok (.iconst 1, 1) := by decide +kernel
theorem dX9_makeCode_58 : decode cX9_makeCode 58 = .ok (.invokevirtual 52, 3) := by decide +kernel
theorem dX9_makeCode_61 : decode cX9_makeCode 61 = .ok (.invokevirtual 77, 3) := by decide +kernel
theorem dX9_makeCode_64 : decode cX9_makeCode 64 = .ok (.istore_n 3, 1) := by decide +kernel
theorem dX9_makeCode_65 : decode cX9_makeCode 65 = .ok (.aload_n 0, 1) := by decide +kernel
theorem dX9_makeCode_66 : decode cX9_makeCode 66 = .ok (.iload_n 1, 1) := by decide +kernel
theorem dX9_makeCode_67 : decode cX9_makeCode 67 = .ok (.iconst 4, 1) := by decide +kernel
theorem dX9_makeCode_68 : decode cX9_makeCode 68 = .ok (.invokevirtual 52, 3) := by decide +kernel
theorem dX9_makeCode_71 : decode cX9_makeCode 71 = .ok (.istore 4, 2) := by decide +kernel
theorem dX9_makeCode_73 : decode cX9_makeCode 73 = .ok (.iload 4, 2) := by decide +kernel
theorem dX9_makeCode_75 : decode cX9_makeCode 75 = .ok (.ifCond .ne 29, 3) := by decide +kernel
theorem dX9_makeCode_78 : decode cX9_makeCode 78 = .ok (.aload_n 0, 1) := by decide +kernel
theorem dX9_makeCode_79 : decode cX9_makeCode 79 = .ok (.iload_n 1, 1) := by decide +kernel
theorem dX9_makeCode_80 : decode cX9_makeCode 80 = .ok (.bipush 24, 2) := by decide +kernel
theorem dX9_makeCode_82 : decode cX9_makeCode 82 = .ok (.aload_n 0, 1) := by decide +kernel
theorem dX9_makeCode_83 : decode cX9_makeCode 83 = .ok (.iload_n 1, 1) := by decide +kernel
theorem dX9_makeCode_84 : decode cX9_makeCode 84 = .ok (.iconst 0, 1) := by decide +kernel
theorem dX9_makeCode_85 : decode cX9_makeCode 85 = .ok (.invokevirtual 52, 3) := by decide +kernel
theorem dX9_makeCode_88 : decode cX9_makeCode 88 = .ok (.invokevirtual 60, 3) := by decide +kernel
theorem dX9_makeCode_91 : decode cX9_makeCode 91 = .ok (.aload_n 0, 1) := by decide +kernel
theorem dX9_makeCode_92 : decode cX9_makeCode 92 = .ok (.iload_n 1, 1) := by decide +kernel
theorem dX9_makeCode_93 : decode cX9_makeCode 93 = .ok (.bipush 25, 2) := by decide +kernel
theorem dX9_makeCode_95 : decode cX9_makeCode 95 = .ok (.aload_n 0, 1) := by decide +kernel
theorem dX9_makeCode_96 : decode cX9_makeCode 96 = .ok (.iload_n 1, 1) := by decide +kernel
theorem dX9_makeCode_97 : decode cX9_makeCode 97 = .ok (.iconst 1, 1) := by decide +kernel
theorem dX9_makeCode_98 : decode cX9_makeCode 98 = .ok (.invokevirtual 52, 3) := by decide +kernel
theorem dX9_makeCode_101 : decode cX9_makeCode 101 = .ok (.invokevirtual 60, 3) := by decide +kernel
theorem dX9_makeCode_104 : decode cX9_makeCode 104 = .ok (.aload_n 0, 1) := by decide +kernel
theorem dX9_makeCode_105 : decode cX9_makeCode 105 = .ok (.iload_n 1, 1) := by decide +kernel
theorem dX9_makeCode_106 : decode cX9_makeCode 106 = .ok (.iconst 5, 1) := by decide +kernel
theorem dX9_makeCode_107 : decode cX9_makeCode 107 = .ok (.iload 4, 2) := by decide +kernel
theorem dX9_makeCode_109 : decode cX9_makeCode 109 = .ok (.iadd, 1) := by decide +kernel
theorem dX9_makeCode_110 : decode cX9_makeCode 110 = .ok (.iload_n 3, 1) := by decide +kernel
theorem dX9_makeCode_111 : decode cX9_makeCode 111 = .ok (.invokevirtual 60, 3) := by decide +kernel
theorem dX9_makeCode_114 : decode cX9_makeCode 114 = .ok (.aload_n 0, 1) := by decide +kernel
theorem dX9_makeCode_115 : decode cX9_makeCode 115 = .ok (.iload_n 1, 1) := by decide +kernel
theorem dX9_makeCode_116 : decode cX9_makeCode 116 = .ok (.bipush 13, 2) := by decide +kernel
theorem dX9_makeCode_118 : decode cX9_makeCode 118 = .ok (.iload 4, 2) := by decide +kernel
theorem dX9_makeCode_120 : decode cX9_makeCode 120 = .ok (.iadd, 1) := by decide +kernel
theorem dX9_makeCode_121 : decode cX9_makeCode 121 = .ok (.iload_n 2, 1) := by decide +kernel
theorem dX9_makeCode_122 : decode cX9_makeCode 122 = .ok (.invokevirtual 60, 3) := by decide +kernel
theorem dX9_makeCode_125 : decode cX9_makeCode 125 = .ok (.aload_n 0, 1) := by decide +kernel
theorem dX9_makeCode_126 : decode cX9_makeCode 126 = .ok (.iload_n 1, 1) := by decide +kernel
theorem dX9_makeCode_127 : decode cX9_makeCode 127 = .ok (.iconst 4, 1) := by decide +kernel
theorem dX9_makeCode_128 : decode cX9_makeCode 128 = .ok (.iload 4, 2) := by decide +kernel
theorem dX9_makeCode_130 : decode cX9_makeCode 130 = .ok (.iconst 1, 1) := by decide +kernel
theorem dX9_makeCode_131 : decode cX9_makeCode 131 = .ok (.iadd, 1) := by decide +kernel
theorem dX9_makeCode_132 : decode cX9_makeCode 132 = .ok (.invokevirtual 60, 3) := by decide +kernel
theorem dX9_makeCode_135 : decode cX9_makeCode 135 = .ok (.aload_n 0, 1) := by decide +kernel
theorem dX9_makeCode_136 : decode cX9_makeCode 136 = .ok (.iload_n 1, 1) := by decide +kernel
theorem dX9_makeCode_137 : decode cX9_makeCode 137 = .ok (.bipush 22, 2) := by decide +kernel
theorem dX9_makeCode_139 : decode cX9_makeCode 139 = .ok (.iconst 1, 1) := by decide +kernel
theorem dX9_makeCode_140 : decode cX9_makeCode 140 = .ok (.invokevirtual 74, 3) := by decide +kernel
theorem dX9_makeCode_143 : decode cX9_makeCode 143 = .ok (.aload_n 0, 1) := by decide +kernel
theorem dX9_makeCode_144 : decode cX9_makeCode 144 = .ok (.iload_n 1, 1) := by decide +kernel
theorem dX9_makeCode_145 : decode cX9_makeCode 145 = .ok (.iconst 0, 1) := by decide +kernel
theorem dX9_makeCode_146 : decode cX9_makeCode 146 = .ok (.iload_n 3, 1) := by decide +kernel
theorem dX9_makeCode_147 : decode cX9_makeCode 147 = .ok (.invokevirtual 80, 3) := by decide +kernel
theorem dX9_makeCode_150 : decode cX9_makeCode 150 = .ok (.iload_n 3, 1) := by decide +kernel
theorem dX9_makeCode_151 : decode cX9_makeCode 151 = .ok (.ireturn, 1) := by decide +kernel
theorem dX9_sayNow_0 : decode cX9_sayNow 0 = .ok (.aload_n 0, 1) := by decide +kernel
theorem dX9_sayNow_1 : decode cX9_sayNow 1 = .ok (.iload_n 1, 1) := by decide +kernel
theorem dX9_sayNow_2 : decode cX9_sayNow 2 = .ok (.invokevirtual 67, 3) := by decide +kernel
theorem dX9_sayNow_5 : decode cX9_sayNow 5 = .ok (.istore_n 3, 1) := by decide +kernel
theorem dX9_sayNow_6 : decode cX9_sayNow 6 = .ok (.aload_n 0, 1) := by decide +kernel
theorem dX9_sayNow_7 : decode cX9_sayNow 7 = .ok (.iload_n 1, 1) := by decide +kernel
theorem dX9_sayNow_8 : decode cX9_sayNow 8 = .ok (.iconst 3, 1) := by decide +kernel
theorem dX9_sayNow_9 : decode cX9_sayNow 9 = .ok (.iload_n 2, 1) := by decide +kernel
theorem dX9_sayNow_10 : decode cX9_sayNow 10 = .ok (.invokevirtual 74, 3) := by decide +kernel
theorem dX9_sayNow_13 : decode cX9_sayNow 13 = .ok (.aload_n 0, 1) := by decide +kernel
theorem dX9_sayNow_14 : decode cX9_sayNow 14 = .ok (.iload_n 1, 1) := by decide +kernel
theorem dX9_sayNow_15 : decode cX9_sayNow 15 = .ok (.iconst 2, 1) := by decide +kernel
theorem dX9_sayNow_16 : decode cX9_sayNow 16 = .ok (.iconst 1, 1) := by decide +kernel
theorem dX9_sayNow_17 : decode cX9_sayNow 17 = .ok (.invokevirtual 74, 3) := by decide +kernel
theorem dX9_sayNow_20 : decode cX9_sayNow 20 = .ok (.aload_n 0, 1) := by decide +kernel
theorem dX9_sayNow_21 : decode cX9_sayNow 21 = .ok (.getfield 7, 3) := by decide +kernel
theorem dX9_sayNow_24 : decode cX9_sayNow 24 = .ok (.iconst 4, 1) := by decide +kernel
theorem dX9_sayNow_25 : decode cX9_sayNow 25 = .ok (.dup2, 1) := by decide +kernel
theorem dX9_sayNow_26 : decode cX9_sayNow 26 = .ok (.iaload, 1) := by decide +kernel
theorem dX9_sayNow_27 : decode cX9_sayNow 27 = .ok (.iconst 1, 1) := by decide +kernel
theorem dX9_sayNow_28 : decode cX9_sayNow 28 = .ok (.iadd, 1) := by decide +kernel
theorem dX9_sayNow_29 : decode cX9_sayNow 29 = .ok (.iastore, 1) := by decide +kernel
theorem dX9_sayNow_30 : decode cX9_sayNow 30 = .ok (.iload_n 3, 1) := by decide +kernel
theorem dX9_sayNow_31 : decode cX9_sayNow 31 = .ok (.ifCond .eq 11, 3) := by decide +kernel
theorem dX9_sayNow_34 : decode cX9_sayNow 34 = .ok (.aload_n 0, 1) := by decide +kernel
theorem dX9_sayNow_35 : decode cX9_sayNow 35 = .ok (.iload_n 1, 1) := by decide +kernel
theorem dX9_sayNow_36 : decode cX9_sayNow 36 = .ok (.invokevirtual 83, 3) := by decide +kernel
theorem dX9_sayNow_39 : decode cX9_sayNow 39 = .ok (.goto 6, 3) := by decide +kernel
theorem dX9_sayNow_42 : decode cX9_sayNow 42 = .ok (.sipush (-10000), 3) := by decide +kernel
theorem dX9_sayNow_45 : decode cX9_sayNow 45 = .ok (.istore 4, 2) := by decide +kernel
theorem dX9_sayNow_47 : decode cX9_sayNow 47 = .ok (.aload_n 0, 1) := by decide +kernel
theorem dX9_sayNow_48 : decode cX9_sayNow 48 = .ok (.iload_n 1, 1) := by decide +kernel
theorem dX9_sayNow_49 : decode cX9_sayNow 49 = .ok (.iconst 4, 1) := by decide +kernel
theorem dX9_sayNow_50 : decode cX9_sayNow 50 = .ok (.invokevirtual 52, 3) := by decide +kernel
theorem dX9_sayNow_53 : decode cX9_sayNow 53 = .ok (.aload_n 0, 1) := by decide +kernel
theorem dX9_sayNow_54 : decode cX9_sayNow 54 = .ok (.getfield 7, 3) := by decide +kernel
theorem dX9_sayNow_57 : decode cX9_sayNow 57 = .ok (.iconst 2, 1) := by decide +kernel
theorem dX9_sayNow_58 : decode cX9_sayNow 58 = .ok (.iaload, 1) := by decide +kernel
theorem dX9_sayNow_59 : decode cX9_sayNow 59 = .ok (.if_icmp .lt 8, 3) := by decide +kernel
theorem dX9_sayNow_62 : decode cX9_sayNow 62 = .ok (.aload_n 0, 1) := by decide +kernel
theorem dX9_sayNow_63 : decode cX9_sayNow 63 = .ok (.iload_n 1, 1) := by decide +kernel
theorem dX9_sayNow_64 : decode cX9_sayNow 64 = .ok (.invokevirtual 86, 3) := by decide +kernel
theorem dX9_sayNow_67 : decode cX9_sayNow 67 = .ok (.iload 4, 2) := by decide +kernel
theorem dX9_sayNow_69 : decode cX9_sayNow 69 = .ok (.ireturn, 1) := by decide +kernel
theorem dX9_say_0 : decode cX9_say 0 = .ok (.aload_n 0, 1) := by decide +kernel
theorem dX9_say_1 : decode cX9_say 1 = .ok (.iconst 0, 1) := by decide +kernel
theorem dX9_say_2 : decode cX9_say 2 = .ok (.putfield 37, 3) := by decide +kernel
theorem dX9_say_5 : decode cX9_say 5 = .ok (.iload_n 1, 1) := by decide +kernel
theorem dX9_say_6 : decode cX9_say 6 = .ok (.invokestatic 90, 3) := by decide +kernel
theorem dX9_say_9 : decode cX9_say 9 = .ok (.ifCond .ne 9, 3) := by decide +kernel
theorem dX9_say_12 : decode cX9_say 12 = .ok (.aload_n 0, 1) := by decide +kernel
theorem dX9_say_13 : decode cX9_say 13 = .ok (.iconst 1, 1) := by decide +kernel
theorem dX9_say_14 : decode cX9_say 14 = .ok (.invokevirtual 93, 3) := by decide +kernel
theorem dX9_say_17 : decode cX9_say 17 = .ok (.ireturn, 1) := by decide +kernel
theorem dX9_say_18 : decode cX9_say 18 = .ok (.iload_n 2, 1) := by decide +kernel
theorem dX9_say_19 : decode cX9_say 19 = .ok (.invokestatic 96, 3) := by decide +kernel
theorem dX9_say_22 : decode cX9_say 22 = .ok (.ifCond .ne 9, 3) := by decide +kernel
theorem dX9_say_25 : decode cX9_say 25 = .ok (.aload_n 0, 1) := by decide +kernel
theorem dX9_say_26 : decode cX9_say 26 = .ok (.iconst 2, 1) := by decide +kernel
theorem dX9_say_27 : decode cX9_say 27 = .ok (.invokevirtual 93, 3) := by decide +kernel
theorem dX9_say_30 : decode cX9_say 30 = .ok (.ireturn, 1) := by decide +kernel
theorem dX9_say_31 : decode cX9_say 31 = .ok (.aload_n 0, 1) := by decide +kernel
theorem dX9_say_32 : decode cX9_say 32 = .ok (.iload_n 1, 1) := by decide +kernel
theorem dX9_say_33 : decode cX9_say 33 = .ok (.invokevirtual 99, 3) := by decide +kernel
theorem dX9_say_36 : decode cX9_say 36 = .ok (.ifCond .ne 9, 3) := by decide +kernel
theorem dX9_say_39 : decode cX9_say 39 = .ok (.aload_n 0, 1) := by decide +kernel
theorem dX9_say_40 : decode cX9_say 40 = .ok (.iconst 3, 1) := by decide +kernel
theorem dX9_say_41 : decode cX9_say 41 = .ok (.invokevirtual 93, 3) := by decide +kernel
theorem dX9_say_44 : decode cX9_say 44 = .ok (.ireturn, 1) := by decide +kernel
theorem dX9_say_45 : decode cX9_say 45 = .ok (.aload_n 0, 1) := by decide +kernel
theorem dX9_say_46 : decode cX9_say 46 = .ok (.invokevirtual 102, 3) := by decide +kernel
theorem dX9_say_49 : decode cX9_say 49 = .ok (.aload_n 0, 1) := by decide +kernel
theorem dX9_say_50 : decode cX9_say 50 = .ok (.iload_n 1, 1) := by decide +kernel
theorem dX9_say_51 : decode cX9_say 51 = .ok (.iload_n 2, 1) := by decide +kernel
theorem dX9_say_52 : decode cX9_say 52 = .ok (.invokevirtual 105, 3) := by decide +kernel
theorem dX9_say_55 : decode cX9_say 55 = .ok (.ireturn, 1) := by decide +kernel
theorem dX9_flush_0 : decode cX9_flush 0 = .ok (.aload_n 0, 1) := by decide +kernel
theorem dX9_flush_1 : decode cX9_flush 1 = .ok (.iconst 0, 1) := by decide +kernel
theorem dX9_flush_2 : decode cX9_flush 2 = .ok (.putfield 37, 3) := by decide +kernel
theorem dX9_flush_5 : decode cX9_flush 5 = .ok (.iload_n 1, 1) := by decide +kernel
theorem dX9_flush_6 : decode cX9_flush 6 = .ok (.invokestatic 90, 3) := by decide +kernel
theorem dX9_flush_9 : decode cX9_flush 9 = .ok (.ifCond .ne 9, 3) := by decide +kernel
theorem dX9_flush_12 : decode cX9_flush 12 = .ok (.aload_n 0, 1) := by decide +kernel
theorem dX9_flush_13 : decode cX9_flush 13 = .ok (.iconst 1, 1) := by decide +kernel
theorem dX9_flush_14 : decode cX9_flush 14 = .ok (.invokevirtual 93, 3) := by decide +kernel
theorem dX9_flush_17 : decode cX9_flush 17 = .ok (.ireturn, 1) := by decide +kernel
theorem dX9_flush_18 : decode cX9_flush 18 = .ok (.aload_n 0, 1) := by decide +kernel
theorem dX9_flush_19 : decode cX9_flush 19 = .ok (.iload_n 1, 1) := by decide +kernel
theorem dX9_flush_20 : decode cX9_flush 20 = .ok (.iconst 4, 1) := by decide +kernel
theorem dX9_flush_21 : decode cX9_flush 21 = .ok (.invokevirtual 52, 3) := by decide +kernel
theorem dX9_flush_24 : decode cX9_flush 24 = .ok (.ifCond .eq 15, 3) := by decide +kernel
theorem dX9_flush_27 : decode cX9_flush 27 = .ok (.aload_n 0, 1) := by decide +kernel
theorem dX9_flush_28 : decode cX9_flush 28 = .ok (.iload_n 1, 1) := by decide +kernel
theorem dX9_flush_29 : decode cX9_flush 29 = .ok (.bipush 38, 2) := by decide +kernel
theorem dX9_flush_31 : decode cX9_flush 31 = .ok (.invokevirtual 52, 3) := by decide +kernel
theorem dX9_flush_34 : decode cX9_flush 34 = .ok (.bipush 8, 2) := by decide +kernel
theorem dX9_flush_36 : decode cX9_flush 36 = .ok (.if_icmp .ne 9, 3) := by decide +kernel
theorem dX9_flush_39 : decode cX9_flush 39 = .ok (.aload_n 0, 1) := by decide +kernel
theorem dX9_flush_40 : decode cX9_flush 40 = .ok (.iconst 2, 1) := by decide +kernel
theorem dX9_flush_41 : decode cX9_flush 41 = .ok (.invokevirtual 93, 3) := by decide +kernel
theorem dX9_flush_44 : decode cX9_flush 44 = .ok (.ireturn, 1) := by decide +kernel
theorem dX9_flush_45 : decode cX9_flush 45 = .ok (.aload_n 0, 1) := by decide +kernel
theorem dX9_flush_46 : decode cX9_flush 46 = .ok (.invokevirtual 102, 3) := by decide +kernel
theorem dX9_flush_49 : decode cX9_flush 49 = .ok (.aload_n 0, 1) := by decide +kernel
theorem dX9_flush_50 : decode cX9_flush 50 = .ok (.iload_n 1, 1) := by decide +kernel
theorem dX9_flush_51 : decode cX9_flush 51 = .ok (.iconst 4, 1) := by decide +kernel
theorem dX9_flush_52 : decode cX9_flush 52 = .ok (.invokevirtual 52, 3) := by decide +kernel
theorem dX9_flush_55 : decode cX9_flush 55 = .ok (.istore_n 2, 1) := by decide +kernel
theorem dX9_flush_56 : decode cX9_flush 56 = .ok (.aload_n 0, 1) := by decide +kernel
theorem dX9_flush_57 : decode cX9_flush 57 = .ok (.iload_n 1, 1) := by decide +kernel
theorem dX9_flush_58 : decode cX9_flush 58 = .ok (.invokevirtual 86, 3) := by decide +kernel
theorem dX9_flush_61 : decode cX9_flush 61 = .ok (.iload_n 2, 1) := by decide +kernel
theorem dX9_flush_62 : decode cX9_flush 62 = .ok (.ireturn, 1) := by decide +kernel
theorem dX9_takeFirst_0 : decode cX9_takeFirst 0 = .ok (.aload_n 0, 1) := by decide +kernel
theorem dX9_takeFirst_1 : decode cX9_takeFirst 1 = .ok (.iload_n 1, 1) := by decide +kernel
theorem dX9_takeFirst_2 : decode cX9_takeFirst 2 = .ok (.bipush 38, 2) := by decide +kernel
theorem dX9_takeFirst_4 : decode cX9_takeFirst 4 = .ok (.iconst (-1), 1) := by decide +kernel
theorem dX9_takeFirst_5 : decode cX9_takeFirst 5 = .ok (.invokevirtual 74, 3) := by decide +kernel
theorem dX9_takeFirst_8 : decode cX9_takeFirst 8 = .ok (.iload_n 1, 1) := by decide +kernel
theorem dX9_takeFirst_9 : decode cX9_takeFirst 9 = .ok (.aload_n 0, 1) := by decide +kernel
theorem dX9_takeFirst_10 : decode cX9_takeFirst 10 = .ok (.iload_n 1, 1) := by decide +kernel
theorem dX9_takeFirst_11 : decode cX9_takeFirst 11 = .ok (.bipush 38, 2) := by decide +kernel
theorem dX9_takeFirst_13 : decode cX9_takeFirst 13 = .ok (.invokevirtual 52, 3) := by decide +kernel
theorem dX9_takeFirst_16 : decode cX9_takeFirst 16 = .ok (.invokestatic 71, 3) := by decide +kernel
theorem dX9_takeFirst_19 : decode cX9_takeFirst 19 = .ok (.istore_n 2, 1) := by decide +kernel
theorem dX9_takeFirst_20 : decode cX9_takeFirst 20 = .ok (.iload_n 1, 1) := by decide +kernel
theorem dX9_takeFirst_21 : decode cX9_takeFirst 21 = .ok (.iconst 0, 1) := by decide +kernel
theorem dX9_takeFirst_22 : decode cX9_takeFirst 22 = .ok (.invokestatic 71, 3) := by decide +kernel
theorem dX9_takeFirst_25 : decode cX9_takeFirst 25 = .ok (.istore_n 3, 1) := by decide +kernel
theorem dX9_takeFirst_26 : decode cX9_takeFirst 26 = .ok (.iload_n 3, 1) := by decide +kernel
theorem dX9_takeFirst_27 : decode cX9_takeFirst 27 = .ok (.iload_n 2, 1) := by decide +kernel
theorem dX9_takeFirst_28 : decode cX9_takeFirst 28 = .ok (.if_icmp .ge 24, 3) := by decide +kernel
theorem dX9_takeFirst_31 : decode cX9_takeFirst 31 = .ok (.aload_n 0, 1) := by decide +kernel
theorem dX9_takeFirst_32 : decode cX9_takeFirst 32 = .ok (.getfield 7, 3) := by decide +kernel
theorem dX9_takeFirst_35 : decode cX9_takeFirst 35 = .ok (.iload_n 3, 1) := by decide +kernel
theorem dX9_takeFirst_36 : decode cX9_takeFirst 36 = .ok (.aload_n 0, 1) := by decide +kernel
theorem dX9_takeFirst_37 : decode cX9_takeFirst 37 = .ok (.getfield 7, 3) := by decide +kernel
theorem dX9_takeFirst_40 : decode cX9_takeFirst 40 = .ok (.iload_n 3, 1) := by decide +kernel
theorem dX9_takeFirst_41 : decode cX9_takeFirst 41 = .ok (.bipush 21, 2) := by decide +kernel
theorem dX9_takeFirst_43 : decode cX9_takeFirst 43 = .ok (.iadd, 1) := by decide +kernel
theorem dX9_takeFirst_44 : decode cX9_takeFirst 44 = .ok (.iaload, 1) := by decide +kernel
theorem dX9_takeFirst_45 : decode cX9_takeFirst 45 = .ok (.iastore, 1) := by decide +kernel
theorem dX9_takeFirst_46 : decode cX9_takeFirst 46 = .ok (.iinc 3 1, 3) := by decide +kernel
theorem dX9_takeFirst_49 : decode cX9_takeFirst 49 = .ok (.goto (-23), 3) := by decide +kernel
theorem dX9_takeFirst_52 : decode cX9_takeFirst 52 = .ok (.iload_n 2, 1) := by decide +kernel
theorem dX9_takeFirst_53 : decode cX9_takeFirst 53 = .ok (.istore_n 3, 1) := by decide +kernel
theorem dX9_takeFirst_54 : decode cX9_takeFirst 54 = .ok (.iload_n 3, 1) := by decide +kernel
theorem dX9_takeFirst_55 : decode cX9_takeFirst 55 = .ok (.iload_n 2, 1) := by decide +kernel
theorem dX9_takeFirst_56 : decode cX9_takeFirst 56 = .ok (.bipush 21, 2) := by decide +kernel
theorem dX9_takeFirst_58 : decode cX9_takeFirst 58 = .ok (.iadd, 1) := by decide +kernel
theorem dX9_takeFirst_59 : decode cX9_takeFirst 59 = .ok (.if_icmp .ge 16, 3) := by decide +kernel
theorem dX9_takeFirst_62 : decode cX9_takeFirst 62 = .ok (.aload_n 0, 1) := by decide +kernel
theorem dX9_takeFirst_63 : decode cX9_takeFirst 63 = .ok (.getfield 7, 3) := by decide +kernel
theorem dX9_takeFirst_66 : decode cX9_takeFirst 66 = .ok (.iload_n 3, 1) := by decide +kernel
theorem dX9_takeFirst_67 : decode cX9_takeFirst 67 = .ok (.iconst 0, 1) := by decide +kernel
theorem dX9_takeFirst_68 : decode cX9_takeFirst 68 = .ok (.iastore, 1) := by decide +kernel
theorem dX9_takeFirst_69 : decode cX9_takeFirst 69 = .ok (.iinc 3 1, 3) := by decide +kernel
theorem dX9_takeFirst_72 : decode cX9_takeFirst 72 = .ok (.goto (-18), 3) := by decide +kernel
theorem dX9_takeFirst_75 : decode cX9_takeFirst 75 = .ok (.return_, 1) := by decide +kernel
theorem dX9_hear_0 : decode cX9_hear 0 = .ok (.aload_n 0, 1) := by decide +kernel
theorem dX9_hear_1 : decode cX9_hear 1 = .ok (.iload_n 1, 1) := by decide +kernel
theorem dX9_hear_2 : decode cX9_hear 2 = .ok (.bipush 26, 2) := by decide +kernel
theorem dX9_hear_4 : decode cX9_hear 4 = .ok (.iload_n 2, 1) := by decide +kernel
theorem dX9_hear_5 : decode cX9_hear 5 = .ok (.invokevirtual 80, 3) := by decide +kernel
theorem dX9_hear_8 : decode cX9_hear 8 = .ok (.aload_n 0, 1) := by decide +kernel
theorem dX9_hear_9 : decode cX9_hear 9 = .ok (.iload_n 1, 1) := by decide +kernel
theorem dX9_hear_10 : decode cX9_hear 10 = .ok (.bipush 26, 2) := by decide +kernel
theorem dX9_hear_12 : decode cX9_hear 12 = .ok (.invokevirtual 52, 3) := by decide +kernel
theorem dX9_hear_15 : decode cX9_hear 15 = .ok (.istore 4, 2) := by decide +kernel
theorem dX9_hear_17 : decode cX9_hear 17 = .ok (.iload 4, 2) := by decide +kernel
theorem dX9_hear_19 : decode cX9_hear 19 = .ok (.iload_n 3, 1) := by decide +kernel
theorem dX9_hear_20 : decode cX9_hear 20 = .ok (.isub, 1) := by decide +kernel
theorem dX9_hear_21 : decode cX9_hear 21 = .ok (.invokestatic 48, 3) := by decide +kernel
theorem dX9_hear_24 : decode cX9_hear 24 = .ok (.istore 5, 2) := by decide +kernel
theorem dX9_hear_26 : decode cX9_hear 26 = .ok (.aload_n 0, 1) := by decide +kernel
theorem dX9_hear_27 : decode cX9_hear 27 = .ok (.iload_n 1, 1) := by decide +kernel
theorem dX9_hear_28 : decode cX9_hear 28 = .ok (.bipush 29, 2) := by decide +kernel
theorem dX9_hear_30 : decode cX9_hear 30 = .ok (.iconst 1, 1) := by decide +kernel
theorem dX9_hear_31 : decode cX9_hear 31 = .ok (.invokevirtual 74, 3) := by decide +kernel
theorem dX9_hear_34 : decode cX9_hear 34 = .ok (.aload_n 0, 1) := by decide +kernel
theorem dX9_hear_35 : decode cX9_hear 35 = .ok (.iload_n 1, 1) := by decide +kernel
theorem dX9_hear_36 : decode cX9_hear 36 = .ok (.bipush 33, 2) := by decide +kernel
theorem dX9_hear_38 : decode cX9_hear 38 = .ok (.iload 5, 2) := by decide +kernel
theorem dX9_hear_40 : decode cX9_hear 40 = .ok (.invokevirtual 74, 3) := by decide +kernel
theorem dX9_hear_43 : decode cX9_hear 43 = .ok (.aload_n 0, 1) := by decide +kernel
theorem dX9_hear_44 : decode cX9_hear 44 = .ok (.iload_n 1, 1) := by decide +kernel
theorem dX9_hear_45 : decode cX9_hear 45 = .ok (.bipush 35, 2) := by decide +kernel
theorem dX9_hear_47 : decode cX9_hear 47 = .ok (.iload 4, 2) := by decide +kernel
theorem dX9_hear_49 : decode cX9_hear 49 = .ok (.invokevirtual 74, 3) := by decide +kernel
theorem dX9_hear_52 : decode cX9_hear 52 = .ok (.aload_n 0, 1) := by decide +kernel
theorem dX9_hear_53 : decode cX9_hear 53 = .ok (.iload_n 1, 1) := by decide +kernel
theorem dX9_hear_54 : decode cX9_hear 54 = .ok (.bipush 34, 2) := by decide +kernel
theorem dX9_hear_56 : decode cX9_hear 56 = .ok (.iload 5, 2) := by decide +kernel
theorem dX9_hear_58 : decode cX9_hear 58 = .ok (.aload_n 0, 1) := by decide +kernel
theorem dX9_hear_59 : decode cX9_hear 59 = .ok (.iload_n 1, 1) := by decide +kernel
theorem dX9_hear_60 : decode cX9_hear 60 = .ok (.bipush 34, 2) := by decide +kernel
theorem dX9_hear_62 : decode cX9_hear 62 = .ok (.invokevirtual 52, 3) := by decide +kernel
theorem dX9_hear_65 : decode cX9_hear 65 = .ok (.if_icmp .le 8, 3) := by decide +kernel
theorem dX9_hear_68 : decode cX9_hear 68 = .ok (.iload 5, 2) := by decide +kernel
theorem dX9_hear_70 : decode cX9_hear 70 = .ok (.goto 10, 3) := by decide +kernel
theorem dX9_hear_73 : decode cX9_hear 73 = .ok (.aload_n 0, 1) := by decide +kernel
theorem dX9_hear_74 : decode cX9_hear 74 = .ok (.iload_n 1, 1) := by decide +kernel
theorem dX9_hear_75 : decode cX9_hear 75 = .ok (.bipush 34, 2) := by decide +kernel
theorem dX9_hear_77 : decode cX9_hear 77 = .ok (.invokevirtual 52, 3) := by decide +kernel
theorem dX9_hear_80 : decode cX9_hear 80 = .ok (.invokevirtual 60, 3) := by decide +kernel
theorem dX9_hear_83 : decode cX9_hear 83 = .ok (.return_, 1) := by decide +kernel
theorem dX9_takeHead_0 : decode cX9_takeHead 0 = .ok (.aload_n 0, 1) := by decide +kernel
theorem dX9_takeHead_1 : decode cX9_takeHead 1 = .ok (.iload_n 1, 1) := by decide +kernel
theorem dX9_takeHead_2 : decode cX9_takeHead 2 = .ok (.bipush 26, 2) := by decide +kernel
theorem dX9_takeHead_4 : decode cX9_takeHead 4 = .ok (.invokevirtual 52, 3) := by decide +kernel
theorem dX9_takeHead_7 : decode cX9_takeHead 7 = .ok (.iload_n 2, 1) := by decide +kernel
theorem dX9_takeHead_8 : decode cX9_takeHead 8 = .ok (.if_icmp .ne 14, 3) := by decide +kernel
theorem dX9_takeHead_11 : decode cX9_takeHead 11 = .ok (.aload_n 0, 1) := by decide +kernel
theorem dX9_takeHead_12 : decode cX9_takeHead 12 = .ok (.iload_n 1, 1) := by decide +kernel
theorem dX9_takeHead_13 : decode cX9_takeHead 13 = .ok (.bipush 27, 2) := by decide +kernel
theorem dX9_takeHead_15 : decode cX9_takeHead 15 = .ok (.invokevirtual 52, 3) := by decide +kernel
theorem dX9_takeHead_18 : decode cX9_takeHead 18 = .ok (.iload_n 3, 1) := by decide +kernel
theorem dX9_takeHead_19 : decode cX9_takeHead 19 = .ok (.if_icmp .eq 7, 3) := by decide +kernel
theorem dX9_takeHead_22 : decode cX9_takeHead 22 = .ok (.iconst 1, 1) := by decide +kernel
theorem dX9_takeHead_23 : decode cX9_takeHead 23 = .ok (.goto 4, 3) := by decide +kernel
theorem dX9_takeHead_26 : decode cX9_takeHead 26 = .ok (.iconst 0, 1) := by decide +kernel
theorem dX9_takeHead_27 : decode cX9_takeHead 27 = .ok (.istore 4, 2) := by decide +kernel
theorem dX9_takeHead_29 : decode cX9_takeHead 29 = .ok (.aload_n 0, 1) := by decide +kernel
theorem dX9_takeHead_30 : decode cX9_takeHead 30 = .ok (.iload_n 1, 1) := by decide +kernel
theorem dX9_takeHead_31 : decode cX9_takeHead 31 = .ok (.bipush 32, 2) := by decide +kernel
theorem dX9_takeHead_33 : decode cX9_takeHead 33 = .ok (.iload 4, 2) := by decide +kernel
theorem dX9_takeHead_35 : decode cX9_takeHead 35 = .ok (.ifCond .eq 7, 3) := by decide +kernel
theorem dX9_takeHead_38 : decode cX9_takeHead 38 = .ok (.iconst 1, 1) := by decide +kernel
theorem dX9_takeHead_39 : decode cX9_takeHead 39 = .ok (.goto 4, 3) := by decide +kernel
theorem dX9_takeHead_42 : decode cX9_takeHead 42 = .ok (.iconst 0, 1) := by decide +kernel
theorem dX9_takeHead_43 : decode cX9_takeHead 43 = .ok (.invokevirtual 74, 3) := by decide +kernel
theorem dX9_takeHead_46 : decode cX9_takeHead 46 = .ok (.aload_n 0, 1) := by decide +kernel
theorem dX9_takeHead_47 : decode cX9_takeHead 47 = .ok (.iload_n 1, 1) := by decide +kernel
theorem dX9_takeHead_48 : decode cX9_takeHead 48 = .ok (.bipush 26, 2) := by decide +kernel
theorem dX9_takeHead_50 : decode cX9_takeHead 50 = .ok (.iload_n 2, 1) := by decide +kernel
theorem dX9_takeHead_51 : decode cX9_takeHead 51 = .ok (.invokevirtual 60, 3) := by decide +kernel
theorem dX9_takeHead_54 : decode cX9_takeHead 54 = .ok (.aload_n 0, 1) := by decide +kernel
theorem dX9_takeHead_55 : decode cX9_takeHead 55 = .ok (.iload_n 1, 1) := by decide +kernel
theorem dX9_takeHead_56 : decode cX9_takeHead 56 = .ok (.bipush 27, 2) := by decide +kernel
theorem dX9_takeHead_58 : decode cX9_takeHead 58 = .ok (.iload_n 3, 1) := by decide +kernel
theorem dX9_takeHead_59 : decode cX9_takeHead 59 = .ok (.invokevirtual 60, 3) := by decide +kernel
theorem dX9_takeHead_62 : decode cX9_takeHead 62 = .ok (.return_, 1) := by decide +kernel
theorem dX9_deliverNow_0 : decode cX9_deliverNow 0 = .ok (.iload_n 1, 1) := by decide +kernel
theorem dX9_deliverNow_1 : decode cX9_deliverNow 1 = .ok (.iconst 0, 1) := by decide +kernel
theorem dX9_deliverNow_2 : decode cX9_deliverNow 2 = .ok (.invokestatic 71, 3) := by decide +kernel
theorem dX9_deliverNow_5 : decode cX9_deliverNow 5 = .ok (.istore_n 2, 1) := by decide +kernel
theorem dX9_deliverNow_6 : decode cX9_deliverNow 6 = .ok (.aload_n 0, 1) := by decide +kernel
theorem dX9_deliverNow_7 : decode cX9_deliverNow 7 = .ok (.getfield 7, 3) := by decide +kernel
theorem dX9_deliverNow_10 : decode cX9_deliverNow 10 = .ok (.iload_n 2, 1) := by decide +kernel
theorem dX9_deliverNow_11 : decode cX9_deliverNow 11 = .ok (.iconst 0, 1) := by decide +kernel
theorem dX9_deliverNow_12 : decode cX9_deliverNow 12 = .ok (.iadd, 1) := by decide +kernel
theorem dX9_deliverNow_13 : decode cX9_deliverNow 13 = .ok (.iaload, 1) := by decide +kernel
theorem dX9_deliverNow_14 : decode cX9_deliverNow 14 = .ok (.istore_n 3, 1) := by decide +kernel
theorem dX9_deliverNow_15 : decode cX9_deliverNow 15 = .ok (.aload_n 0, 1) := by decide +kernel
theorem dX9_deliverNow_16 : decode cX9_deliverNow 16 = .ok (.iload_n 1, 1) := by decide +kernel
theorem dX9_deliverNow_17 : decode cX9_deliverNow 17 = .ok (.bipush 37, 2) := by decide +kernel
theorem dX9_deliverNow_19 : decode cX9_deliverNow 19 = .ok (.iconst 1, 1) := by decide +kernel
theorem dX9_deliverNow_20 : decode cX9_deliverNow 20 = .ok (.invokevirtual 74, 3) := by decide +kernel
theorem dX9_deliverNow_23 : decode cX9_deliverNow 23 = .ok (.iload_n 3, 1) := by decide +kernel
theorem dX9_deliverNow_24 : decode cX9_deliverNow 24 = .ok (.aload_n 0, 1) := by decide +kernel
theorem dX9_deliverNow_25 : decode cX9_deliverNow 25 = .ok (.iload_n 1, 1) := by decide +kernel
theorem dX9_deliverNow_26 : decode cX9_deliverNow 26 = .ok (.bipush 28, 2) := by decide +kernel
theorem dX9_deliverNow_28 : decode cX9_deliverNow 28 = .ok (.invokevirtual 52, 3) := by decide +kernel
theorem dX9_deliverNow_31 : decode cX9_deliverNow 31 = .ok (.if_icmp .ge 20, 3) := by decide +kernel
theorem dX9_deliverNow_34 : decode cX9_deliverNow 34 = .ok (.aload_n 0, 1) := by decide +kernel
theorem dX9_deliverNow_35 : decode cX9_deliverNow 35 = .ok (.iload_n 1, 1) := by decide +kernel
theorem dX9_deliverNow_36 : decode cX9_deliverNow 36 = .ok (.bipush 31, 2) := by decide +kernel
theorem dX9_deliverNow_38 : decode cX9_deliverNow 38 = .ok (.iconst 1, 1) := by decide +kernel
theorem dX9_deliverNow_39 : decode cX9_deliverNow 39 = .ok (.invokevirtual 74, 3) := by decide +kernel
theorem dX9_deliverNow_42 : decode cX9_deliverNow 42 = .ok (.aload_n 0, 1) := by decide +kernel
theorem dX9_deliverNow_43 : decode cX9_deliverNow 43 = .ok (.iload_n 1, 1) := by decide +kernel
theorem dX9_deliverNow_44 : decode cX9_deliverNow 44 = .ok (.invokevirtual 108, 3) := by decide +kernel
theorem dX9_deliverNow_47 : decode cX9_deliverNow 47 = .ok (.sipush (-10000), 3) := by decide +kernel
theorem dX9_deliverNow_50 : decode cX9_deliverNow 50 = .ok (.ireturn, 1) := by decide +kernel
theorem dX9_deliverNow_51 : decode cX9_deliverNow 51 = .ok (.iload_n 3, 1) := by decide +kernel
theorem dX9_deliverNow_52 : decode cX9_deliverNow 52 = .ok (.aload_n 0, 1) := by decide +kernel
theorem dX9_deliverNow_53 : decode cX9_deliverNow 53 = .ok (.iload_n 1, 1) := by decide +kernel
theorem dX9_deliverNow_54 : decode cX9_deliverNow 54 = .ok (.bipush 28, 2) := by decide +kernel
theorem dX9_deliverNow_56 : decode cX9_deliverNow 56 = .ok (.invokevirtual 52, 3) := by decide +kernel
theorem dX9_deliverNow_59 : decode cX9_deliverNow 59 = .ok (.isub, 1) := by decide +kernel
theorem dX9_deliverNow_60 : decode cX9_deliverNow 60 = .ok (.istore 4, 2) := by decide +kernel
theorem dX9_deliverNow_62 : decode cX9_deliverNow 62 = .ok (.iconst 0, 1) := by decide +kernel
theorem dX9_deliverNow_63 : decode cX9_deliverNow 63 = .ok (.istore 5, 2) := by decide +kernel
theorem dX9_deliverNow_65 : decode cX9_deliverNow 65 = .ok (.iload 5, 2) := by decide +kernel
theorem dX9_deliverNow_67 : decode cX9_deliverNow 67 = .ok (.iload 4, 2) := by decide +kernel
theorem dX9_deliverNow_69 : decode cX9_deliverNow 69 = .ok (.if_icmp .ge 27, 3) := by decide +kernel
theorem dX9_deliverNow_72 : decode cX9_deliverNow 72 = .ok (.aload_n 0, 1) := by decide +kernel
theorem dX9_deliverNow_73 : decode cX9_deliverNow 73 = .ok (.iload_n 1, 1) := by decide +kernel
theorem dX9_deliverNow_74 : decode cX9_deliverNow 74 = .ok (.bipush 26, 2) := by decide +kernel
theorem dX9_deliverNow_76 : decode cX9_deliverNow 76 = .ok (.iconst 3, 1) := by decide +kernel
theorem dX9_deliverNow_77 : decode cX9_deliverNow 77 = .ok (.aload_n 0, 1) := by decide +kernel
theorem dX9_deliverNow_78 : decode cX9_deliverNow 78 = .ok (.iload_n 1, 1) := by decide +kernel
theorem dX9_deliverNow_79 : decode cX9_deliverNow 79 = .ok (.bipush 26, 2) := by decide +kernel
theorem dX9_deliverNow_81 : decode cX9_deliverNow 81 = .ok (.invokevirtual 52, 3) := by decide +kernel
theorem dX9_deliverNow_84 : decode cX9_deliverNow 84 = .ok (.imul, 1) := by decide +kernel
theorem dX9_deliverNow_85 : decode cX9_deliverNow 85 = .ok (.iconst 4, 1) := by decide +kernel
theorem dX9_deliverNow_86 : decode cX9_deliverNow 86 = .ok (.idiv, 1) := by decide +kernel
theorem dX9_deliverNow_87 : decode cX9_deliverNow 87 = .ok (.invokevirtual 60, 3) := by decide +kernel
theorem dX9_deliverNow_90 : decode cX9_deliverNow 90 = .ok (.iinc 5 1, 3) := by decide +kernel
theorem dX9_deliverNow_93 : decode cX9_deliverNow 93 = .ok (.goto (-28), 3) := by decide +kernel
theorem dX9_deliverNow_96 : decode cX9_deliverNow 96 = .ok (.aload_n 0, 1) := by decide +kernel
theorem dX9_deliverNow_97 : decode cX9_deliverNow 97 = .ok (.iload_n 1, 1) := by decide +kernel
theorem dX9_deliverNow_98 : decode cX9_deliverNow 98 = .ok (.bipush 30, 2) := by decide +kernel
theorem dX9_deliverNow_100 : decode cX9_deliverNow 100 = .ok (.iload 4, 2) := by decide +kernel
theorem dX9_deliverNow_102 : decode cX9_deliverNow 102 = .ok (.invokevirtual 74, 3) := by decide +kernel
theorem dX9_deliverNow_105 : decode cX9_deliverNow 105 = .ok (.aload_n 0, 1) := by decide +kernel
theorem dX9_deliverNow_106 : decode cX9_deliverNow 106 = .ok (.getfield 7, 3) := by decide +kernel
theorem dX9_deliverNow_109 : decode cX9_deliverNow 109 = .ok (.iload_n 2, 1) := by decide +kernel
theorem dX9_deliverNow_110 : decode cX9_deliverNow 110 = .ok (.iconst 2, 1) := by decide +kernel
theorem dX9_deliverNow_111 : decode cX9_deliverNow 111 = .ok (.iadd, 1) := by decide +kernel
theorem dX9_deliverNow_112 : decode cX9_deliverNow 112 = .ok (.iaload, 1) := by decide +kernel
theorem dX9_deliverNow_113 : decode cX9_deliverNow 113 = .ok (.iconst 1, 1) := by decide +kernel
theorem dX9_deliverNow_114 : decode cX9_deliverNow 114 = .ok (.if_icmp .ne 24, 3) := by decide +kernel
theorem dX9_deliverNow_117 : decode cX9_deliverNow 117 = .ok (.aload_n 0, 1) := by decide +kernel
theorem dX9_deliverNow_118 : decode cX9_deliverNow 118 = .ok (.iload_n 1, 1) := by decide +kernel
theorem dX9_deliverNow_119 : decode cX9_deliverNow 119 = .ok (.aload_n 0, 1) := by decide +kernel
theorem dX9_deliverNow_120 : decode cX9_deliverNow 120 = .ok (.getfield 7, 3) := by decide +kernel
theorem dX9_deliverNow_123 : decode cX9_deliverNow 123 = .ok (.iload_n 2, 1) := by decide +kernel
theorem dX9_deliverNow_124 : decode cX9_deliverNow 124 = .ok (.iconst 3, 1) := by decide +kernel
theorem dX9_deliverNow_125 : decode cX9_deliverNow 125 = .ok (.iadd, 1) := by decide +kernel
theorem dX9_deliverNow_126 : decode cX9_deliverNow 126 = .ok (.iaload, 1) := by decide +kernel
theorem dX9_deliverNow_127 : decode cX9_deliverNow 127 = .ok (.aload_n 0, 1) := by decide +kernel
theorem dX9_deliverNow_128 : decode cX9_deliverNow 128 = .ok (.getfield 7, 3) := by decide +kernel
theorem dX9_deliverNow_131 : decode cX9_deliverNow 131 = .ok (.iload_n 2, 1) := by decide +kernel
theorem dX9_deliverNow_132 : decode cX9_deliverNow 132 = .ok (.iconst 4, 1) := by decide +kernel
theorem dX9_deliverNow_133 : decode cX9_deliverNow 133 = .ok (.iadd, 1) := by decide +kernel
theorem dX9_deliverNow_134 : decode cX9_deliverNow 134 = .ok (.iaload, 1) := by decide +kernel
theorem dX9_deliverNow_135 : decode cX9_deliverNow 135 = .ok (.invokevirtual 111, 3) := by decide +kernel
theorem dX9_deliverNow_138 : decode cX9_deliverNow 138 = .ok (.iconst 0, 1) := by decide +kernel
theorem dX9_deliverNow_139 : decode cX9_deliverNow 139 = .ok (.istore 5, 2) := by decide +kernel
theorem dX9_deliverNow_141 : decode cX9_deliverNow 141 = .ok (.iload 5, 2) := by decide +kernel
theorem dX9_deliverNow_143 : decode cX9_deliverNow 143 = .ok (.aload_n 0, 1) := by decide +kernel
theorem dX9_deliverNow_144 : decode cX9_deliverNow 144 = .ok (.getfield 7, 3) := by decide +kernel
theorem dX9_deliverNow_147 : decode cX9_deliverNow 147 = .ok (.iload_n 2, 1) := by decide +kernel
theorem dX9_deliverNow_148 : decode cX9_deliverNow 148 = .ok (.iconst 1, 1) := by decide +kernel
theorem dX9_deliverNow_149 : decode cX9_deliverNow 149 = .ok (.iadd, 1) := by decide +kernel
theorem dX9_deliverNow_150 : decode cX9_deliverNow 150 = .ok (.iaload, 1) := by decide +kernel
theorem dX9_deliverNow_151 : decode cX9_deliverNow 151 = .ok (.if_icmp .ge 37, 3) := by decide +kernel
theorem dX9_deliverNow_154 : decode cX9_deliverNow 154 = .ok (.aload_n 0, 1) := by decide +kernel
theorem dX9_deliverNow_155 : decode cX9_deliverNow 155 = .ok (.iload_n 1, 1) := by decide +kernel
theorem dX9_deliverNow_156 : decode cX9_deliverNow 156 = .ok (.aload_n 0, 1) := by decide +kernel
theorem dX9_deliverNow_157 : decode cX9_deliverNow 157 = .ok (.getfield 7, 3) := by decide +kernel
theorem dX9_deliverNow_160 : decode cX9_deliverNow 160 = .ok (.iload_n 2, 1) := by decide +kernel
theorem dX9_deliverNow_161 : decode cX9_deliverNow 161 = .ok (.iconst 5, 1) := by decide +kernel
theorem dX9_deliverNow_162 : decode cX9_deliverNow 162 = .ok (.iadd, 1) := by decide +kernel
theorem dX9_deliverNow_163 : decode cX9_deliverNow 163 = .ok (.iload 5, 2) := by decide +kernel
theorem dX9_deliverNow_165 : decode cX9_deliverNow 165 = .ok (.iadd, 1) := by decide +kernel
theorem dX9_deliverNow_166 : decode cX9_deliverNow 166 = .ok (.iaload, 1) := by decide +kernel
theorem dX9_deliverNow_167 : decode cX9_deliverNow 167 = .ok (.aload_n 0, 1) := by decide +kernel
theorem dX9_deliverNow_168 : decode cX9_deliverNow 168 = .ok (.getfield 7, 3) := by decide +kernel
theorem dX9_deliverNow_171 : decode cX9_deliverNow 171 = .ok (.iload_n 2, 1) := by decide +kernel
theorem dX9_deliverNow_172 : decode cX9_deliverNow 172 = .ok (.bipush 13, 2) := by decide +kernel
theorem dX9_deliverNow_174 : decode cX9_deliverNow 174 = .ok (.iadd, 1) := by decide +kernel
theorem dX9_deliverNow_175 : decode cX9_deliverNow 175 = .ok (.iload 5, 2) := by decide +kernel
theorem dX9_deliverNow_177 : decode cX9_deliverNow 177 = .ok (.iadd, 1) := by decide +kernel
theorem dX9_deliverNow_178 : decode cX9_deliverNow 178 = .ok (.iaload, 1) := by decide +kernel
theorem dX9_deliverNow_179 : decode cX9_deliverNow 179 = .ok (.invokevirtual 114, 3) := by decide +kernel
theorem dX9_deliverNow_182 : decode cX9_deliverNow 182 = .ok (.iinc 5 1, 3) := by decide +kernel
theorem dX9_deliverNow_185 : decode cX9_deliverNow 185 = .ok (.goto (-44), 3) := by decide +kernel
theorem dX9_deliverNow_188 : decode cX9_deliverNow 188 = .ok (.aload_n 0, 1) := by decide +kernel
theorem dX9_deliverNow_189 : decode cX9_deliverNow 189 = .ok (.iload_n 1, 1) := by decide +kernel
theorem dX9_deliverNow_190 : decode cX9_deliverNow 190 = .ok (.bipush 28, 2) := by decide +kernel
theorem dX9_deliverNow_192 : decode cX9_deliverNow 192 = .ok (.iload_n 3, 1) := by decide +kernel
theorem dX9_deliverNow_193 : decode cX9_deliverNow 193 = .ok (.iconst 1, 1) := by decide +kernel
theorem dX9_deliverNow_194 : decode cX9_deliverNow 194 = .ok (.iadd, 1) := by decide +kernel
theorem dX9_deliverNow_195 : decode cX9_deliverNow 195 = .ok (.invokevirtual 60, 3) := by decide +kernel
theorem dX9_deliverNow_198 : decode cX9_deliverNow 198 = .ok (.aload_n 0, 1) := by decide +kernel
theorem dX9_deliverNow_199 : decode cX9_deliverNow 199 = .ok (.iload_n 1, 1) := by decide +kernel
theorem dX9_deliverNow_200 : decode cX9_deliverNow 200 = .ok (.invokevirtual 108, 3) := by decide +kernel
theorem dX9_deliverNow_203 : decode cX9_deliverNow 203 = .ok (.iload 4, 2) := by decide +kernel
theorem dX9_deliverNow_205 : decode cX9_deliverNow 205 = .ok (.ireturn, 1) := by decide +kernel
theorem dX9_deliver_0 : decode cX9_deliver 0 = .ok (.aload_n 0, 1) := by decide +kernel
theorem dX9_deliver_1 : decode cX9_deliver 1 = .ok (.iconst 0, 1) := by decide +kernel
theorem dX9_deliver_2 : decode cX9_deliver 2 = .ok (.putfield 37, 3) := by decide +kernel
theorem dX9_deliver_5 : decode cX9_deliver 5 = .ok (.iload_n 1, 1) := by decide +kernel
theorem dX9_deliver_6 : decode cX9_deliver 6 = .ok (.invokestatic 90, 3) := by decide +kernel
theorem dX9_deliver_9 : decode cX9_deliver 9 = .ok (.ifCond .ne 9, 3) := by decide +kernel
theorem dX9_deliver_12 : decode cX9_deliver 12 = .ok (.aload_n 0, 1) := by decide +kernel
theorem dX9_deliver_13 : decode cX9_deliver 13 = .ok (.iconst 1, 1) := by decide +kernel
theorem dX9_deliver_14 : decode cX9_deliver 14 = .ok (.invokevirtual 93, 3) := by decide +kernel
theorem dX9_deliver_17 : decode cX9_deliver 17 = .ok (.ireturn, 1) := by decide +kernel
theorem dX9_deliver_18 : decode cX9_deliver 18 = .ok (.aload_n 0, 1) := by decide +kernel
theorem dX9_deliver_19 : decode cX9_deliver 19 = .ok (.iload_n 1, 1) := by decide +kernel
theorem dX9_deliver_20 : decode cX9_deliver 20 = .ok (.bipush 38, 2) := by decide +kernel
theorem dX9_deliver_22 : decode cX9_deliver 22 = .ok (.invokevirtual 52, 3) := by decide +kernel
theorem dX9_deliver_25 : decode cX9_deliver 25 = .ok (.ifCond .ne 9, 3) := by decide +kernel
theorem dX9_deliver_28 : decode cX9_deliver 28 = .ok (.aload_n 0, 1) := by decide +kernel
theorem dX9_deliver_29 : decode cX9_deliver 29 = .ok (.iconst 2, 1) := by decide +kernel
theorem dX9_deliver_30 : decode cX9_deliver 30 = .ok (.invokevirtual 93, 3) := by decide +kernel
theorem dX9_deliver_33 : decode cX9_deliver 33 = .ok (.ireturn, 1) := by decide +kernel
theorem dX9_deliver_34 : decode cX9_deliver 34 = .ok (.aload_n 0, 1) := by decide +kernel
theorem dX9_deliver_35 : decode cX9_deliver 35 = .ok (.invokevirtual 102, 3) := by decide +kernel
theorem dX9_deliver_38 : decode cX9_deliver 38 = .ok (.aload_n 0, 1) := by decide +kernel
theorem dX9_deliver_39 : decode cX9_deliver 39 = .ok (.iload_n 1, 1) := by decide +kernel
theorem dX9_deliver_40 : decode cX9_deliver 40 = .ok (.invokevirtual 117, 3) := by decide +kernel
theorem dX9_deliver_43 : decode cX9_deliver 43 = .ok (.ireturn, 1) := by decide +kernel
theorem dX9_loseNow_0 : decode cX9_loseNow 0 = .ok (.aload_n 0, 1) := by decide +kernel
theorem dX9_loseNow_1 : decode cX9_loseNow 1 = .ok (.getfield 7, 3) := by decide +kernel
theorem dX9_loseNow_4 : decode cX9_loseNow 4 = .ok (.iload_n 1, 1) := by decide +kernel
theorem dX9_loseNow_5 : decode cX9_loseNow 5 = .ok (.iconst 0, 1) := by decide +kernel
theorem dX9_loseNow_6 : decode cX9_loseNow 6 = .ok (.invokestatic 71, 3) := by decide +kernel
theorem dX9_loseNow_9 : decode cX9_loseNow 9 = .ok (.iconst 0, 1) := by decide +kernel
theorem dX9_loseNow_10 : decode cX9_loseNow 10 = .ok (.iadd, 1) := by decide +kernel
theorem dX9_loseNow_11 : decode cX9_loseNow 11 = .ok (.iaload, 1) := by decide +kernel
theorem dX9_loseNow_12 : decode cX9_loseNow 12 = .ok (.istore_n 2, 1) := by decide +kernel
theorem dX9_loseNow_13 : decode cX9_loseNow 13 = .ok (.aload_n 0, 1) := by decide +kernel
theorem dX9_loseNow_14 : decode cX9_loseNow 14 = .ok (.iload_n 1, 1) := by decide +kernel
theorem dX9_loseNow_15 : decode cX9_loseNow 15 = .ok (.invokevirtual 108, 3) := by decide +kernel
theorem dX9_loseNow_18 : decode cX9_loseNow 18 = .ok (.aload_n 0, 1) := by decide +kernel
theorem dX9_loseNow_19 : decode cX9_loseNow 19 = .ok (.iload_n 1, 1) := by decide +kernel
theorem dX9_loseNow_20 : decode cX9_loseNow 20 = .ok (.bipush 36, 2) := by decide +kernel
theorem dX9_loseNow_22 : decode cX9_loseNow 22 = .ok (.iconst 1, 1) := by decide +kernel
theorem dX9_loseNow_23 : decode cX9_loseNow 23 = .ok (.invokevirtual 74, 3) := by decide +kernel
theorem dX9_loseNow_26 : decode cX9_loseNow 26 = .ok (.iload_n 2, 1) := by decide +kernel
theorem dX9_loseNow_27 : decode cX9_loseNow 27 = .ok (.ireturn, 1) := by decide +kernel
theorem dX9_lose_0 : decode cX9_lose 0 = .ok (.aload_n 0, 1) := by decide +kernel
theorem dX9_lose_1 : decode cX9_lose 1 = .ok (.iconst 0, 1) := by decide +kernel
theorem dX9_lose_2 : decode cX9_lose 2 = .ok (.putfield 37, 3) := by decide +kernel
theorem dX9_lose_5 : decode cX9_lose 5 = .ok (.iload_n 1, 1) := by decide +kernel
theorem dX9_lose_6 : decode cX9_lose 6 = .ok (.invokestatic 90, 3) := by decide +kernel
theorem dX9_lose_9 : decode cX9_lose 9 = .ok (.ifCond .ne 9, 3) := by decide +kernel
theorem dX9_lose_12 : decode cX9_lose 12 = .ok (.aload_n 0, 1) := by decide +kernel
theorem dX9_lose_13 : decode cX9_lose 13 = .ok (.iconst 1, 1) := by decide +kernel
theorem dX9_lose_14 : decode cX9_lose 14 = .ok (.invokevirtual 93, 3) := by decide +kernel
theorem dX9_lose_17 : decode cX9_lose 17 = .ok (.ireturn, 1) := by decide +kernel
theorem dX9_lose_18 : decode cX9_lose 18 = .ok (.aload_n 0, 1) := by decide +kernel
theorem dX9_lose_19 : decode cX9_lose 19 = .ok (.iload_n 1, 1) := by decide +kernel
theorem dX9_lose_20 : decode cX9_lose 20 = .ok (.bipush 38, 2) := by decide +kernel
theorem dX9_lose_22 : decode cX9_lose 22 = .ok (.invokevirtual 52, 3) := by decide +kernel
theorem dX9_lose_25 : decode cX9_lose 25 = .ok (.ifCond .ne 9, 3) := by decide +kernel
theorem dX9_lose_28 : decode cX9_lose 28 = .ok (.aload_n 0, 1) := by decide +kernel
theorem dX9_lose_29 : decode cX9_lose 29 = .ok (.iconst 2, 1) := by decide +kernel
theorem dX9_lose_30 : decode cX9_lose 30 = .ok (.invokevirtual 93, 3) := by decide +kernel
theorem dX9_lose_33 : decode cX9_lose 33 = .ok (.ireturn, 1) := by decide +kernel
theorem dX9_lose_34 : decode cX9_lose 34 = .ok (.aload_n 0, 1) := by decide +kernel
theorem dX9_lose_35 : decode cX9_lose 35 = .ok (.invokevirtual 102, 3) := by decide +kernel
theorem dX9_lose_38 : decode cX9_lose 38 = .ok (.aload_n 0, 1) := by decide +kernel
theorem dX9_lose_39 : decode cX9_lose 39 = .ok (.iload_n 1, 1) := by decide +kernel
theorem dX9_lose_40 : decode cX9_lose 40 = .ok (.invokevirtual 120, 3) := by decide +kernel
theorem dX9_lose_43 : decode cX9_lose 43 = .ok (.ireturn, 1) := by decide +kernel
theorem dX9_swapNow_0 : decode cX9_swapNow 0 = .ok (.iload_n 1, 1) := by decide +kernel
theorem dX9_swapNow_1 : decode cX9_swapNow 1 = .ok (.iconst 0, 1) := by decide +kernel
theorem dX9_swapNow_2 : decode cX9_swapNow 2 = .ok (.invokestatic 71, 3) := by decide +kernel
theorem dX9_swapNow_5 : decode cX9_swapNow 5 = .ok (.istore_n 2, 1) := by decide +kernel
theorem dX9_swapNow_6 : decode cX9_swapNow 6 = .ok (.iload_n 2, 1) := by decide +kernel
theorem dX9_swapNow_7 : decode cX9_swapNow 7 = .ok (.istore_n 3, 1) := by decide +kernel
theorem dX9_swapNow_8 : decode cX9_swapNow 8 = .ok (.iload_n 3, 1) := by decide +kernel
theorem dX9_swapNow_9 : decode cX9_swapNow 9 = .ok (.iload_n 2, 1) := by decide +kernel
theorem dX9_swapNow_10 : decode cX9_swapNow 10 = .ok (.bipush 21, 2) := by decide +kernel
theorem dX9_swapNow_12 : decode cX9_swapNow 12 = .ok (.iadd, 1) := by decide +kernel
theorem dX9_swapNow_13 : decode cX9_swapNow 13 = .ok (.if_icmp .ge 43, 3) := by decide +kernel
theorem dX9_swapNow_16 : decode cX9_swapNow 16 = .ok (.aload_n 0, 1) := by decide +kernel
theorem dX9_swapNow_17 : decode cX9_swapNow 17 = .ok (.getfield 7, 3) := by decide +kernel
theorem dX9_swapNow_20 : decode cX9_swapNow 20 = .ok (.iload_n 3, 1) := by decide +kernel
theorem dX9_swapNow_21 : decode cX9_swapNow 21 = .ok (.iaload, 1) := by decide +kernel
theorem dX9_swapNow_22 : decode cX9_swapNow 22 = .ok (.istore 4, 2) := by decide +kernel
theorem dX9_swapNow_24 : decode cX9_swapNow 24 = .ok (.aload_n 0, 1) := by decide +kernel
theorem dX9_swapNow_25 : decode cX9_swapNow 25 = .ok (.getfield 7, 3) := by decide +kernel
theorem dX9_swapNow_28 : decode cX9_swapNow 28 = .ok (.iload_n 3, 1) := by decide +kernel
theorem dX9_swapNow_29 : decode cX9_swapNow 29 = .ok (.aload_n 0, 1) := by decide +kernel
theorem dX9_swapNow_30 : decode cX9_swapNow 30 = .ok (.getfield 7, 3) := by decide +kernel
theorem dX9_swapNow_33 : decode cX9_swapNow 33 = .ok (.iload_n 3, 1) := by decide +kernel
theorem dX9_swapNow_34 : decode cX9_swapNow 34 = .ok (.bipush 21, 2) := by decide +kernel
theorem dX9_swapNow_36 : decode cX9_swapNow 36 = .ok (.iadd, 1) := by decide +kernel
theorem dX9_swapNow_37 : decode cX9_swapNow 37 = .ok (.iaload, 1) := by decide +kernel
theorem dX9_swapNow_38 : decode cX9_swapNow 38 = .ok (.iastore, 1) := by decide +kernel
theorem dX9_swapNow_39 : decode cX9_swapNow 39 = .ok (.aload_n 0, 1) := by decide +kernel
theorem dX9_swapNow_40 : decode cX9_swapNow 40 = .ok (.getfield 7, 3) := by decide +kernel
theorem dX9_swapNow_43 : decode cX9_swapNow 43 = .ok (.iload_n 3, 1) := by decide +kernel
theorem dX9_swapNow_44 : decode cX9_swapNow 44 = .ok (.bipush 21, 2) := by decide +kernel
theorem dX9_swapNow_46 : decode cX9_swapNow 46 = .ok (.iadd, 1) := by decide +kernel
theorem dX9_swapNow_47 : decode cX9_swapNow 47 = .ok (.iload 4, 2) := by decide +kernel
theorem dX9_swapNow_49 : decode cX9_swapNow 49 = .ok (.iastore, 1) := by decide +kernel
theorem dX9_swapNow_50 : decode cX9_swapNow 50 = .ok (.iinc 3 1, 3) := by decide +kernel
theorem dX9_swapNow_53 : decode cX9_swapNow 53 = .ok (.goto (-45), 3) := by decide +kernel
theorem dX9_swapNow_56 : decode cX9_swapNow 56 = .ok (.aload_n 0, 1) := by decide +kernel
theorem dX9_swapNow_57 : decode cX9_swapNow 57 = .ok (.getfield 7, 3) := by decide +kernel
theorem dX9_swapNow_60 : decode cX9_swapNow 60 = .ok (.iload_n 2, 1) := by decide +kernel
theorem dX9_swapNow_61 : decode cX9_swapNow 61 = .ok (.iconst 0, 1) := by decide +kernel
theorem dX9_swapNow_62 : decode cX9_swapNow 62 = .ok (.iadd, 1) := by decide +kernel
theorem dX9_swapNow_63 : decode cX9_swapNow 63 = .ok (.iaload, 1) := by decide +kernel
theorem dX9_swapNow_64 : decode cX9_swapNow 64 = .ok (.ireturn, 1) := by decide +kernel
theorem dX9_swap_0 : decode cX9_swap 0 = .ok (.aload_n 0, 1) := by decide +kernel
theorem dX9_swap_1 : decode cX9_swap 1 = .ok (.iconst 0, 1) := by decide +kernel
theorem dX9_swap_2 : decode cX9_swap 2 = .ok (.putfield 37, 3) := by decide +kernel
theorem dX9_swap_5 : decode cX9_swap 5 = .ok (.iload_n 1, 1) := by decide +kernel
theorem dX9_swap_6 : decode cX9_swap 6 = .ok (.invokestatic 90, 3) := by decide +kernel
theorem dX9_swap_9 : decode cX9_swap 9 = .ok (.ifCond .ne 9, 3) := by decide +kernel
theorem dX9_swap_12 : decode cX9_swap 12 = .ok (.aload_n 0, 1) := by decide +kernel
theorem dX9_swap_13 : decode cX9_swap 13 = .ok (.iconst 1, 1) := by decide +kernel
theorem dX9_swap_14 : decode cX9_swap 14 = .ok (.invokevirtual 93, 3) := by decide +kernel
theorem dX9_swap_17 : decode cX9_swap 17 = .ok (.ireturn, 1) := by decide +kernel
theorem dX9_swap_18 : decode cX9_swap 18 = .ok (.aload_n 0, 1) := by decide +kernel
theorem dX9_swap_19 : decode cX9_swap 19 = .ok (.iload_n 1, 1) := by decide +kernel
theorem dX9_swap_20 : decode cX9_swap 20 = .ok (.bipush 38, 2) := by decide +kernel
theorem dX9_swap_22 : decode cX9_swap 22 = .ok (.invokevirtual 52, 3) := by decide +kernel
theorem dX9_swap_25 : decode cX9_swap 25 = .ok (.iconst 2, 1) := by decide +kernel
theorem dX9_swap_26 : decode cX9_swap 26 = .ok (.if_icmp .ge 9, 3) := by decide +kernel
theorem dX9_swap_29 : decode cX9_swap 29 = .ok (.aload_n 0, 1) := by decide +kernel
theorem dX9_swap_30 : decode cX9_swap 30 = .ok (.iconst 2, 1) := by decide +kernel
theorem dX9_swap_31 : decode cX9_swap 31 = .ok (.invokevirtual 93, 3) := by decide +kernel
theorem dX9_swap_34 : decode cX9_swap 34 = .ok (.ireturn, 1) := by decide +kernel
theorem dX9_swap_35 : decode cX9_swap 35 = .ok (.aload_n 0, 1) := by decide +kernel
theorem dX9_swap_36 : decode cX9_swap 36 = .ok (.invokevirtual 102, 3) := by decide +kernel
theorem dX9_swap_39 : decode cX9_swap 39 = .ok (.aload_n 0, 1) := by decide +kernel
theorem dX9_swap_40 : decode cX9_swap 40 = .ok (.iload_n 1, 1) := by decide +kernel
theorem dX9_swap_41 : decode cX9_swap 41 = .ok (.invokevirtual 123, 3) := by decide +kernel
theorem dX9_swap_44 : decode cX9_swap 44 = .ok (.ireturn, 1) := by decide +kernel
theorem dX9_maySet_0 : decode cX9_maySet 0 = .ok (.iload_n 0, 1) := by decide +kernel
theorem dX9_maySet_1 : decode cX9_maySet 1 = .ok (.ifCond .ne 12, 3) := by decide +kernel
theorem dX9_maySet_4 : decode cX9_maySet 4 = .ok (.iload_n 1, 1) := by decide +kernel
theorem dX9_maySet_5 : decode cX9_maySet 5 = .ok (.iconst 1, 1) := by decide +kernel
theorem dX9_maySet_6 : decode cX9_maySet 6 = .ok (.iconst 4, 1) := by decide +kernel
theorem dX9_maySet_7 : decode cX9_maySet 7 = .ok (.invokestatic 41, 3) := by decide +kernel
theorem dX9_maySet_10 : decode cX9_maySet 10 = .ok (.goto 40, 3) := by decide +kernel
theorem dX9_maySet_13 : decode cX9_maySet 13 = .ok (.iload_n 0, 1) := by decide +kernel
theorem dX9_maySet_14 : decode cX9_maySet 14 = .ok (.iconst 1, 1) := by decide +kernel
theorem dX9_maySet_15 : decode cX9_maySet 15 = .ok (.if_icmp .ne 13, 3) := by decide +kernel
theorem dX9_maySet_18 : decode cX9_maySet 18 = .ok (.iload_n 1, 1) := by decide +kernel
theorem dX9_maySet_19 : decode cX9_maySet 19 = .ok (.iconst 0, 1) := by decide +kernel
theorem dX9_maySet_20 : decode cX9_maySet 20 = .ok (.bipush 99, 2) := by decide +kernel
theorem dX9_maySet_22 : decode cX9_maySet 22 = .ok (.invokestatic 41, 3) := by decide +kernel
theorem dX9_maySet_25 : decode cX9_maySet 25 = .ok (.goto 25, 3) := by decide +kernel
theorem dX9_maySet_28 : decode cX9_maySet 28 = .ok (.iload_n 0, 1) := by decide +kernel
theorem dX9_maySet_29 : decode cX9_maySet 29 = .ok (.iconst 2, 1) := by decide +kernel
theorem dX9_maySet_30 : decode cX9_maySet 30 = .ok (.if_icmp .ne 13, 3) := by decide +kernel
theorem dX9_maySet_33 : decode cX9_maySet 33 = .ok (.iload_n 1, 1) := by decide +kernel
theorem dX9_maySet_34 : decode cX9_maySet 34 = .ok (.iconst 1, 1) := by decide +kernel
theorem dX9_maySet_35 : decode cX9_maySet 35 = .ok (.bipush 8, 2) := by decide +kernel
theorem dX9_maySet_37 : decode cX9_maySet 37 = .ok (.invokestatic 41, 3) := by decide +kernel
theorem dX9_maySet_40 : decode cX9_maySet 40 = .ok (.goto 10, 3) := by decide +kernel
theorem dX9_maySet_43 : decode cX9_maySet 43 = .ok (.iload_n 1, 1) := by decide +kernel
theorem dX9_maySet_44 : decode cX9_maySet 44 = .ok (.iconst 1, 1) := by decide +kernel
theorem dX9_maySet_45 : decode cX9_maySet 45 = .ok (.bipush 9, 2) := by decide +kernel
theorem dX9_maySet_47 : decode cX9_maySet 47 = .ok (.invokestatic 41, 3) := by decide +kernel
theorem dX9_maySet_50 : decode cX9_maySet 50 = .ok (.ireturn, 1) := by decide +kernel
theorem dX9_set_0 : decode cX9_set 0 = .ok (.aload_n 0, 1) := by decide +kernel
theorem dX9_set_1 : decode cX9_set 1 = .ok (.iconst 0, 1) := by decide +kernel
theorem dX9_set_2 : decode cX9_set 2 = .ok (.putfield 37, 3) := by decide +kernel
theorem dX9_set_5 : decode cX9_set 5 = .ok (.iload_n 1, 1) := by decide +kernel
theorem dX9_set_6 : decode cX9_set 6 = .ok (.iconst 0, 1) := by decide +kernel
theorem dX9_set_7 : decode cX9_set 7 = .ok (.iconst 3, 1) := by decide +kernel
theorem dX9_set_8 : decode cX9_set 8 = .ok (.invokestatic 41, 3) := by decide +kernel
theorem dX9_set_11 : decode cX9_set 11 = .ok (.ifCond .ne 9, 3) := by decide +kernel
theorem dX9_set_14 : decode cX9_set 14 = .ok (.aload_n 0, 1) := by decide +kernel
theorem dX9_set_15 : decode cX9_set 15 = .ok (.iconst 1, 1) := by decide +kernel
theorem dX9_set_16 : decode cX9_set 16 = .ok (.invokevirtual 93, 3) := by decide +kernel
theorem dX9_set_19 : decode cX9_set 19 = .ok (.ireturn, 1) := by decide +kernel
theorem dX9_set_20 : decode cX9_set 20 = .ok (.iload_n 1, 1) := by decide +kernel
theorem dX9_set_21 : decode cX9_set 21 = .ok (.iload_n 2, 1) := by decide +kernel
theorem dX9_set_22 : decode cX9_set 22 = .ok (.invokestatic 126, 3) := by decide +kernel
theorem dX9_set_25 : decode cX9_set 25 = .ok (.ifCond .ne 9, 3) := by decide +kernel
theorem dX9_set_28 : decode cX9_set 28 = .ok (.aload_n 0, 1) := by decide +kernel
theorem dX9_set_29 : decode cX9_set 29 = .ok (.iconst 2, 1) := by decide +kernel
theorem dX9_set_30 : decode cX9_set 30 = .ok (.invokevirtual 93, 3) := by decide +kernel
theorem dX9_set_33 : decode cX9_set 33 = .ok (.ireturn, 1) := by decide +kernel
theorem dX9_set_34 : decode cX9_set 34 = .ok (.aload_n 0, 1) := by decide +kernel
theorem dX9_set_35 : decode cX9_set 35 = .ok (.invokevirtual 102, 3) := by decide +kernel
theorem dX9_set_38 : decode cX9_set 38 = .ok (.aload_n 0, 1) := by decide +kernel
theorem dX9_set_39 : decode cX9_set 39 = .ok (.getfield 7, 3) := by decide +kernel
theorem dX9_set_42 : decode cX9_set 42 = .ok (.iload_n 1, 1) := by decide +kernel
theorem dX9_set_43 : decode cX9_set 43 = .ok (.iaload, 1) := by decide +kernel
theorem dX9_set_44 : decode cX9_set 44 = .ok (.istore_n 3, 1) := by decide +kernel
theorem dX9_set_45 : decode cX9_set 45 = .ok (.aload_n 0, 1) := by decide +kernel
theorem dX9_set_46 : decode cX9_set 46 = .ok (.getfield 7, 3) := by decide +kernel
theorem dX9_set_49 : decode cX9_set 49 = .ok (.iload_n 1, 1) := by decide +kernel
theorem dX9_set_50 : decode cX9_set 50 = .ok (.iload_n 2, 1) := by decide +kernel
theorem dX9_set_51 : decode cX9_set 51 = .ok (.iastore, 1) := by decide +kernel
theorem dX9_set_52 : decode cX9_set 52 = .ok (.iload_n 3, 1) := by decide +kernel
theorem dX9_set_53 : decode cX9_set 53 = .ok (.ireturn, 1) := by decide +kernel
theorem dX9_append_0 : decode cX9_append 0 = .ok (.aload_n 0, 1) := by decide +kernel
theorem dX9_append_1 : decode cX9_append 1 = .ok (.iconst 0, 1) := by decide +kernel
theorem dX9_append_2 : decode cX9_append 2 = .ok (.putfield 37, 3) := by decide +kernel
theorem dX9_append_5 : decode cX9_append 5 = .ok (.iload_n 1, 1) := by decide +kernel
theorem dX9_append_6 : decode cX9_append 6 = .ok (.bipush 33, 2) := by decide +kernel
theorem dX9_append_8 : decode cX9_append 8 = .ok (.bipush 126, 2) := by decide +kernel
theorem dX9_append_10 : decode cX9_append 10 = .ok (.invokestatic 41, 3) := by decide +kernel
theorem dX9_append_13 : decode cX9_append 13 = .ok (.ifCond .ne 9, 3) := by decide +kernel
theorem dX9_append_16 : decode cX9_append 16 = .ok (.aload_n 0, 1) := by decide +kernel
theorem dX9_append_17 : decode cX9_append 17 = .ok (.iconst 1, 1) := by decide +kernel
theorem dX9_append_18 : decode cX9_append 18 = .ok (.invokevirtual 93, 3) := by decide +kernel
theorem dX9_append_21 : decode cX9_append 21 = .ok (.ireturn, 1) := by decide +kernel
theorem dX9_append_22 : decode cX9_append 22 = .ok (.aload_n 0, 1) := by decide +kernel
theorem dX9_append_23 : decode cX9_append 23 = .ok (.getfield 130, 3) := by decide +kernel
theorem dX9_append_26 : decode cX9_append 26 = .ok (.bipush 60, 2) := by decide +kernel
theorem dX9_append_28 : decode cX9_append 28 = .ok (.if_icmp .ne 9, 3) := by decide +kernel
theorem dX9_append_31 : decode cX9_append 31 = .ok (.aload_n 0, 1) := by decide +kernel
theorem dX9_append_32 : decode cX9_append 32 = .ok (.iconst 2, 1) := by decide +kernel
theorem dX9_append_33 : decode cX9_append 33 = .ok (.invokevirtual 93, 3) := by decide +kernel
theorem dX9_append_36 : decode cX9_append 36 = .ok (.ireturn, 1) := by decide +kernel
theorem dX9_append_37 : decode cX9_append 37 = .ok (.aload_n 0, 1) := by decide +kernel
theorem dX9_append_38 : decode cX9_append 38 = .ok (.getfield 25, 3) := by decide +kernel
theorem dX9_append_41 : decode cX9_append 41 = .ok (.aload_n 0, 1) := by decide +kernel
theorem dX9_append_42 : decode cX9_append 42 = .ok (.getfield 130, 3) := by decide +kernel
theorem dX9_append_45 : decode cX9_append 45 = .ok (.iload_n 1, 1) := by decide +kernel
theorem dX9_append_46 : decode cX9_append 46 = .ok (.iastore, 1) := by decide +kernel
theorem dX9_append_47 : decode cX9_append 47 = .ok (.aload_n 0, 1) := by decide +kernel
theorem dX9_append_48 : decode cX9_append 48 = .ok (.dup, 1) := by decide +kernel
theorem dX9_append_49 : decode cX9_append 49 = .ok (.getfield 130, 3) := by decide +kernel
theorem dX9_append_52 : decode cX9_append 52 = .ok (.iconst 1, 1) := by decide +kernel
theorem dX9_append_53 : decode cX9_append 53 = .ok (.iadd, 1) := by decide +kernel
theorem dX9_append_54 : decode cX9_append 54 = .ok (.putfield 130, 3) := by decide +kernel
theorem dX9_append_57 : decode cX9_append 57 = .ok (.aload_n 0, 1) := by decide +kernel
theorem dX9_append_58 : decode cX9_append 58 = .ok (.getfield 130, 3) := by decide +kernel
theorem dX9_append_61 : decode cX9_append 61 = .ok (.ireturn, 1) := by decide +kernel
theorem dX9_clearBuffer_0 : decode cX9_clearBuffer 0 = .ok (.aload_n 0, 1) := by decide +kernel
theorem dX9_clearBuffer_1 : decode cX9_clearBuffer 1 = .ok (.iconst 0, 1) := by decide +kernel
theorem dX9_clearBuffer_2 : decode cX9_clearBuffer 2 = .ok (.putfield 37, 3) := by decide +kernel
theorem dX9_clearBuffer_5 : decode cX9_clearBuffer 5 = .ok (.aload_n 0, 1) := by decide +kernel
theorem dX9_clearBuffer_6 : decode cX9_clearBuffer 6 = .ok (.getfield 130, 3) := by decide +kernel
theorem dX9_clearBuffer_9 : decode cX9_clearBuffer 9 = .ok (.istore_n 1, 1) := by decide +kernel
theorem dX9_clearBuffer_10 : decode cX9_clearBuffer 10 = .ok (.aload_n 0, 1) := by decide +kernel
theorem dX9_clearBuffer_11 : decode cX9_clearBuffer 11 = .ok (.iconst 0, 1) := by decide +kernel
theorem dX9_clearBuffer_12 : decode cX9_clearBuffer 12 = .ok (.putfield 130, 3) := by decide +kernel
theorem dX9_clearBuffer_15 : decode cX9_clearBuffer 15 = .ok (.iload_n 1, 1) := by decide +kernel
theorem dX9_clearBuffer_16 : decode cX9_clearBuffer 16 = .ok (.ireturn, 1) := by decide +kernel
theorem dX9_isAt_0 : decode cX9_isAt 0 = .ok (.aload_n 0, 1) := by decide +kernel
theorem dX9_isAt_1 : decode cX9_isAt 1 = .ok (.getfield 133, 3) := by decide +kernel
theorem dX9_isAt_4 : decode cX9_isAt 4 = .ok (.aload_n 0, 1) := by decide +kernel
theorem dX9_isAt_5 : decode cX9_isAt 5 = .ok (.getfield 130, 3) := by decide +kernel
theorem dX9_isAt_8 : decode cX9_isAt 8 = .ok (.if_icmp .ge 24, 3) := by decide +kernel
theorem dX9_isAt_11 : decode cX9_isAt 11 = .ok (.aload_n 0, 1) := by decide +kernel
theorem dX9_isAt_12 : decode cX9_isAt 12 = .ok (.getfield 25, 3) := by decide +kernel
theorem dX9_isAt_15 : decode cX9_isAt 15 = .ok (.aload_n 0, 1) := by decide +kernel
theorem dX9_isAt_16 : decode cX9_isAt 16 = .ok (.getfield 133, 3) := by decide +kernel
theorem dX9_isAt_19 : decode cX9_isAt 19 = .ok (.iaload, 1) := by decide +kernel
theorem dX9_isAt_20 : decode cX9_isAt 20 = .ok (.iload_n 1, 1) := by decide +kernel
theorem dX9_isAt_21 : decode cX9_isAt 21 = .ok (.iload_n 2, 1) := by decide +kernel
theorem dX9_isAt_22 : decode cX9_isAt 22 = .ok (.invokestatic 41, 3) := by decide +kernel
theorem dX9_isAt_25 : decode cX9_isAt 25 = .ok (.ifCond .eq 7, 3) := by decide +kernel
theorem dX9_isAt_28 : decode cX9_isAt 28 = .ok (.iconst 1, 1) := by decide +kernel
theorem dX9_isAt_29 : decode cX9_isAt 29 = .ok (.goto 4, 3) := by decide +kernel
theorem dX9_isAt_32 : decode cX9_isAt 32 = .ok (.iconst 0, 1) := by decide +kernel
theorem dX9_isAt_33 : decode cX9_isAt 33 = .ok (.ireturn, 1) := by decide +kernel
theorem dX9_takes_0 : decode cX9_takes 0 = .ok (.aload_n 0, 1) := by decide +kernel
theorem dX9_takes_1 : decode cX9_takes 1 = .ok (.iload_n 1, 1) := by decide +kernel
theorem dX9_takes_2 : decode cX9_takes 2 = .ok (.iload_n 2, 1) := by decide +kernel
theorem dX9_takes_3 : decode cX9_takes 3 = .ok (.invokevirtual 136, 3) := by decide +kernel
theorem dX9_takes_6 : decode cX9_takes 6 = .ok (.istore_n 3, 1) := by decide +kernel
theorem dX9_takes_7 : decode cX9_takes 7 = .ok (.aload_n 0, 1) := by decide +kernel
theorem dX9_takes_8 : decode cX9_takes 8 = .ok (.dup, 1) := by decide +kernel
theorem dX9_takes_9 : decode cX9_takes 9 = .ok (.getfield 133, 3) := by decide +kernel
theorem dX9_takes_12 : decode cX9_takes 12 = .ok (.iload_n 3, 1) := by decide +kernel
theorem dX9_takes_13 : decode cX9_takes 13 = .ok (.ifCond .eq 7, 3) := by decide +kernel
theorem dX9_takes_16 : decode cX9_takes 16 = .ok (.iconst 1, 1) := by decide +kernel
theorem dX9_takes_17 : decode cX9_takes 17 = .ok (.goto 4, 3) := by decide +kernel
theorem dX9_takes_20 : decode cX9_takes 20 = .ok (.iconst 0, 1) := by decide +kernel
theorem dX9_takes_21 : decode cX9_takes 21 = .ok (.iadd, 1) := by decide +kernel
theorem dX9_takes_22 : decode cX9_takes 22 = .ok (.putfield 133, 3) := by decide +kernel
theorem dX9_takes_25 : decode cX9_takes 25 = .ok (.iload_n 3, 1) := by decide +kernel
theorem dX9_takes_26 : decode cX9_takes 26 = .ok (.ireturn, 1) := by decide +kernel
theorem dX9_addDeed_0 : decode cX9_addDeed 0 = .ok (.aload_n 0, 1) := by decide +kernel
theorem dX9_addDeed_1 : decode cX9_addDeed 1 = .ok (.getfield 28, 3) := by decide +kernel
theorem dX9_addDeed_4 : decode cX9_addDeed 4 = .ok (.aload_n 0, 1) := by decide +kernel
theorem dX9_addDeed_5 : decode cX9_addDeed 5 = .ok (.getfield 139, 3) := by decide +kernel
theorem dX9_addDeed_8 : decode cX9_addDeed 8 = .ok (.iload_n 1, 1) := by decide +kernel
theorem dX9_addDeed_9 : decode cX9_addDeed 9 = .ok (.iastore, 1) := by decide +kernel
theorem dX9_addDeed_10 : decode cX9_addDeed 10 = .ok (.aload_n 0, 1) := by decide +kernel
theorem dX9_addDeed_11 : decode cX9_addDeed 11 = .ok (.getfield 31, 3) := by decide +kernel
theorem dX9_addDeed_14 : decode cX9_addDeed 14 = .ok (.aload_n 0, 1) := by decide +kernel
theorem dX9_addDeed_15 : decode cX9_addDeed 15 = .ok (.getfield 139, 3) := by decide +kernel
theorem dX9_addDeed_18 : decode cX9_addDeed 18 = .ok (.iload_n 2, 1) := by decide +kernel
theorem dX9_addDeed_19 : decode cX9_addDeed 19 = .ok (.iastore, 1) := by decide +kernel
theorem dX9_addDeed_20 : decode cX9_addDeed 20 = .ok (.aload_n 0, 1) := by decide +kernel
theorem dX9_addDeed_21 : decode cX9_addDeed 21 = .ok (.getfield 34, 3) := by decide +kernel
theorem dX9_addDeed_24 : decode cX9_addDeed 24 = .ok (.aload_n 0, 1) := by decide +kernel
theorem dX9_addDeed_25 : decode cX9_addDeed 25 = .ok (.getfield 139, 3) := by decide +kernel
theorem dX9_addDeed_28 : decode cX9_addDeed 28 = .ok (.iload_n 3, 1) := by decide +kernel
theorem dX9_addDeed_29 : decode cX9_addDeed 29 = .ok (.iastore, 1) := by decide +kernel
theorem dX9_addDeed_30 : decode cX9_addDeed 30 = .ok (.aload_n 0, 1) := by decide +kernel
theorem dX9_addDeed_31 : decode cX9_addDeed 31 = .ok (.dup, 1) := by decide +kernel
theorem dX9_addDeed_32 : decode cX9_addDeed 32 = .ok (.getfield 139, 3) := by decide +kernel
theorem dX9_addDeed_35 : decode cX9_addDeed 35 = .ok (.iconst 1, 1) := by decide +kernel
theorem dX9_addDeed_36 : decode cX9_addDeed 36 = .ok (.iadd, 1) := by decide +kernel
theorem dX9_addDeed_37 : decode cX9_addDeed 37 = .ok (.putfield 139, 3) := by decide +kernel
theorem dX9_addDeed_40 : decode cX9_addDeed 40 = .ok (.return_, 1) := by decide +kernel
theorem dX9_readSample_0 : decode cX9_readSample 0 = .ok (.aload_n 0, 1) := by decide +kernel
theorem dX9_readSample_1 : decode cX9_readSample 1 = .ok (.bipush 45, 2) := by decide +kernel
theorem dX9_readSample_3 : decode cX9_readSample 3 = .ok (.bipush 45, 2) := by decide +kernel
theorem dX9_readSample_5 : decode cX9_readSample 5 = .ok (.invokevirtual 142, 3) := by decide +kernel
theorem dX9_readSample_8 : decode cX9_readSample 8 = .ok (.istore_n 2, 1) := by decide +kernel
theorem dX9_readSample_9 : decode cX9_readSample 9 = .ok (.aload_n 0, 1) := by decide +kernel
theorem dX9_readSample_10 : decode cX9_readSample 10 = .ok (.iload_n 2, 1) := by decide +kernel
theorem dX9_readSample_11 : decode cX9_readSample 11 = .ok (.ifCond .eq 8, 3) := by decide +kernel
theorem dX9_readSample_14 : decode cX9_readSample 14 = .ok (.bipush 49, 2) := by decide +kernel
theorem dX9_readSample_16 : decode cX9_readSample 16 = .ok (.goto 5, 3) := by decide +kernel
theorem dX9_readSample_19 : decode cX9_readSample 19 = .ok (.bipush 48, 2) := by decide +kernel
theorem dX9_readSample_21 : decode cX9_readSample 21 = .ok (.bipush 57, 2) := by decide +kernel
theorem dX9_readSample_23 : decode cX9_readSample 23 = .ok (.invokevirtual 136, 3) := by decide +kernel
theorem dX9_readSample_26 : decode cX9_readSample 26 = .ok (.ifCond .ne 5, 3) := by decide +kernel
theorem dX9_readSample_29 : decode cX9_readSample 29 = .ok (.iconst 0, 1) := by decide +kernel
theorem dX9_readSample_30 : decode cX9_readSample 30 = .ok (.ireturn, 1) := by decide +kernel
theorem dX9_readSample_31 : decode cX9_readSample 31 = .ok (.aload_n 0, 1) := by decide +kernel
theorem dX9_readSample_32 : decode cX9_readSample 32 = .ok (.getfield 25, 3) := by decide +kernel
theorem dX9_readSample_35 : decode cX9_readSample 35 = .ok (.aload_n 0, 1) := by decide +kernel
theorem dX9_readSample_36 : decode cX9_readSample 36 = .ok (.getfield 133, 3) := by decide +kernel
theorem dX9_readSample_39 : decode cX9_readSample 39 = .ok (.iaload, 1) := by decide +kernel
theorem dX9_readSample_40 : decode cX9_readSample 40 = .ok (.bipush 48, 2) := by decide +kernel
theorem dX9_readSample_42 : decode cX9_readSample 42 = .ok (.isub, 1) := by decide +kernel
theorem dX9_readSample_43 : decode cX9_readSample 43 = .ok (.istore_n 3, 1) := by decide +kernel
theorem dX9_readSample_44 : decode cX9_readSample 44 = .ok (.aload_n 0, 1) := by decide +kernel
theorem dX9_readSample_45 : decode cX9_readSample 45 = .ok (.dup, 1) := by decide +kernel
theorem dX9_readSample_46 : decode cX9_readSample 46 = .ok (.getfield 133, 3) := by decide +kernel
theorem dX9_readSample_49 : decode cX9_readSample 49 = .ok (.iconst 1, 1) := by decide +kernel
theorem dX9_readSample_50 : decode cX9_readSample 50 = .ok (.iadd, 1) := by decide +kernel
theorem dX9_readSample_51 : decode cX9_readSample 51 = .ok (.putfield 133, 3) := by decide +kernel
theorem dX9_readSample_54 : decode cX9_readSample 54 = .ok (.iload_n 3, 1) := by decide +kernel
theorem dX9_readSample_55 : decode cX9_readSample 55 = .ok (.ifCond .le 68, 3) := by decide +kernel
theorem dX9_readSample_58 : decode cX9_readSample 58 = .ok (.aload_n 0, 1) := by decide +kernel
theorem dX9_readSample_59 : decode cX9_readSample 59 = .ok (.bipush 48, 2) := by decide +kernel
theorem dX9_readSample_61 : decode cX9_readSample 61 = .ok (.bipush 57, 2) := by decide +kernel
theorem dX9_readSample_63 : decode cX9_readSample 63 = .ok (.invokevirtual 136, 3) := by decide +kernel
theorem dX9_readSample_66 : decode cX9_readSample 66 = .ok (.ifCond .eq 57, 3) := by decide +kernel
theorem dX9_readSample_69 : decode cX9_readSample 69 = .ok (.bipush 10, 2) := by decide +kernel
theorem dX9_readSample_71 : decode cX9_readSample 71 = .ok (.iload_n 3, 1) := by decide +kernel
theorem dX9_readSample_72 : decode cX9_readSample 72 = .ok (.imul, 1) := by decide +kernel
theorem dX9_readSample_73 : decode cX9_readSample 73 = .ok (.aload_n 0, 1) := by decide +kernel
theorem dX9_readSample_74 : decode cX9_readSample 74 = .ok (.getfield 25, 3) := by decide +kernel
theorem dX9_readSample_77 : decode cX9_readSample 77 = .ok (.aload_n 0, 1) := by decide +kernel
theorem dX9_readSample_78 : decode cX9_readSample 78 = .ok (.getfield 133, 3) := by decide +kernel
theorem dX9_readSample_81 : decode cX9_readSample 81 = .ok (.iaload, 1) := by decide +kernel
theorem dX9_readSample_82 : decode cX9_readSample 82 = .ok (.iadd, 1) := by decide +kernel
theorem dX9_readSample_83 : decode cX9_readSample 83 = .ok (.bipush 48, 2) := by decide +kernel
theorem dX9_readSample_85 : decode cX9_readSample 85 = .ok (.isub, 1) := by decide +kernel
theorem dX9_readSample_86 : decode cX9_readSample 86 = .ok (.sipush 2000, 3) := by decide +kernel
theorem dX9_readSample_89 : decode cX9_readSample 89 = .ok (.if_icmp .gt 34, 3) := by decide +kernel
theorem dX9_readSample_92 : decode cX9_readSample 92 = .ok (.bipush 10, 2) := by decide +kernel
theorem dX9_readSample_94 : decode cX9_readSample 94 = .ok (.iload_n 3, 1) := by decide +kernel
theorem dX9_readSample_95 : decode cX9_readSample 95 = .ok (.imul, 1) := by decide +kernel
theorem dX9_readSample_96 : decode cX9_readSample 96 = .ok (.aload_n 0, 1) := by decide +kernel
theorem dX9_readSample_97 : decode cX9_readSample 97 = .ok (.getfield 25, 3) := by decide +kernel
theorem dX9_readSample_100 : decode cX9_readSample 100 = .ok (.aload_n 0, 1) := by decide +kernel
theorem dX9_readSample_101 : decode cX9_readSample 101 = .ok (.getfield 133, 3) := by decide +kernel
theorem dX9_readSample_104 : decode cX9_readSample 104 = .ok (.iaload, 1) := by decide +kernel
theorem dX9_readSample_105 : decode cX9_readSample 105 = .ok (.iadd, 1) := by decide +kernel
theorem dX9_readSample_106 : decode cX9_readSample 106 = .ok (.bipush 48, 2) := by decide +kernel
theorem dX9_readSample_108 : decode cX9_readSample 108 = .ok (.isub, 1) := by decide +kernel
theorem dX9_readSample_109 : decode cX9_readSample 109 = .ok (.istore_n 3, 1) := by decide +kernel
theorem dX9_readSample_110 : decode cX9_readSample 110 = .ok (.aload_n 0, 1) := by decide +kernel
theorem dX9_readSample_111 : decode cX9_readSample 111 = .ok (.dup, 1) := by decide +kernel
theorem dX9_readSample_112 : decode cX9_readSample 112 = .ok (.getfield 133, 3) := by decide +kernel
theorem dX9_readSample_115 : decode cX9_readSample 115 = .ok (.iconst 1, 1) := by decide +kernel
theorem dX9_readSample_116 : decode cX9_readSample 116 = .ok (.iadd, 1) := by decide +kernel
theorem dX9_readSample_117 : decode cX9_readSample 117 = .ok (.putfield 133, 3) := by decide +kernel
theorem dX9_readSample_120 : decode cX9_readSample 120 = .ok (.goto (-66), 3) := by decide +kernel
theorem dX9_readSample_123 : decode cX9_readSample 123 = .ok (.aload_n 0, 1) := by decide +kernel
theorem dX9_readSample_124 : decode cX9_readSample 124 = .ok (.bipush 115, 2) := by decide +kernel
theorem dX9_readSample_126 : decode cX9_readSample 126 = .ok (.iload_n 1, 1) := by decide +kernel
theorem dX9_readSample_127 : decode cX9_readSample 127 = .ok (.iload_n 2, 1) := by decide +kernel
theorem dX9_readSample_128 : decode cX9_readSample 128 = .ok (.ifCond .eq 8, 3) := by decide +kernel
theorem dX9_readSample_131 : decode cX9_readSample 131 = .ok (.iload_n 3, 1) := by decide +kernel
theorem dX9_readSample_132 : decode cX9_readSample 132 = .ok (.ineg, 1) := by decide +kernel
theorem dX9_readSample_133 : decode cX9_readSample 133 = .ok (.goto 4, 3) := by decide +kernel
theorem dX9_readSample_136 : decode cX9_readSample 136 = .ok (.iload_n 3, 1) := by decide +kernel
theorem dX9_readSample_137 : decode cX9_readSample 137 = .ok (.invokevirtual 145, 3) := by decide +kernel
theorem dX9_readSample_140 : decode cX9_readSample 140 = .ok (.iconst 1, 1) := by decide +kernel
theorem dX9_readSample_141 : decode cX9_readSample 141 = .ok (.ireturn, 1) := by decide +kernel
theorem dX9_readSamples_0 : decode cX9_readSamples 0 = .ok (.aload_n 0, 1) := by decide +kernel
theorem dX9_readSamples_1 : decode cX9_readSamples 1 = .ok (.getfield 25, 3) := by decide +kernel
theorem dX9_readSamples_4 : decode cX9_readSamples 4 = .ok (.aload_n 0, 1) := by decide +kernel
theorem dX9_readSamples_5 : decode cX9_readSamples 5 = .ok (.getfield 133, 3) := by decide +kernel
theorem dX9_readSamples_8 : decode cX9_readSamples 8 = .ok (.iconst 1, 1) := by decide +kernel
theorem dX9_readSamples_9 : decode cX9_readSamples 9 = .ok (.isub, 1) := by decide +kernel
theorem dX9_readSamples_10 : decode cX9_readSamples 10 = .ok (.iaload, 1) := by decide +kernel
theorem dX9_readSamples_11 : decode cX9_readSamples 11 = .ok (.bipush 48, 2) := by decide +kernel
theorem dX9_readSamples_13 : decode cX9_readSamples 13 = .ok (.isub, 1) := by decide +kernel
theorem dX9_readSamples_14 : decode cX9_readSamples 14 = .ok (.istore_n 1, 1) := by decide +kernel
theorem dX9_readSamples_15 : decode cX9_readSamples 15 = .ok (.aload_n 0, 1) := by decide +kernel
theorem dX9_readSamples_16 : decode cX9_readSamples 16 = .ok (.bipush 58, 2) := by decide +kernel
theorem dX9_readSamples_18 : decode cX9_readSamples 18 = .ok (.bipush 58, 2) := by decide +kernel
theorem dX9_readSamples_20 : decode cX9_readSamples 20 = .ok (.invokevirtual 142, 3) := by decide +kernel
theorem dX9_readSamples_23 : decode cX9_readSamples 23 = .ok (.ifCond .eq 15, 3) := by decide +kernel
theorem dX9_readSamples_26 : decode cX9_readSamples 26 = .ok (.aload_n 0, 1) := by decide +kernel
theorem dX9_readSamples_27 : decode cX9_readSamples 27 = .ok (.iload_n 1, 1) := by decide +kernel
theorem dX9_readSamples_28 : decode cX9_readSamples 28 = .ok (.invokevirtual 148, 3) := by decide +kernel
theorem dX9_readSamples_31 : decode cX9_readSamples 31 = .ok (.ifCond .eq 7, 3) := by decide +kernel
theorem dX9_readSamples_34 : decode cX9_readSamples 34 = .ok (.iconst 1, 1) := by decide +kernel
theorem dX9_readSamples_35 : decode cX9_readSamples 35 = .ok (.goto 4, 3) := by decide +kernel
theorem dX9_readSamples_38 : decode cX9_readSamples 38 = .ok (.iconst 0, 1) := by decide +kernel
theorem dX9_readSamples_39 : decode cX9_readSamples 39 = .ok (.istore_n 2, 1) := by decide +kernel
theorem dX9_readSamples_40 : decode cX9_readSamples 40 = .ok (.iload_n 2, 1) := by decide +kernel
theorem dX9_readSamples_41 : decode cX9_readSamples 41 = .ok (.ifCond .eq 23, 3) := by decide +kernel
theorem dX9_readSamples_44 : decode cX9_readSamples 44 = .ok (.aload_n 0, 1) := by decide +kernel
theorem dX9_readSamples_45 : decode cX9_readSamples 45 = .ok (.bipush 44, 2) := by decide +kernel
theorem dX9_readSamples_47 : decode cX9_readSamples 47 = .ok (.bipush 44, 2) := by decide +kernel
theorem dX9_readSamples_49 : decode cX9_readSamples 49 = .ok (.invokevirtual 142, 3) := by decide +kernel
theorem dX9_readSamples_52 : decode cX9_readSamples 52 = .ok (.ifCond .eq 12, 3) := by decide +kernel
theorem dX9_readSamples_55 : decode cX9_readSamples 55 = .ok (.aload_n 0, 1) := by decide +kernel
theorem dX9_readSamples_56 : decode cX9_readSamples 56 = .ok (.iload_n 1, 1) := by decide +kernel
theorem dX9_readSamples_57 : decode cX9_readSamples 57 = .ok (.invokevirtual 148, 3) := by decide +kernel
theorem dX9_readSamples_60 : decode cX9_readSamples 60 = .ok (.istore_n 2, 1) := by decide +kernel
theorem dX9_readSamples_61 : decode cX9_readSamples 61 = .ok (.goto (-21), 3) := by decide +kernel
theorem dX9_readSamples_64 : decode cX9_readSamples 64 = .ok (.iload_n 2, 1) := by decide +kernel
theorem dX9_readSamples_65 : decode cX9_readSamples 65 = .ok (.ireturn, 1) := by decide +kernel
theorem dX9_readPart_0 : decode cX9_readPart 0 = .ok (.aload_n 0, 1) := by decide +kernel
theorem dX9_readPart_1 : decode cX9_readPart 1 = .ok (.bipush 48, 2) := by decide +kernel
theorem dX9_readPart_3 : decode cX9_readPart 3 = .ok (.bipush 50, 2) := by decide +kernel
theorem dX9_readPart_5 : decode cX9_readPart 5 = .ok (.invokevirtual 142, 3) := by decide +kernel
theorem dX9_readPart_8 : decode cX9_readPart 8 = .ok (.ifCond .eq 8, 3) := by decide +kernel
theorem dX9_readPart_11 : decode cX9_readPart 11 = .ok (.aload_n 0, 1) := by decide +kernel
theorem dX9_readPart_12 : decode cX9_readPart 12 = .ok (.invokevirtual 151, 3) := by decide +kernel
theorem dX9_readPart_15 : decode cX9_readPart 15 = .ok (.ireturn, 1) := by decide +kernel
theorem dX9_readPart_16 : decode cX9_readPart 16 = .ok (.aload_n 0, 1) := by decide +kernel
theorem dX9_readPart_17 : decode cX9_readPart 17 = .ok (.bipush 100, 2) := by decide +kernel
theorem dX9_readPart_19 : decode cX9_readPart 19 = .ok (.bipush 100, 2) := by decide +kernel
theorem dX9_readPart_21 : decode cX9_readPart 21 = .ok (.invokevirtual 142, 3) := by decide +kernel
theorem dX9_readPart_24 : decode cX9_readPart 24 = .ok (.ifCond .ne 27, 3) := by decide +kernel
theorem dX9_readPart_27 : decode cX9_readPart 27 = .ok (.aload_n 0, 1) := by decide +kernel
theorem dX9_readPart_28 : decode cX9_readPart 28 = .ok (.bipush 108, 2) := by decide +kernel
theorem dX9_readPart_30 : decode cX9_readPart 30 = .ok (.bipush 108, 2) := by decide +kernel
theorem dX9_readPart_32 : decode cX9_readPart 32 = .ok (.invokevirtual 142, 3) := by decide +kernel
theorem dX9_readPart_35 : decode cX9_readPart 35 = .ok (.ifCond .ne 16, 3) := by decide +kernel
theorem dX9_readPart_38 : decode cX9_readPart 38 = .ok (.aload_n 0, 1) := by decide +kernel
theorem dX9_readPart_39 : decode cX9_readPart 39 = .ok (.bipush 120, 2) := by decide +kernel
theorem dX9_readPart_41 : decode cX9_readPart 41 = .ok (.bipush 120, 2) := by decide +kernel
theorem dX9_readPart_43 : decode cX9_readPart 43 = .ok (.invokevirtual 142, 3) := by decide +kernel
theorem dX9_readPart_46 : decode cX9_readPart 46 = .ok (.ifCond .ne 5, 3) := by decide +kernel
theorem dX9_readPart_49 : decode cX9_readPart 49 = .ok (.iconst 0, 1) := by decide +kernel
theorem dX9_readPart_50 : decode cX9_readPart 50 = .ok (.ireturn, 1) := by decide +kernel
theorem dX9_readPart_51 : decode cX9_readPart 51 = .ok (.aload_n 0, 1) := by decide +kernel
theorem dX9_readPart_52 : decode cX9_readPart 52 = .ok (.getfield 25, 3) := by decide +kernel
theorem dX9_readPart_55 : decode cX9_readPart 55 = .ok (.aload_n 0, 1) := by decide +kernel
theorem dX9_readPart_56 : decode cX9_readPart 56 = .ok (.getfield 133, 3) := by decide +kernel
theorem dX9_readPart_59 : decode cX9_readPart 59 = .ok (.iconst 1, 1) := by decide +kernel
theorem dX9_readPart_60 : decode cX9_readPart 60 = .ok (.isub, 1) := by decide +kernel
theorem dX9_readPart_61 : decode cX9_readPart 61 = .ok (.iaload, 1) := by decide +kernel
theorem dX9_readPart_62 : decode cX9_readPart 62 = .ok (.istore_n 1, 1) := by decide +kernel
theorem dX9_readPart_63 : decode cX9_readPart 63 = .ok (.aload_n 0, 1) := by decide +kernel
theorem dX9_readPart_64 : decode cX9_readPart 64 = .ok (.bipush 48, 2) := by decide +kernel
theorem dX9_readPart_66 : decode cX9_readPart 66 = .ok (.bipush 50, 2) := by decide +kernel
theorem dX9_readPart_68 : decode cX9_readPart 68 = .ok (.invokevirtual 142, 3) := by decide +kernel
theorem dX9_readPart_71 : decode cX9_readPart 71 = .ok (.ifCond .ne 5, 3) := by decide +kernel
theorem dX9_readPart_74 : decode cX9_readPart 74 = .ok (.iconst 0, 1) := by decide +kernel
theorem dX9_readPart_75 : decode cX9_readPart 75 = .ok (.ireturn, 1) := by decide +kernel
theorem dX9_readPart_76 : decode cX9_readPart 76 = .ok (.aload_n 0, 1) := by decide +kernel
theorem dX9_readPart_77 : decode cX9_readPart 77 = .ok (.iload_n 1, 1) := by decide +kernel
theorem dX9_readPart_78 : decode cX9_readPart 78 = .ok (.aload_n 0, 1) := by decide +kernel
theorem dX9_readPart_79 : decode cX9_readPart 79 = .ok (.getfield 25, 3) := by decide +kernel
theorem dX9_readPart_82 : decode cX9_readPart 82 = .ok (.aload_n 0, 1) := by decide +kernel
theorem dX9_readPart_83 : decode cX9_readPart 83 = .ok (.getfield 133, 3) := by decide +kernel
theorem dX9_readPart_86 : decode cX9_readPart 86 = .ok (.iconst 1, 1) := by decide +kernel
theorem dX9_readPart_87 : decode cX9_readPart 87 = .ok (.isub, 1) := by decide +kernel
theorem dX9_readPart_88 : decode cX9_readPart 88 = .ok (.iaload, 1) := by decide +kernel
theorem dX9_readPart_89 : decode cX9_readPart 89 = .ok (.bipush 48, 2) := by decide +kernel
theorem dX9_readPart_91 : decode cX9_readPart 91 = .ok (.isub, 1) := by decide +kernel
theorem dX9_readPart_92 : decode cX9_readPart 92 = .ok (.iconst 0, 1) := by decide +kernel
theorem dX9_readPart_93 : decode cX9_readPart 93 = .ok (.invokevirtual 145, 3) := by decide +kernel
theorem dX9_readPart_96 : decode cX9_readPart 96 = .ok (.iconst 1, 1) := by decide +kernel
theorem dX9_readPart_97 : decode cX9_readPart 97 = .ok (.ireturn, 1) := by decide +kernel
theorem dX9_isTalk_0 : decode cX9_isTalk 0 = .ok (.aload_n 0, 1) := by decide +kernel
theorem dX9_isTalk_1 : decode cX9_isTalk 1 = .ok (.iconst 0, 1) := by decide +kernel
theorem dX9_isTalk_2 : decode cX9_isTalk 2 = .ok (.putfield 133, 3) := by decide +kernel
theorem dX9_isTalk_5 : decode cX9_isTalk 5 = .ok (.aload_n 0, 1) := by decide +kernel
theorem dX9_isTalk_6 : decode cX9_isTalk 6 = .ok (.iconst 0, 1) := by decide +kernel
theorem dX9_isTalk_7 : decode cX9_isTalk 7 = .ok (.putfield 139, 3) := by decide +kernel
theorem dX9_isTalk_10 : decode cX9_isTalk 10 = .ok (.aload_n 0, 1) := by decide +kernel
theorem dX9_isTalk_11 : decode cX9_isTalk 11 = .ok (.invokevirtual 155, 3) := by decide +kernel
theorem dX9_isTalk_14 : decode cX9_isTalk 14 = .ok (.istore_n 1, 1) := by decide +kernel
theorem dX9_isTalk_15 : decode cX9_isTalk 15 = .ok (.iload_n 1, 1) := by decide +kernel
theorem dX9_isTalk_16 : decode cX9_isTalk 16 = .ok (.ifCond .eq 22, 3) := by decide +kernel
theorem dX9_isTalk_19 : decode cX9_isTalk 19 = .ok (.aload_n 0, 1) := by decide +kernel
theorem dX9_isTalk_20 : decode cX9_isTalk 20 = .ok (.bipush 59, 2) := by decide +kernel
theorem dX9_isTalk_22 : decode cX9_isTalk 22 = .ok (.bipush 59, 2) := by decide +kernel
theorem dX9_isTalk_24 : decode cX9_isTalk 24 = .ok (.invokevirtual 142, 3) := by decide +kernel
theorem dX9_isTalk_27 : decode cX9_isTalk 27 = .ok (.ifCond .eq 11, 3) := by decide +kernel
theorem dX9_isTalk_30 : decode cX9_isTalk 30 = .ok (.aload_n 0, 1) := by decide +kernel
theorem dX9_isTalk_31 : decode cX9_isTalk 31 = .ok (.invokevirtual 155, 3) := by decide +kernel
theorem dX9_isTalk_34 : decode cX9_isTalk 34 = .ok (.istore_n 1, 1) := by decide +kernel
theorem dX9_isTalk_35 : decode cX9_isTalk 35 = .ok (.goto (-20), 3) := by decide +kernel
theorem dX9_isTalk_38 : decode cX9_isTalk 38 = .ok (.iload_n 1, 1) := by decide +kernel
theorem dX9_isTalk_39 : decode cX9_isTalk 39 = .ok (.ifCond .eq 18, 3) := by decide +kernel
theorem dX9_isTalk_42 : decode cX9_isTalk 42 = .ok (.aload_n 0, 1) := by decide +kernel
theorem dX9_isTalk_43 : decode cX9_isTalk 43 = .ok (.getfield 133, 3) := by decide +kernel
theorem dX9_isTalk_46 : decode cX9_isTalk 46 = .ok (.aload_n 0, 1) := by decide +kernel
theorem dX9_isTalk_47 : decode cX9_isTalk 47 = .ok (.getfield 130, 3) := by decide +kernel
theorem dX9_isTalk_50 : decode cX9_isTalk 50 = .ok (.if_icmp .ne 7, 3) := by decide +kernel
theorem dX9_isTalk_53 : decode cX9_isTalk 53 = .ok (.iconst 1, 1) := by decide +kernel
theorem dX9_isTalk_54 : decode cX9_isTalk 54 = .ok (.goto 4, 3) := by decide +kernel
theorem dX9_isTalk_57 : decode cX9_isTalk 57 = .ok (.iconst 0, 1) := by decide +kernel
theorem dX9_isTalk_58 : decode cX9_isTalk 58 = .ok (.ireturn, 1) := by decide +kernel
theorem dX9_firstError_0 : decode cX9_firstError 0 = .ok (.aload_n 0, 1) := by decide +kernel
theorem dX9_firstError_1 : decode cX9_firstError 1 = .ok (.iconst 0, 1) := by decide +kernel
theorem dX9_firstError_2 : decode cX9_firstError 2 = .ok (.putfield 37, 3) := by decide +kernel
theorem dX9_firstError_5 : decode cX9_firstError 5 = .ok (.aload_n 0, 1) := by decide +kernel
theorem dX9_firstError_6 : decode cX9_firstError 6 = .ok (.invokevirtual 158, 3) := by decide +kernel
theorem dX9_firstError_9 : decode cX9_firstError 9 = .ok (.ifCond .eq 10, 3) := by decide +kernel
theorem dX9_firstError_12 : decode cX9_firstError 12 = .ok (.aload_n 0, 1) := by decide +kernel
theorem dX9_firstError_13 : decode cX9_firstError 13 = .ok (.getfield 130, 3) := by decide +kernel
theorem dX9_firstError_16 : decode cX9_firstError 16 = .ok (.goto 7, 3) := by decide +kernel
theorem dX9_firstError_19 : decode cX9_firstError 19 = .ok (.aload_n 0, 1) := by decide +kernel
theorem dX9_firstError_20 : decode cX9_firstError 20 = .ok (.getfield 133, 3) := by decide +kernel
theorem dX9_firstError_23 : decode cX9_firstError 23 = .ok (.ireturn, 1) := by decide +kernel
theorem dX9_canDo_0 : decode cX9_canDo 0 = .ok (.aload_n 0, 1) := by decide +kernel
theorem dX9_canDo_1 : decode cX9_canDo 1 = .ok (.aload_n 0, 1) := by decide +kernel
theorem dX9_canDo_2 : decode cX9_canDo 2 = .ok (.getfield 31, 3) := by decide +kernel
theorem dX9_canDo_5 : decode cX9_canDo 5 = .ok (.iload_n 1, 1) := by decide +kernel
theorem dX9_canDo_6 : decode cX9_canDo 6 = .ok (.iaload, 1) := by decide +kernel
theorem dX9_canDo_7 : decode cX9_canDo 7 = .ok (.bipush 38, 2) := by decide +kernel
theorem dX9_canDo_9 : decode cX9_canDo 9 = .ok (.invokevirtual 52, 3) := by decide +kernel
theorem dX9_canDo_12 : decode cX9_canDo 12 = .ok (.istore_n 2, 1) := by decide +kernel
theorem dX9_canDo_13 : decode cX9_canDo 13 = .ok (.aload_n 0, 1) := by decide +kernel
theorem dX9_canDo_14 : decode cX9_canDo 14 = .ok (.getfield 28, 3) := by decide +kernel
theorem dX9_canDo_17 : decode cX9_canDo 17 = .ok (.iload_n 1, 1) := by decide +kernel
theorem dX9_canDo_18 : decode cX9_canDo 18 = .ok (.iaload, 1) := by decide +kernel
theorem dX9_canDo_19 : decode cX9_canDo 19 = .ok (.bipush 115, 2) := by decide +kernel
theorem dX9_canDo_21 : decode cX9_canDo 21 = .ok (.if_icmp .ne 16, 3) := by decide +kernel
theorem dX9_canDo_24 : decode cX9_canDo 24 = .ok (.aload_n 0, 1) := by decide +kernel
theorem dX9_canDo_25 : decode cX9_canDo 25 = .ok (.aload_n 0, 1) := by decide +kernel
theorem dX9_canDo_26 : decode cX9_canDo 26 = .ok (.getfield 31, 3) := by decide +kernel
theorem dX9_canDo_29 : decode cX9_canDo 29 = .ok (.iload_n 1, 1) := by decide +kernel
theorem dX9_canDo_30 : decode cX9_canDo 30 = .ok (.iaload, 1) := by decide +kernel
theorem dX9_canDo_31 : decode cX9_canDo 31 = .ok (.invokevirtual 99, 3) := by decide +kernel
theorem dX9_canDo_34 : decode cX9_canDo 34 = .ok (.goto 28, 3) := by decide +kernel
theorem dX9_canDo_37 : decode cX9_canDo 37 = .ok (.iload_n 2, 1) := by decide +kernel
theorem dX9_canDo_38 : decode cX9_canDo 38 = .ok (.aload_n 0, 1) := by decide +kernel
theorem dX9_canDo_39 : decode cX9_canDo 39 = .ok (.getfield 28, 3) := by decide +kernel
theorem dX9_canDo_42 : decode cX9_canDo 42 = .ok (.iload_n 1, 1) := by decide +kernel
theorem dX9_canDo_43 : decode cX9_canDo 43 = .ok (.iaload, 1) := by decide +kernel
theorem dX9_canDo_44 : decode cX9_canDo 44 = .ok (.bipush 120, 2) := by decide +kernel
theorem dX9_canDo_46 : decode cX9_canDo 46 = .ok (.if_icmp .ne 7, 3) := by decide +kernel
theorem dX9_canDo_49 : decode cX9_canDo 49 = .ok (.iconst 1, 1) := by decide +kernel
theorem dX9_canDo_50 : decode cX9_canDo 50 = .ok (.goto 4, 3) := by decide +kernel
theorem dX9_canDo_53 : decode cX9_canDo 53 = .ok (.iconst 0, 1) := by decide +kernel
theorem dX9_canDo_54 : decode cX9_canDo 54 = .ok (.if_icmp .le 7, 3) := by decide +kernel
theorem dX9_canDo_57 : decode cX9_canDo 57 = .ok (.iconst 1, 1) := by decide +kernel
theorem dX9_canDo_58 : decode cX9_canDo 58 = .ok (.goto 4, 3) := by decide +kernel
theorem dX9_canDo_61 : decode cX9_canDo 61 = .ok (.iconst 0, 1) := by decide +kernel
theorem dX9_canDo_62 : decode cX9_canDo 62 = .ok (.ireturn, 1) := by decide +kernel
theorem dX9_doDeed_0 : decode cX9_doDeed 0 = .ok (.aload_n 0, 1) := by decide +kernel
theorem dX9_doDeed_1 : decode cX9_doDeed 1 = .ok (.getfield 31, 3) := by decide +kernel
theorem dX9_doDeed_4 : decode cX9_doDeed 4 = .ok (.iload_n 1, 1) := by decide +kernel
theorem dX9_doDeed_5 : decode cX9_doDeed 5 = .ok (.iaload, 1) := by decide +kernel
theorem dX9_doDeed_6 : decode cX9_doDeed 6 = .ok (.istore_n 2, 1) := by decide +kernel
theorem dX9_doDeed_7 : decode cX9_doDeed 7 = .ok (.aload_n 0, 1) := by decide +kernel
theorem dX9_doDeed_8 : decode cX9_doDeed 8 = .ok (.getfield 28, 3) := by decide +kernel
theorem dX9_doDeed_11 : decode cX9_doDeed 11 = .ok (.iload_n 1, 1) := by decide +kernel
theorem dX9_doDeed_12 : decode cX9_doDeed 12 = .ok (.iaload, 1) := by decide +kernel
theorem dX9_doDeed_13 : decode cX9_doDeed 13 = .ok (.lookupswitch 59 #[(100, 47), (108, 53), (115, 35)], 35) := by decide +kernel
theorem dX9_doDeed_48 : decode cX9_doDeed 48 = .ok (.aload_n 0, 1) := by decide +kernel
theorem dX9_doDeed_49 : decode cX9_doDeed 49 = .ok (.iload_n 2, 1) := by decide +kernel
theorem dX9_doDeed_50 : decode cX9_doDeed 50 = .ok (.aload_n 0, 1) := by decide +kernel
theorem dX9_doDeed_51 : decode cX9_doDeed 51 = .ok (.getfield 34, 3) := by decide +kernel
theorem dX9_doDeed_54 : decode cX9_doDeed 54 = .ok (.iload_n 1, 1) := by decide +kernel
theorem dX9_doDeed_55 : decode cX9_doDeed 55 = .ok (.iaload, 1) := by decide +kernel
theorem dX9_doDeed_56 : decode cX9_doDeed 56 = .ok (.invokevirtual 105, 3) := by decide +kernel
theorem dX9_doDeed_59 : decode cX9_doDeed 59 = .ok (.ireturn, 1) := by decide +kernel
theorem dX9_doDeed_60 : decode cX9_doDeed 60 = .ok (.aload_n 0, 1) := by decide +kernel
theorem dX9_doDeed_61 : decode cX9_doDeed 61 = .ok (.iload_n 2, 1) := by decide +kernel
theorem dX9_doDeed_62 : decode cX9_doDeed 62 = .ok (.invokevirtual 117, 3) := by decide +kernel
theorem dX9_doDeed_65 : decode cX9_doDeed 65 = .ok (.ireturn, 1) := by decide +kernel
theorem dX9_doDeed_66 : decode cX9_doDeed 66 = .ok (.aload_n 0, 1) := by decide +kernel
theorem dX9_doDeed_67 : decode cX9_doDeed 67 = .ok (.iload_n 2, 1) := by decide +kernel
theorem dX9_doDeed_68 : decode cX9_doDeed 68 = .ok (.invokevirtual 120, 3) := by decide +kernel
theorem dX9_doDeed_71 : decode cX9_doDeed 71 = .ok (.ireturn, 1) := by decide +kernel
theorem dX9_doDeed_72 : decode cX9_doDeed 72 = .ok (.aload_n 0, 1) := by decide +kernel
theorem dX9_doDeed_73 : decode cX9_doDeed 73 = .ok (.iload_n 2, 1) := by decide +kernel
theorem dX9_doDeed_74 : decode cX9_doDeed 74 = .ok (.invokevirtual 123, 3) := by decide +kernel
theorem dX9_doDeed_77 : decode cX9_doDeed 77 = .ok (.ireturn, 1) := by decide +kernel
theorem dX9_talk_0 : decode cX9_talk 0 = .ok (.aload_n 0, 1) := by decide +kernel
theorem dX9_talk_1 : decode cX9_talk 1 = .ok (.iconst 0, 1) := by decide +kernel
theorem dX9_talk_2 : decode cX9_talk 2 = .ok (.putfield 37, 3) := by decide +kernel
theorem dX9_talk_5 : decode cX9_talk 5 = .ok (.aload_n 0, 1) := by decide +kernel
theorem dX9_talk_6 : decode cX9_talk 6 = .ok (.invokevirtual 158, 3) := by decide +kernel
theorem dX9_talk_9 : decode cX9_talk 9 = .ok (.ifCond .ne 9, 3) := by decide +kernel
theorem dX9_talk_12 : decode cX9_talk 12 = .ok (.aload_n 0, 1) := by decide +kernel
theorem dX9_talk_13 : decode cX9_talk 13 = .ok (.iconst 1, 1) := by decide +kernel
theorem dX9_talk_14 : decode cX9_talk 14 = .ok (.invokevirtual 93, 3) := by decide +kernel
theorem dX9_talk_17 : decode cX9_talk 17 = .ok (.ireturn, 1) := by decide +kernel
theorem dX9_talk_18 : decode cX9_talk 18 = .ok (.aload_n 0, 1) := by decide +kernel
theorem dX9_talk_19 : decode cX9_talk 19 = .ok (.invokevirtual 102, 3) := by decide +kernel
theorem dX9_talk_22 : decode cX9_talk 22 = .ok (.iconst 0, 1) := by decide +kernel
theorem dX9_talk_23 : decode cX9_talk 23 = .ok (.istore_n 1, 1) := by decide +kernel
theorem dX9_talk_24 : decode cX9_talk 24 = .ok (.iload_n 1, 1) := by decide +kernel
theorem dX9_talk_25 : decode cX9_talk 25 = .ok (.aload_n 0, 1) := by decide +kernel
theorem dX9_talk_26 : decode cX9_talk 26 = .ok (.getfield 139, 3) := by decide +kernel
theorem dX9_talk_29 : decode cX9_talk 29 = .ok (.if_icmp .ge 23, 3) := by decide +kernel
theorem dX9_talk_32 : decode cX9_talk 32 = .ok (.aload_n 0, 1) := by decide +kernel
theorem dX9_talk_33 : decode cX9_talk 33 = .ok (.iload_n 1, 1) := by decide +kernel
theorem dX9_talk_34 : decode cX9_talk 34 = .ok (.invokevirtual 161, 3) := by decide +kernel
theorem dX9_talk_37 : decode cX9_talk 37 = .ok (.ifCond .eq 15, 3) := by decide +kernel
theorem dX9_talk_40 : decode cX9_talk 40 = .ok (.aload_n 0, 1) := by decide +kernel
theorem dX9_talk_41 : decode cX9_talk 41 = .ok (.iload_n 1, 1) := by decide +kernel
theorem dX9_talk_42 : decode cX9_talk 42 = .ok (.invokevirtual 164, 3) := by decide +kernel
theorem dX9_talk_45 : decode cX9_talk 45 = .ok (.istore_n 2, 1) := by decide +kernel
theorem dX9_talk_46 : decode cX9_talk 46 = .ok (.iinc 1 1, 3) := by decide +kernel
theorem dX9_talk_49 : decode cX9_talk 49 = .ok (.goto (-25), 3) := by decide +kernel
theorem dX9_talk_52 : decode cX9_talk 52 = .ok (.aload_n 0, 1) := by decide +kernel
theorem dX9_talk_53 : decode cX9_talk 53 = .ok (.iconst 0, 1) := by decide +kernel
theorem dX9_talk_54 : decode cX9_talk 54 = .ok (.putfield 130, 3) := by decide +kernel
theorem dX9_talk_57 : decode cX9_talk 57 = .ok (.iload_n 1, 1) := by decide +kernel
theorem dX9_talk_58 : decode cX9_talk 58 = .ok (.ireturn, 1) := by decide +kernel
theorem dX9_keep_0 : decode cX9_keep 0 = .ok (.aload_n 0, 1) := by decide +kernel
theorem dX9_keep_1 : decode cX9_keep 1 = .ok (.iconst 0, 1) := by decide +kernel
theorem dX9_keep_2 : decode cX9_keep 2 = .ok (.putfield 37, 3) := by decide +kernel
theorem dX9_keep_5 : decode cX9_keep 5 = .ok (.iconst 0, 1) := by decide +kernel
theorem dX9_keep_6 : decode cX9_keep 6 = .ok (.istore_n 1, 1) := by decide +kernel
theorem dX9_keep_7 : decode cX9_keep 7 = .ok (.iload_n 1, 1) := by decide +kernel
theorem dX9_keep_8 : decode cX9_keep 8 = .ok (.sipush 626, 3) := by decide +kernel
theorem dX9_keep_11 : decode cX9_keep 11 = .ok (.if_icmp .ge 21, 3) := by decide +kernel
theorem dX9_keep_14 : decode cX9_keep 14 = .ok (.aload_n 0, 1) := by decide +kernel
theorem dX9_keep_15 : decode cX9_keep 15 = .ok (.getfield 16, 3) := by decide +kernel
theorem dX9_keep_18 : decode cX9_keep 18 = .ok (.iload_n 1, 1) := by decide +kernel
theorem dX9_keep_19 : decode cX9_keep 19 = .ok (.aload_n 0, 1) := by decide +kernel
theorem dX9_keep_20 : decode cX9_keep 20 = .ok (.getfield 7, 3) := by decide +kernel
theorem dX9_keep_23 : decode cX9_keep 23 = .ok (.iload_n 1, 1) := by decide +kernel
theorem dX9_keep_24 : decode cX9_keep 24 = .ok (.iaload, 1) := by decide +kernel
theorem dX9_keep_25 : decode cX9_keep 25 = .ok (.iastore, 1) := by decide +kernel
theorem dX9_keep_26 : decode cX9_keep 26 = .ok (.iinc 1 1, 3) := by decide +kernel
theorem dX9_keep_29 : decode cX9_keep 29 = .ok (.goto (-22), 3) := by decide +kernel
theorem dX9_keep_32 : decode cX9_keep 32 = .ok (.aload_n 0, 1) := by decide +kernel
theorem dX9_keep_33 : decode cX9_keep 33 = .ok (.iconst 1, 1) := by decide +kernel
theorem dX9_keep_34 : decode cX9_keep 34 = .ok (.putfield 167, 3) := by decide +kernel
theorem dX9_keep_37 : decode cX9_keep 37 = .ok (.aload_n 0, 1) := by decide +kernel
theorem dX9_keep_38 : decode cX9_keep 38 = .ok (.getfield 7, 3) := by decide +kernel
theorem dX9_keep_41 : decode cX9_keep 41 = .ok (.iconst 4, 1) := by decide +kernel
theorem dX9_keep_42 : decode cX9_keep 42 = .ok (.iaload, 1) := by decide +kernel
theorem dX9_keep_43 : decode cX9_keep 43 = .ok (.ireturn, 1) := by decide +kernel
theorem dX9_goBack_0 : decode cX9_goBack 0 = .ok (.aload_n 0, 1) := by decide +kernel
theorem dX9_goBack_1 : decode cX9_goBack 1 = .ok (.iconst 0, 1) := by decide +kernel
theorem dX9_goBack_2 : decode cX9_goBack 2 = .ok (.putfield 37, 3) := by decide +kernel
theorem dX9_goBack_5 : decode cX9_goBack 5 = .ok (.aload_n 0, 1) := by decide +kernel
theorem dX9_goBack_6 : decode cX9_goBack 6 = .ok (.getfield 167, 3) := by decide +kernel
theorem dX9_goBack_9 : decode cX9_goBack 9 = .ok (.ifCond .ne 9, 3) := by decide +kernel
theorem dX9_goBack_12 : decode cX9_goBack 12 = .ok (.aload_n 0, 1) := by decide +kernel
theorem dX9_goBack_13 : decode cX9_goBack 13 = .ok (.iconst 1, 1) := by decide +kernel
theorem dX9_goBack_14 : decode cX9_goBack 14 = .ok (.invokevirtual 93, 3) := by decide +kernel
theorem dX9_goBack_17 : decode cX9_goBack 17 = .ok (.ireturn, 1) := by decide +kernel
theorem dX9_goBack_18 : decode cX9_goBack 18 = .ok (.aload_n 0, 1) := by decide +kernel
theorem dX9_goBack_19 : decode cX9_goBack 19 = .ok (.invokevirtual 102, 3) := by decide +kernel
theorem dX9_goBack_22 : decode cX9_goBack 22 = .ok (.iconst 0, 1) := by decide +kernel
theorem dX9_goBack_23 : decode cX9_goBack 23 = .ok (.istore_n 1, 1) := by decide +kernel
theorem dX9_goBack_24 : decode cX9_goBack 24 = .ok (.iload_n 1, 1) := by decide +kernel
theorem dX9_goBack_25 : decode cX9_goBack 25 = .ok (.sipush 626, 3) := by decide +kernel
theorem dX9_goBack_28 : decode cX9_goBack 28 = .ok (.if_icmp .ge 21, 3) := by decide +kernel
theorem dX9_goBack_31 : decode cX9_goBack 31 = .ok (.aload_n 0, 1) := by decide +kernel
theorem dX9_goBack_32 : decode cX9_goBack 32 = .ok (.getfield 7, 3) := by decide +kernel
theorem dX9_goBack_35 : decode cX9_goBack 35 = .ok (.iload_n 1, 1) := by decide +kernel
theorem dX9_goBack_36 : decode cX9_goBack 36 = .ok (.aload_n 0, 1) := by decide +kernel
theorem dX9_goBack_37 : decode cX9_goBack 37 = .ok (.getfield 16, 3) := by decide +kernel
theorem dX9_goBack_40 : decode cX9_goBack 40 = .ok (.iload_n 1, 1) := by decide +kernel
theorem dX9_goBack_41 : decode cX9_goBack 41 = .ok (.iaload, 1) := by decide +kernel
theorem dX9_goBack_42 : decode cX9_goBack 42 = .ok (.iastore, 1) := by decide +kernel
theorem dX9_goBack_43 : decode cX9_goBack 43 = .ok (.iinc 1 1, 3) := by decide +kernel
theorem dX9_goBack_46 : decode cX9_goBack 46 = .ok (.goto (-22), 3) := by decide +kernel
theorem dX9_goBack_49 : decode cX9_goBack 49 = .ok (.aload_n 0, 1) := by decide +kernel
theorem dX9_goBack_50 : decode cX9_goBack 50 = .ok (.getfield 7, 3) := by decide +kernel
theorem dX9_goBack_53 : decode cX9_goBack 53 = .ok (.iconst 4, 1) := by decide +kernel
theorem dX9_goBack_54 : decode cX9_goBack 54 = .ok (.iaload, 1) := by decide +kernel
theorem dX9_goBack_55 : decode cX9_goBack 55 = .ok (.ireturn, 1) := by decide +kernel
theorem dX9_undo_0 : decode cX9_undo 0 = .ok (.aload_n 0, 1) := by decide +kernel
theorem dX9_undo_1 : decode cX9_undo 1 = .ok (.iconst 0, 1) := by decide +kernel
theorem dX9_undo_2 : decode cX9_undo 2 = .ok (.putfield 37, 3) := by decide +kernel
theorem dX9_undo_5 : decode cX9_undo 5 = .ok (.aload_n 0, 1) := by decide +kernel
theorem dX9_undo_6 : decode cX9_undo 6 = .ok (.getfield 45, 3) := by decide +kernel
theorem dX9_undo_9 : decode cX9_undo 9 = .ok (.ifCond .ne 9, 3) := by decide +kernel
theorem dX9_undo_12 : decode cX9_undo 12 = .ok (.aload_n 0, 1) := by decide +kernel
theorem dX9_undo_13 : decode cX9_undo 13 = .ok (.iconst 1, 1) := by decide +kernel
theorem dX9_undo_14 : decode cX9_undo 14 = .ok (.invokevirtual 93, 3) := by decide +kernel
theorem dX9_undo_17 : decode cX9_undo 17 = .ok (.ireturn, 1) := by decide +kernel
theorem dX9_undo_18 : decode cX9_undo 18 = .ok (.aload_n 0, 1) := by decide +kernel
theorem dX9_undo_19 : decode cX9_undo 19 = .ok (.dup, 1) := by decide +kernel
theorem dX9_undo_20 : decode cX9_undo 20 = .ok (.getfield 45, 3) := by decide +kernel
theorem dX9_undo_23 : decode cX9_undo 23 = .ok (.iconst 1, 1) := by decide +kernel
theorem dX9_undo_24 : decode cX9_undo 24 = .ok (.isub, 1) := by decide +kernel
theorem dX9_undo_25 : decode cX9_undo 25 = .ok (.putfield 45, 3) := by decide +kernel
theorem dX9_undo_28 : decode cX9_undo 28 = .ok (.iconst 0, 1) := by decide +kernel
theorem dX9_undo_29 : decode cX9_undo 29 = .ok (.istore_n 1, 1) := by decide +kernel
theorem dX9_undo_30 : decode cX9_undo 30 = .ok (.iload_n 1, 1) := by decide +kernel
theorem dX9_undo_31 : decode cX9_undo 31 = .ok (.sipush 626, 3) := by decide +kernel
theorem dX9_undo_34 : decode cX9_undo 34 = .ok (.if_icmp .ge 30, 3) := by decide +kernel
theorem dX9_undo_37 : decode cX9_undo 37 = .ok (.aload_n 0, 1) := by decide +kernel
theorem dX9_undo_38 : decode cX9_undo 38 = .ok (.getfield 7, 3) := by decide +kernel
theorem dX9_undo_41 : decode cX9_undo 41 = .ok (.iload_n 1, 1) := by decide +kernel
theorem dX9_undo_42 : decode cX9_undo 42 = .ok (.aload_n 0, 1) := by decide +kernel
theorem dX9_undo_43 : decode cX9_undo 43 = .ok (.getfield 13, 3) := by decide +kernel
theorem dX9_undo_46 : decode cX9_undo 46 = .ok (.sipush 626, 3) := by decide +kernel
theorem dX9_undo_49 : decode cX9_undo 49 = .ok (.aload_n 0, 1) := by decide +kernel
theorem dX9_undo_50 : decode cX9_undo 50 = .ok (.getfield 45, 3) := by decide +kernel
theorem dX9_undo_53 : decode cX9_undo 53 = .ok (.imul, 1) := by decide +kernel
theorem dX9_undo_54 : decode cX9_undo 54 = .ok (.iload_n 1, 1) := by decide +kernel
theorem dX9_undo_55 : decode cX9_undo 55 = .ok (.iadd, 1) := by decide +kernel
theorem dX9_undo_56 : decode cX9_undo 56 = .ok (.iaload, 1) := by decide +kernel
theorem dX9_undo_57 : decode cX9_undo 57 = .ok (.iastore, 1) := by decide +kernel
theorem dX9_undo_58 : decode cX9_undo 58 = .ok (.iinc 1 1, 3) := by decide +kernel
theorem dX9_undo_61 : decode cX9_undo 61 = .ok (.goto (-31), 3) := by decide +kernel
theorem dX9_undo_64 : decode cX9_undo 64 = .ok (.aload_n 0, 1) := by decide +kernel
theorem dX9_undo_65 : decode cX9_undo 65 = .ok (.getfield 45, 3) := by decide +kernel
theorem dX9_undo_68 : decode cX9_undo 68 = .ok (.ireturn, 1) := by decide +kernel
theorem dX9_ofSaying_0 : decode cX9_ofSaying 0 = .ok (.iload_n 2, 1) := by decide +kernel
theorem dX9_ofSaying_1 : decode cX9_ofSaying 1 = .ok (.tableswitch 121 0 8 #[51, 58, 65, 77, 84, 91, 98, 106, 114], 51) := by decide +kernel
theorem dX9_ofSaying_52 : decode cX9_ofSaying 52 = .ok (.aload_n 0, 1) := by decide +kernel
theorem dX9_ofSaying_53 : decode cX9_ofSaying 53 = .ok (.iload_n 1, 1) := by decide +kernel
theorem dX9_ofSaying_54 : decode cX9_ofSaying 54 = .ok (.iconst 0, 1) := by decide +kernel
theorem dX9_ofSaying_55 : decode cX9_ofSaying 55 = .ok (.invokevirtual 52, 3) := by decide +kernel
theorem dX9_ofSaying_58 : decode cX9_ofSaying 58 = .ok (.ireturn, 1) := by decide +kernel
theorem dX9_ofSaying_59 : decode cX9_ofSaying 59 = .ok (.aload_n 0, 1) := by decide +kernel
theorem dX9_ofSaying_60 : decode cX9_ofSaying 60 = .ok (.iload_n 1, 1) := by decide +kernel
theorem dX9_ofSaying_61 : decode cX9_ofSaying 61 = .ok (.iconst 1, 1) := by decide +kernel
theorem dX9_ofSaying_62 : decode cX9_ofSaying 62 = .ok (.invokevirtual 52, 3) := by decide +kernel
theorem dX9_ofSaying_65 : decode cX9_ofSaying 65 = .ok (.ireturn, 1) := by decide +kernel
theorem dX9_ofSaying_66 : decode cX9_ofSaying 66 = .ok (.aload_n 0, 1) := by decide +kernel
theorem dX9_ofSaying_67 : decode cX9_ofSaying 67 = .ok (.getfield 22, 3) := by decide +kernel
theorem dX9_ofSaying_70 : decode cX9_ofSaying 70 = .ok (.aload_n 0, 1) := by decide +kernel
theorem dX9_ofSaying_71 : decode cX9_ofSaying 71 = .ok (.iload_n 1, 1) := by decide +kernel
theorem dX9_ofSaying_72 : decode cX9_ofSaying 72 = .ok (.iconst 1, 1) := by decide +kernel
theorem dX9_ofSaying_73 : decode cX9_ofSaying 73 = .ok (.invokevirtual 52, 3) := by decide +kernel
theorem dX9_ofSaying_76 : decode cX9_ofSaying 76 = .ok (.iaload, 1) := by decide +kernel
theorem dX9_ofSaying_77 : decode cX9_ofSaying 77 = .ok (.ireturn, 1) := by decide +kernel
theorem dX9_ofSaying_78 : decode cX9_ofSaying 78 = .ok (.aload_n 0, 1) := by decide +kernel
theorem dX9_ofSaying_79 : decode cX9_ofSaying 79 = .ok (.iload_n 1, 1) := by decide +kernel
theorem dX9_ofSaying_80 : decode cX9_ofSaying 80 = .ok (.iconst 2, 1) := by decide +kernel
theorem dX9_ofSaying_81 : decode cX9_ofSaying 81 = .ok (.invokevirtual 52, 3) := by decide +kernel
theorem dX9_ofSaying_84 : decode cX9_ofSaying 84 = .ok (.ireturn, 1) := by decide +kernel
theorem dX9_ofSaying_85 : decode cX9_ofSaying 85 = .ok (.aload_n 0, 1) := by decide +kernel
theorem dX9_ofSaying_86 : decode cX9_ofSaying 86 = .ok (.iload_n 1, 1) := by decide +kernel
theorem dX9_ofSaying_87 : decode cX9_ofSaying 87 = .ok (.iconst 3, 1) := by decide +kernel
theorem dX9_ofSaying_88 : decode cX9_ofSaying 88 = .ok (.invokevirtual 52, 3) := by decide +kernel
theorem dX9_ofSaying_91 : decode cX9_ofSaying 91 = .ok (.ireturn, 1) := by decide +kernel
theorem dX9_ofSaying_92 : decode cX9_ofSaying 92 = .ok (.aload_n 0, 1) := by decide +kernel
theorem dX9_ofSaying_93 : decode cX9_ofSaying 93 = .ok (.iload_n 1, 1) := by decide +kernel
theorem dX9_ofSaying_94 : decode cX9_ofSaying 94 = .ok (.iconst 4, 1) := by decide +kernel
theorem dX9_ofSaying_95 : decode cX9_ofSaying 95 = .ok (.invokevirtual 52, 3) := by decide +kernel
theorem dX9_ofSaying_98 : decode cX9_ofSaying 98 = .ok (.ireturn, 1) := by decide +kernel
theorem dX9_ofSaying_99 : decode cX9_ofSaying 99 = .ok (.aload_n 0, 1) := by decide +kernel
theorem dX9_ofSaying_100 : decode cX9_ofSaying 100 = .ok (.iload_n 1, 1) := by decide +kernel
theorem dX9_ofSaying_101 : decode cX9_ofSaying 101 = .ok (.bipush 21, 2) := by decide +kernel
theorem dX9_ofSaying_103 : decode cX9_ofSaying 103 = .ok (.invokevirtual 52, 3) := by decide +kernel
theorem dX9_ofSaying_106 : decode cX9_ofSaying 106 = .ok (.ireturn, 1) := by decide +kernel
theorem dX9_ofSaying_107 : decode cX9_ofSaying 107 = .ok (.aload_n 0, 1) := by decide +kernel
theorem dX9_ofSaying_108 : decode cX9_ofSaying 108 = .ok (.iload_n 1, 1) := by decide +kernel
theorem dX9_ofSaying_109 : decode cX9_ofSaying 109 = .ok (.bipush 22, 2) := by decide +kernel
theorem dX9_ofSaying_111 : decode cX9_ofSaying 111 = .ok (.invokevirtual 52, 3) := by decide +kernel
theorem dX9_ofSaying_114 : decode cX9_ofSaying 114 = .ok (.ireturn, 1) := by decide +kernel
theorem dX9_ofSaying_115 : decode cX9_ofSaying 115 = .ok (.aload_n 0, 1) := by decide +kernel
theorem dX9_ofSaying_116 : decode cX9_ofSaying 116 = .ok (.iload_n 1, 1) := by decide +kernel
theorem dX9_ofSaying_117 : decode cX9_ofSaying 117 = .ok (.iconst 0, 1) := by decide +kernel
theorem dX9_ofSaying_118 : decode cX9_ofSaying 118 = .ok (.invokevirtual 52, 3) := by decide +kernel
theorem dX9_ofSaying_121 : decode cX9_ofSaying 121 = .ok (.ireturn, 1) := by decide +kernel
theorem dX9_ofSaying_122 : decode cX9_ofSaying 122 = .ok (.aload_n 0, 1) := by decide +kernel
theorem dX9_ofSaying_123 : decode cX9_ofSaying 123 = .ok (.iload_n 1, 1) := by decide +kernel
theorem dX9_ofSaying_124 : decode cX9_ofSaying 124 = .ok (.bipush 38, 2) := by decide +kernel
theorem dX9_ofSaying_126 : decode cX9_ofSaying 126 = .ok (.invokevirtual 52, 3) := by decide +kernel
theorem dX9_ofSaying_129 : decode cX9_ofSaying 129 = .ok (.ireturn, 1) := by decide +kernel
theorem dX9_saying_0 : decode cX9_saying 0 = .ok (.aload_n 0, 1) := by decide +kernel
theorem dX9_saying_1 : decode cX9_saying 1 = .ok (.iconst 0, 1) := by decide +kernel
theorem dX9_saying_2 : decode cX9_saying 2 = .ok (.putfield 37, 3) := by decide +kernel
theorem dX9_saying_5 : decode cX9_saying 5 = .ok (.iload_n 1, 1) := by decide +kernel
theorem dX9_saying_6 : decode cX9_saying 6 = .ok (.invokestatic 90, 3) := by decide +kernel
theorem dX9_saying_9 : decode cX9_saying 9 = .ok (.ifCond .ne 9, 3) := by decide +kernel
theorem dX9_saying_12 : decode cX9_saying 12 = .ok (.aload_n 0, 1) := by decide +kernel
theorem dX9_saying_13 : decode cX9_saying 13 = .ok (.iconst 1, 1) := by decide +kernel
theorem dX9_saying_14 : decode cX9_saying 14 = .ok (.invokevirtual 93, 3) := by decide +kernel
theorem dX9_saying_17 : decode cX9_saying 17 = .ok (.ireturn, 1) := by decide +kernel
theorem dX9_saying_18 : decode cX9_saying 18 = .ok (.iload_n 2, 1) := by decide +kernel
theorem dX9_saying_19 : decode cX9_saying 19 = .ok (.iconst 0, 1) := by decide +kernel
theorem dX9_saying_20 : decode cX9_saying 20 = .ok (.bipush 9, 2) := by decide +kernel
theorem dX9_saying_22 : decode cX9_saying 22 = .ok (.invokestatic 41, 3) := by decide +kernel
theorem dX9_saying_25 : decode cX9_saying 25 = .ok (.ifCond .eq 12, 3) := by decide +kernel
theorem dX9_saying_28 : decode cX9_saying 28 = .ok (.aload_n 0, 1) := by decide +kernel
theorem dX9_saying_29 : decode cX9_saying 29 = .ok (.iload_n 1, 1) := by decide +kernel
theorem dX9_saying_30 : decode cX9_saying 30 = .ok (.iload_n 2, 1) := by decide +kernel
theorem dX9_saying_31 : decode cX9_saying 31 = .ok (.invokevirtual 171, 3) := by decide +kernel
theorem dX9_saying_34 : decode cX9_saying 34 = .ok (.goto 8, 3) := by decide +kernel
theorem dX9_saying_37 : decode cX9_saying 37 = .ok (.aload_n 0, 1) := by decide +kernel
theorem dX9_saying_38 : decode cX9_saying 38 = .ok (.iconst 2, 1) := by decide +kernel
theorem dX9_saying_39 : decode cX9_saying 39 = .ok (.invokevirtual 93, 3) := by decide +kernel
theorem dX9_saying_42 : decode cX9_saying 42 = .ok (.ireturn, 1) := by decide +kernel
theorem dX9_ofHearing_0 : decode cX9_ofHearing 0 = .ok (.iload_n 2, 1) := by decide +kernel
theorem dX9_ofHearing_1 : decode cX9_ofHearing 1 = .ok (.tableswitch 152 0 10 #[59, 67, 75, 88, 96, 104, 112, 120, 128, 136, 144], 59) := by decide +kernel
theorem dX9_ofHearing_60 : decode cX9_ofHearing 60 = .ok (.aload_n 0, 1) := by decide +kernel
theorem dX9_ofHearing_61 : decode cX9_ofHearing 61 = .ok (.iload_n 1, 1) := by decide +kernel
theorem dX9_ofHearing_62 : decode cX9_ofHearing 62 = .ok (.bipush 26, 2) := by decide +kernel
theorem dX9_ofHearing_64 : decode cX9_ofHearing 64 = .ok (.invokevirtual 52, 3) := by decide +kernel
theorem dX9_ofHearing_67 : decode cX9_ofHearing 67 = .ok (.ireturn, 1) := by decide +kernel
theorem dX9_ofHearing_68 : decode cX9_ofHearing 68 = .ok (.aload_n 0, 1) := by decide +kernel
theorem dX9_ofHearing_69 : decode cX9_ofHearing 69 = .ok (.iload_n 1, 1) := by decide +kernel
theorem dX9_ofHearing_70 : decode cX9_ofHearing 70 = .ok (.bipush 27, 2) := by decide +kernel
theorem dX9_ofHearing_72 : decode cX9_ofHearing 72 = .ok (.invokevirtual 52, 3) := by decide +kernel
theorem dX9_ofHearing_75 : decode cX9_ofHearing 75 = .ok (.ireturn, 1) := by decide +kernel
theorem dX9_ofHearing_76 : decode cX9_ofHearing 76 = .ok (.aload_n 0, 1) := by decide +kernel
theorem dX9_ofHearing_77 : decode cX9_ofHearing 77 = .ok (.getfield 22, 3) := by decide +kernel
theorem dX9_ofHearing_80 : decode cX9_ofHearing 80 = .ok (.aload_n 0, 1) := by decide +kernel
theorem dX9_ofHearing_81 : decode cX9_ofHearing 81 = .ok (.iload_n 1, 1) := by decide +kernel
theorem dX9_ofHearing_82 : decode cX9_ofHearing 82 = .ok (.bipush 27, 2) := by decide +kernel
theorem dX9_ofHearing_84 : decode cX9_ofHearing 84 = .ok (.invokevirtual 52, 3) := by decide +kernel
theorem dX9_ofHearing_87 : decode cX9_ofHearing 87 = .ok (.iaload, 1) := by decide +kernel
theorem dX9_ofHearing_88 : decode cX9_ofHearing 88 = .ok (.ireturn, 1) := by decide +kernel
theorem dX9_ofHearing_89 : decode cX9_ofHearing 89 = .ok (.aload_n 0, 1) := by decide +kernel
theorem dX9_ofHearing_90 : decode cX9_ofHearing 90 = .ok (.iload_n 1, 1) := by decide +kernel
theorem dX9_ofHearing_91 : decode cX9_ofHearing 91 = .ok (.bipush 28, 2) := by decide +kernel
theorem dX9_ofHearing_93 : decode cX9_ofHearing 93 = .ok (.invokevirtual 52, 3) := by decide +kernel
theorem dX9_ofHearing_96 : decode cX9_ofHearing 96 = .ok (.ireturn, 1) := by decide +kernel
theorem dX9_ofHearing_97 : decode cX9_ofHearing 97 = .ok (.aload_n 0, 1) := by decide +kernel
theorem dX9_ofHearing_98 : decode cX9_ofHearing 98 = .ok (.iload_n 1, 1) := by decide +kernel
theorem dX9_ofHearing_99 : decode cX9_ofHearing 99 = .ok (.bipush 29, 2) := by decide +kernel
theorem dX9_ofHearing_101 : decode cX9_ofHearing 101 = .ok (.invokevirtual 52, 3) := by decide +kernel
theorem dX9_ofHearing_104 : decode cX9_ofHearing 104 = .ok (.ireturn, 1) := by decide +kernel
theorem dX9_ofHearing_105 : decode cX9_ofHearing 105 = .ok (.aload_n 0, 1) := by decide +kernel
theorem dX9_ofHearing_106 : decode cX9_ofHearing 106 = .ok (.iload_n 1, 1) := by decide +kernel
theorem dX9_ofHearing_107 : decode cX9_ofHearing 107 = .ok (.bipush 30, 2) := by decide +kernel
theorem dX9_ofHearing_109 : decode cX9_ofHearing 109 = .ok (.invokevirtual 52, 3) := by decide +kernel
theorem dX9_ofHearing_112 : decode cX9_ofHearing 112 = .ok (.ireturn, 1) := by decide +kernel
theorem dX9_ofHearing_113 : decode cX9_ofHearing 113 = .ok (.aload_n 0, 1) := by decide +kernel
theorem dX9_ofHearing_114 : decode cX9_ofHearing 114 = .ok (.iload_n 1, 1) := by decide +kernel
theorem dX9_ofHearing_115 : decode cX9_ofHearing 115 = .ok (.bipush 31, 2) := by decide +kernel
theorem dX9_ofHearing_117 : decode cX9_ofHearing 117 = .ok (.invokevirtual 52, 3) := by decide +kernel
theorem dX9_ofHearing_120 : decode cX9_ofHearing 120 = .ok (.ireturn, 1) := by decide +kernel
theorem dX9_ofHearing_121 : decode cX9_ofHearing 121 = .ok (.aload_n 0, 1) := by decide +kernel
theorem dX9_ofHearing_122 : decode cX9_ofHearing 122 = .ok (.iload_n 1, 1) := by decide +kernel
theorem dX9_ofHearing_123 : decode cX9_ofHearing 123 = .ok (.bipush 32, 2) := by decide +kernel
theorem dX9_ofHearing_125 : decode cX9_ofHearing 125 = .ok (.invokevirtual 52, 3) := by decide +kernel
theorem dX9_ofHearing_128 : decode cX9_ofHearing 128 = .ok (.ireturn, 1) := by decide +kernel
theorem dX9_ofHearing_129 : decode cX9_ofHearing 129 = .ok (.aload_n 0, 1) := by decide +kernel
theorem dX9_ofHearing_130 : decode cX9_ofHearing 130 = .ok (.iload_n 1, 1) := by decide +kernel
theorem dX9_ofHearing_131 : decode cX9_ofHearing 131 = .ok (.bipush 33, 2) := by decide +kernel
theorem dX9_ofHearing_133 : decode cX9_ofHearing 133 = .ok (.invokevirtual 52, 3) := by decide +kernel
theorem dX9_ofHearing_136 : decode cX9_ofHearing 136 = .ok (.ireturn, 1) := by decide +kernel
theorem dX9_ofHearing_137 : decode cX9_ofHearing 137 = .ok (.aload_n 0, 1) := by decide +kernel
theorem dX9_ofHearing_138 : decode cX9_ofHearing 138 = .ok (.iload_n 1, 1) := by decide +kernel
theorem dX9_ofHearing_139 : decode cX9_ofHearing 139 = .ok (.bipush 34, 2) := by decide +kernel
theorem dX9_ofHearing_141 : decode cX9_ofHearing 141 = .ok (.invokevirtual 52, 3) := by decide +kernel
theorem dX9_ofHearing_144 : decode cX9_ofHearing 144 = .ok (.ireturn, 1) := by decide +kernel
theorem dX9_ofHearing_145 : decode cX9_ofHearing 145 = .ok (.aload_n 0, 1) := by decide +kernel
theorem dX9_ofHearing_146 : decode cX9_ofHearing 146 = .ok (.iload_n 1, 1) := by decide +kernel
theorem dX9_ofHearing_147 : decode cX9_ofHearing 147 = .ok (.bipush 35, 2) := by decide +kernel
theorem dX9_ofHearing_149 : decode cX9_ofHearing 149 = .ok (.invokevirtual 52, 3) := by decide +kernel
theorem dX9_ofHearing_152 : decode cX9_ofHearing 152 = .ok (.ireturn, 1) := by decide +kernel
theorem dX9_ofHearing_153 : decode cX9_ofHearing 153 = .ok (.aload_n 0, 1) := by decide +kernel
theorem dX9_ofHearing_154 : decode cX9_ofHearing 154 = .ok (.iload_n 1, 1) := by decide +kernel
theorem dX9_ofHearing_155 : decode cX9_ofHearing 155 = .ok (.bipush 36, 2) := by decide +kernel
theorem dX9_ofHearing_157 : decode cX9_ofHearing 157 = .ok (.invokevirtual 52, 3) := by decide +kernel
theorem dX9_ofHearing_160 : decode cX9_ofHearing 160 = .ok (.ireturn, 1) := by decide +kernel
theorem dX9_hearing_0 : decode cX9_hearing 0 = .ok (.aload_n 0, 1) := by decide +kernel
theorem dX9_hearing_1 : decode cX9_hearing 1 = .ok (.iconst 0, 1) := by decide +kernel
theorem dX9_hearing_2 : decode cX9_hearing 2 = .ok (.putfield 37, 3) := by decide +kernel
theorem dX9_hearing_5 : decode cX9_hearing 5 = .ok (.iload_n 1, 1) := by decide +kernel
theorem dX9_hearing_6 : decode cX9_hearing 6 = .ok (.invokestatic 90, 3) := by decide +kernel
theorem dX9_hearing_9 : decode cX9_hearing 9 = .ok (.ifCond .ne 9, 3) := by decide +kernel
theorem dX9_hearing_12 : decode cX9_hearing 12 = .ok (.aload_n 0, 1) := by decide +kernel
theorem dX9_hearing_13 : decode cX9_hearing 13 = .ok (.iconst 1, 1) := by decide +kernel
theorem dX9_hearing_14 : decode cX9_hearing 14 = .ok (.invokevirtual 93, 3) := by decide +kernel
theorem dX9_hearing_17 : decode cX9_hearing 17 = .ok (.ireturn, 1) := by decide +kernel
theorem dX9_hearing_18 : decode cX9_hearing 18 = .ok (.iload_n 2, 1) := by decide +kernel
theorem dX9_hearing_19 : decode cX9_hearing 19 = .ok (.iconst 0, 1) := by decide +kernel
theorem dX9_hearing_20 : decode cX9_hearing 20 = .ok (.bipush 11, 2) := by decide +kernel
theorem dX9_hearing_22 : decode cX9_hearing 22 = .ok (.invokestatic 41, 3) := by decide +kernel
theorem dX9_hearing_25 : decode cX9_hearing 25 = .ok (.ifCond .eq 12, 3) := by decide +kernel
theorem dX9_hearing_28 : decode cX9_hearing 28 = .ok (.aload_n 0, 1) := by decide +kernel
theorem dX9_hearing_29 : decode cX9_hearing 29 = .ok (.iload_n 1, 1) := by decide +kernel
theorem dX9_hearing_30 : decode cX9_hearing 30 = .ok (.iload_n 2, 1) := by decide +kernel
theorem dX9_hearing_31 : decode cX9_hearing 31 = .ok (.invokevirtual 174, 3) := by decide +kernel
theorem dX9_hearing_34 : decode cX9_hearing 34 = .ok (.goto 8, 3) := by decide +kernel
theorem dX9_hearing_37 : decode cX9_hearing 37 = .ok (.aload_n 0, 1) := by decide +kernel
theorem dX9_hearing_38 : decode cX9_hearing 38 = .ok (.iconst 2, 1) := by decide +kernel
theorem dX9_hearing_39 : decode cX9_hearing 39 = .ok (.invokevirtual 93, 3) := by decide +kernel
theorem dX9_hearing_42 : decode cX9_hearing 42 = .ok (.ireturn, 1) := by decide +kernel
theorem dX9_ofPacket_0 : decode cX9_ofPacket 0 = .ok (.iload_n 1, 1) := by decide +kernel
theorem dX9_ofPacket_1 : decode cX9_ofPacket 1 = .ok (.iload_n 2, 1) := by decide +kernel
theorem dX9_ofPacket_2 : decode cX9_ofPacket 2 = .ok (.invokestatic 71, 3) := by decide +kernel
theorem dX9_ofPacket_5 : decode cX9_ofPacket 5 = .ok (.istore 4, 2) := by decide +kernel
theorem dX9_ofPacket_7 : decode cX9_ofPacket 7 = .ok (.iload_n 3, 1) := by decide +kernel
theorem dX9_ofPacket_8 : decode cX9_ofPacket 8 = .ok (.tableswitch 86 0 4 #[36, 46, 56, 66, 76], 36) := by decide +kernel
theorem dX9_ofPacket_44 : decode cX9_ofPacket 44 = .ok (.aload_n 0, 1) := by decide +kernel
theorem dX9_ofPacket_45 : decode cX9_ofPacket 45 = .ok (.getfield 7, 3) := by decide +kernel
theorem dX9_ofPacket_48 : decode cX9_ofPacket 48 = .ok (.iload 4, 2) := by decide +kernel
theorem dX9_ofPacket_50 : decode cX9_ofPacket 50 = .ok (.iconst 0, 1) := by decide +kernel
theorem dX9_ofPacket_51 : decode cX9_ofPacket 51 = .ok (.iadd, 1) := by decide +kernel
theorem dX9_ofPacket_52 : decode cX9_ofPacket 52 = .ok (.iaload, 1) := by decide +kernel
theorem dX9_ofPacket_53 : decode cX9_ofPacket 53 = .ok (.ireturn, 1) := by decide +kernel
theorem dX9_ofPacket_54 : decode cX9_ofPacket 54 = .ok (.aload_n 0, 1) := by decide +kernel
theorem dX9_ofPacket_55 : decode cX9_ofPacket 55 = .ok (.getfield 7, 3) := by decide +kernel
theorem dX9_ofPacket_58 : decode cX9_ofPacket 58 = .ok (.iload 4, 2) := by decide +kernel
theorem dX9_ofPacket_60 : decode cX9_ofPacket 60 = .ok (.iconst 1, 1) := by decide +kernel
theorem dX9_ofPacket_61 : decode cX9_ofPacket 61 = .ok (.iadd, 1) := by decide +kernel
theorem dX9_ofPacket_62 : decode cX9_ofPacket 62 = .ok (.iaload, 1) := by decide +kernel
theorem dX9_ofPacket_63 : decode cX9_ofPacket 63 = .ok (.ireturn, 1) := by decide +kernel
theorem dX9_ofPacket_64 : decode cX9_ofPacket 64 = .ok (.aload_n 0, 1) := by decide +kernel
theorem dX9_ofPacket_65 : decode cX9_ofPacket 65 = .ok (.getfield 7, 3) := by decide +kernel
theorem dX9_ofPacket_68 : decode cX9_ofPacket 68 = .ok (.iload 4, 2) := by decide +kernel
theorem dX9_ofPacket_70 : decode cX9_ofPacket 70 = .ok (.iconst 2, 1) := by decide +kernel
theorem dX9_ofPacket_71 : decode cX9_ofPacket 71 = .ok (.iadd, 1) := by decide +kernel
theorem dX9_ofPacket_72 : decode cX9_ofPacket 72 = .ok (.iaload, 1) := by decide +kernel
theorem dX9_ofPacket_73 : decode cX9_ofPacket 73 = .ok (.ireturn, 1) := by decide +kernel
theorem dX9_ofPacket_74 : decode cX9_ofPacket 74 = .ok (.aload_n 0, 1) := by decide +kernel
theorem dX9_ofPacket_75 : decode cX9_ofPacket 75 = .ok (.getfield 7, 3) := by decide +kernel
theorem dX9_ofPacket_78 : decode cX9_ofPacket 78 = .ok (.iload 4, 2) := by decide +kernel
theorem dX9_ofPacket_80 : decode cX9_ofPacket 80 = .ok (.iconst 3, 1) := by decide +kernel
theorem dX9_ofPacket_81 : decode cX9_ofPacket 81 = .ok (.iadd, 1) := by decide +kernel
theorem dX9_ofPacket_82 : decode cX9_ofPacket 82 = .ok (.iaload, 1) := by decide +kernel
theorem dX9_ofPacket_83 : decode cX9_ofPacket 83 = .ok (.ireturn, 1) := by decide +kernel
theorem dX9_ofPacket_84 : decode cX9_ofPacket 84 = .ok (.aload_n 0, 1) := by decide +kernel
theorem dX9_ofPacket_85 : decode cX9_ofPacket 85 = .ok (.getfield 7, 3) := by decide +kernel
theorem dX9_ofPacket_88 : decode cX9_ofPacket 88 = .ok (.iload 4, 2) := by decide +kernel
theorem dX9_ofPacket_90 : decode cX9_ofPacket 90 = .ok (.iconst 4, 1) := by decide +kernel
theorem dX9_ofPacket_91 : decode cX9_ofPacket 91 = .ok (.iadd, 1) := by decide +kernel
theorem dX9_ofPacket_92 : decode cX9_ofPacket 92 = .ok (.iaload, 1) := by decide +kernel
theorem dX9_ofPacket_93 : decode cX9_ofPacket 93 = .ok (.ireturn, 1) := by decide +kernel
theorem dX9_ofPacket_94 : decode cX9_ofPacket 94 = .ok (.iconst 0, 1) := by decide +kernel
theorem dX9_ofPacket_95 : decode cX9_ofPacket 95 = .ok (.istore 5, 2) := by decide +kernel
theorem dX9_ofPacket_97 : decode cX9_ofPacket 97 = .ok (.iconst 0, 1) := by decide +kernel
theorem dX9_ofPacket_98 : decode cX9_ofPacket 98 = .ok (.istore 6, 2) := by decide +kernel
theorem dX9_ofPacket_100 : decode cX9_ofPacket 100 = .ok (.iload 6, 2) := by decide +kernel
theorem dX9_ofPacket_102 : decode cX9_ofPacket 102 = .ok (.aload_n 0, 1) := by decide +kernel
theorem dX9_ofPacket_103 : decode cX9_ofPacket 103 = .ok (.getfield 7, 3) := by decide +kernel
theorem dX9_ofPacket_106 : decode cX9_ofPacket 106 = .ok (.iload 4, 2) := by decide +kernel
theorem dX9_ofPacket_108 : decode cX9_ofPacket 108 = .ok (.iconst 1, 1) := by decide +kernel
theorem dX9_ofPacket_109 : decode cX9_ofPacket 109 = .ok (.iadd, 1) := by decide +kernel
theorem dX9_ofPacket_110 : decode cX9_ofPacket 110 = .ok (.iaload, 1) := by decide +kernel
theorem dX9_ofPacket_111 : decode cX9_ofPacket 111 = .ok (.if_icmp .ge 29, 3) := by decide +kernel
theorem dX9_ofPacket_114 : decode cX9_ofPacket 114 = .ok (.bipush 16, 2) := by decide +kernel
theorem dX9_ofPacket_116 : decode cX9_ofPacket 116 = .ok (.iload 5, 2) := by decide +kernel
theorem dX9_ofPacket_118 : decode cX9_ofPacket 118 = .ok (.imul, 1) := by decide +kernel
theorem dX9_ofPacket_119 : decode cX9_ofPacket 119 = .ok (.aload_n 0, 1) := by decide +kernel
theorem dX9_ofPacket_120 : decode cX9_ofPacket 120 = .ok (.getfield 7, 3) := by decide +kernel
theorem dX9_ofPacket_123 : decode cX9_ofPacket 123 = .ok (.iload 4, 2) := by decide +kernel
theorem dX9_ofPacket_125 : decode cX9_ofPacket 125 = .ok (.iconst 5, 1) := by decide +kernel
theorem dX9_ofPacket_126 : decode cX9_ofPacket 126 = .ok (.iadd, 1) := by decide +kernel
theorem dX9_ofPacket_127 : decode cX9_ofPacket 127 = .ok (.iload 6, 2) := by decide +kernel
theorem dX9_ofPacket_129 : decode cX9_ofPacket 129 = .ok (.iadd, 1) := by decide +kernel
theorem dX9_ofPacket_130 : decode cX9_ofPacket 130 = .ok (.iaload, 1) := by decide +kernel
theorem dX9_ofPacket_131 : decode cX9_ofPacket 131 = .ok (.iadd, 1) := by decide +kernel
theorem dX9_ofPacket_132 : decode cX9_ofPacket 132 = .ok (.istore 5, 2) := by decide +kernel
theorem dX9_ofPacket_134 : decode cX9_ofPacket 134 = .ok (.iinc 6 1, 3) := by decide +kernel
theorem dX9_ofPacket_137 : decode cX9_ofPacket 137 = .ok (.goto (-37), 3) := by decide +kernel
theorem dX9_ofPacket_140 : decode cX9_ofPacket 140 = .ok (.iload 5, 2) := by decide +kernel
theorem dX9_ofPacket_142 : decode cX9_ofPacket 142 = .ok (.ireturn, 1) := by decide +kernel
theorem dX9_packet_0 : decode cX9_packet 0 = .ok (.aload_n 0, 1) := by decide +kernel
theorem dX9_packet_1 : decode cX9_packet 1 = .ok (.iconst 0, 1) := by decide +kernel
theorem dX9_packet_2 : decode cX9_packet 2 = .ok (.putfield 37, 3) := by decide +kernel
theorem dX9_packet_5 : decode cX9_packet 5 = .ok (.iload_n 1, 1) := by decide +kernel
theorem dX9_packet_6 : decode cX9_packet 6 = .ok (.invokestatic 90, 3) := by decide +kernel
theorem dX9_packet_9 : decode cX9_packet 9 = .ok (.ifCond .eq 20, 3) := by decide +kernel
theorem dX9_packet_12 : decode cX9_packet 12 = .ok (.iload_n 2, 1) := by decide +kernel
theorem dX9_packet_13 : decode cX9_packet 13 = .ok (.iconst 0, 1) := by decide +kernel
theorem dX9_packet_14 : decode cX9_packet 14 = .ok (.aload_n 0, 1) := by decide +kernel
theorem dX9_packet_15 : decode cX9_packet 15 = .ok (.iload_n 1, 1) := by decide +kernel
theorem dX9_packet_16 : decode cX9_packet 16 = .ok (.bipush 38, 2) := by decide +kernel
theorem dX9_packet_18 : decode cX9_packet 18 = .ok (.invokevirtual 52, 3) := by decide +kernel
theorem dX9_packet_21 : decode cX9_packet 21 = .ok (.iconst 1, 1) := by decide +kernel
theorem dX9_packet_22 : decode cX9_packet 22 = .ok (.isub, 1) := by decide +kernel
theorem dX9_packet_23 : decode cX9_packet 23 = .ok (.invokestatic 41, 3) := by decide +kernel
theorem dX9_packet_26 : decode cX9_packet 26 = .ok (.ifCond .ne 9, 3) := by decide +kernel
theorem dX9_packet_29 : decode cX9_packet 29 = .ok (.aload_n 0, 1) := by decide +kernel
theorem dX9_packet_30 : decode cX9_packet 30 = .ok (.iconst 1, 1) := by decide +kernel
theorem dX9_packet_31 : decode cX9_packet 31 = .ok (.invokevirtual 93, 3) := by decide +kernel
theorem dX9_packet_34 : decode cX9_packet 34 = .ok (.ireturn, 1) := by decide +kernel
theorem dX9_packet_35 : decode cX9_packet 35 = .ok (.iload_n 3, 1) := by decide +kernel
theorem dX9_packet_36 : decode cX9_packet 36 = .ok (.iconst 0, 1) := by decide +kernel
theorem dX9_packet_37 : decode cX9_packet 37 = .ok (.iconst 5, 1) := by decide +kernel
theorem dX9_packet_38 : decode cX9_packet 38 = .ok (.invokestatic 41, 3) := by decide +kernel
theorem dX9_packet_41 : decode cX9_packet 41 = .ok (.ifCond .eq 13, 3) := by decide +kernel
theorem dX9_packet_44 : decode cX9_packet 44 = .ok (.aload_n 0, 1) := by decide +kernel
theorem dX9_packet_45 : decode cX9_packet 45 = .ok (.iload_n 1, 1) := by decide +kernel
theorem dX9_packet_46 : decode cX9_packet 46 = .ok (.iload_n 2, 1) := by decide +kernel
theorem dX9_packet_47 : decode cX9_packet 47 = .ok (.iload_n 3, 1) := by decide +kernel
theorem dX9_packet_48 : decode cX9_packet 48 = .ok (.invokevirtual 177, 3) := by decide +kernel
theorem dX9_packet_51 : decode cX9_packet 51 = .ok (.goto 8, 3) := by decide +kernel
theorem dX9_packet_54 : decode cX9_packet 54 = .ok (.aload_n 0, 1) := by decide +kernel
theorem dX9_packet_55 : decode cX9_packet 55 = .ok (.iconst 2, 1) := by decide +kernel
theorem dX9_packet_56 : decode cX9_packet 56 = .ok (.invokevirtual 93, 3) := by decide +kernel
theorem dX9_packet_59 : decode cX9_packet 59 = .ok (.ireturn, 1) := by decide +kernel
theorem dX9_deliverAll_0 : decode cX9_deliverAll 0 = .ok (.aload_n 0, 1) := by decide +kernel
theorem dX9_deliverAll_1 : decode cX9_deliverAll 1 = .ok (.iload_n 1, 1) := by decide +kernel
theorem dX9_deliverAll_2 : decode cX9_deliverAll 2 = .ok (.bipush 38, 2) := by decide +kernel
theorem dX9_deliverAll_4 : decode cX9_deliverAll 4 = .ok (.invokevirtual 52, 3) := by decide +kernel
theorem dX9_deliverAll_7 : decode cX9_deliverAll 7 = .ok (.ifCond .le 12, 3) := by decide +kernel
theorem dX9_deliverAll_10 : decode cX9_deliverAll 10 = .ok (.aload_n 0, 1) := by decide +kernel
theorem dX9_deliverAll_11 : decode cX9_deliverAll 11 = .ok (.iload_n 1, 1) := by decide +kernel
theorem dX9_deliverAll_12 : decode cX9_deliverAll 12 = .ok (.invokevirtual 117, 3) := by decide +kernel
theorem dX9_deliverAll_15 : decode cX9_deliverAll 15 = .ok (.istore_n 2, 1) := by decide +kernel
theorem dX9_deliverAll_16 : decode cX9_deliverAll 16 = .ok (.goto (-16), 3) := by decide +kernel
theorem dX9_deliverAll_19 : decode cX9_deliverAll 19 = .ok (.return_, 1) := by decide +kernel
theorem dX9_reason_0 : decode cX9_reason 0 = .ok (.aload_n 0, 1) := by decide +kernel
theorem dX9_reason_1 : decode cX9_reason 1 = .ok (.invokevirtual 180, 3) := by decide +kernel
theorem dX9_reason_4 : decode cX9_reason 4 = .ok (.aload_n 0, 1) := by decide +kernel
theorem dX9_reason_5 : decode cX9_reason 5 = .ok (.iload_n 1, 1) := by decide +kernel
theorem dX9_reason_6 : decode cX9_reason 6 = .ok (.bipush 31, 2) := by decide +kernel
theorem dX9_reason_8 : decode cX9_reason 8 = .ok (.invokevirtual 52, 3) := by decide +kernel
theorem dX9_reason_11 : decode cX9_reason 11 = .ok (.istore_n 2, 1) := by decide +kernel
theorem dX9_reason_12 : decode cX9_reason 12 = .ok (.aload_n 0, 1) := by decide +kernel
theorem dX9_reason_13 : decode cX9_reason 13 = .ok (.iload_n 1, 1) := by decide +kernel
theorem dX9_reason_14 : decode cX9_reason 14 = .ok (.bipush 30, 2) := by decide +kernel
theorem dX9_reason_16 : decode cX9_reason 16 = .ok (.invokevirtual 52, 3) := by decide +kernel
theorem dX9_reason_19 : decode cX9_reason 19 = .ok (.istore_n 3, 1) := by decide +kernel
theorem dX9_reason_20 : decode cX9_reason 20 = .ok (.aload_n 0, 1) := by decide +kernel
theorem dX9_reason_21 : decode cX9_reason 21 = .ok (.iload_n 1, 1) := by decide +kernel
theorem dX9_reason_22 : decode cX9_reason 22 = .ok (.invokevirtual 183, 3) := by decide +kernel
theorem dX9_reason_25 : decode cX9_reason 25 = .ok (.aload_n 0, 1) := by decide +kernel
theorem dX9_reason_26 : decode cX9_reason 26 = .ok (.iload_n 1, 1) := by decide +kernel
theorem dX9_reason_27 : decode cX9_reason 27 = .ok (.bipush 31, 2) := by decide +kernel
theorem dX9_reason_29 : decode cX9_reason 29 = .ok (.invokevirtual 52, 3) := by decide +kernel
theorem dX9_reason_32 : decode cX9_reason 32 = .ok (.iload_n 2, 1) := by decide +kernel
theorem dX9_reason_33 : decode cX9_reason 33 = .ok (.if_icmp .gt 31, 3) := by decide +kernel
theorem dX9_reason_36 : decode cX9_reason 36 = .ok (.aload_n 0, 1) := by decide +kernel
theorem dX9_reason_37 : decode cX9_reason 37 = .ok (.iload_n 1, 1) := by decide +kernel
theorem dX9_reason_38 : decode cX9_reason 38 = .ok (.bipush 30, 2) := by decide +kernel
theorem dX9_reason_40 : decode cX9_reason 40 = .ok (.invokevirtual 52, 3) := by decide +kernel
theorem dX9_reason_43 : decode cX9_reason 43 = .ok (.iload_n 3, 1) := by decide +kernel
theorem dX9_reason_44 : decode cX9_reason 44 = .ok (.if_icmp .gt 20, 3) := by decide +kernel
theorem dX9_reason_47 : decode cX9_reason 47 = .ok (.aload_n 0, 1) := by decide +kernel
theorem dX9_reason_48 : decode cX9_reason 48 = .ok (.iload_n 1, 1) := by decide +kernel
theorem dX9_reason_49 : decode cX9_reason 49 = .ok (.bipush 28, 2) := by decide +kernel
theorem dX9_reason_51 : decode cX9_reason 51 = .ok (.invokevirtual 52, 3) := by decide +kernel
theorem dX9_reason_54 : decode cX9_reason 54 = .ok (.aload_n 0, 1) := by decide +kernel
theorem dX9_reason_55 : decode cX9_reason 55 = .ok (.iload_n 1, 1) := by decide +kernel
theorem dX9_reason_56 : decode cX9_reason 56 = .ok (.bipush 21, 2) := by decide +kernel
theorem dX9_reason_58 : decode cX9_reason 58 = .ok (.invokevirtual 52, 3) := by decide +kernel
theorem dX9_reason_61 : decode cX9_reason 61 = .ok (.if_icmp .eq 7, 3) := by decide +kernel
theorem dX9_reason_64 : decode cX9_reason 64 = .ok (.iconst 1, 1) := by decide +kernel
theorem dX9_reason_65 : decode cX9_reason 65 = .ok (.goto 4, 3) := by decide +kernel
theorem dX9_reason_68 : decode cX9_reason 68 = .ok (.iconst 0, 1) := by decide +kernel
theorem dX9_reason_69 : decode cX9_reason 69 = .ok (.istore 4, 2) := by decide +kernel
theorem dX9_reason_71 : decode cX9_reason 71 = .ok (.iconst 0, 1) := by decide +kernel
theorem dX9_reason_72 : decode cX9_reason 72 = .ok (.istore 5, 2) := by decide +kernel
theorem dX9_reason_74 : decode cX9_reason 74 = .ok (.iload 5, 2) := by decide +kernel
theorem dX9_reason_76 : decode cX9_reason 76 = .ok (.aload_n 0, 1) := by decide +kernel
theorem dX9_reason_77 : decode cX9_reason 77 = .ok (.iload_n 1, 1) := by decide +kernel
theorem dX9_reason_78 : decode cX9_reason 78 = .ok (.iconst 4, 1) := by decide +kernel
theorem dX9_reason_79 : decode cX9_reason 79 = .ok (.invokevirtual 52, 3) := by decide +kernel
theorem dX9_reason_82 : decode cX9_reason 82 = .ok (.if_icmp .ge 25, 3) := by decide +kernel
theorem dX9_reason_85 : decode cX9_reason 85 = .ok (.aload_n 0, 1) := by decide +kernel
theorem dX9_reason_86 : decode cX9_reason 86 = .ok (.iload_n 1, 1) := by decide +kernel
theorem dX9_reason_87 : decode cX9_reason 87 = .ok (.bipush 26, 2) := by decide +kernel
theorem dX9_reason_89 : decode cX9_reason 89 = .ok (.aload_n 0, 1) := by decide +kernel
theorem dX9_reason_90 : decode cX9_reason 90 = .ok (.iload_n 1, 1) := by decide +kernel
theorem dX9_reason_91 : decode cX9_reason 91 = .ok (.iconst 5, 1) := by decide +kernel
theorem dX9_reason_92 : decode cX9_reason 92 = .ok (.iload 5, 2) := by decide +kernel
theorem dX9_reason_94 : decode cX9_reason 94 = .ok (.iadd, 1) := by decide +kernel
theorem dX9_reason_95 : decode cX9_reason 95 = .ok (.invokevirtual 52, 3) := by decide +kernel
theorem dX9_reason_98 : decode cX9_reason 98 = .ok (.invokevirtual 80, 3) := by decide +kernel
theorem dX9_reason_101 : decode cX9_reason 101 = .ok (.iinc 5 1, 3) := by decide +kernel
theorem dX9_reason_104 : decode cX9_reason 104 = .ok (.goto (-30), 3) := by decide +kernel
theorem dX9_reason_107 : decode cX9_reason 107 = .ok (.aload_n 0, 1) := by decide +kernel
theorem dX9_reason_108 : decode cX9_reason 108 = .ok (.iload_n 1, 1) := by decide +kernel
theorem dX9_reason_109 : decode cX9_reason 109 = .ok (.bipush 26, 2) := by decide +kernel
theorem dX9_reason_111 : decode cX9_reason 111 = .ok (.invokevirtual 52, 3) := by decide +kernel
theorem dX9_reason_114 : decode cX9_reason 114 = .ok (.aload_n 0, 1) := by decide +kernel
theorem dX9_reason_115 : decode cX9_reason 115 = .ok (.iload_n 1, 1) := by decide +kernel
theorem dX9_reason_116 : decode cX9_reason 116 = .ok (.iconst 0, 1) := by decide +kernel
theorem dX9_reason_117 : decode cX9_reason 117 = .ok (.invokevirtual 52, 3) := by decide +kernel
theorem dX9_reason_120 : decode cX9_reason 120 = .ok (.if_icmp .ne 23, 3) := by decide +kernel
theorem dX9_reason_123 : decode cX9_reason 123 = .ok (.aload_n 0, 1) := by decide +kernel
theorem dX9_reason_124 : decode cX9_reason 124 = .ok (.iload_n 1, 1) := by decide +kernel
theorem dX9_reason_125 : decode cX9_reason 125 = .ok (.bipush 27, 2) := by decide +kernel
theorem dX9_reason_127 : decode cX9_reason 127 = .ok (.invokevirtual 52, 3) := by decide +kernel
theorem dX9_reason_130 : decode cX9_reason 130 = .ok (.aload_n 0, 1) := by decide +kernel
theorem dX9_reason_131 : decode cX9_reason 131 = .ok (.iload_n 1, 1) := by decide +kernel
theorem dX9_reason_132 : decode cX9_reason 132 = .ok (.iconst 1, 1) := by decide +kernel
theorem dX9_reason_133 : decode cX9_reason 133 = .ok (.invokevirtual 52, 3) := by decide +kernel
theorem dX9_reason_136 : decode cX9_reason 136 = .ok (.if_icmp .ne 7, 3) := by decide +kernel
theorem dX9_reason_139 : decode cX9_reason 139 = .ok (.iconst 1, 1) := by decide +kernel
theorem dX9_reason_140 : decode cX9_reason 140 = .ok (.goto 4, 3) := by decide +kernel
theorem dX9_reason_143 : decode cX9_reason 143 = .ok (.iconst 0, 1) := by decide +kernel
theorem dX9_reason_144 : decode cX9_reason 144 = .ok (.istore 5, 2) := by decide +kernel
theorem dX9_reason_146 : decode cX9_reason 146 = .ok (.aload_n 0, 1) := by decide +kernel
theorem dX9_reason_147 : decode cX9_reason 147 = .ok (.invokevirtual 186, 3) := by decide +kernel
theorem dX9_reason_150 : decode cX9_reason 150 = .ok (.iload 5, 2) := by decide +kernel
theorem dX9_reason_152 : decode cX9_reason 152 = .ok (.ifCond .eq 7, 3) := by decide +kernel
theorem dX9_reason_155 : decode cX9_reason 155 = .ok (.iconst 0, 1) := by decide +kernel
theorem dX9_reason_156 : decode cX9_reason 156 = .ok (.goto 13, 3) := by decide +kernel
theorem dX9_reason_159 : decode cX9_reason 159 = .ok (.iload 4, 2) := by decide +kernel
theorem dX9_reason_161 : decode cX9_reason 161 = .ok (.ifCond .eq 7, 3) := by decide +kernel
theorem dX9_reason_164 : decode cX9_reason 164 = .ok (.iconst 1, 1) := by decide +kernel
theorem dX9_reason_165 : decode cX9_reason 165 = .ok (.goto 4, 3) := by decide +kernel
theorem dX9_reason_168 : decode cX9_reason 168 = .ok (.iconst 2, 1) := by decide +kernel
theorem dX9_reason_169 : decode cX9_reason 169 = .ok (.ireturn, 1) := by decide +kernel
theorem dX9_why_0 : decode cX9_why 0 = .ok (.aload_n 0, 1) := by decide +kernel
theorem dX9_why_1 : decode cX9_why 1 = .ok (.iconst 0, 1) := by decide +kernel
theorem dX9_why_2 : decode cX9_why 2 = .ok (.putfield 37, 3) := by decide +kernel
theorem dX9_why_5 : decode cX9_why 5 = .ok (.iload_n 1, 1) := by decide +kernel
theorem dX9_why_6 : decode cX9_why 6 = .ok (.invokestatic 90, 3) := by decide +kernel
theorem dX9_why_9 : decode cX9_why 9 = .ok (.ifCond .eq 11, 3) := by decide +kernel
theorem dX9_why_12 : decode cX9_why 12 = .ok (.aload_n 0, 1) := by decide +kernel
theorem dX9_why_13 : decode cX9_why 13 = .ok (.iload_n 1, 1) := by decide +kernel
theorem dX9_why_14 : decode cX9_why 14 = .ok (.invokevirtual 189, 3) := by decide +kernel
theorem dX9_why_17 : decode cX9_why 17 = .ok (.goto 8, 3) := by decide +kernel
theorem dX9_why_20 : decode cX9_why 20 = .ok (.aload_n 0, 1) := by decide +kernel
theorem dX9_why_21 : decode cX9_why 21 = .ok (.iconst 1, 1) := by decide +kernel
theorem dX9_why_22 : decode cX9_why 22 = .ok (.invokevirtual 93, 3) := by decide +kernel
theorem dX9_why_25 : decode cX9_why 25 = .ok (.ireturn, 1) := by decide +kernel
theorem dX9_sum_0 : decode cX9_sum 0 = .ok (.aload_n 0, 1) := by decide +kernel
theorem dX9_sum_1 : decode cX9_sum 1 = .ok (.iconst 0, 1) := by decide +kernel
theorem dX9_sum_2 : decode cX9_sum 2 = .ok (.iload_n 1, 1) := by decide +kernel
theorem dX9_sum_3 : decode cX9_sum 3 = .ok (.invokevirtual 52, 3) := by decide +kernel
theorem dX9_sum_6 : decode cX9_sum 6 = .ok (.aload_n 0, 1) := by decide +kernel
theorem dX9_sum_7 : decode cX9_sum 7 = .ok (.iconst 1, 1) := by decide +kernel
theorem dX9_sum_8 : decode cX9_sum 8 = .ok (.iload_n 1, 1) := by decide +kernel
theorem dX9_sum_9 : decode cX9_sum 9 = .ok (.invokevirtual 52, 3) := by decide +kernel
theorem dX9_sum_12 : decode cX9_sum 12 = .ok (.iadd, 1) := by decide +kernel
theorem dX9_sum_13 : decode cX9_sum 13 = .ok (.aload_n 0, 1) := by decide +kernel
theorem dX9_sum_14 : decode cX9_sum 14 = .ok (.iconst 2, 1) := by decide +kernel
theorem dX9_sum_15 : decode cX9_sum 15 = .ok (.iload_n 1, 1) := by decide +kernel
theorem dX9_sum_16 : decode cX9_sum 16 = .ok (.invokevirtual 52, 3) := by decide +kernel
theorem dX9_sum_19 : decode cX9_sum 19 = .ok (.iadd, 1) := by decide +kernel
theorem dX9_sum_20 : decode cX9_sum 20 = .ok (.ireturn, 1) := by decide +kernel
theorem dX9_agreeing_0 : decode cX9_agreeing 0 = .ok (.iconst 0, 1) := by decide +kernel
theorem dX9_agreeing_1 : decode cX9_agreeing 1 = .ok (.istore_n 1, 1) := by decide +kernel
theorem dX9_agreeing_2 : decode cX9_agreeing 2 = .ok (.iconst 0, 1) := by decide +kernel
theorem dX9_agreeing_3 : decode cX9_agreeing 3 = .ok (.istore_n 2, 1) := by decide +kernel
theorem dX9_agreeing_4 : decode cX9_agreeing 4 = .ok (.iload_n 2, 1) := by decide +kernel
theorem dX9_agreeing_5 : decode cX9_agreeing 5 = .ok (.iconst 3, 1) := by decide +kernel
theorem dX9_agreeing_6 : decode cX9_agreeing 6 = .ok (.if_icmp .ge 25, 3) := by decide +kernel
theorem dX9_agreeing_9 : decode cX9_agreeing 9 = .ok (.iload_n 1, 1) := by decide +kernel
theorem dX9_agreeing_10 : decode cX9_agreeing 10 = .ok (.aload_n 0, 1) := by decide +kernel
theorem dX9_agreeing_11 : decode cX9_agreeing 11 = .ok (.iload_n 2, 1) := by decide +kernel
theorem dX9_agreeing_12 : decode cX9_agreeing 12 = .ok (.invokevirtual 189, 3) := by decide +kernel
theorem dX9_agreeing_15 : decode cX9_agreeing 15 = .ok (.ifCond .ne 7, 3) := by decide +kernel
theorem dX9_agreeing_18 : decode cX9_agreeing 18 = .ok (.iconst 1, 1) := by decide +kernel
theorem dX9_agreeing_19 : decode cX9_agreeing 19 = .ok (.goto 4, 3) := by decide +kernel
theorem dX9_agreeing_22 : decode cX9_agreeing 22 = .ok (.iconst 0, 1) := by decide +kernel
theorem dX9_agreeing_23 : decode cX9_agreeing 23 = .ok (.iadd, 1) := by decide +kernel
theorem dX9_agreeing_24 : decode cX9_agreeing 24 = .ok (.istore_n 1, 1) := by decide +kernel
theorem dX9_agreeing_25 : decode cX9_agreeing 25 = .ok (.iinc 2 1, 3) := by decide +kernel
theorem dX9_agreeing_28 : decode cX9_agreeing 28 = .ok (.goto (-24), 3) := by decide +kernel
theorem dX9_agreeing_31 : decode cX9_agreeing 31 = .ok (.iload_n 1, 1) := by decide +kernel
theorem dX9_agreeing_32 : decode cX9_agreeing 32 = .ok (.ireturn, 1) := by decide +kernel
theorem dX9_number_0 : decode cX9_number 0 = .ok (.iload_n 1, 1) := by decide +kernel
theorem dX9_number_1 : decode cX9_number 1 = .ok (.tableswitch 90 0 6 #[43, 50, 57, 64, 71, 78, 85], 43) := by decide +kernel
theorem dX9_number_44 : decode cX9_number 44 = .ok (.aload_n 0, 1) := by decide +kernel
theorem dX9_number_45 : decode cX9_number 45 = .ok (.getfield 7, 3) := by decide +kernel
theorem dX9_number_48 : decode cX9_number 48 = .ok (.iconst 4, 1) := by decide +kernel
theorem dX9_number_49 : decode cX9_number 49 = .ok (.iaload, 1) := by decide +kernel
theorem dX9_number_50 : decode cX9_number 50 = .ok (.ireturn, 1) := by decide +kernel
theorem dX9_number_51 : decode cX9_number 51 = .ok (.aload_n 0, 1) := by decide +kernel
theorem dX9_number_52 : decode cX9_number 52 = .ok (.bipush 22, 2) := by decide +kernel
theorem dX9_number_54 : decode cX9_number 54 = .ok (.invokevirtual 192, 3) := by decide +kernel
theorem dX9_number_57 : decode cX9_number 57 = .ok (.ireturn, 1) := by decide +kernel
theorem dX9_number_58 : decode cX9_number 58 = .ok (.aload_n 0, 1) := by decide +kernel
theorem dX9_number_59 : decode cX9_number 59 = .ok (.bipush 21, 2) := by decide +kernel
theorem dX9_number_61 : decode cX9_number 61 = .ok (.invokevirtual 192, 3) := by decide +kernel
theorem dX9_number_64 : decode cX9_number 64 = .ok (.ireturn, 1) := by decide +kernel
theorem dX9_number_65 : decode cX9_number 65 = .ok (.aload_n 0, 1) := by decide +kernel
theorem dX9_number_66 : decode cX9_number 66 = .ok (.bipush 38, 2) := by decide +kernel
theorem dX9_number_68 : decode cX9_number 68 = .ok (.invokevirtual 192, 3) := by decide +kernel
theorem dX9_number_71 : decode cX9_number 71 = .ok (.ireturn, 1) := by decide +kernel
theorem dX9_number_72 : decode cX9_number 72 = .ok (.aload_n 0, 1) := by decide +kernel
theorem dX9_number_73 : decode cX9_number 73 = .ok (.bipush 36, 2) := by decide +kernel
theorem dX9_number_75 : decode cX9_number 75 = .ok (.invokevirtual 192, 3) := by decide +kernel
theorem dX9_number_78 : decode cX9_number 78 = .ok (.ireturn, 1) := by decide +kernel
theorem dX9_number_79 : decode cX9_number 79 = .ok (.aload_n 0, 1) := by decide +kernel
theorem dX9_number_80 : decode cX9_number 80 = .ok (.bipush 37, 2) := by decide +kernel
theorem dX9_number_82 : decode cX9_number 82 = .ok (.invokevirtual 192, 3) := by decide +kernel
theorem dX9_number_85 : decode cX9_number 85 = .ok (.ireturn, 1) := by decide +kernel
theorem dX9_number_86 : decode cX9_number 86 = .ok (.aload_n 0, 1) := by decide +kernel
theorem dX9_number_87 : decode cX9_number 87 = .ok (.invokevirtual 195, 3) := by decide +kernel
theorem dX9_number_90 : decode cX9_number 90 = .ok (.ireturn, 1) := by decide +kernel
theorem dX9_number_91 : decode cX9_number 91 = .ok (.aload_n 0, 1) := by decide +kernel
theorem dX9_number_92 : decode cX9_number 92 = .ok (.getfield 45, 3) := by decide +kernel
theorem dX9_number_95 : decode cX9_number 95 = .ok (.ireturn, 1) := by decide +kernel
theorem dX9_count_0 : decode cX9_count 0 = .ok (.aload_n 0, 1) := by decide +kernel
theorem dX9_count_1 : decode cX9_count 1 = .ok (.iconst 0, 1) := by decide +kernel
theorem dX9_count_2 : decode cX9_count 2 = .ok (.putfield 37, 3) := by decide +kernel
theorem dX9_count_5 : decode cX9_count 5 = .ok (.iload_n 1, 1) := by decide +kernel
theorem dX9_count_6 : decode cX9_count 6 = .ok (.iconst 0, 1) := by decide +kernel
theorem dX9_count_7 : decode cX9_count 7 = .ok (.bipush 7, 2) := by decide +kernel
theorem dX9_count_9 : decode cX9_count 9 = .ok (.invokestatic 41, 3) := by decide +kernel
theorem dX9_count_12 : decode cX9_count 12 = .ok (.ifCond .eq 11, 3) := by decide +kernel
theorem dX9_count_15 : decode cX9_count 15 = .ok (.aload_n 0, 1) := by decide +kernel
theorem dX9_count_16 : decode cX9_count 16 = .ok (.iload_n 1, 1) := by decide +kernel
theorem dX9_count_17 : decode cX9_count 17 = .ok (.invokevirtual 199, 3) := by decide +kernel
theorem dX9_count_20 : decode cX9_count 20 = .ok (.goto 8, 3) := by decide +kernel
theorem dX9_count_23 : decode cX9_count 23 = .ok (.aload_n 0, 1) := by decide +kernel
theorem dX9_count_24 : decode cX9_count 24 = .ok (.iconst 1, 1) := by decide +kernel
theorem dX9_count_25 : decode cX9_count 25 = .ok (.invokevirtual 93, 3) := by decide +kernel
theorem dX9_count_28 : decode cX9_count 28 = .ok (.ireturn, 1) := by decide +kernel
theorem dX9_setting_0 : decode cX9_setting 0 = .ok (.aload_n 0, 1) := by decide +kernel
theorem dX9_setting_1 : decode cX9_setting 1 = .ok (.iconst 0, 1) := by decide +kernel
theorem dX9_setting_2 : decode cX9_setting 2 = .ok (.putfield 37, 3) := by decide +kernel
theorem dX9_setting_5 : decode cX9_setting 5 = .ok (.iload_n 1, 1) := by decide +kernel
theorem dX9_setting_6 : decode cX9_setting 6 = .ok (.iconst 0, 1) := by decide +kernel
theorem dX9_setting_7 : decode cX9_setting 7 = .ok (.iconst 3, 1) := by decide +kernel
theorem dX9_setting_8 : decode cX9_setting 8 = .ok (.invokestatic 41, 3) := by decide +kernel
theorem dX9_setting_11 : decode cX9_setting 11 = .ok (.ifCond .eq 12, 3) := by decide +kernel
theorem dX9_setting_14 : decode cX9_setting 14 = .ok (.aload_n 0, 1) := by decide +kernel
theorem dX9_setting_15 : decode cX9_setting 15 = .ok (.getfield 7, 3) := by decide +kernel
theorem dX9_setting_18 : decode cX9_setting 18 = .ok (.iload_n 1, 1) := by decide +kernel
theorem dX9_setting_19 : decode cX9_setting 19 = .ok (.iaload, 1) := by decide +kernel
theorem dX9_setting_20 : decode cX9_setting 20 = .ok (.goto 8, 3) := by decide +kernel
theorem dX9_setting_23 : decode cX9_setting 23 = .ok (.aload_n 0, 1) := by decide +kernel
theorem dX9_setting_24 : decode cX9_setting 24 = .ok (.iconst 1, 1) := by decide +kernel
theorem dX9_setting_25 : decode cX9_setting 25 = .ok (.invokevirtual 93, 3) := by decide +kernel
theorem dX9_setting_28 : decode cX9_setting 28 = .ok (.ireturn, 1) := by decide +kernel
theorem dX9_nearestCode_0 : decode cX9_nearestCode 0 = .ok (.iconst 0, 1) := by decide +kernel
theorem dX9_nearestCode_1 : decode cX9_nearestCode 1 = .ok (.istore 4, 2) := by decide +kernel
theorem dX9_nearestCode_3 : decode cX9_nearestCode 3 = .ok (.iconst 1, 1) := by decide +kernel
theorem dX9_nearestCode_4 : decode cX9_nearestCode 4 = .ok (.istore 5, 2) := by decide +kernel
theorem dX9_nearestCode_6 : decode cX9_nearestCode 6 = .ok (.iload 5, 2) := by decide +kernel
theorem dX9_nearestCode_8 : decode cX9_nearestCode 8 = .ok (.bipush 16, 2) := by decide +kernel
theorem dX9_nearestCode_10 : decode cX9_nearestCode 10 = .ok (.if_icmp .ge 47, 3) := by decide +kernel
theorem dX9_nearestCode_13 : decode cX9_nearestCode 13 = .ok (.aload_n 0, 1) := by decide +kernel
theorem dX9_nearestCode_14 : decode cX9_nearestCode 14 = .ok (.iload_n 1, 1) := by decide +kernel
theorem dX9_nearestCode_15 : decode cX9_nearestCode 15 = .ok (.iload_n 2, 1) := by decide +kernel
theorem dX9_nearestCode_16 : decode cX9_nearestCode 16 = .ok (.iload 5, 2) := by decide +kernel
theorem dX9_nearestCode_18 : decode cX9_nearestCode 18 = .ok (.invokevirtual 56, 3) := by decide +kernel
theorem dX9_nearestCode_21 : decode cX9_nearestCode 21 = .ok (.iload_n 3, 1) := by decide +kernel
theorem dX9_nearestCode_22 : decode cX9_nearestCode 22 = .ok (.isub, 1) := by decide +kernel
theorem dX9_nearestCode_23 : decode cX9_nearestCode 23 = .ok (.invokestatic 48, 3) := by decide +kernel
theorem dX9_nearestCode_26 : decode cX9_nearestCode 26 = .ok (.aload_n 0, 1) := by decide +kernel
theorem dX9_nearestCode_27 : decode cX9_nearestCode 27 = .ok (.iload_n 1, 1) := by decide +kernel
theorem dX9_nearestCode_28 : decode cX9_nearestCode 28 = .ok (.iload_n 2, 1) := by decide +kernel
theorem dX9_nearestCode_29 : decode cX9_nearestCode 29 = .ok (.iload 4, 2) := by decide +kernel
theorem dX9_nearestCode_31 : decode cX9_nearestCode 31 = .ok (.invokevirtual 56, 3) := by decide +kernel
theorem dX9_nearestCode_34 : decode cX9_nearestCode 34 = .ok (.iload_n 3, 1) := by decide +kernel
theorem dX9_nearestCode_35 : decode cX9_nearestCode 35 = .ok (.isub, 1) := by decide +kernel
theorem dX9_nearestCode_36 : decode cX9_nearestCode 36 = .ok (.invokestatic 48, 3) := by decide +kernel
theorem dX9_nearestCode_39 : decode cX9_nearestCode 39 = .ok (.if_icmp .ge 8, 3) := by decide +kernel
theorem dX9_nearestCode_42 : decode cX9_nearestCode 42 = .ok (.iload 5, 2) := by decide +kernel
theorem dX9_nearestCode_44 : decode cX9_nearestCode 44 = .ok (.goto 5, 3) := by decide +kernel
theorem dX9_nearestCode_47 : decode cX9_nearestCode 47 = .ok (.iload 4, 2) := by decide +kernel
theorem dX9_nearestCode_49 : decode cX9_nearestCode 49 = .ok (.istore 4, 2) := by decide +kernel
theorem dX9_nearestCode_51 : decode cX9_nearestCode 51 = .ok (.iinc 5 1, 3) := by decide +kernel
theorem dX9_nearestCode_54 : decode cX9_nearestCode 54 = .ok (.goto (-48), 3) := by decide +kernel
theorem dX9_nearestCode_57 : decode cX9_nearestCode 57 = .ok (.iload 4, 2) := by decide +kernel
theorem dX9_nearestCode_59 : decode cX9_nearestCode 59 = .ok (.ireturn, 1) := by decide +kernel
theorem dX9_ofCode_0 : decode cX9_ofCode 0 = .ok (.aload_n 0, 1) := by decide +kernel
theorem dX9_ofCode_1 : decode cX9_ofCode 1 = .ok (.iload_n 1, 1) := by decide +kernel
theorem dX9_ofCode_2 : decode cX9_ofCode 2 = .ok (.iconst 0, 1) := by decide +kernel
theorem dX9_ofCode_3 : decode cX9_ofCode 3 = .ok (.invokevirtual 52, 3) := by decide +kernel
theorem dX9_ofCode_6 : decode cX9_ofCode 6 = .ok (.istore 4, 2) := by decide +kernel
theorem dX9_ofCode_8 : decode cX9_ofCode 8 = .ok (.aload_n 0, 1) := by decide +kernel
theorem dX9_ofCode_9 : decode cX9_ofCode 9 = .ok (.iload_n 1, 1) := by decide +kernel
theorem dX9_ofCode_10 : decode cX9_ofCode 10 = .ok (.iconst 1, 1) := by decide +kernel
theorem dX9_ofCode_11 : decode cX9_ofCode 11 = .ok (.invokevirtual 52, 3) := by decide +kernel
theorem dX9_ofCode_14 : decode cX9_ofCode 14 = .ok (.istore 5, 2) := by decide +kernel
theorem dX9_ofCode_16 : decode cX9_ofCode 16 = .ok (.aload_n 0, 1) := by decide +kernel
theorem dX9_ofCode_17 : decode cX9_ofCode 17 = .ok (.iload_n 2, 1) := by decide +kernel
theorem dX9_ofCode_18 : decode cX9_ofCode 18 = .ok (.iload 4, 2) := by decide +kernel
theorem dX9_ofCode_20 : decode cX9_ofCode 20 = .ok (.iload 5, 2) := by decide +kernel
theorem dX9_ofCode_22 : decode cX9_ofCode 22 = .ok (.invokevirtual 77, 3) := by decide +kernel
theorem dX9_ofCode_25 : decode cX9_ofCode 25 = .ok (.istore 6, 2) := by decide +kernel
theorem dX9_ofCode_27 : decode cX9_ofCode 27 = .ok (.iload_n 3, 1) := by decide +kernel
theorem dX9_ofCode_28 : decode cX9_ofCode 28 = .ok (.tableswitch 64 0 3 #[32, 35, 46, 54], 32) := by decide +kernel
theorem dX9_ofCode_60 : decode cX9_ofCode 60 = .ok (.iload 6, 2) := by decide +kernel
theorem dX9_ofCode_62 : decode cX9_ofCode 62 = .ok (.ireturn, 1) := by decide +kernel
theorem dX9_ofCode_63 : decode cX9_ofCode 63 = .ok (.aload_n 0, 1) := by decide +kernel
theorem dX9_ofCode_64 : decode cX9_ofCode 64 = .ok (.iload 4, 2) := by decide +kernel
theorem dX9_ofCode_66 : decode cX9_ofCode 66 = .ok (.iload 5, 2) := by decide +kernel
theorem dX9_ofCode_68 : decode cX9_ofCode 68 = .ok (.iload 6, 2) := by decide +kernel
theorem dX9_ofCode_70 : decode cX9_ofCode 70 = .ok (.invokevirtual 56, 3) := by decide +kernel
theorem dX9_ofCode_73 : decode cX9_ofCode 73 = .ok (.ireturn, 1) := by decide +kernel
theorem dX9_ofCode_74 : decode cX9_ofCode 74 = .ok (.iload 5, 2) := by decide +kernel
theorem dX9_ofCode_76 : decode cX9_ofCode 76 = .ok (.iload 6, 2) := by decide +kernel
theorem dX9_ofCode_78 : decode cX9_ofCode 78 = .ok (.invokestatic 64, 3) := by decide +kernel
theorem dX9_ofCode_81 : decode cX9_ofCode 81 = .ok (.ireturn, 1) := by decide +kernel
theorem dX9_ofCode_82 : decode cX9_ofCode 82 = .ok (.aload_n 0, 1) := by decide +kernel
theorem dX9_ofCode_83 : decode cX9_ofCode 83 = .ok (.iload 4, 2) := by decide +kernel
theorem dX9_ofCode_85 : decode cX9_ofCode 85 = .ok (.iload 5, 2) := by decide +kernel
theorem dX9_ofCode_87 : decode cX9_ofCode 87 = .ok (.iload_n 2, 1) := by decide +kernel
theorem dX9_ofCode_88 : decode cX9_ofCode 88 = .ok (.invokevirtual 202, 3) := by decide +kernel
theorem dX9_ofCode_91 : decode cX9_ofCode 91 = .ok (.ireturn, 1) := by decide +kernel
theorem dX9_ofCode_92 : decode cX9_ofCode 92 = .ok (.aload_n 0, 1) := by decide +kernel
theorem dX9_ofCode_93 : decode cX9_ofCode 93 = .ok (.iload 4, 2) := by decide +kernel
theorem dX9_ofCode_95 : decode cX9_ofCode 95 = .ok (.iload 5, 2) := by decide +kernel
theorem dX9_ofCode_97 : decode cX9_ofCode 97 = .ok (.aload_n 0, 1) := by decide +kernel
theorem dX9_ofCode_98 : decode cX9_ofCode 98 = .ok (.iload 4, 2) := by decide +kernel
theorem dX9_ofCode_100 : decode cX9_ofCode 100 = .ok (.iload 5, 2) := by decide +kernel
theorem dX9_ofCode_102 : decode cX9_ofCode 102 = .ok (.iload_n 2, 1) := by decide +kernel
theorem dX9_ofCode_103 : decode cX9_ofCode 103 = .ok (.invokevirtual 202, 3) := by decide +kernel
theorem dX9_ofCode_106 : decode cX9_ofCode 106 = .ok (.invokevirtual 56, 3) := by decide +kernel
theorem dX9_ofCode_109 : decode cX9_ofCode 109 = .ok (.ireturn, 1) := by decide +kernel
theorem dX9_code_0 : decode cX9_code 0 = .ok (.aload_n 0, 1) := by decide +kernel
theorem dX9_code_1 : decode cX9_code 1 = .ok (.iconst 0, 1) := by decide +kernel
theorem dX9_code_2 : decode cX9_code 2 = .ok (.putfield 37, 3) := by decide +kernel
theorem dX9_code_5 : decode cX9_code 5 = .ok (.iload_n 1, 1) := by decide +kernel
theorem dX9_code_6 : decode cX9_code 6 = .ok (.invokestatic 90, 3) := by decide +kernel
theorem dX9_code_9 : decode cX9_code 9 = .ok (.ifCond .ne 9, 3) := by decide +kernel
theorem dX9_code_12 : decode cX9_code 12 = .ok (.aload_n 0, 1) := by decide +kernel
theorem dX9_code_13 : decode cX9_code 13 = .ok (.iconst 1, 1) := by decide +kernel
theorem dX9_code_14 : decode cX9_code 14 = .ok (.invokevirtual 93, 3) := by decide +kernel
theorem dX9_code_17 : decode cX9_code 17 = .ok (.ireturn, 1) := by decide +kernel
theorem dX9_code_18 : decode cX9_code 18 = .ok (.iload_n 2, 1) := by decide +kernel
theorem dX9_code_19 : decode cX9_code 19 = .ok (.invokestatic 96, 3) := by decide +kernel
theorem dX9_code_22 : decode cX9_code 22 = .ok (.ifCond .eq 22, 3) := by decide +kernel
theorem dX9_code_25 : decode cX9_code 25 = .ok (.iload_n 3, 1) := by decide +kernel
theorem dX9_code_26 : decode cX9_code 26 = .ok (.iconst 0, 1) := by decide +kernel
theorem dX9_code_27 : decode cX9_code 27 = .ok (.iconst 4, 1) := by decide +kernel
theorem dX9_code_28 : decode cX9_code 28 = .ok (.invokestatic 41, 3) := by decide +kernel
theorem dX9_code_31 : decode cX9_code 31 = .ok (.ifCond .eq 13, 3) := by decide +kernel
theorem dX9_code_34 : decode cX9_code 34 = .ok (.aload_n 0, 1) := by decide +kernel
theorem dX9_code_35 : decode cX9_code 35 = .ok (.iload_n 1, 1) := by decide +kernel
theorem dX9_code_36 : decode cX9_code 36 = .ok (.iload_n 2, 1) := by decide +kernel
theorem dX9_code_37 : decode cX9_code 37 = .ok (.iload_n 3, 1) := by decide +kernel
theorem dX9_code_38 : decode cX9_code 38 = .ok (.invokevirtual 205, 3) := by decide +kernel
theorem dX9_code_41 : decode cX9_code 41 = .ok (.goto 8, 3) := by decide +kernel
theorem dX9_code_44 : decode cX9_code 44 = .ok (.aload_n 0, 1) := by decide +kernel
theorem dX9_code_45 : decode cX9_code 45 = .ok (.iconst 2, 1) := by decide +kernel
theorem dX9_code_46 : decode cX9_code 46 = .ok (.invokevirtual 93, 3) := by decide +kernel
theorem dX9_code_49 : decode cX9_code 49 = .ok (.ireturn, 1) := by decide +kernel
theorem dX9_settledBehind_0 : decode cX9_settledBehind 0 = .ok (.aload_n 0, 1) := by decide +kernel
theorem dX9_settledBehind_1 : decode cX9_settledBehind 1 = .ok (.iload_n 1, 1) := by decide +kernel
theorem dX9_settledBehind_2 : decode cX9_settledBehind 2 = .ok (.iconst 0, 1) := by decide +kernel
theorem dX9_settledBehind_3 : decode cX9_settledBehind 3 = .ok (.invokevirtual 52, 3) := by decide +kernel
theorem dX9_settledBehind_6 : decode cX9_settledBehind 6 = .ok (.istore 4, 2) := by decide +kernel
theorem dX9_settledBehind_8 : decode cX9_settledBehind 8 = .ok (.aload_n 0, 1) := by decide +kernel
theorem dX9_settledBehind_9 : decode cX9_settledBehind 9 = .ok (.iload_n 1, 1) := by decide +kernel
theorem dX9_settledBehind_10 : decode cX9_settledBehind 10 = .ok (.iconst 1, 1) := by decide +kernel
theorem dX9_settledBehind_11 : decode cX9_settledBehind 11 = .ok (.invokevirtual 52, 3) := by decide +kernel
theorem dX9_settledBehind_14 : decode cX9_settledBehind 14 = .ok (.istore 5, 2) := by decide +kernel
theorem dX9_settledBehind_16 : decode cX9_settledBehind 16 = .ok (.iconst 0, 1) := by decide +kernel
theorem dX9_settledBehind_17 : decode cX9_settledBehind 17 = .ok (.istore 6, 2) := by decide +kernel
theorem dX9_settledBehind_19 : decode cX9_settledBehind 19 = .ok (.iload 6, 2) := by decide +kernel
theorem dX9_settledBehind_21 : decode cX9_settledBehind 21 = .ok (.bipush 60, 2) := by decide +kernel
theorem dX9_settledBehind_23 : decode cX9_settledBehind 23 = .ok (.if_icmp .gt 55, 3) := by decide +kernel
theorem dX9_settledBehind_26 : decode cX9_settledBehind 26 = .ok (.iload 4, 2) := by decide +kernel
theorem dX9_settledBehind_28 : decode cX9_settledBehind 28 = .ok (.iload_n 2, 1) := by decide +kernel
theorem dX9_settledBehind_29 : decode cX9_settledBehind 29 = .ok (.isub, 1) := by decide +kernel
theorem dX9_settledBehind_30 : decode cX9_settledBehind 30 = .ok (.invokestatic 48, 3) := by decide +kernel
theorem dX9_settledBehind_33 : decode cX9_settledBehind 33 = .ok (.iload_n 3, 1) := by decide +kernel
theorem dX9_settledBehind_34 : decode cX9_settledBehind 34 = .ok (.if_icmp .ge 6, 3) := by decide +kernel
theorem dX9_settledBehind_37 : decode cX9_settledBehind 37 = .ok (.iload 6, 2) := by decide +kernel
theorem dX9_settledBehind_39 : decode cX9_settledBehind 39 = .ok (.ireturn, 1) := by decide +kernel
theorem dX9_settledBehind_40 : decode cX9_settledBehind 40 = .ok (.aload_n 0, 1) := by decide +kernel
theorem dX9_settledBehind_41 : decode cX9_settledBehind 41 = .ok (.iload_n 2, 1) := by decide +kernel
theorem dX9_settledBehind_42 : decode cX9_settledBehind 42 = .ok (.iload 4, 2) := by decide +kernel
theorem dX9_settledBehind_44 : decode cX9_settledBehind 44 = .ok (.iload 5, 2) := by decide +kernel
theorem dX9_settledBehind_46 : decode cX9_settledBehind 46 = .ok (.invokevirtual 77, 3) := by decide +kernel
theorem dX9_settledBehind_49 : decode cX9_settledBehind 49 = .ok (.istore 7, 2) := by decide +kernel
theorem dX9_settledBehind_51 : decode cX9_settledBehind 51 = .ok (.aload_n 0, 1) := by decide +kernel
theorem dX9_settledBehind_52 : decode cX9_settledBehind 52 = .ok (.iload 4, 2) := by decide +kernel
theorem dX9_settledBehind_54 : decode cX9_settledBehind 54 = .ok (.iload 5, 2) := by decide +kernel
theorem dX9_settledBehind_56 : decode cX9_settledBehind 56 = .ok (.iload 7, 2) := by decide +kernel
theorem dX9_settledBehind_58 : decode cX9_settledBehind 58 = .ok (.invokevirtual 56, 3) := by decide +kernel
theorem dX9_settledBehind_61 : decode cX9_settledBehind 61 = .ok (.istore 4, 2) := by decide +kernel
theorem dX9_settledBehind_63 : decode cX9_settledBehind 63 = .ok (.iload 5, 2) := by decide +kernel
theorem dX9_settledBehind_65 : decode cX9_settledBehind 65 = .ok (.iload 7, 2) := by decide +kernel
theorem dX9_settledBehind_67 : decode cX9_settledBehind 67 = .ok (.invokestatic 64, 3) := by decide +kernel
theorem dX9_settledBehind_70 : decode cX9_settledBehind 70 = .ok (.istore 5, 2) := by decide +kernel
theorem dX9_settledBehind_72 : decode cX9_settledBehind 72 = .ok (.iinc 6 1, 3) := by decide +kernel
theorem dX9_settledBehind_75 : decode cX9_settledBehind 75 = .ok (.goto (-56), 3) := by decide +kernel
theorem dX9_settledBehind_78 : decode cX9_settledBehind 78 = .ok (.sipush (-10000), 3) := by decide +kernel
theorem dX9_settledBehind_81 : decode cX9_settledBehind 81 = .ok (.ireturn, 1) := by decide +kernel
theorem dX9_settles_0 : decode cX9_settles 0 = .ok (.aload_n 0, 1) := by decide +kernel
theorem dX9_settles_1 : decode cX9_settles 1 = .ok (.iconst 0, 1) := by decide +kernel
theorem dX9_settles_2 : decode cX9_settles 2 = .ok (.putfield 37, 3) := by decide +kernel
theorem dX9_settles_5 : decode cX9_settles 5 = .ok (.iload_n 1, 1) := by decide +kernel
theorem dX9_settles_6 : decode cX9_settles 6 = .ok (.invokestatic 90, 3) := by decide +kernel
theorem dX9_settles_9 : decode cX9_settles 9 = .ok (.ifCond .ne 9, 3) := by decide +kernel
theorem dX9_settles_12 : decode cX9_settles 12 = .ok (.aload_n 0, 1) := by decide +kernel
theorem dX9_settles_13 : decode cX9_settles 13 = .ok (.iconst 1, 1) := by decide +kernel
theorem dX9_settles_14 : decode cX9_settles 14 = .ok (.invokevirtual 93, 3) := by decide +kernel
theorem dX9_settles_17 : decode cX9_settles 17 = .ok (.ireturn, 1) := by decide +kernel
theorem dX9_settles_18 : decode cX9_settles 18 = .ok (.iload_n 2, 1) := by decide +kernel
theorem dX9_settles_19 : decode cX9_settles 19 = .ok (.invokestatic 96, 3) := by decide +kernel
theorem dX9_settles_22 : decode cX9_settles 22 = .ok (.ifCond .eq 24, 3) := by decide +kernel
theorem dX9_settles_25 : decode cX9_settles 25 = .ok (.iload_n 3, 1) := by decide +kernel
theorem dX9_settles_26 : decode cX9_settles 26 = .ok (.iconst 1, 1) := by decide +kernel
theorem dX9_settles_27 : decode cX9_settles 27 = .ok (.sipush 2000, 3) := by decide +kernel
theorem dX9_settles_30 : decode cX9_settles 30 = .ok (.invokestatic 41, 3) := by decide +kernel
theorem dX9_settles_33 : decode cX9_settles 33 = .ok (.ifCond .eq 13, 3) := by decide +kernel
theorem dX9_settles_36 : decode cX9_settles 36 = .ok (.aload_n 0, 1) := by decide +kernel
theorem dX9_settles_37 : decode cX9_settles 37 = .ok (.iload_n 1, 1) := by decide +kernel
theorem dX9_settles_38 : decode cX9_settles 38 = .ok (.iload_n 2, 1) := by decide +kernel
theorem dX9_settles_39 : decode cX9_settles 39 = .ok (.iload_n 3, 1) := by decide +kernel
theorem dX9_settles_40 : decode cX9_settles 40 = .ok (.invokevirtual 208, 3) := by decide +kernel
theorem dX9_settles_43 : decode cX9_settles 43 = .ok (.goto 8, 3) := by decide +kernel
theorem dX9_settles_46 : decode cX9_settles 46 = .ok (.aload_n 0, 1) := by decide +kernel
theorem dX9_settles_47 : decode cX9_settles 47 = .ok (.iconst 2, 1) := by decide +kernel
theorem dX9_settles_48 : decode cX9_settles 48 = .ok (.invokevirtual 93, 3) := by decide +kernel
theorem dX9_settles_51 : decode cX9_settles 51 = .ok (.ireturn, 1) := by decide +kernel
theorem dX9_delivered_0 : decode cX9_delivered 0 = .ok (.aload_n 0, 1) := by decide +kernel
theorem dX9_delivered_1 : decode cX9_delivered 1 = .ok (.invokevirtual 180, 3) := by decide +kernel
theorem dX9_delivered_4 : decode cX9_delivered 4 = .ok (.iload_n 2, 1) := by decide +kernel
theorem dX9_delivered_5 : decode cX9_delivered 5 = .ok (.iconst 1, 1) := by decide +kernel
theorem dX9_delivered_6 : decode cX9_delivered 6 = .ok (.if_icmp .ne 8, 3) := by decide +kernel
theorem dX9_delivered_9 : decode cX9_delivered 9 = .ok (.bipush 33, 2) := by decide +kernel
theorem dX9_delivered_11 : decode cX9_delivered 11 = .ok (.goto 15, 3) := by decide +kernel
theorem dX9_delivered_14 : decode cX9_delivered 14 = .ok (.iload_n 2, 1) := by decide +kernel
theorem dX9_delivered_15 : decode cX9_delivered 15 = .ok (.iconst 2, 1) := by decide +kernel
theorem dX9_delivered_16 : decode cX9_delivered 16 = .ok (.if_icmp .ne 8, 3) := by decide +kernel
theorem dX9_delivered_19 : decode cX9_delivered 19 = .ok (.bipush 30, 2) := by decide +kernel
theorem dX9_delivered_21 : decode cX9_delivered 21 = .ok (.goto 5, 3) := by decide +kernel
theorem dX9_delivered_24 : decode cX9_delivered 24 = .ok (.bipush 32, 2) := by decide +kernel
theorem dX9_delivered_26 : decode cX9_delivered 26 = .ok (.istore_n 3, 1) := by decide +kernel
theorem dX9_delivered_27 : decode cX9_delivered 27 = .ok (.aload_n 0, 1) := by decide +kernel
theorem dX9_delivered_28 : decode cX9_delivered 28 = .ok (.iload_n 1, 1) := by decide +kernel
theorem dX9_delivered_29 : decode cX9_delivered 29 = .ok (.iload_n 3, 1) := by decide +kernel
theorem dX9_delivered_30 : decode cX9_delivered 30 = .ok (.invokevirtual 52, 3) := by decide +kernel
theorem dX9_delivered_33 : decode cX9_delivered 33 = .ok (.istore 4, 2) := by decide +kernel
theorem dX9_delivered_35 : decode cX9_delivered 35 = .ok (.aload_n 0, 1) := by decide +kernel
theorem dX9_delivered_36 : decode cX9_delivered 36 = .ok (.iload_n 1, 1) := by decide +kernel
theorem dX9_delivered_37 : decode cX9_delivered 37 = .ok (.invokevirtual 183, 3) := by decide +kernel
theorem dX9_delivered_40 : decode cX9_delivered 40 = .ok (.iload_n 2, 1) := by decide +kernel
theorem dX9_delivered_41 : decode cX9_delivered 41 = .ok (.ifCond .ne 13, 3) := by decide +kernel
theorem dX9_delivered_44 : decode cX9_delivered 44 = .ok (.aload_n 0, 1) := by decide +kernel
theorem dX9_delivered_45 : decode cX9_delivered 45 = .ok (.iload_n 1, 1) := by decide +kernel
theorem dX9_delivered_46 : decode cX9_delivered 46 = .ok (.bipush 26, 2) := by decide +kernel
theorem dX9_delivered_48 : decode cX9_delivered 48 = .ok (.invokevirtual 52, 3) := by decide +kernel
theorem dX9_delivered_51 : decode cX9_delivered 51 = .ok (.goto 12, 3) := by decide +kernel
theorem dX9_delivered_54 : decode cX9_delivered 54 = .ok (.aload_n 0, 1) := by decide +kernel
theorem dX9_delivered_55 : decode cX9_delivered 55 = .ok (.iload_n 1, 1) := by decide +kernel
theorem dX9_delivered_56 : decode cX9_delivered 56 = .ok (.iload_n 3, 1) := by decide +kernel
theorem dX9_delivered_57 : decode cX9_delivered 57 = .ok (.invokevirtual 52, 3) := by decide +kernel
theorem dX9_delivered_60 : decode cX9_delivered 60 = .ok (.iload 4, 2) := by decide +kernel
theorem dX9_delivered_62 : decode cX9_delivered 62 = .ok (.isub, 1) := by decide +kernel
theorem dX9_delivered_63 : decode cX9_delivered 63 = .ok (.istore 5, 2) := by decide +kernel
theorem dX9_delivered_65 : decode cX9_delivered 65 = .ok (.aload_n 0, 1) := by decide +kernel
theorem dX9_delivered_66 : decode cX9_delivered 66 = .ok (.invokevirtual 186, 3) := by decide +kernel
theorem dX9_delivered_69 : decode cX9_delivered 69 = .ok (.iload 5, 2) := by decide +kernel
theorem dX9_delivered_71 : decode cX9_delivered 71 = .ok (.ireturn, 1) := by decide +kernel
theorem dX9_ifDelivered_0 : decode cX9_ifDelivered 0 = .ok (.aload_n 0, 1) := by decide +kernel
theorem dX9_ifDelivered_1 : decode cX9_ifDelivered 1 = .ok (.iconst 0, 1) := by decide +kernel
theorem dX9_ifDelivered_2 : decode cX9_ifDelivered 2 = .ok (.putfield 37, 3) := by decide +kernel
theorem dX9_ifDelivered_5 : decode cX9_ifDelivered 5 = .ok (.iload_n 1, 1) := by decide +kernel
theorem dX9_ifDelivered_6 : decode cX9_ifDelivered 6 = .ok (.invokestatic 90, 3) := by decide +kernel
theorem dX9_ifDelivered_9 : decode cX9_ifDelivered 9 = .ok (.ifCond .ne 9, 3) := by decide +kernel
theorem dX9_ifDelivered_12 : decode cX9_ifDelivered 12 = .ok (.aload_n 0, 1) := by decide +kernel
theorem dX9_ifDelivered_13 : decode cX9_ifDelivered 13 = .ok (.iconst 1, 1) := by decide +kernel
theorem dX9_ifDelivered_14 : decode cX9_ifDelivered 14 = .ok (.invokevirtual 93, 3) := by decide +kernel
theorem dX9_ifDelivered_17 : decode cX9_ifDelivered 17 = .ok (.ireturn, 1) := by decide +kernel
theorem dX9_ifDelivered_18 : decode cX9_ifDelivered 18 = .ok (.iload_n 2, 1) := by decide +kernel
theorem dX9_ifDelivered_19 : decode cX9_ifDelivered 19 = .ok (.iconst 0, 1) := by decide +kernel
theorem dX9_ifDelivered_20 : decode cX9_ifDelivered 20 = .ok (.iconst 3, 1) := by decide +kernel
theorem dX9_ifDelivered_21 : decode cX9_ifDelivered 21 = .ok (.invokestatic 41, 3) := by decide +kernel
theorem dX9_ifDelivered_24 : decode cX9_ifDelivered 24 = .ok (.ifCond .eq 12, 3) := by decide +kernel
theorem dX9_ifDelivered_27 : decode cX9_ifDelivered 27 = .ok (.aload_n 0, 1) := by decide +kernel
theorem dX9_ifDelivered_28 : decode cX9_ifDelivered 28 = .ok (.iload_n 1, 1) := by decide +kernel
theorem dX9_ifDelivered_29 : decode cX9_ifDelivered 29 = .ok (.iload_n 2, 1) := by decide +kernel
theorem dX9_ifDelivered_30 : decode cX9_ifDelivered 30 = .ok (.invokevirtual 211, 3) := by decide +kernel
theorem dX9_ifDelivered_33 : decode cX9_ifDelivered 33 = .ok (.goto 8, 3) := by decide +kernel
theorem dX9_ifDelivered_36 : decode cX9_ifDelivered 36 = .ok (.aload_n 0, 1) := by decide +kernel
theorem dX9_ifDelivered_37 : decode cX9_ifDelivered 37 = .ok (.iconst 2, 1) := by decide +kernel
theorem dX9_ifDelivered_38 : decode cX9_ifDelivered 38 = .ok (.invokevirtual 93, 3) := by decide +kernel
theorem dX9_ifDelivered_41 : decode cX9_ifDelivered 41 = .ok (.ireturn, 1) := by decide +kernel
theorem dX9_mean_0 : decode cX9_mean 0 = .ok (.aload_n 0, 1) := by decide +kernel
theorem dX9_mean_1 : decode cX9_mean 1 = .ok (.iload_n 1, 1) := by decide +kernel
theorem dX9_mean_2 : decode cX9_mean 2 = .ok (.bipush 29, 2) := by decide +kernel
theorem dX9_mean_4 : decode cX9_mean 4 = .ok (.invokevirtual 52, 3) := by decide +kernel
theorem dX9_mean_7 : decode cX9_mean 7 = .ok (.ifCond .ne 7, 3) := by decide +kernel
theorem dX9_mean_10 : decode cX9_mean 10 = .ok (.dconst 0, 1) := by decide +kernel
theorem dX9_mean_11 : decode cX9_mean 11 = .ok (.goto 20, 3) := by decide +kernel
theorem dX9_mean_14 : decode cX9_mean 14 = .ok (.aload_n 0, 1) := by decide +kernel
theorem dX9_mean_15 : decode cX9_mean 15 = .ok (.iload_n 1, 1) := by decide +kernel
theorem dX9_mean_16 : decode cX9_mean 16 = .ok (.bipush 33, 2) := by decide +kernel
theorem dX9_mean_18 : decode cX9_mean 18 = .ok (.invokevirtual 52, 3) := by decide +kernel
theorem dX9_mean_21 : decode cX9_mean 21 = .ok (.i2d, 1) := by decide +kernel
theorem dX9_mean_22 : decode cX9_mean 22 = .ok (.aload_n 0, 1) := by decide +kernel
theorem dX9_mean_23 : decode cX9_mean 23 = .ok (.iload_n 1, 1) := by decide +kernel
theorem dX9_mean_24 : decode cX9_mean 24 = .ok (.bipush 29, 2) := by decide +kernel
theorem dX9_mean_26 : decode cX9_mean 26 = .ok (.invokevirtual 52, 3) := by decide +kernel
theorem dX9_mean_29 : decode cX9_mean 29 = .ok (.i2d, 1) := by decide +kernel
theorem dX9_mean_30 : decode cX9_mean 30 = .ok (.ddiv, 1) := by decide +kernel
theorem dX9_mean_31 : decode cX9_mean 31 = .ok (.dreturn, 1) := by decide +kernel
theorem dX9_meanError_0 : decode cX9_meanError 0 = .ok (.aload_n 0, 1) := by decide +kernel
theorem dX9_meanError_1 : decode cX9_meanError 1 = .ok (.iconst 0, 1) := by decide +kernel
theorem dX9_meanError_2 : decode cX9_meanError 2 = .ok (.putfield 37, 3) := by decide +kernel
theorem dX9_meanError_5 : decode cX9_meanError 5 = .ok (.iload_n 1, 1) := by decide +kernel
theorem dX9_meanError_6 : decode cX9_meanError 6 = .ok (.invokestatic 90, 3) := by decide +kernel
theorem dX9_meanError_9 : decode cX9_meanError 9 = .ok (.ifCond .eq 11, 3) := by decide +kernel
theorem dX9_meanError_12 : decode cX9_meanError 12 = .ok (.aload_n 0, 1) := by decide +kernel
theorem dX9_meanError_13 : decode cX9_meanError 13 = .ok (.iload_n 1, 1) := by decide +kernel
theorem dX9_meanError_14 : decode cX9_meanError 14 = .ok (.invokevirtual 214, 3) := by decide +kernel
theorem dX9_meanError_17 : decode cX9_meanError 17 = .ok (.goto 9, 3) := by decide +kernel
theorem dX9_meanError_20 : decode cX9_meanError 20 = .ok (.aload_n 0, 1) := by decide +kernel
theorem dX9_meanError_21 : decode cX9_meanError 21 = .ok (.iconst 1, 1) := by decide +kernel
theorem dX9_meanError_22 : decode cX9_meanError 22 = .ok (.invokevirtual 93, 3) := by decide +kernel
theorem dX9_meanError_25 : decode cX9_meanError 25 = .ok (.i2d, 1) := by decide +kernel
theorem dX9_meanError_26 : decode cX9_meanError 26 = .ok (.dreturn, 1) := by decide +kernel
theorem dX9_share_0 : decode cX9_share 0 = .ok (.aload_n 0, 1) := by decide +kernel
theorem dX9_share_1 : decode cX9_share 1 = .ok (.bipush 21, 2) := by decide +kernel
theorem dX9_share_3 : decode cX9_share 3 = .ok (.invokevirtual 192, 3) := by decide +kernel
theorem dX9_share_6 : decode cX9_share 6 = .ok (.ifCond .ne 7, 3) := by decide +kernel
theorem dX9_share_9 : decode cX9_share 9 = .ok (.fconst 0, 1) := by decide +kernel
theorem dX9_share_10 : decode cX9_share 10 = .ok (.goto 18, 3) := by decide +kernel
theorem dX9_share_13 : decode cX9_share 13 = .ok (.aload_n 0, 1) := by decide +kernel
theorem dX9_share_14 : decode cX9_share 14 = .ok (.bipush 36, 2) := by decide +kernel
theorem dX9_share_16 : decode cX9_share 16 = .ok (.invokevirtual 192, 3) := by decide +kernel
theorem dX9_share_19 : decode cX9_share 19 = .ok (.i2f, 1) := by decide +kernel
theorem dX9_share_20 : decode cX9_share 20 = .ok (.aload_n 0, 1) := by decide +kernel
theorem dX9_share_21 : decode cX9_share 21 = .ok (.bipush 21, 2) := by decide +kernel
theorem dX9_share_23 : decode cX9_share 23 = .ok (.invokevirtual 192, 3) := by decide +kernel
theorem dX9_share_26 : decode cX9_share 26 = .ok (.i2f, 1) := by decide +kernel
theorem dX9_share_27 : decode cX9_share 27 = .ok (.fdiv, 1) := by decide +kernel
theorem dX9_share_28 : decode cX9_share 28 = .ok (.freturn, 1) := by decide +kernel
theorem dX9_lostShare_0 : decode cX9_lostShare 0 = .ok (.aload_n 0, 1) := by decide +kernel
theorem dX9_lostShare_1 : decode cX9_lostShare 1 = .ok (.iconst 0, 1) := by decide +kernel
theorem dX9_lostShare_2 : decode cX9_lostShare 2 = .ok (.putfield 37, 3) := by decide +kernel
theorem dX9_lostShare_5 : decode cX9_lostShare 5 = .ok (.aload_n 0, 1) := by decide +kernel
theorem dX9_lostShare_6 : decode cX9_lostShare 6 = .ok (.invokevirtual 218, 3) := by decide +kernel
theorem dX9_lostShare_9 : decode cX9_lostShare 9 = .ok (.freturn, 1) := by decide +kernel
theorem dX9_mix_0 : decode cX9_mix 0 = .ok (.aload_n 0, 1) := by decide +kernel
theorem dX9_mix_1 : decode cX9_mix 1 = .ok (.ldc2_w 222, 3) := by decide +kernel
theorem dX9_mix_4 : decode cX9_mix 4 = .ok (.aload_n 0, 1) := by decide +kernel
theorem dX9_mix_5 : decode cX9_mix 5 = .ok (.getfield 224, 3) := by decide +kernel
theorem dX9_mix_8 : decode cX9_mix 8 = .ok (.lmul, 1) := by decide +kernel
theorem dX9_mix_9 : decode cX9_mix 9 = .ok (.lload_n 1, 1) := by decide +kernel
theorem dX9_mix_10 : decode cX9_mix 10 = .ok (.ladd, 1) := by decide +kernel
theorem dX9_mix_11 : decode cX9_mix 11 = .ok (.putfield 224, 3) := by decide +kernel
theorem dX9_mix_14 : decode cX9_mix 14 = .ok (.return_, 1) := by decide +kernel
theorem dX9_mixVoice_0 : decode cX9_mixVoice 0 = .ok (.iconst 0, 1) := by decide +kernel
theorem dX9_mixVoice_1 : decode cX9_mixVoice 1 = .ok (.istore_n 2, 1) := by decide +kernel
theorem dX9_mixVoice_2 : decode cX9_mixVoice 2 = .ok (.iload_n 2, 1) := by decide +kernel
theorem dX9_mixVoice_3 : decode cX9_mixVoice 3 = .ok (.bipush 10, 2) := by decide +kernel
theorem dX9_mixVoice_5 : decode cX9_mixVoice 5 = .ok (.if_icmp .ge 20, 3) := by decide +kernel
theorem dX9_mixVoice_8 : decode cX9_mixVoice 8 = .ok (.aload_n 0, 1) := by decide +kernel
theorem dX9_mixVoice_9 : decode cX9_mixVoice 9 = .ok (.aload_n 0, 1) := by decide +kernel
theorem dX9_mixVoice_10 : decode cX9_mixVoice 10 = .ok (.iload_n 1, 1) := by decide +kernel
theorem dX9_mixVoice_11 : decode cX9_mixVoice 11 = .ok (.iload_n 2, 1) := by decide +kernel
theorem dX9_mixVoice_12 : decode cX9_mixVoice 12 = .ok (.invokevirtual 171, 3) := by decide +kernel
theorem dX9_mixVoice_15 : decode cX9_mixVoice 15 = .ok (.i2l, 1) := by decide +kernel
theorem dX9_mixVoice_16 : decode cX9_mixVoice 16 = .ok (.invokevirtual 228, 3) := by decide +kernel
theorem dX9_mixVoice_19 : decode cX9_mixVoice 19 = .ok (.iinc 2 1, 3) := by decide +kernel
theorem dX9_mixVoice_22 : decode cX9_mixVoice 22 = .ok (.goto (-20), 3) := by decide +kernel
theorem dX9_mixVoice_25 : decode cX9_mixVoice 25 = .ok (.iconst 0, 1) := by decide +kernel
theorem dX9_mixVoice_26 : decode cX9_mixVoice 26 = .ok (.istore_n 2, 1) := by decide +kernel
theorem dX9_mixVoice_27 : decode cX9_mixVoice 27 = .ok (.iload_n 2, 1) := by decide +kernel
theorem dX9_mixVoice_28 : decode cX9_mixVoice 28 = .ok (.bipush 12, 2) := by decide +kernel
theorem dX9_mixVoice_30 : decode cX9_mixVoice 30 = .ok (.if_icmp .ge 20, 3) := by decide +kernel
theorem dX9_mixVoice_33 : decode cX9_mixVoice 33 = .ok (.aload_n 0, 1) := by decide +kernel
theorem dX9_mixVoice_34 : decode cX9_mixVoice 34 = .ok (.aload_n 0, 1) := by decide +kernel
theorem dX9_mixVoice_35 : decode cX9_mixVoice 35 = .ok (.iload_n 1, 1) := by decide +kernel
theorem dX9_mixVoice_36 : decode cX9_mixVoice 36 = .ok (.iload_n 2, 1) := by decide +kernel
theorem dX9_mixVoice_37 : decode cX9_mixVoice 37 = .ok (.invokevirtual 174, 3) := by decide +kernel
theorem dX9_mixVoice_40 : decode cX9_mixVoice 40 = .ok (.i2l, 1) := by decide +kernel
theorem dX9_mixVoice_41 : decode cX9_mixVoice 41 = .ok (.invokevirtual 228, 3) := by decide +kernel
theorem dX9_mixVoice_44 : decode cX9_mixVoice 44 = .ok (.iinc 2 1, 3) := by decide +kernel
theorem dX9_mixVoice_47 : decode cX9_mixVoice 47 = .ok (.goto (-20), 3) := by decide +kernel
theorem dX9_mixVoice_50 : decode cX9_mixVoice 50 = .ok (.iconst 0, 1) := by decide +kernel
theorem dX9_mixVoice_51 : decode cX9_mixVoice 51 = .ok (.istore_n 2, 1) := by decide +kernel
theorem dX9_mixVoice_52 : decode cX9_mixVoice 52 = .ok (.iload_n 2, 1) := by decide +kernel
theorem dX9_mixVoice_53 : decode cX9_mixVoice 53 = .ok (.aload_n 0, 1) := by decide +kernel
theorem dX9_mixVoice_54 : decode cX9_mixVoice 54 = .ok (.iload_n 1, 1) := by decide +kernel
theorem dX9_mixVoice_55 : decode cX9_mixVoice 55 = .ok (.bipush 38, 2) := by decide +kernel
theorem dX9_mixVoice_57 : decode cX9_mixVoice 57 = .ok (.invokevirtual 52, 3) := by decide +kernel
theorem dX9_mixVoice_60 : decode cX9_mixVoice 60 = .ok (.if_icmp .ge 35, 3) := by decide +kernel
theorem dX9_mixVoice_63 : decode cX9_mixVoice 63 = .ok (.iconst 0, 1) := by decide +kernel
theorem dX9_mixVoice_64 : decode cX9_mixVoice 64 = .ok (.istore_n 3, 1) := by decide +kernel
theorem dX9_mixVoice_65 : decode cX9_mixVoice 65 = .ok (.iload_n 3, 1) := by decide +kernel
theorem dX9_mixVoice_66 : decode cX9_mixVoice 66 = .ok (.bipush 6, 2) := by decide +kernel
theorem dX9_mixVoice_68 : decode cX9_mixVoice 68 = .ok (.if_icmp .ge 21, 3) := by decide +kernel
theorem dX9_mixVoice_71 : decode cX9_mixVoice 71 = .ok (.aload_n 0, 1) := by decide +kernel
theorem dX9_mixVoice_72 : decode cX9_mixVoice 72 = .ok (.aload_n 0, 1) := by decide +kernel
theorem dX9_mixVoice_73 : decode cX9_mixVoice 73 = .ok (.iload_n 1, 1) := by decide +kernel
theorem dX9_mixVoice_74 : decode cX9_mixVoice 74 = .ok (.iload_n 2, 1) := by decide +kernel
theorem dX9_mixVoice_75 : decode cX9_mixVoice 75 = .ok (.iload_n 3, 1) := by decide +kernel
theorem dX9_mixVoice_76 : decode cX9_mixVoice 76 = .ok (.invokevirtual 177, 3) := by decide +kernel
theorem dX9_mixVoice_79 : decode cX9_mixVoice 79 = .ok (.i2l, 1) := by decide +kernel
theorem dX9_mixVoice_80 : decode cX9_mixVoice 80 = .ok (.invokevirtual 228, 3) := by decide +kernel
theorem dX9_mixVoice_83 : decode cX9_mixVoice 83 = .ok (.iinc 3 1, 3) := by decide +kernel
theorem dX9_mixVoice_86 : decode cX9_mixVoice 86 = .ok (.goto (-21), 3) := by decide +kernel
theorem dX9_mixVoice_89 : decode cX9_mixVoice 89 = .ok (.iinc 2 1, 3) := by decide +kernel
theorem dX9_mixVoice_92 : decode cX9_mixVoice 92 = .ok (.goto (-40), 3) := by decide +kernel
theorem dX9_mixVoice_95 : decode cX9_mixVoice 95 = .ok (.aload_n 0, 1) := by decide +kernel
theorem dX9_mixVoice_96 : decode cX9_mixVoice 96 = .ok (.aload_n 0, 1) := by decide +kernel
theorem dX9_mixVoice_97 : decode cX9_mixVoice 97 = .ok (.iload_n 1, 1) := by decide +kernel
theorem dX9_mixVoice_98 : decode cX9_mixVoice 98 = .ok (.invokevirtual 189, 3) := by decide +kernel
theorem dX9_mixVoice_101 : decode cX9_mixVoice 101 = .ok (.i2l, 1) := by decide +kernel
theorem dX9_mixVoice_102 : decode cX9_mixVoice 102 = .ok (.invokevirtual 228, 3) := by decide +kernel
theorem dX9_mixVoice_105 : decode cX9_mixVoice 105 = .ok (.iconst 0, 1) := by decide +kernel
theorem dX9_mixVoice_106 : decode cX9_mixVoice 106 = .ok (.istore_n 2, 1) := by decide +kernel
theorem dX9_mixVoice_107 : decode cX9_mixVoice 107 = .ok (.iload_n 2, 1) := by decide +kernel
theorem dX9_mixVoice_108 : decode cX9_mixVoice 108 = .ok (.iconst 5, 1) := by decide +kernel
theorem dX9_mixVoice_109 : decode cX9_mixVoice 109 = .ok (.if_icmp .ge 22, 3) := by decide +kernel
theorem dX9_mixVoice_112 : decode cX9_mixVoice 112 = .ok (.aload_n 0, 1) := by decide +kernel
theorem dX9_mixVoice_113 : decode cX9_mixVoice 113 = .ok (.aload_n 0, 1) := by decide +kernel
theorem dX9_mixVoice_114 : decode cX9_mixVoice 114 = .ok (.iload_n 1, 1) := by decide +kernel
theorem dX9_mixVoice_115 : decode cX9_mixVoice 115 = .ok (.bipush 100, 2) := by decide +kernel
theorem dX9_mixVoice_117 : decode cX9_mixVoice 117 = .ok (.iload_n 2, 1) := by decide +kernel
theorem dX9_mixVoice_118 : decode cX9_mixVoice 118 = .ok (.invokevirtual 205, 3) := by decide +kernel
theorem dX9_mixVoice_121 : decode cX9_mixVoice 121 = .ok (.i2l, 1) := by decide +kernel
theorem dX9_mixVoice_122 : decode cX9_mixVoice 122 = .ok (.invokevirtual 228, 3) := by decide +kernel
theorem dX9_mixVoice_125 : decode cX9_mixVoice 125 = .ok (.iinc 2 1, 3) := by decide +kernel
theorem dX9_mixVoice_128 : decode cX9_mixVoice 128 = .ok (.goto (-21), 3) := by decide +kernel
theorem dX9_mixVoice_131 : decode cX9_mixVoice 131 = .ok (.aload_n 0, 1) := by decide +kernel
theorem dX9_mixVoice_132 : decode cX9_mixVoice 132 = .ok (.aload_n 0, 1) := by decide +kernel
theorem dX9_mixVoice_133 : decode cX9_mixVoice 133 = .ok (.iload_n 1, 1) := by decide +kernel
theorem dX9_mixVoice_134 : decode cX9_mixVoice 134 = .ok (.sipush (-500), 3) := by decide +kernel
theorem dX9_mixVoice_137 : decode cX9_mixVoice 137 = .ok (.bipush 50, 2) := by decide +kernel
theorem dX9_mixVoice_139 : decode cX9_mixVoice 139 = .ok (.invokevirtual 208, 3) := by decide +kernel
theorem dX9_mixVoice_142 : decode cX9_mixVoice 142 = .ok (.i2l, 1) := by decide +kernel
theorem dX9_mixVoice_143 : decode cX9_mixVoice 143 = .ok (.invokevirtual 228, 3) := by decide +kernel
theorem dX9_mixVoice_146 : decode cX9_mixVoice 146 = .ok (.iconst 0, 1) := by decide +kernel
theorem dX9_mixVoice_147 : decode cX9_mixVoice 147 = .ok (.istore_n 2, 1) := by decide +kernel
theorem dX9_mixVoice_148 : decode cX9_mixVoice 148 = .ok (.iload_n 2, 1) := by decide +kernel
theorem dX9_mixVoice_149 : decode cX9_mixVoice 149 = .ok (.iconst 4, 1) := by decide +kernel
theorem dX9_mixVoice_150 : decode cX9_mixVoice 150 = .ok (.if_icmp .ge 20, 3) := by decide +kernel
theorem dX9_mixVoice_153 : decode cX9_mixVoice 153 = .ok (.aload_n 0, 1) := by decide +kernel
theorem dX9_mixVoice_154 : decode cX9_mixVoice 154 = .ok (.aload_n 0, 1) := by decide +kernel
theorem dX9_mixVoice_155 : decode cX9_mixVoice 155 = .ok (.iload_n 1, 1) := by decide +kernel
theorem dX9_mixVoice_156 : decode cX9_mixVoice 156 = .ok (.iload_n 2, 1) := by decide +kernel
theorem dX9_mixVoice_157 : decode cX9_mixVoice 157 = .ok (.invokevirtual 211, 3) := by decide +kernel
theorem dX9_mixVoice_160 : decode cX9_mixVoice 160 = .ok (.i2l, 1) := by decide +kernel
theorem dX9_mixVoice_161 : decode cX9_mixVoice 161 = .ok (.invokevirtual 228, 3) := by decide +kernel
theorem dX9_mixVoice_164 : decode cX9_mixVoice 164 = .ok (.iinc 2 1, 3) := by decide +kernel
theorem dX9_mixVoice_167 : decode cX9_mixVoice 167 = .ok (.goto (-19), 3) := by decide +kernel
theorem dX9_mixVoice_170 : decode cX9_mixVoice 170 = .ok (.aload_n 0, 1) := by decide +kernel
theorem dX9_mixVoice_171 : decode cX9_mixVoice 171 = .ok (.aload_n 0, 1) := by decide +kernel
theorem dX9_mixVoice_172 : decode cX9_mixVoice 172 = .ok (.iload_n 1, 1) := by decide +kernel
theorem dX9_mixVoice_173 : decode cX9_mixVoice 173 = .ok (.invokevirtual 214, 3) := by decide +kernel
theorem dX9_mixVoice_176 : decode cX9_mixVoice 176 = .ok (.invokestatic 232, 3) := by decide +kernel
theorem dX9_mixVoice_179 : decode cX9_mixVoice 179 = .ok (.invokevirtual 228, 3) := by decide +kernel
theorem dX9_mixVoice_182 : decode cX9_mixVoice 182 = .ok (.return_, 1) := by decide +kernel
theorem dX9_digest_0 : decode cX9_digest 0 = .ok (.aload_n 0, 1) := by decide +kernel
theorem dX9_digest_1 : decode cX9_digest 1 = .ok (.iconst 0, 1) := by decide +kernel
theorem dX9_digest_2 : decode cX9_digest 2 = .ok (.putfield 37, 3) := by decide +kernel
theorem dX9_digest_5 : decode cX9_digest 5 = .ok (.aload_n 0, 1) := by decide +kernel
theorem dX9_digest_6 : decode cX9_digest 6 = .ok (.ldc2_w 238, 3) := by decide +kernel
theorem dX9_digest_9 : decode cX9_digest 9 = .ok (.putfield 224, 3) := by decide +kernel
theorem dX9_digest_12 : decode cX9_digest 12 = .ok (.iconst 0, 1) := by decide +kernel
theorem dX9_digest_13 : decode cX9_digest 13 = .ok (.istore_n 1, 1) := by decide +kernel
theorem dX9_digest_14 : decode cX9_digest 14 = .ok (.iload_n 1, 1) := by decide +kernel
theorem dX9_digest_15 : decode cX9_digest 15 = .ok (.bipush 8, 2) := by decide +kernel
theorem dX9_digest_17 : decode cX9_digest 17 = .ok (.if_icmp .ge 19, 3) := by decide +kernel
theorem dX9_digest_20 : decode cX9_digest 20 = .ok (.aload_n 0, 1) := by decide +kernel
theorem dX9_digest_21 : decode cX9_digest 21 = .ok (.aload_n 0, 1) := by decide +kernel
theorem dX9_digest_22 : decode cX9_digest 22 = .ok (.iload_n 1, 1) := by decide +kernel
theorem dX9_digest_23 : decode cX9_digest 23 = .ok (.invokevirtual 199, 3) := by decide +kernel
theorem dX9_digest_26 : decode cX9_digest 26 = .ok (.i2l, 1) := by decide +kernel
theorem dX9_digest_27 : decode cX9_digest 27 = .ok (.invokevirtual 228, 3) := by decide +kernel
theorem dX9_digest_30 : decode cX9_digest 30 = .ok (.iinc 1 1, 3) := by decide +kernel
theorem dX9_digest_33 : decode cX9_digest 33 = .ok (.goto (-19), 3) := by decide +kernel
theorem dX9_digest_36 : decode cX9_digest 36 = .ok (.iconst 0, 1) := by decide +kernel
theorem dX9_digest_37 : decode cX9_digest 37 = .ok (.istore_n 1, 1) := by decide +kernel
theorem dX9_digest_38 : decode cX9_digest 38 = .ok (.iload_n 1, 1) := by decide +kernel
theorem dX9_digest_39 : decode cX9_digest 39 = .ok (.iconst 4, 1) := by decide +kernel
theorem dX9_digest_40 : decode cX9_digest 40 = .ok (.if_icmp .ge 20, 3) := by decide +kernel
theorem dX9_digest_43 : decode cX9_digest 43 = .ok (.aload_n 0, 1) := by decide +kernel
theorem dX9_digest_44 : decode cX9_digest 44 = .ok (.aload_n 0, 1) := by decide +kernel
theorem dX9_digest_45 : decode cX9_digest 45 = .ok (.getfield 7, 3) := by decide +kernel
theorem dX9_digest_48 : decode cX9_digest 48 = .ok (.iload_n 1, 1) := by decide +kernel
theorem dX9_digest_49 : decode cX9_digest 49 = .ok (.iaload, 1) := by decide +kernel
theorem dX9_digest_50 : decode cX9_digest 50 = .ok (.i2l, 1) := by decide +kernel
theorem dX9_digest_51 : decode cX9_digest 51 = .ok (.invokevirtual 228, 3) := by decide +kernel
theorem dX9_digest_54 : decode cX9_digest 54 = .ok (.iinc 1 1, 3) := by decide +kernel
theorem dX9_digest_57 : decode cX9_digest 57 = .ok (.goto (-19), 3) := by decide +kernel
theorem dX9_digest_60 : decode cX9_digest 60 = .ok (.iconst 0, 1) := by decide +kernel
theorem dX9_digest_61 : decode cX9_digest 61 = .ok (.istore_n 1, 1) := by decide +kernel
theorem dX9_digest_62 : decode cX9_digest 62 = .ok (.iload_n 1, 1) := by decide +kernel
theorem dX9_digest_63 : decode cX9_digest 63 = .ok (.iconst 3, 1) := by decide +kernel
theorem dX9_digest_64 : decode cX9_digest 64 = .ok (.if_icmp .ge 14, 3) := by decide +kernel
theorem dX9_digest_67 : decode cX9_digest 67 = .ok (.aload_n 0, 1) := by decide +kernel
theorem dX9_digest_68 : decode cX9_digest 68 = .ok (.iload_n 1, 1) := by decide +kernel
theorem dX9_digest_69 : decode cX9_digest 69 = .ok (.invokevirtual 240, 3) := by decide +kernel
theorem dX9_digest_72 : decode cX9_digest 72 = .ok (.iinc 1 1, 3) := by decide +kernel
theorem dX9_digest_75 : decode cX9_digest 75 = .ok (.goto (-13), 3) := by decide +kernel
theorem dX9_digest_78 : decode cX9_digest 78 = .ok (.aload_n 0, 1) := by decide +kernel
theorem dX9_digest_79 : decode cX9_digest 79 = .ok (.aload_n 0, 1) := by decide +kernel
theorem dX9_digest_80 : decode cX9_digest 80 = .ok (.invokevirtual 218, 3) := by decide +kernel
theorem dX9_digest_83 : decode cX9_digest 83 = .ok (.invokestatic 243, 3) := by decide +kernel
theorem dX9_digest_86 : decode cX9_digest 86 = .ok (.i2l, 1) := by decide +kernel
theorem dX9_digest_87 : decode cX9_digest 87 = .ok (.invokevirtual 228, 3) := by decide +kernel
theorem dX9_digest_90 : decode cX9_digest 90 = .ok (.aload_n 0, 1) := by decide +kernel
theorem dX9_digest_91 : decode cX9_digest 91 = .ok (.aload_n 0, 1) := by decide +kernel
theorem dX9_digest_92 : decode cX9_digest 92 = .ok (.getfield 167, 3) := by decide +kernel
theorem dX9_digest_95 : decode cX9_digest 95 = .ok (.ifCond .eq 7, 3) := by decide +kernel
theorem dX9_digest_98 : decode cX9_digest 98 = .ok (.lconst 1, 1) := by decide +kernel
theorem dX9_digest_99 : decode cX9_digest 99 = .ok (.goto 4, 3) := by decide +kernel
theorem dX9_digest_102 : decode cX9_digest 102 = .ok (.lconst 0, 1) := by decide +kernel
theorem dX9_digest_103 : decode cX9_digest 103 = .ok (.invokevirtual 228, 3) := by decide +kernel
theorem dX9_digest_106 : decode cX9_digest 106 = .ok (.aload_n 0, 1) := by decide +kernel
theorem dX9_digest_107 : decode cX9_digest 107 = .ok (.aload_n 0, 1) := by decide +kernel
theorem dX9_digest_108 : decode cX9_digest 108 = .ok (.getfield 130, 3) := by decide +kernel
theorem dX9_digest_111 : decode cX9_digest 111 = .ok (.i2l, 1) := by decide +kernel
theorem dX9_digest_112 : decode cX9_digest 112 = .ok (.invokevirtual 228, 3) := by decide +kernel
theorem dX9_digest_115 : decode cX9_digest 115 = .ok (.iconst 0, 1) := by decide +kernel
theorem dX9_digest_116 : decode cX9_digest 116 = .ok (.istore_n 1, 1) := by decide +kernel
theorem dX9_digest_117 : decode cX9_digest 117 = .ok (.iload_n 1, 1) := by decide +kernel
theorem dX9_digest_118 : decode cX9_digest 118 = .ok (.aload_n 0, 1) := by decide +kernel
theorem dX9_digest_119 : decode cX9_digest 119 = .ok (.getfield 130, 3) := by decide +kernel
theorem dX9_digest_122 : decode cX9_digest 122 = .ok (.if_icmp .ge 20, 3) := by decide +kernel
theorem dX9_digest_125 : decode cX9_digest 125 = .ok (.aload_n 0, 1) := by decide +kernel
theorem dX9_digest_126 : decode cX9_digest 126 = .ok (.aload_n 0, 1) := by decide +kernel
theorem dX9_digest_127 : decode cX9_digest 127 = .ok (.getfield 25, 3) := by decide +kernel
theorem dX9_digest_130 : decode cX9_digest 130 = .ok (.iload_n 1, 1) := by decide +kernel
theorem dX9_digest_131 : decode cX9_digest 131 = .ok (.iaload, 1) := by decide +kernel
theorem dX9_digest_132 : decode cX9_digest 132 = .ok (.i2l, 1) := by decide +kernel
theorem dX9_digest_133 : decode cX9_digest 133 = .ok (.invokevirtual 228, 3) := by decide +kernel
theorem dX9_digest_136 : decode cX9_digest 136 = .ok (.iinc 1 1, 3) := by decide +kernel
theorem dX9_digest_139 : decode cX9_digest 139 = .ok (.goto (-22), 3) := by decide +kernel
theorem dX9_digest_142 : decode cX9_digest 142 = .ok (.aload_n 0, 1) := by decide +kernel
theorem dX9_digest_143 : decode cX9_digest 143 = .ok (.getfield 224, 3) := by decide +kernel
theorem dX9_digest_146 : decode cX9_digest 146 = .ok (.lreturn, 1) := by decide +kernel
theorem dJxe99ae_isNaN_b9ae7_0 : decode cJxe99ae_isNaN_b9ae7 0 = .ok (.dload_n 0, 1) := by decide +kernel
theorem dJxe99ae_isNaN_b9ae7_1 : decode cJxe99ae_isNaN_b9ae7 1 = .ok (.dload_n 0, 1) := by decide +kernel
theorem dJxe99ae_isNaN_b9ae7_2 : decode cJxe99ae_isNaN_b9ae7 2 = .ok (.dcmp .l, 1) := by decide +kernel
theorem dJxe99ae_isNaN_b9ae7_3 : decode cJxe99ae_isNaN_b9ae7 3 = .ok (.ifCond .eq 7, 3) := by decide +kernel
theorem dJxe99ae_isNaN_b9ae7_6 : decode cJxe99ae_isNaN_b9ae7 6 = .ok (.iconst 1, 1) := by decide +kernel
theorem dJxe99ae_isNaN_b9ae7_7 : decode cJxe99ae_isNaN_b9ae7 7 = .ok (.goto 4, 3) := by decide +kernel
theorem dJxe99ae_isNaN_b9ae7_10 : decode cJxe99ae_isNaN_b9ae7 10 = .ok (.iconst 0, 1) := by decide +kernel
theorem dJxe99ae_isNaN_b9ae7_11 : decode cJxe99ae_isNaN_b9ae7 11 = .ok (.ireturn, 1) := by decide +kernel
theorem dJxe99ae_doubleToLongBits_ccdee_0 : decode cJxe99ae_doubleToLongBits_ccdee 0 = .ok (.dload_n 0, 1) := by decide +kernel
theorem dJxe99ae_doubleToLongBits_ccdee_1 : decode cJxe99ae_doubleToLongBits_ccdee 1 = .ok (.invokestatic 122, 3) := by decide +kernel
theorem dJxe99ae_doubleToLongBits_ccdee_4 : decode cJxe99ae_doubleToLongBits_ccdee 4 = .ok (.ifCond .ne 8, 3) := by decide +kernel
theorem dJxe99ae_doubleToLongBits_ccdee_7 : decode cJxe99ae_doubleToLongBits_ccdee 7 = .ok (.dload_n 0, 1) := by decide +kernel
theorem dJxe99ae_doubleToLongBits_ccdee_8 : decode cJxe99ae_doubleToLongBits_ccdee 8 = .ok (.invokestatic 134, 3) := by decide +kernel
theorem dJxe99ae_doubleToLongBits_ccdee_11 : decode cJxe99ae_doubleToLongBits_ccdee 11 = .ok (.lreturn, 1) := by decide +kernel
theorem dJxe99ae_doubleToLongBits_ccdee_12 : decode cJxe99ae_doubleToLongBits_ccdee 12 = .ok (.ldc2_w 137, 3) := by decide +kernel
theorem dJxe99ae_doubleToLongBits_ccdee_15 : decode cJxe99ae_doubleToLongBits_ccdee 15 = .ok (.lreturn, 1) := by decide +kernel
theorem dJxf58ca_isNaN_12338_0 : decode cJxf58ca_isNaN_12338 0 = .ok (.fload_n 0, 1) := by decide +kernel
theorem dJxf58ca_isNaN_12338_1 : decode cJxf58ca_isNaN_12338 1 = .ok (.fload_n 0, 1) := by decide +kernel
theorem dJxf58ca_isNaN_12338_2 : decode cJxf58ca_isNaN_12338 2 = .ok (.fcmp .l, 1) := by decide +kernel
theorem dJxf58ca_isNaN_12338_3 : decode cJxf58ca_isNaN_12338 3 = .ok (.ifCond .eq 7, 3) := by decide +kernel
theorem dJxf58ca_isNaN_12338_6 : decode cJxf58ca_isNaN_12338 6 = .ok (.iconst 1, 1) := by decide +kernel
theorem dJxf58ca_isNaN_12338_7 : decode cJxf58ca_isNaN_12338 7 = .ok (.goto 4, 3) := by decide +kernel
theorem dJxf58ca_isNaN_12338_10 : decode cJxf58ca_isNaN_12338 10 = .ok (.iconst 0, 1) := by decide +kernel
theorem dJxf58ca_isNaN_12338_11 : decode cJxf58ca_isNaN_12338 11 = .ok (.ireturn, 1) := by decide +kernel
theorem dJxf58ca_floatToIntBits_5c35a_0 : decode cJxf58ca_floatToIntBits_5c35a 0 = .ok (.fload_n 0, 1) := by decide +kernel
theorem dJxf58ca_floatToIntBits_5c35a_1 : decode cJxf58ca_floatToIntBits_5c35a 1 = .ok (.invokestatic 59, 3) := by decide +kernel
theorem dJxf58ca_floatToIntBits_5c35a_4 : decode cJxf58ca_floatToIntBits_5c35a 4 = .ok (.ifCond .ne 8, 3) := by decide +kernel
theorem dJxf58ca_floatToIntBits_5c35a_7 : decode cJxf58ca_floatToIntBits_5c35a 7 = .ok (.fload_n 0, 1) := by decide +kernel
theorem dJxf58ca_floatToIntBits_5c35a_8 : decode cJxf58ca_floatToIntBits_5c35a 8 = .ok (.invokestatic 74, 3) := by decide +kernel
theorem dJxf58ca_floatToIntBits_5c35a_11 : decode cJxf58ca_floatToIntBits_5c35a 11 = .ok (.ireturn, 1) := by decide +kernel
theorem dJxf58ca_floatToIntBits_5c35a_12 : decode cJxf58ca_floatToIntBits_5c35a 12 = .ok (.ldc 77, 2) := by decide +kernel
theorem dJxf58ca_floatToIntBits_5c35a_14 : decode cJxf58ca_floatToIntBits_5c35a 14 = .ok (.ireturn, 1) := by decide +kernel
theorem dJ9_max_7cf53_0 : decode cJ9_max_7cf53 0 = .ok (.iload_n 0, 1) := by decide +kernel
theorem dJ9_max_7cf53_1 : decode cJ9_max_7cf53 1 = .ok (.iload_n 1, 1) := by decide +kernel
theorem dJ9_max_7cf53_2 : decode cJ9_max_7cf53 2 = .ok (.if_icmp .lt 7, 3) := by decide +kernel
theorem dJ9_max_7cf53_5 : decode cJ9_max_7cf53 5 = .ok (.iload_n 0, 1) := by decide +kernel
theorem dJ9_max_7cf53_6 : decode cJ9_max_7cf53 6 = .ok (.goto 4, 3) := by decide +kernel
theorem dJ9_max_7cf53_9 : decode cJ9_max_7cf53 9 = .ok (.iload_n 1, 1) := by decide +kernel
theorem dJ9_max_7cf53_10 : decode cJ9_max_7cf53 10 = .ok (.ireturn, 1) := by decide +kernel
theorem dJ9_min_7cf53_0 : decode cJ9_min_7cf53 0 = .ok (.iload_n 0, 1) := by decide +kernel
theorem dJ9_min_7cf53_1 : decode cJ9_min_7cf53 1 = .ok (.iload_n 1, 1) := by decide +kernel
theorem dJ9_min_7cf53_2 : decode cJ9_min_7cf53 2 = .ok (.if_icmp .gt 7, 3) := by decide +kernel
theorem dJ9_min_7cf53_5 : decode cJ9_min_7cf53 5 = .ok (.iload_n 0, 1) := by decide +kernel
theorem dJ9_min_7cf53_6 : decode cJ9_min_7cf53 6 = .ok (.goto 4, 3) := by decide +kernel
theorem dJ9_min_7cf53_9 : decode cJ9_min_7cf53 9 = .ok (.iload_n 1, 1) := by decide +kernel
theorem dJ9_min_7cf53_10 : decode cJ9_min_7cf53 10 = .ok (.ireturn, 1) := by decide +kernel
theorem dL_say_0 : decode cL_say 0 = .ok (.aload_n 3, 1) := by decide +kernel
theorem dL_say_1 : decode cL_say 1 = .ok (.iconst 0, 1) := by decide +kernel
theorem dL_say_2 : decode cL_say 2 = .ok (.aload_n 0, 1) := by decide +kernel
theorem dL_say_3 : decode cL_say 3 = .ok (.iload_n 1, 1) := by decide +kernel
theorem dL_say_4 : decode cL_say 4 = .ok (.iload_n 2, 1) := by decide +kernel
theorem dL_say_5 : decode cL_say 5 = .ok (.invokevirtual 7, 3) := by decide +kernel
theorem dL_say_8 : decode cL_say 8 = .ok (.i2l, 1) := by decide +kernel
theorem dL_say_9 : decode cL_say 9 = .ok (.lastore, 1) := by decide +kernel
theorem dL_say_10 : decode cL_say 10 = .ok (.goto 15, 3) := by decide +kernel
theorem dL_say_13 : decode cL_say 13 = .ok (.astore 4, 2) := by decide +kernel
theorem dL_say_15 : decode cL_say 15 = .ok (.iconst 1, 1) := by decide +kernel
theorem dL_say_16 : decode cL_say 16 = .ok (.ireturn, 1) := by decide +kernel
theorem dL_say_17 : decode cL_say 17 = .ok (.astore 4, 2) := by decide +kernel
theorem dL_say_19 : decode cL_say 19 = .ok (.iconst 2, 1) := by decide +kernel
theorem dL_say_20 : decode cL_say 20 = .ok (.ireturn, 1) := by decide +kernel
theorem dL_say_21 : decode cL_say 21 = .ok (.astore 4, 2) := by decide +kernel
theorem dL_say_23 : decode cL_say 23 = .ok (.iconst 3, 1) := by decide +kernel
theorem dL_say_24 : decode cL_say 24 = .ok (.ireturn, 1) := by decide +kernel
theorem dL_say_25 : decode cL_say 25 = .ok (.iconst 0, 1) := by decide +kernel
theorem dL_say_26 : decode cL_say 26 = .ok (.ireturn, 1) := by decide +kernel
theorem dL_flush_0 : decode cL_flush 0 = .ok (.aload_n 2, 1) := by decide +kernel
theorem dL_flush_1 : decode cL_flush 1 = .ok (.iconst 0, 1) := by decide +kernel
theorem dL_flush_2 : decode cL_flush 2 = .ok (.aload_n 0, 1) := by decide +kernel
theorem dL_flush_3 : decode cL_flush 3 = .ok (.iload_n 1, 1) := by decide +kernel
theorem dL_flush_4 : decode cL_flush 4 = .ok (.invokevirtual 19, 3) := by decide +kernel
theorem dL_flush_7 : decode cL_flush 7 = .ok (.i2l, 1) := by decide +kernel
theorem dL_flush_8 : decode cL_flush 8 = .ok (.lastore, 1) := by decide +kernel
theorem dL_flush_9 : decode cL_flush 9 = .ok (.goto 9, 3) := by decide +kernel
theorem dL_flush_12 : decode cL_flush 12 = .ok (.astore_n 3, 1) := by decide +kernel
theorem dL_flush_13 : decode cL_flush 13 = .ok (.iconst 1, 1) := by decide +kernel
theorem dL_flush_14 : decode cL_flush 14 = .ok (.ireturn, 1) := by decide +kernel
theorem dL_flush_15 : decode cL_flush 15 = .ok (.astore_n 3, 1) := by decide +kernel
theorem dL_flush_16 : decode cL_flush 16 = .ok (.iconst 2, 1) := by decide +kernel
theorem dL_flush_17 : decode cL_flush 17 = .ok (.ireturn, 1) := by decide +kernel
theorem dL_flush_18 : decode cL_flush 18 = .ok (.iconst 0, 1) := by decide +kernel
theorem dL_flush_19 : decode cL_flush 19 = .ok (.ireturn, 1) := by decide +kernel
theorem dL_deliver_0 : decode cL_deliver 0 = .ok (.aload_n 2, 1) := by decide +kernel
theorem dL_deliver_1 : decode cL_deliver 1 = .ok (.iconst 0, 1) := by decide +kernel
theorem dL_deliver_2 : decode cL_deliver 2 = .ok (.aload_n 0, 1) := by decide +kernel
theorem dL_deliver_3 : decode cL_deliver 3 = .ok (.iload_n 1, 1) := by decide +kernel
theorem dL_deliver_4 : decode cL_deliver 4 = .ok (.invokevirtual 23, 3) := by decide +kernel
theorem dL_deliver_7 : decode cL_deliver 7 = .ok (.i2l, 1) := by decide +kernel
theorem dL_deliver_8 : decode cL_deliver 8 = .ok (.lastore, 1) := by decide +kernel
theorem dL_deliver_9 : decode cL_deliver 9 = .ok (.goto 9, 3) := by decide +kernel
theorem dL_deliver_12 : decode cL_deliver 12 = .ok (.astore_n 3, 1) := by decide +kernel
theorem dL_deliver_13 : decode cL_deliver 13 = .ok (.iconst 1, 1) := by decide +kernel
theorem dL_deliver_14 : decode cL_deliver 14 = .ok (.ireturn, 1) := by decide +kernel
theorem dL_deliver_15 : decode cL_deliver 15 = .ok (.astore_n 3, 1) := by decide +kernel
theorem dL_deliver_16 : decode cL_deliver 16 = .ok (.iconst 2, 1) := by decide +kernel
theorem dL_deliver_17 : decode cL_deliver 17 = .ok (.ireturn, 1) := by decide +kernel
theorem dL_deliver_18 : decode cL_deliver 18 = .ok (.iconst 0, 1) := by decide +kernel
theorem dL_deliver_19 : decode cL_deliver 19 = .ok (.ireturn, 1) := by decide +kernel
theorem dL_lose_0 : decode cL_lose 0 = .ok (.aload_n 2, 1) := by decide +kernel
theorem dL_lose_1 : decode cL_lose 1 = .ok (.iconst 0, 1) := by decide +kernel
theorem dL_lose_2 : decode cL_lose 2 = .ok (.aload_n 0, 1) := by decide +kernel
theorem dL_lose_3 : decode cL_lose 3 = .ok (.iload_n 1, 1) := by decide +kernel
theorem dL_lose_4 : decode cL_lose 4 = .ok (.invokevirtual 26, 3) := by decide +kernel
theorem dL_lose_7 : decode cL_lose 7 = .ok (.i2l, 1) := by decide +kernel
theorem dL_lose_8 : decode cL_lose 8 = .ok (.lastore, 1) := by decide +kernel
theorem dL_lose_9 : decode cL_lose 9 = .ok (.goto 9, 3) := by decide +kernel
theorem dL_lose_12 : decode cL_lose 12 = .ok (.astore_n 3, 1) := by decide +kernel
theorem dL_lose_13 : decode cL_lose 13 = .ok (.iconst 1, 1) := by decide +kernel
theorem dL_lose_14 : decode cL_lose 14 = .ok (.ireturn, 1) := by decide +kernel
theorem dL_lose_15 : decode cL_lose 15 = .ok (.astore_n 3, 1) := by decide +kernel
theorem dL_lose_16 : decode cL_lose 16 = .ok (.iconst 2, 1) := by decide +kernel
theorem dL_lose_17 : decode cL_lose 17 = .ok (.ireturn, 1) := by decide +kernel
theorem dL_lose_18 : decode cL_lose 18 = .ok (.iconst 0, 1) := by decide +kernel
theorem dL_lose_19 : decode cL_lose 19 = .ok (.ireturn, 1) := by decide +kernel
theorem dL_swap_0 : decode cL_swap 0 = .ok (.aload_n 2, 1) := by decide +kernel
theorem dL_swap_1 : decode cL_swap 1 = .ok (.iconst 0, 1) := by decide +kernel
theorem dL_swap_2 : decode cL_swap 2 = .ok (.aload_n 0, 1) := by decide +kernel
theorem dL_swap_3 : decode cL_swap 3 = .ok (.iload_n 1, 1) := by decide +kernel
theorem dL_swap_4 : decode cL_swap 4 = .ok (.invokevirtual 29, 3) := by decide +kernel
theorem dL_swap_7 : decode cL_swap 7 = .ok (.i2l, 1) := by decide +kernel
theorem dL_swap_8 : decode cL_swap 8 = .ok (.lastore, 1) := by decide +kernel
theorem dL_swap_9 : decode cL_swap 9 = .ok (.goto 9, 3) := by decide +kernel
theorem dL_swap_12 : decode cL_swap 12 = .ok (.astore_n 3, 1) := by decide +kernel
theorem dL_swap_13 : decode cL_swap 13 = .ok (.iconst 1, 1) := by decide +kernel
theorem dL_swap_14 : decode cL_swap 14 = .ok (.ireturn, 1) := by decide +kernel
theorem dL_swap_15 : decode cL_swap 15 = .ok (.astore_n 3, 1) := by decide +kernel
theorem dL_swap_16 : decode cL_swap 16 = .ok (.iconst 2, 1) := by decide +kernel
theorem dL_swap_17 : decode cL_swap 17 = .ok (.ireturn, 1) := by decide +kernel
theorem dL_swap_18 : decode cL_swap 18 = .ok (.iconst 0, 1) := by decide +kernel
theorem dL_swap_19 : decode cL_swap 19 = .ok (.ireturn, 1) := by decide +kernel
theorem dL_set_0 : decode cL_set 0 = .ok (.aload_n 3, 1) := by decide +kernel
theorem dL_set_1 : decode cL_set 1 = .ok (.iconst 0, 1) := by decide +kernel
theorem dL_set_2 : decode cL_set 2 = .ok (.aload_n 0, 1) := by decide +kernel
theorem dL_set_3 : decode cL_set 3 = .ok (.iload_n 1, 1) := by decide +kernel
theorem dL_set_4 : decode cL_set 4 = .ok (.iload_n 2, 1) := by decide +kernel
theorem dL_set_5 : decode cL_set 5 = .ok (.invokevirtual 32, 3) := by decide +kernel
theorem dL_set_8 : decode cL_set 8 = .ok (.i2l, 1) := by decide +kernel
theorem dL_set_9 : decode cL_set 9 = .ok (.lastore, 1) := by decide +kernel
theorem dL_set_10 : decode cL_set 10 = .ok (.goto 11, 3) := by decide +kernel
theorem dL_set_13 : decode cL_set 13 = .ok (.astore 4, 2) := by decide +kernel
theorem dL_set_15 : decode cL_set 15 = .ok (.iconst 1, 1) := by decide +kernel
theorem dL_set_16 : decode cL_set 16 = .ok (.ireturn, 1) := by decide +kernel
theorem dL_set_17 : decode cL_set 17 = .ok (.astore 4, 2) := by decide +kernel
theorem dL_set_19 : decode cL_set 19 = .ok (.iconst 2, 1) := by decide +kernel
theorem dL_set_20 : decode cL_set 20 = .ok (.ireturn, 1) := by decide +kernel
theorem dL_set_21 : decode cL_set 21 = .ok (.iconst 0, 1) := by decide +kernel
theorem dL_set_22 : decode cL_set 22 = .ok (.ireturn, 1) := by decide +kernel
theorem dL_append_0 : decode cL_append 0 = .ok (.aload_n 2, 1) := by decide +kernel
theorem dL_append_1 : decode cL_append 1 = .ok (.iconst 0, 1) := by decide +kernel
theorem dL_append_2 : decode cL_append 2 = .ok (.aload_n 0, 1) := by decide +kernel
theorem dL_append_3 : decode cL_append 3 = .ok (.iload_n 1, 1) := by decide +kernel
theorem dL_append_4 : decode cL_append 4 = .ok (.invokevirtual 35, 3) := by decide +kernel
theorem dL_append_7 : decode cL_append 7 = .ok (.i2l, 1) := by decide +kernel
theorem dL_append_8 : decode cL_append 8 = .ok (.lastore, 1) := by decide +kernel
theorem dL_append_9 : decode cL_append 9 = .ok (.goto 9, 3) := by decide +kernel
theorem dL_append_12 : decode cL_append 12 = .ok (.astore_n 3, 1) := by decide +kernel
theorem dL_append_13 : decode cL_append 13 = .ok (.iconst 1, 1) := by decide +kernel
theorem dL_append_14 : decode cL_append 14 = .ok (.ireturn, 1) := by decide +kernel
theorem dL_append_15 : decode cL_append 15 = .ok (.astore_n 3, 1) := by decide +kernel
theorem dL_append_16 : decode cL_append 16 = .ok (.iconst 2, 1) := by decide +kernel
theorem dL_append_17 : decode cL_append 17 = .ok (.ireturn, 1) := by decide +kernel
theorem dL_append_18 : decode cL_append 18 = .ok (.iconst 0, 1) := by decide +kernel
theorem dL_append_19 : decode cL_append 19 = .ok (.ireturn, 1) := by decide +kernel
theorem dL_talk_0 : decode cL_talk 0 = .ok (.aload_n 1, 1) := by decide +kernel
theorem dL_talk_1 : decode cL_talk 1 = .ok (.iconst 0, 1) := by decide +kernel
theorem dL_talk_2 : decode cL_talk 2 = .ok (.aload_n 0, 1) := by decide +kernel
theorem dL_talk_3 : decode cL_talk 3 = .ok (.invokevirtual 38, 3) := by decide +kernel
theorem dL_talk_6 : decode cL_talk 6 = .ok (.i2l, 1) := by decide +kernel
theorem dL_talk_7 : decode cL_talk 7 = .ok (.lastore, 1) := by decide +kernel
theorem dL_talk_8 : decode cL_talk 8 = .ok (.goto 6, 3) := by decide +kernel
theorem dL_talk_11 : decode cL_talk 11 = .ok (.astore_n 2, 1) := by decide +kernel
theorem dL_talk_12 : decode cL_talk 12 = .ok (.iconst 1, 1) := by decide +kernel
theorem dL_talk_13 : decode cL_talk 13 = .ok (.ireturn, 1) := by decide +kernel
theorem dL_talk_14 : decode cL_talk 14 = .ok (.iconst 0, 1) := by decide +kernel
theorem dL_talk_15 : decode cL_talk 15 = .ok (.ireturn, 1) := by decide +kernel
theorem dL_goBack_0 : decode cL_goBack 0 = .ok (.aload_n 1, 1) := by decide +kernel
theorem dL_goBack_1 : decode cL_goBack 1 = .ok (.iconst 0, 1) := by decide +kernel
theorem dL_goBack_2 : decode cL_goBack 2 = .ok (.aload_n 0, 1) := by decide +kernel
theorem dL_goBack_3 : decode cL_goBack 3 = .ok (.invokevirtual 42, 3) := by decide +kernel
theorem dL_goBack_6 : decode cL_goBack 6 = .ok (.i2l, 1) := by decide +kernel
theorem dL_goBack_7 : decode cL_goBack 7 = .ok (.lastore, 1) := by decide +kernel
theorem dL_goBack_8 : decode cL_goBack 8 = .ok (.goto 6, 3) := by decide +kernel
theorem dL_goBack_11 : decode cL_goBack 11 = .ok (.astore_n 2, 1) := by decide +kernel
theorem dL_goBack_12 : decode cL_goBack 12 = .ok (.iconst 1, 1) := by decide +kernel
theorem dL_goBack_13 : decode cL_goBack 13 = .ok (.ireturn, 1) := by decide +kernel
theorem dL_goBack_14 : decode cL_goBack 14 = .ok (.iconst 0, 1) := by decide +kernel
theorem dL_goBack_15 : decode cL_goBack 15 = .ok (.ireturn, 1) := by decide +kernel
theorem dL_undo_0 : decode cL_undo 0 = .ok (.aload_n 1, 1) := by decide +kernel
theorem dL_undo_1 : decode cL_undo 1 = .ok (.iconst 0, 1) := by decide +kernel
theorem dL_undo_2 : decode cL_undo 2 = .ok (.aload_n 0, 1) := by decide +kernel
theorem dL_undo_3 : decode cL_undo 3 = .ok (.invokevirtual 45, 3) := by decide +kernel
theorem dL_undo_6 : decode cL_undo 6 = .ok (.i2l, 1) := by decide +kernel
theorem dL_undo_7 : decode cL_undo 7 = .ok (.lastore, 1) := by decide +kernel
theorem dL_undo_8 : decode cL_undo 8 = .ok (.goto 6, 3) := by decide +kernel
theorem dL_undo_11 : decode cL_undo 11 = .ok (.astore_n 2, 1) := by decide +kernel
theorem dL_undo_12 : decode cL_undo 12 = .ok (.iconst 1, 1) := by decide +kernel
theorem dL_undo_13 : decode cL_undo 13 = .ok (.ireturn, 1) := by decide +kernel
theorem dL_undo_14 : decode cL_undo 14 = .ok (.iconst 0, 1) := by decide +kernel
theorem dL_undo_15 : decode cL_undo 15 = .ok (.ireturn, 1) := by decide +kernel
theorem dL_saying_0 : decode cL_saying 0 = .ok (.aload_n 3, 1) := by decide +kernel
theorem dL_saying_1 : decode cL_saying 1 = .ok (.iconst 0, 1) := by decide +kernel
theorem dL_saying_2 : decode cL_saying 2 = .ok (.aload_n 0, 1) := by decide +kernel
theorem dL_saying_3 : decode cL_saying 3 = .ok (.iload_n 1, 1) := by decide +kernel
theorem dL_saying_4 : decode cL_saying 4 = .ok (.iload_n 2, 1) := by decide +kernel
theorem dL_saying_5 : decode cL_saying 5 = .ok (.invokevirtual 48, 3) := by decide +kernel
theorem dL_saying_8 : decode cL_saying 8 = .ok (.i2l, 1) := by decide +kernel
theorem dL_saying_9 : decode cL_saying 9 = .ok (.lastore, 1) := by decide +kernel
theorem dL_saying_10 : decode cL_saying 10 = .ok (.goto 11, 3) := by decide +kernel
theorem dL_saying_13 : decode cL_saying 13 = .ok (.astore 4, 2) := by decide +kernel
theorem dL_saying_15 : decode cL_saying 15 = .ok (.iconst 1, 1) := by decide +kernel
theorem dL_saying_16 : decode cL_saying 16 = .ok (.ireturn, 1) := by decide +kernel
theorem dL_saying_17 : decode cL_saying 17 = .ok (.astore 4, 2) := by decide +kernel
theorem dL_saying_19 : decode cL_saying 19 = .ok (.iconst 2, 1) := by decide +kernel
theorem dL_saying_20 : decode cL_saying 20 = .ok (.ireturn, 1) := by decide +kernel
theorem dL_saying_21 : decode cL_saying 21 = .ok (.iconst 0, 1) := by decide +kernel
theorem dL_saying_22 : decode cL_saying 22 = .ok (.ireturn, 1) := by decide +kernel
theorem dL_hearing_0 : decode cL_hearing 0 = .ok (.aload_n 3, 1) := by decide +kernel
theorem dL_hearing_1 : decode cL_hearing 1 = .ok (.iconst 0, 1) := by decide +kernel
theorem dL_hearing_2 : decode cL_hearing 2 = .ok (.aload_n 0, 1) := by decide +kernel
theorem dL_hearing_3 : decode cL_hearing 3 = .ok (.iload_n 1, 1) := by decide +kernel
theorem dL_hearing_4 : decode cL_hearing 4 = .ok (.iload_n 2, 1) := by decide +kernel
theorem dL_hearing_5 : decode cL_hearing 5 = .ok (.invokevirtual 51, 3) := by decide +kernel
theorem dL_hearing_8 : decode cL_hearing 8 = .ok (.i2l, 1) := by decide +kernel
theorem dL_hearing_9 : decode cL_hearing 9 = .ok (.lastore, 1) := by decide +kernel
theorem dL_hearing_10 : decode cL_hearing 10 = .ok (.goto 11, 3) := by decide +kernel
theorem dL_hearing_13 : decode cL_hearing 13 = .ok (.astore 4, 2) := by decide +kernel
theorem dL_hearing_15 : decode cL_hearing 15 = .ok (.iconst 1, 1) := by decide +kernel
theorem dL_hearing_16 : decode cL_hearing 16 = .ok (.ireturn, 1) := by decide +kernel
theorem dL_hearing_17 : decode cL_hearing 17 = .ok (.astore 4, 2) := by decide +kernel
theorem dL_hearing_19 : decode cL_hearing 19 = .ok (.iconst 2, 1) := by decide +kernel
theorem dL_hearing_20 : decode cL_hearing 20 = .ok (.ireturn, 1) := by decide +kernel
theorem dL_hearing_21 : decode cL_hearing 21 = .ok (.iconst 0, 1) := by decide +kernel
theorem dL_hearing_22 : decode cL_hearing 22 = .ok (.ireturn, 1) := by decide +kernel
theorem dL_packet_0 : decode cL_packet 0 = .ok (.aload 4, 2) := by decide +kernel
theorem dL_packet_2 : decode cL_packet 2 = .ok (.iconst 0, 1) := by decide +kernel
theorem dL_packet_3 : decode cL_packet 3 = .ok (.aload_n 0, 1) := by decide +kernel
theorem dL_packet_4 : decode cL_packet 4 = .ok (.iload_n 1, 1) := by decide +kernel
theorem dL_packet_5 : decode cL_packet 5 = .ok (.iload_n 2, 1) := by decide +kernel
theorem dL_packet_6 : decode cL_packet 6 = .ok (.iload_n 3, 1) := by decide +kernel
theorem dL_packet_7 : decode cL_packet 7 = .ok (.invokevirtual 54, 3) := by decide +kernel
theorem dL_packet_10 : decode cL_packet 10 = .ok (.i2l, 1) := by decide +kernel
theorem dL_packet_11 : decode cL_packet 11 = .ok (.lastore, 1) := by decide +kernel
theorem dL_packet_12 : decode cL_packet 12 = .ok (.goto 11, 3) := by decide +kernel
theorem dL_packet_15 : decode cL_packet 15 = .ok (.astore 5, 2) := by decide +kernel
theorem dL_packet_17 : decode cL_packet 17 = .ok (.iconst 1, 1) := by decide +kernel
theorem dL_packet_18 : decode cL_packet 18 = .ok (.ireturn, 1) := by decide +kernel
theorem dL_packet_19 : decode cL_packet 19 = .ok (.astore 5, 2) := by decide +kernel
theorem dL_packet_21 : decode cL_packet 21 = .ok (.iconst 2, 1) := by decide +kernel
theorem dL_packet_22 : decode cL_packet 22 = .ok (.ireturn, 1) := by decide +kernel
theorem dL_packet_23 : decode cL_packet 23 = .ok (.iconst 0, 1) := by decide +kernel
theorem dL_packet_24 : decode cL_packet 24 = .ok (.ireturn, 1) := by decide +kernel
theorem dL_why_0 : decode cL_why 0 = .ok (.aload_n 2, 1) := by decide +kernel
theorem dL_why_1 : decode cL_why 1 = .ok (.iconst 0, 1) := by decide +kernel
theorem dL_why_2 : decode cL_why 2 = .ok (.aload_n 0, 1) := by decide +kernel
theorem dL_why_3 : decode cL_why 3 = .ok (.iload_n 1, 1) := by decide +kernel
theorem dL_why_4 : decode cL_why 4 = .ok (.invokevirtual 58, 3) := by decide +kernel
theorem dL_why_7 : decode cL_why 7 = .ok (.i2l, 1) := by decide +kernel
theorem dL_why_8 : decode cL_why 8 = .ok (.lastore, 1) := by decide +kernel
theorem dL_why_9 : decode cL_why 9 = .ok (.goto 6, 3) := by decide +kernel
theorem dL_why_12 : decode cL_why 12 = .ok (.astore_n 3, 1) := by decide +kernel
theorem dL_why_13 : decode cL_why 13 = .ok (.iconst 1, 1) := by decide +kernel
theorem dL_why_14 : decode cL_why 14 = .ok (.ireturn, 1) := by decide +kernel
theorem dL_why_15 : decode cL_why 15 = .ok (.iconst 0, 1) := by decide +kernel
theorem dL_why_16 : decode cL_why 16 = .ok (.ireturn, 1) := by decide +kernel
theorem dL_count_0 : decode cL_count 0 = .ok (.aload_n 2, 1) := by decide +kernel
theorem dL_count_1 : decode cL_count 1 = .ok (.iconst 0, 1) := by decide +kernel
theorem dL_count_2 : decode cL_count 2 = .ok (.aload_n 0, 1) := by decide +kernel
theorem dL_count_3 : decode cL_count 3 = .ok (.iload_n 1, 1) := by decide +kernel
theorem dL_count_4 : decode cL_count 4 = .ok (.invokevirtual 61, 3) := by decide +kernel
theorem dL_count_7 : decode cL_count 7 = .ok (.i2l, 1) := by decide +kernel
theorem dL_count_8 : decode cL_count 8 = .ok (.lastore, 1) := by decide +kernel
theorem dL_count_9 : decode cL_count 9 = .ok (.goto 6, 3) := by decide +kernel
theorem dL_count_12 : decode cL_count 12 = .ok (.astore_n 3, 1) := by decide +kernel
theorem dL_count_13 : decode cL_count 13 = .ok (.iconst 1, 1) := by decide +kernel
theorem dL_count_14 : decode cL_count 14 = .ok (.ireturn, 1) := by decide +kernel
theorem dL_count_15 : decode cL_count 15 = .ok (.iconst 0, 1) := by decide +kernel
theorem dL_count_16 : decode cL_count 16 = .ok (.ireturn, 1) := by decide +kernel
theorem dL_setting_0 : decode cL_setting 0 = .ok (.aload_n 2, 1) := by decide +kernel
theorem dL_setting_1 : decode cL_setting 1 = .ok (.iconst 0, 1) := by decide +kernel
theorem dL_setting_2 : decode cL_setting 2 = .ok (.aload_n 0, 1) := by decide +kernel
theorem dL_setting_3 : decode cL_setting 3 = .ok (.iload_n 1, 1) := by decide +kernel
theorem dL_setting_4 : decode cL_setting 4 = .ok (.invokevirtual 64, 3) := by decide +kernel
theorem dL_setting_7 : decode cL_setting 7 = .ok (.i2l, 1) := by decide +kernel
theorem dL_setting_8 : decode cL_setting 8 = .ok (.lastore, 1) := by decide +kernel
theorem dL_setting_9 : decode cL_setting 9 = .ok (.goto 6, 3) := by decide +kernel
theorem dL_setting_12 : decode cL_setting 12 = .ok (.astore_n 3, 1) := by decide +kernel
theorem dL_setting_13 : decode cL_setting 13 = .ok (.iconst 1, 1) := by decide +kernel
theorem dL_setting_14 : decode cL_setting 14 = .ok (.ireturn, 1) := by decide +kernel
theorem dL_setting_15 : decode cL_setting 15 = .ok (.iconst 0, 1) := by decide +kernel
theorem dL_setting_16 : decode cL_setting 16 = .ok (.ireturn, 1) := by decide +kernel
theorem dL_code_0 : decode cL_code 0 = .ok (.aload 4, 2) := by decide +kernel
theorem dL_code_2 : decode cL_code 2 = .ok (.iconst 0, 1) := by decide +kernel
theorem dL_code_3 : decode cL_code 3 = .ok (.aload_n 0, 1) := by decide +kernel
theorem dL_code_4 : decode cL_code 4 = .ok (.iload_n 1, 1) := by decide +kernel
theorem dL_code_5 : decode cL_code 5 = .ok (.iload_n 2, 1) := by decide +kernel
theorem dL_code_6 : decode cL_code 6 = .ok (.iload_n 3, 1) := by decide +kernel
theorem dL_code_7 : decode cL_code 7 = .ok (.invokevirtual 67, 3) := by decide +kernel
theorem dL_code_10 : decode cL_code 10 = .ok (.i2l, 1) := by decide +kernel
theorem dL_code_11 : decode cL_code 11 = .ok (.lastore, 1) := by decide +kernel
theorem dL_code_12 : decode cL_code 12 = .ok (.goto 11, 3) := by decide +kernel
theorem dL_code_15 : decode cL_code 15 = .ok (.astore 5, 2) := by decide +kernel
theorem dL_code_17 : decode cL_code 17 = .ok (.iconst 1, 1) := by decide +kernel
theorem dL_code_18 : decode cL_code 18 = .ok (.ireturn, 1) := by decide +kernel
theorem dL_code_19 : decode cL_code 19 = .ok (.astore 5, 2) := by decide +kernel
theorem dL_code_21 : decode cL_code 21 = .ok (.iconst 2, 1) := by decide +kernel
theorem dL_code_22 : decode cL_code 22 = .ok (.ireturn, 1) := by decide +kernel
theorem dL_code_23 : decode cL_code 23 = .ok (.iconst 0, 1) := by decide +kernel
theorem dL_code_24 : decode cL_code 24 = .ok (.ireturn, 1) := by decide +kernel
theorem dL_settles_0 : decode cL_settles 0 = .ok (.aload 4, 2) := by decide +kernel
theorem dL_settles_2 : decode cL_settles 2 = .ok (.iconst 0, 1) := by decide +kernel
theorem dL_settles_3 : decode cL_settles 3 = .ok (.aload_n 0, 1) := by decide +kernel
theorem dL_settles_4 : decode cL_settles 4 = .ok (.iload_n 1, 1) := by decide +kernel
theorem dL_settles_5 : decode cL_settles 5 = .ok (.iload_n 2, 1) := by decide +kernel
theorem dL_settles_6 : decode cL_settles 6 = .ok (.iload_n 3, 1) := by decide +kernel
theorem dL_settles_7 : decode cL_settles 7 = .ok (.invokevirtual 70, 3) := by decide +kernel
theorem dL_settles_10 : decode cL_settles 10 = .ok (.i2l, 1) := by decide +kernel
theorem dL_settles_11 : decode cL_settles 11 = .ok (.lastore, 1) := by decide +kernel
theorem dL_settles_12 : decode cL_settles 12 = .ok (.goto 11, 3) := by decide +kernel
theorem dL_settles_15 : decode cL_settles 15 = .ok (.astore 5, 2) := by decide +kernel
theorem dL_settles_17 : decode cL_settles 17 = .ok (.iconst 1, 1) := by decide +kernel
theorem dL_settles_18 : decode cL_settles 18 = .ok (.ireturn, 1) := by decide +kernel
theorem dL_settles_19 : decode cL_settles 19 = .ok (.astore 5, 2) := by decide +kernel
theorem dL_settles_21 : decode cL_settles 21 = .ok (.iconst 2, 1) := by decide +kernel
theorem dL_settles_22 : decode cL_settles 22 = .ok (.ireturn, 1) := by decide +kernel
theorem dL_settles_23 : decode cL_settles 23 = .ok (.iconst 0, 1) := by decide +kernel
theorem dL_settles_24 : decode cL_settles 24 = .ok (.ireturn, 1) := by decide +kernel
theorem dL_ifDelivered_0 : decode cL_ifDelivered 0 = .ok (.aload_n 3, 1) := by decide +kernel
theorem dL_ifDelivered_1 : decode cL_ifDelivered 1 = .ok (.iconst 0, 1) := by decide +kernel
theorem dL_ifDelivered_2 : decode cL_ifDelivered 2 = .ok (.aload_n 0, 1) := by decide +kernel
theorem dL_ifDelivered_3 : decode cL_ifDelivered 3 = .ok (.iload_n 1, 1) := by decide +kernel
theorem dL_ifDelivered_4 : decode cL_ifDelivered 4 = .ok (.iload_n 2, 1) := by decide +kernel
theorem dL_ifDelivered_5 : decode cL_ifDelivered 5 = .ok (.invokevirtual 73, 3) := by decide +kernel
theorem dL_ifDelivered_8 : decode cL_ifDelivered 8 = .ok (.i2l, 1) := by decide +kernel
theorem dL_ifDelivered_9 : decode cL_ifDelivered 9 = .ok (.lastore, 1) := by decide +kernel
theorem dL_ifDelivered_10 : decode cL_ifDelivered 10 = .ok (.goto 11, 3) := by decide +kernel
theorem dL_ifDelivered_13 : decode cL_ifDelivered 13 = .ok (.astore 4, 2) := by decide +kernel
theorem dL_ifDelivered_15 : decode cL_ifDelivered 15 = .ok (.iconst 1, 1) := by decide +kernel
theorem dL_ifDelivered_16 : decode cL_ifDelivered 16 = .ok (.ireturn, 1) := by decide +kernel
theorem dL_ifDelivered_17 : decode cL_ifDelivered 17 = .ok (.astore 4, 2) := by decide +kernel
theorem dL_ifDelivered_19 : decode cL_ifDelivered 19 = .ok (.iconst 2, 1) := by decide +kernel
theorem dL_ifDelivered_20 : decode cL_ifDelivered 20 = .ok (.ireturn, 1) := by decide +kernel
theorem dL_ifDelivered_21 : decode cL_ifDelivered 21 = .ok (.iconst 0, 1) := by decide +kernel
theorem dL_ifDelivered_22 : decode cL_ifDelivered 22 = .ok (.ireturn, 1) := by decide +kernel
theorem dL_meanError_0 : decode cL_meanError 0 = .ok (.aload_n 2, 1) := by decide +kernel
theorem dL_meanError_1 : decode cL_meanError 1 = .ok (.iconst 0, 1) := by decide +kernel
theorem dL_meanError_2 : decode cL_meanError 2 = .ok (.aload_n 0, 1) := by decide +kernel
theorem dL_meanError_3 : decode cL_meanError 3 = .ok (.iload_n 1, 1) := by decide +kernel
theorem dL_meanError_4 : decode cL_meanError 4 = .ok (.invokevirtual 76, 3) := by decide +kernel
theorem dL_meanError_7 : decode cL_meanError 7 = .ok (.dastore, 1) := by decide +kernel
theorem dL_meanError_8 : decode cL_meanError 8 = .ok (.goto 6, 3) := by decide +kernel
theorem dL_meanError_11 : decode cL_meanError 11 = .ok (.astore_n 3, 1) := by decide +kernel
theorem dL_meanError_12 : decode cL_meanError 12 = .ok (.iconst 1, 1) := by decide +kernel
theorem dL_meanError_13 : decode cL_meanError 13 = .ok (.ireturn, 1) := by decide +kernel
theorem dL_meanError_14 : decode cL_meanError 14 = .ok (.iconst 0, 1) := by decide +kernel
theorem dL_meanError_15 : decode cL_meanError 15 = .ok (.ireturn, 1) := by decide +kernel
theorem dL_law_0 : decode cL_law 0 = .ok (.new 8, 3) := by decide +kernel
theorem dL_law_3 : decode cL_law 3 = .ok (.dup, 1) := by decide +kernel
theorem dL_law_4 : decode cL_law 4 = .ok (.invokespecial 80, 3) := by decide +kernel
theorem dL_law_7 : decode cL_law 7 = .ok (.astore_n 1, 1) := by decide +kernel
theorem dL_law_8 : decode cL_law 8 = .ok (.new 81, 3) := by decide +kernel
theorem dL_law_11 : decode cL_law 11 = .ok (.dup, 1) := by decide +kernel
theorem dL_law_12 : decode cL_law 12 = .ok (.invokespecial 83, 3) := by decide +kernel
theorem dL_law_15 : decode cL_law 15 = .ok (.astore_n 2, 1) := by decide +kernel
theorem dL_law_16 : decode cL_law 16 = .ok (.iconst 1, 1) := by decide +kernel
theorem dL_law_17 : decode cL_law 17 = .ok (.newarray .long, 2) := by decide +kernel
theorem dL_law_19 : decode cL_law 19 = .ok (.astore_n 3, 1) := by decide +kernel
theorem dL_law_20 : decode cL_law 20 = .ok (.iconst 1, 1) := by decide +kernel
theorem dL_law_21 : decode cL_law 21 = .ok (.newarray .double, 2) := by decide +kernel
theorem dL_law_23 : decode cL_law 23 = .ok (.astore 4, 2) := by decide +kernel
theorem dL_law_25 : decode cL_law 25 = .ok (.iconst 0, 1) := by decide +kernel
theorem dL_law_26 : decode cL_law 26 = .ok (.istore 5, 2) := by decide +kernel
theorem dL_law_28 : decode cL_law 28 = .ok (.iload 5, 2) := by decide +kernel
theorem dL_law_30 : decode cL_law 30 = .ok (.aload_n 0, 1) := by decide +kernel
theorem dL_law_31 : decode cL_law 31 = .ok (.arraylength, 1) := by decide +kernel
theorem dL_law_32 : decode cL_law 32 = .ok (.iconst 4, 1) := by decide +kernel
theorem dL_law_33 : decode cL_law 33 = .ok (.isub, 1) := by decide +kernel
theorem dL_law_34 : decode cL_law 34 = .ok (.if_icmp .gt 1465, 3) := by decide +kernel
theorem dL_law_37 : decode cL_law 37 = .ok (.aload_n 0, 1) := by decide +kernel
theorem dL_law_38 : decode cL_law 38 = .ok (.iload 5, 2) := by decide +kernel
theorem dL_law_40 : decode cL_law 40 = .ok (.iaload, 1) := by decide +kernel
theorem dL_law_41 : decode cL_law 41 = .ok (.bipush 31, 2) := by decide +kernel
theorem dL_law_43 : decode cL_law 43 = .ok (.iand, 1) := by decide +kernel
theorem dL_law_44 : decode cL_law 44 = .ok (.tableswitch 1449 0 24 #[116, 184, 240, 296, 352, 408, 476, 532, 545, 558, 602, 615, 659, 703, 771, 839, 919, 975, 1031, 1087, 1167, 1247, 1315, 1392, 1435], 116) := by decide +kernel
theorem dL_law_160 : decode cL_law 160 = .ok (.aload_n 1, 1) := by decide +kernel
theorem dL_law_161 : decode cL_law 161 = .ok (.aload_n 0, 1) := by decide +kernel
theorem dL_law_162 : decode cL_law 162 = .ok (.iload 5, 2) := by decide +kernel
theorem dL_law_164 : decode cL_law 164 = .ok (.iconst 1, 1) := by decide +kernel
theorem dL_law_165 : decode cL_law 165 = .ok (.iadd, 1) := by decide +kernel
theorem dL_law_166 : decode cL_law 166 = .ok (.iaload, 1) := by decide +kernel
theorem dL_law_167 : decode cL_law 167 = .ok (.aload_n 0, 1) := by decide +kernel
theorem dL_law_168 : decode cL_law 168 = .ok (.iload 5, 2) := by decide +kernel
theorem dL_law_170 : decode cL_law 170 = .ok (.iconst 2, 1) := by decide +kernel
theorem dL_law_171 : decode cL_law 171 = .ok (.iadd, 1) := by decide +kernel
theorem dL_law_172 : decode cL_law 172 = .ok (.iaload, 1) := by decide +kernel
theorem dL_law_173 : decode cL_law 173 = .ok (.aload_n 3, 1) := by decide +kernel
theorem dL_law_174 : decode cL_law 174 = .ok (.invokestatic 84, 3) := by decide +kernel
theorem dL_law_177 : decode cL_law 177 = .ok (.istore 6, 2) := by decide +kernel
theorem dL_law_179 : decode cL_law 179 = .ok (.aload_n 2, 1) := by decide +kernel
theorem dL_law_180 : decode cL_law 180 = .ok (.aload_n 0, 1) := by decide +kernel
theorem dL_law_181 : decode cL_law 181 = .ok (.iload 5, 2) := by decide +kernel
theorem dL_law_183 : decode cL_law 183 = .ok (.iconst 1, 1) := by decide +kernel
theorem dL_law_184 : decode cL_law 184 = .ok (.iadd, 1) := by decide +kernel
theorem dL_law_185 : decode cL_law 185 = .ok (.iaload, 1) := by decide +kernel
theorem dL_law_186 : decode cL_law 186 = .ok (.aload_n 0, 1) := by decide +kernel
theorem dL_law_187 : decode cL_law 187 = .ok (.iload 5, 2) := by decide +kernel
theorem dL_law_189 : decode cL_law 189 = .ok (.iconst 2, 1) := by decide +kernel
theorem dL_law_190 : decode cL_law 190 = .ok (.iadd, 1) := by decide +kernel
theorem dL_law_191 : decode cL_law 191 = .ok (.iaload, 1) := by decide +kernel
theorem dL_law_192 : decode cL_law 192 = .ok (.invokevirtual 89, 3) := by decide +kernel
theorem dL_law_195 : decode cL_law 195 = .ok (.istore 7, 2) := by decide +kernel
theorem dL_law_197 : decode cL_law 197 = .ok (.aload_n 2, 1) := by decide +kernel
theorem dL_law_198 : decode cL_law 198 = .ok (.invokevirtual 90, 3) := by decide +kernel
theorem dL_law_201 : decode cL_law 201 = .ok (.iload 6, 2) := by decide +kernel
theorem dL_law_203 : decode cL_law 203 = .ok (.if_icmp .eq 5, 3) := by decide +kernel
theorem dL_law_206 : decode cL_law 206 = .ok (.iconst 0, 1) := by decide +kernel
theorem dL_law_207 : decode cL_law 207 = .ok (.ireturn, 1) := by decide +kernel
theorem dL_law_208 : decode cL_law 208 = .ok (.iload 6, 2) := by decide +kernel
theorem dL_law_210 : decode cL_law 210 = .ok (.ifCond .ne 15, 3) := by decide +kernel
theorem dL_law_213 : decode cL_law 213 = .ok (.aload_n 3, 1) := by decide +kernel
theorem dL_law_214 : decode cL_law 214 = .ok (.iconst 0, 1) := by decide +kernel
theorem dL_law_215 : decode cL_law 215 = .ok (.laload, 1) := by decide +kernel
theorem dL_law_216 : decode cL_law 216 = .ok (.iload 7, 2) := by decide +kernel
theorem dL_law_218 : decode cL_law 218 = .ok (.i2l, 1) := by decide +kernel
theorem dL_law_219 : decode cL_law 219 = .ok (.lcmp, 1) := by decide +kernel
theorem dL_law_220 : decode cL_law 220 = .ok (.ifCond .eq 5, 3) := by decide +kernel
theorem dL_law_223 : decode cL_law 223 = .ok (.iconst 0, 1) := by decide +kernel
theorem dL_law_224 : decode cL_law 224 = .ok (.ireturn, 1) := by decide +kernel
theorem dL_law_225 : decode cL_law 225 = .ok (.goto 1268, 3) := by decide +kernel
theorem dL_law_228 : decode cL_law 228 = .ok (.aload_n 1, 1) := by decide +kernel
theorem dL_law_229 : decode cL_law 229 = .ok (.aload_n 0, 1) := by decide +kernel
theorem dL_law_230 : decode cL_law 230 = .ok (.iload 5, 2) := by decide +kernel
theorem dL_law_232 : decode cL_law 232 = .ok (.iconst 1, 1) := by decide +kernel
theorem dL_law_233 : decode cL_law 233 = .ok (.iadd, 1) := by decide +kernel
theorem dL_law_234 : decode cL_law 234 = .ok (.iaload, 1) := by decide +kernel
theorem dL_law_235 : decode cL_law 235 = .ok (.aload_n 3, 1) := by decide +kernel
theorem dL_law_236 : decode cL_law 236 = .ok (.invokestatic 93, 3) := by decide +kernel
theorem dL_law_239 : decode cL_law 239 = .ok (.istore 6, 2) := by decide +kernel
theorem dL_law_241 : decode cL_law 241 = .ok (.aload_n 2, 1) := by decide +kernel
theorem dL_law_242 : decode cL_law 242 = .ok (.aload_n 0, 1) := by decide +kernel
theorem dL_law_243 : decode cL_law 243 = .ok (.iload 5, 2) := by decide +kernel
theorem dL_law_245 : decode cL_law 245 = .ok (.iconst 1, 1) := by decide +kernel
theorem dL_law_246 : decode cL_law 246 = .ok (.iadd, 1) := by decide +kernel
theorem dL_law_247 : decode cL_law 247 = .ok (.iaload, 1) := by decide +kernel
theorem dL_law_248 : decode cL_law 248 = .ok (.invokevirtual 96, 3) := by decide +kernel
theorem dL_law_251 : decode cL_law 251 = .ok (.istore 7, 2) := by decide +kernel
theorem dL_law_253 : decode cL_law 253 = .ok (.aload_n 2, 1) := by decide +kernel
theorem dL_law_254 : decode cL_law 254 = .ok (.invokevirtual 90, 3) := by decide +kernel
theorem dL_law_257 : decode cL_law 257 = .ok (.iload 6, 2) := by decide +kernel
theorem dL_law_259 : decode cL_law 259 = .ok (.if_icmp .eq 5, 3) := by decide +kernel
theorem dL_law_262 : decode cL_law 262 = .ok (.iconst 0, 1) := by decide +kernel
theorem dL_law_263 : decode cL_law 263 = .ok (.ireturn, 1) := by decide +kernel
theorem dL_law_264 : decode cL_law 264 = .ok (.iload 6, 2) := by decide +kernel
theorem dL_law_266 : decode cL_law 266 = .ok (.ifCond .ne 15, 3) := by decide +kernel
theorem dL_law_269 : decode cL_law 269 = .ok (.aload_n 3, 1) := by decide +kernel
theorem dL_law_270 : decode cL_law 270 = .ok (.iconst 0, 1) := by decide +kernel
theorem dL_law_271 : decode cL_law 271 = .ok (.laload, 1) := by decide +kernel
theorem dL_law_272 : decode cL_law 272 = .ok (.iload 7, 2) := by decide +kernel
theorem dL_law_274 : decode cL_law 274 = .ok (.i2l, 1) := by decide +kernel
theorem dL_law_275 : decode cL_law 275 = .ok (.lcmp, 1) := by decide +kernel
theorem dL_law_276 : decode cL_law 276 = .ok (.ifCond .eq 5, 3) := by decide +kernel
theorem dL_law_279 : decode cL_law 279 = .ok (.iconst 0, 1) := by decide +kernel
theorem dL_law_280 : decode cL_law 280 = .ok (.ireturn, 1) := by decide +kernel
theorem dL_law_281 : decode cL_law 281 = .ok (.goto 1212, 3) := by decide +kernel
theorem dL_law_284 : decode cL_law 284 = .ok (.aload_n 1, 1) := by decide +kernel
theorem dL_law_285 : decode cL_law 285 = .ok (.aload_n 0, 1) := by decide +kernel
theorem dL_law_286 : decode cL_law 286 = .ok (.iload 5, 2) := by decide +kernel
theorem dL_law_288 : decode cL_law 288 = .ok (.iconst 1, 1) := by decide +kernel
theorem dL_law_289 : decode cL_law 289 = .ok (.iadd, 1) := by decide +kernel
theorem dL_law_290 : decode cL_law 290 = .ok (.iaload, 1) := by decide +kernel
theorem dL_law_291 : decode cL_law 291 = .ok (.aload_n 3, 1) := by decide +kernel
theorem dL_law_292 : decode cL_law 292 = .ok (.invokestatic 97, 3) := by decide +kernel
theorem dL_law_295 : decode cL_law 295 = .ok (.istore 6, 2) := by decide +kernel
theorem dL_law_297 : decode cL_law 297 = .ok (.aload_n 2, 1) := by decide +kernel
theorem dL_law_298 : decode cL_law 298 = .ok (.aload_n 0, 1) := by decide +kernel
theorem dL_law_299 : decode cL_law 299 = .ok (.iload 5, 2) := by decide +kernel
theorem dL_law_301 : decode cL_law 301 = .ok (.iconst 1, 1) := by decide +kernel
theorem dL_law_302 : decode cL_law 302 = .ok (.iadd, 1) := by decide +kernel
theorem dL_law_303 : decode cL_law 303 = .ok (.iaload, 1) := by decide +kernel
theorem dL_law_304 : decode cL_law 304 = .ok (.invokevirtual 99, 3) := by decide +kernel
theorem dL_law_307 : decode cL_law 307 = .ok (.istore 7, 2) := by decide +kernel
theorem dL_law_309 : decode cL_law 309 = .ok (.aload_n 2, 1) := by decide +kernel
theorem dL_law_310 : decode cL_law 310 = .ok (.invokevirtual 90, 3) := by decide +kernel
theorem dL_law_313 : decode cL_law 313 = .ok (.iload 6, 2) := by decide +kernel
theorem dL_law_315 : decode cL_law 315 = .ok (.if_icmp .eq 5, 3) := by decide +kernel
theorem dL_law_318 : decode cL_law 318 = .ok (.iconst 0, 1) := by decide +kernel
theorem dL_law_319 : decode cL_law 319 = .ok (.ireturn, 1) := by decide +kernel
theorem dL_law_320 : decode cL_law 320 = .ok (.iload 6, 2) := by decide +kernel
theorem dL_law_322 : decode cL_law 322 = .ok (.ifCond .ne 15, 3) := by decide +kernel
theorem dL_law_325 : decode cL_law 325 = .ok (.aload_n 3, 1) := by decide +kernel
theorem dL_law_326 : decode cL_law 326 = .ok (.iconst 0, 1) := by decide +kernel
theorem dL_law_327 : decode cL_law 327 = .ok (.laload, 1) := by decide +kernel
theorem dL_law_328 : decode cL_law 328 = .ok (.iload 7, 2) := by decide +kernel
theorem dL_law_330 : decode cL_law 330 = .ok (.i2l, 1) := by decide +kernel
theorem dL_law_331 : decode cL_law 331 = .ok (.lcmp, 1) := by decide +kernel
theorem dL_law_332 : decode cL_law 332 = .ok (.ifCond .eq 5, 3) := by decide +kernel
theorem dL_law_335 : decode cL_law 335 = .ok (.iconst 0, 1) := by decide +kernel
theorem dL_law_336 : decode cL_law 336 = .ok (.ireturn, 1) := by decide +kernel
theorem dL_law_337 : decode cL_law 337 = .ok (.goto 1156, 3) := by decide +kernel
theorem dL_law_340 : decode cL_law 340 = .ok (.aload_n 1, 1) := by decide +kernel
theorem dL_law_341 : decode cL_law 341 = .ok (.aload_n 0, 1) := by decide +kernel
theorem dL_law_342 : decode cL_law 342 = .ok (.iload 5, 2) := by decide +kernel
theorem dL_law_344 : decode cL_law 344 = .ok (.iconst 1, 1) := by decide +kernel
theorem dL_law_345 : decode cL_law 345 = .ok (.iadd, 1) := by decide +kernel
theorem dL_law_346 : decode cL_law 346 = .ok (.iaload, 1) := by decide +kernel
theorem dL_law_347 : decode cL_law 347 = .ok (.aload_n 3, 1) := by decide +kernel
theorem dL_law_348 : decode cL_law 348 = .ok (.invokestatic 100, 3) := by decide +kernel
theorem dL_law_351 : decode cL_law 351 = .ok (.istore 6, 2) := by decide +kernel
theorem dL_law_353 : decode cL_law 353 = .ok (.aload_n 2, 1) := by decide +kernel
theorem dL_law_354 : decode cL_law 354 = .ok (.aload_n 0, 1) := by decide +kernel
theorem dL_law_355 : decode cL_law 355 = .ok (.iload 5, 2) := by decide +kernel
theorem dL_law_357 : decode cL_law 357 = .ok (.iconst 1, 1) := by decide +kernel
theorem dL_law_358 : decode cL_law 358 = .ok (.iadd, 1) := by decide +kernel
theorem dL_law_359 : decode cL_law 359 = .ok (.iaload, 1) := by decide +kernel
theorem dL_law_360 : decode cL_law 360 = .ok (.invokevirtual 102, 3) := by decide +kernel
theorem dL_law_363 : decode cL_law 363 = .ok (.istore 7, 2) := by decide +kernel
theorem dL_law_365 : decode cL_law 365 = .ok (.aload_n 2, 1) := by decide +kernel
theorem dL_law_366 : decode cL_law 366 = .ok (.invokevirtual 90, 3) := by decide +kernel
theorem dL_law_369 : decode cL_law 369 = .ok (.iload 6, 2) := by decide +kernel
theorem dL_law_371 : decode cL_law 371 = .ok (.if_icmp .eq 5, 3) := by decide +kernel
theorem dL_law_374 : decode cL_law 374 = .ok (.iconst 0, 1) := by decide +kernel
theorem dL_law_375 : decode cL_law 375 = .ok (.ireturn, 1) := by decide +kernel
theorem dL_law_376 : decode cL_law 376 = .ok (.iload 6, 2) := by decide +kernel
theorem dL_law_378 : decode cL_law 378 = .ok (.ifCond .ne 15, 3) := by decide +kernel
theorem dL_law_381 : decode cL_law 381 = .ok (.aload_n 3, 1) := by decide +kernel
theorem dL_law_382 : decode cL_law 382 = .ok (.iconst 0, 1) := by decide +kernel
theorem dL_law_383 : decode cL_law 383 = .ok (.laload, 1) := by decide +kernel
theorem dL_law_384 : decode cL_law 384 = .ok (.iload 7, 2) := by decide +kernel
theorem dL_law_386 : decode cL_law 386 = .ok (.i2l, 1) := by decide +kernel
theorem dL_law_387 : decode cL_law 387 = .ok (.lcmp, 1) := by decide +kernel
theorem dL_law_388 : decode cL_law 388 = .ok (.ifCond .eq 5, 3) := by decide +kernel
theorem dL_law_391 : decode cL_law 391 = .ok (.iconst 0, 1) := by decide +kernel
theorem dL_law_392 : decode cL_law 392 = .ok (.ireturn, 1) := by decide +kernel
theorem dL_law_393 : decode cL_law 393 = .ok (.goto 1100, 3) := by decide +kernel
theorem dL_law_396 : decode cL_law 396 = .ok (.aload_n 1, 1) := by decide +kernel
theorem dL_law_397 : decode cL_law 397 = .ok (.aload_n 0, 1) := by decide +kernel
theorem dL_law_398 : decode cL_law 398 = .ok (.iload 5, 2) := by decide +kernel
theorem dL_law_400 : decode cL_law 400 = .ok (.iconst 1, 1) := by decide +kernel
theorem dL_law_401 : decode cL_law 401 = .ok (.iadd, 1) := by decide +kernel
theorem dL_law_402 : decode cL_law 402 = .ok (.iaload, 1) := by decide +kernel
theorem dL_law_403 : decode cL_law 403 = .ok (.aload_n 3, 1) := by decide +kernel
theorem dL_law_404 : decode cL_law 404 = .ok (.invokestatic 103, 3) := by decide +kernel
theorem dL_law_407 : decode cL_law 407 = .ok (.istore 6, 2) := by decide +kernel
theorem dL_law_409 : decode cL_law 409 = .ok (.aload_n 2, 1) := by decide +kernel
theorem dL_law_410 : decode cL_law 410 = .ok (.aload_n 0, 1) := by decide +kernel
theorem dL_law_411 : decode cL_law 411 = .ok (.iload 5, 2) := by decide +kernel
theorem dL_law_413 : decode cL_law 413 = .ok (.iconst 1, 1) := by decide +kernel
theorem dL_law_414 : decode cL_law 414 = .ok (.iadd, 1) := by decide +kernel
theorem dL_law_415 : decode cL_law 415 = .ok (.iaload, 1) := by decide +kernel
theorem dL_law_416 : decode cL_law 416 = .ok (.invokevirtual 105, 3) := by decide +kernel
theorem dL_law_419 : decode cL_law 419 = .ok (.istore 7, 2) := by decide +kernel
theorem dL_law_421 : decode cL_law 421 = .ok (.aload_n 2, 1) := by decide +kernel
theorem dL_law_422 : decode cL_law 422 = .ok (.invokevirtual 90, 3) := by decide +kernel
theorem dL_law_425 : decode cL_law 425 = .ok (.iload 6, 2) := by decide +kernel
theorem dL_law_427 : decode cL_law 427 = .ok (.if_icmp .eq 5, 3) := by decide +kernel
theorem dL_law_430 : decode cL_law 430 = .ok (.iconst 0, 1) := by decide +kernel
theorem dL_law_431 : decode cL_law 431 = .ok (.ireturn, 1) := by decide +kernel
theorem dL_law_432 : decode cL_law 432 = .ok (.iload 6, 2) := by decide +kernel
theorem dL_law_434 : decode cL_law 434 = .ok (.ifCond .ne 15, 3) := by decide +kernel
theorem dL_law_437 : decode cL_law 437 = .ok (.aload_n 3, 1) := by decide +kernel
theorem dL_law_438 : decode cL_law 438 = .ok (.iconst 0, 1) := by decide +kernel
theorem dL_law_439 : decode cL_law 439 = .ok (.laload, 1) := by decide +kernel
theorem dL_law_440 : decode cL_law 440 = .ok (.iload 7, 2) := by decide +kernel
theorem dL_law_442 : decode cL_law 442 = .ok (.i2l, 1) := by decide +kernel
theorem dL_law_443 : decode cL_law 443 = .ok (.lcmp, 1) := by decide +kernel
theorem dL_law_444 : decode cL_law 444 = .ok (.ifCond .eq 5, 3) := by decide +kernel
theorem dL_law_447 : decode cL_law 447 = .ok (.iconst 0, 1) := by decide +kernel
theorem dL_law_448 : decode cL_law 448 = .ok (.ireturn, 1) := by decide +kernel
theorem dL_law_449 : decode cL_law 449 = .ok (.goto 1044, 3) := by decide +kernel
theorem dL_law_452 : decode cL_law 452 = .ok (.aload_n 1, 1) := by decide +kernel
theorem dL_law_453 : decode cL_law 453 = .ok (.aload_n 0, 1) := by decide +kernel
theorem dL_law_454 : decode cL_law 454 = .ok (.iload 5, 2) := by decide +kernel
theorem dL_law_456 : decode cL_law 456 = .ok (.iconst 1, 1) := by decide +kernel
theorem dL_law_457 : decode cL_law 457 = .ok (.iadd, 1) := by decide +kernel
theorem dL_law_458 : decode cL_law 458 = .ok (.iaload, 1) := by decide +kernel
theorem dL_law_459 : decode cL_law 459 = .ok (.aload_n 0, 1) := by decide +kernel
theorem dL_law_460 : decode cL_law 460 = .ok (.iload 5, 2) := by decide +kernel
theorem dL_law_462 : decode cL_law 462 = .ok (.iconst 2, 1) := by decide +kernel
theorem dL_law_463 : decode cL_law 463 = .ok (.iadd, 1) := by decide +kernel
theorem dL_law_464 : decode cL_law 464 = .ok (.iaload, 1) := by decide +kernel
theorem dL_law_465 : decode cL_law 465 = .ok (.aload_n 3, 1) := by decide +kernel
theorem dL_law_466 : decode cL_law 466 = .ok (.invokestatic 106, 3) := by decide +kernel
theorem dL_law_469 : decode cL_law 469 = .ok (.istore 6, 2) := by decide +kernel
theorem dL_law_471 : decode cL_law 471 = .ok (.aload_n 2, 1) := by decide +kernel
theorem dL_law_472 : decode cL_law 472 = .ok (.aload_n 0, 1) := by decide +kernel
theorem dL_law_473 : decode cL_law 473 = .ok (.iload 5, 2) := by decide +kernel
theorem dL_law_475 : decode cL_law 475 = .ok (.iconst 1, 1) := by decide +kernel
theorem dL_law_476 : decode cL_law 476 = .ok (.iadd, 1) := by decide +kernel
theorem dL_law_477 : decode cL_law 477 = .ok (.iaload, 1) := by decide +kernel
theorem dL_law_478 : decode cL_law 478 = .ok (.aload_n 0, 1) := by decide +kernel
theorem dL_law_479 : decode cL_law 479 = .ok (.iload 5, 2) := by decide +kernel
theorem dL_law_481 : decode cL_law 481 = .ok (.iconst 2, 1) := by decide +kernel
theorem dL_law_482 : decode cL_law 482 = .ok (.iadd, 1) := by decide +kernel
theorem dL_law_483 : decode cL_law 483 = .ok (.iaload, 1) := by decide +kernel
theorem dL_law_484 : decode cL_law 484 = .ok (.invokevirtual 108, 3) := by decide +kernel
theorem dL_law_487 : decode cL_law 487 = .ok (.istore 7, 2) := by decide +kernel
theorem dL_law_489 : decode cL_law 489 = .ok (.aload_n 2, 1) := by decide +kernel
theorem dL_law_490 : decode cL_law 490 = .ok (.invokevirtual 90, 3) := by decide +kernel
theorem dL_law_493 : decode cL_law 493 = .ok (.iload 6, 2) := by decide +kernel
theorem dL_law_495 : decode cL_law 495 = .ok (.if_icmp .eq 5, 3) := by decide +kernel
theorem dL_law_498 : decode cL_law 498 = .ok (.iconst 0, 1) := by decide +kernel
theorem dL_law_499 : decode cL_law 499 = .ok (.ireturn, 1) := by decide +kernel
theorem dL_law_500 : decode cL_law 500 = .ok (.iload 6, 2) := by decide +kernel
theorem dL_law_502 : decode cL_law 502 = .ok (.ifCond .ne 15, 3) := by decide +kernel
theorem dL_law_505 : decode cL_law 505 = .ok (.aload_n 3, 1) := by decide +kernel
theorem dL_law_506 : decode cL_law 506 = .ok (.iconst 0, 1) := by decide +kernel
theorem dL_law_507 : decode cL_law 507 = .ok (.laload, 1) := by decide +kernel
theorem dL_law_508 : decode cL_law 508 = .ok (.iload 7, 2) := by decide +kernel
theorem dL_law_510 : decode cL_law 510 = .ok (.i2l, 1) := by decide +kernel
theorem dL_law_511 : decode cL_law 511 = .ok (.lcmp, 1) := by decide +kernel
theorem dL_law_512 : decode cL_law 512 = .ok (.ifCond .eq 5, 3) := by decide +kernel
theorem dL_law_515 : decode cL_law 515 = .ok (.iconst 0, 1) := by decide +kernel
theorem dL_law_516 : decode cL_law 516 = .ok (.ireturn, 1) := by decide +kernel
theorem dL_law_517 : decode cL_law 517 = .ok (.goto 976, 3) := by decide +kernel
theorem dL_law_520 : decode cL_law 520 = .ok (.aload_n 1, 1) := by decide +kernel
theorem dL_law_521 : decode cL_law 521 = .ok (.aload_n 0, 1) := by decide +kernel
theorem dL_law_522 : decode cL_law 522 = .ok (.iload 5, 2) := by decide +kernel
theorem dL_law_524 : decode cL_law 524 = .ok (.iconst 1, 1) := by decide +kernel
theorem dL_law_525 : decode cL_law 525 = .ok (.iadd, 1) := by decide +kernel
theorem dL_law_526 : decode cL_law 526 = .ok (.iaload, 1) := by decide +kernel
theorem dL_law_527 : decode cL_law 527 = .ok (.aload_n 3, 1) := by decide +kernel
theorem dL_law_528 : decode cL_law 528 = .ok (.invokestatic 109, 3) := by decide +kernel
theorem dL_law_531 : decode cL_law 531 = .ok (.istore 6, 2) := by decide +kernel
theorem dL_law_533 : decode cL_law 533 = .ok (.aload_n 2, 1) := by decide +kernel
theorem dL_law_534 : decode cL_law 534 = .ok (.aload_n 0, 1) := by decide +kernel
theorem dL_law_535 : decode cL_law 535 = .ok (.iload 5, 2) := by decide +kernel
theorem dL_law_537 : decode cL_law 537 = .ok (.iconst 1, 1) := by decide +kernel
theorem dL_law_538 : decode cL_law 538 = .ok (.iadd, 1) := by decide +kernel
theorem dL_law_539 : decode cL_law 539 = .ok (.iaload, 1) := by decide +kernel
theorem dL_law_540 : decode cL_law 540 = .ok (.invokevirtual 111, 3) := by decide +kernel
theorem dL_law_543 : decode cL_law 543 = .ok (.istore 7, 2) := by decide +kernel
theorem dL_law_545 : decode cL_law 545 = .ok (.aload_n 2, 1) := by decide +kernel
theorem dL_law_546 : decode cL_law 546 = .ok (.invokevirtual 90, 3) := by decide +kernel
theorem dL_law_549 : decode cL_law 549 = .ok (.iload 6, 2) := by decide +kernel
theorem dL_law_551 : decode cL_law 551 = .ok (.if_icmp .eq 5, 3) := by decide +kernel
theorem dL_law_554 : decode cL_law 554 = .ok (.iconst 0, 1) := by decide +kernel
theorem dL_law_555 : decode cL_law 555 = .ok (.ireturn, 1) := by decide +kernel
theorem dL_law_556 : decode cL_law 556 = .ok (.iload 6, 2) := by decide +kernel
theorem dL_law_558 : decode cL_law 558 = .ok (.ifCond .ne 15, 3) := by decide +kernel
theorem dL_law_561 : decode cL_law 561 = .ok (.aload_n 3, 1) := by decide +kernel
theorem dL_law_562 : decode cL_law 562 = .ok (.iconst 0, 1) := by decide +kernel
theorem dL_law_563 : decode cL_law 563 = .ok (.laload, 1) := by decide +kernel
theorem dL_law_564 : decode cL_law 564 = .ok (.iload 7, 2) := by decide +kernel
theorem dL_law_566 : decode cL_law 566 = .ok (.i2l, 1) := by decide +kernel
theorem dL_law_567 : decode cL_law 567 = .ok (.lcmp, 1) := by decide +kernel
theorem dL_law_568 : decode cL_law 568 = .ok (.ifCond .eq 5, 3) := by decide +kernel
theorem dL_law_571 : decode cL_law 571 = .ok (.iconst 0, 1) := by decide +kernel
theorem dL_law_572 : decode cL_law 572 = .ok (.ireturn, 1) := by decide +kernel
theorem dL_law_573 : decode cL_law 573 = .ok (.goto 920, 3) := by decide +kernel
theorem dL_law_576 : decode cL_law 576 = .ok (.aload_n 1, 1) := by decide +kernel
theorem dL_law_577 : decode cL_law 577 = .ok (.invokevirtual 112, 3) := by decide +kernel
theorem dL_law_580 : decode cL_law 580 = .ok (.aload_n 2, 1) := by decide +kernel
theorem dL_law_581 : decode cL_law 581 = .ok (.invokevirtual 115, 3) := by decide +kernel
theorem dL_law_584 : decode cL_law 584 = .ok (.if_icmp .eq 909, 3) := by decide +kernel
theorem dL_law_587 : decode cL_law 587 = .ok (.iconst 0, 1) := by decide +kernel
theorem dL_law_588 : decode cL_law 588 = .ok (.ireturn, 1) := by decide +kernel
theorem dL_law_589 : decode cL_law 589 = .ok (.aload_n 1, 1) := by decide +kernel
theorem dL_law_590 : decode cL_law 590 = .ok (.invokevirtual 116, 3) := by decide +kernel
theorem dL_law_593 : decode cL_law 593 = .ok (.aload_n 2, 1) := by decide +kernel
theorem dL_law_594 : decode cL_law 594 = .ok (.invokevirtual 119, 3) := by decide +kernel
theorem dL_law_597 : decode cL_law 597 = .ok (.if_icmp .eq 896, 3) := by decide +kernel
theorem dL_law_600 : decode cL_law 600 = .ok (.iconst 0, 1) := by decide +kernel
theorem dL_law_601 : decode cL_law 601 = .ok (.ireturn, 1) := by decide +kernel
theorem dL_law_602 : decode cL_law 602 = .ok (.aload_n 1, 1) := by decide +kernel
theorem dL_law_603 : decode cL_law 603 = .ok (.aload_n 3, 1) := by decide +kernel
theorem dL_law_604 : decode cL_law 604 = .ok (.invokestatic 120, 3) := by decide +kernel
theorem dL_law_607 : decode cL_law 607 = .ok (.istore 6, 2) := by decide +kernel
theorem dL_law_609 : decode cL_law 609 = .ok (.aload_n 2, 1) := by decide +kernel
theorem dL_law_610 : decode cL_law 610 = .ok (.invokevirtual 123, 3) := by decide +kernel
theorem dL_law_613 : decode cL_law 613 = .ok (.istore 7, 2) := by decide +kernel
theorem dL_law_615 : decode cL_law 615 = .ok (.aload_n 2, 1) := by decide +kernel
theorem dL_law_616 : decode cL_law 616 = .ok (.invokevirtual 90, 3) := by decide +kernel
theorem dL_law_619 : decode cL_law 619 = .ok (.iload 6, 2) := by decide +kernel
theorem dL_law_621 : decode cL_law 621 = .ok (.if_icmp .eq 5, 3) := by decide +kernel
theorem dL_law_624 : decode cL_law 624 = .ok (.iconst 0, 1) := by decide +kernel
theorem dL_law_625 : decode cL_law 625 = .ok (.ireturn, 1) := by decide +kernel
theorem dL_law_626 : decode cL_law 626 = .ok (.iload 6, 2) := by decide +kernel
theorem dL_law_628 : decode cL_law 628 = .ok (.ifCond .ne 15, 3) := by decide +kernel
theorem dL_law_631 : decode cL_law 631 = .ok (.aload_n 3, 1) := by decide +kernel
theorem dL_law_632 : decode cL_law 632 = .ok (.iconst 0, 1) := by decide +kernel
theorem dL_law_633 : decode cL_law 633 = .ok (.laload, 1) := by decide +kernel
theorem dL_law_634 : decode cL_law 634 = .ok (.iload 7, 2) := by decide +kernel
theorem dL_law_636 : decode cL_law 636 = .ok (.i2l, 1) := by decide +kernel
theorem dL_law_637 : decode cL_law 637 = .ok (.lcmp, 1) := by decide +kernel
theorem dL_law_638 : decode cL_law 638 = .ok (.ifCond .eq 5, 3) := by decide +kernel
theorem dL_law_641 : decode cL_law 641 = .ok (.iconst 0, 1) := by decide +kernel
theorem dL_law_642 : decode cL_law 642 = .ok (.ireturn, 1) := by decide +kernel
theorem dL_law_643 : decode cL_law 643 = .ok (.goto 850, 3) := by decide +kernel
theorem dL_law_646 : decode cL_law 646 = .ok (.aload_n 1, 1) := by decide +kernel
theorem dL_law_647 : decode cL_law 647 = .ok (.invokevirtual 124, 3) := by decide +kernel
theorem dL_law_650 : decode cL_law 650 = .ok (.aload_n 2, 1) := by decide +kernel
theorem dL_law_651 : decode cL_law 651 = .ok (.invokevirtual 127, 3) := by decide +kernel
theorem dL_law_654 : decode cL_law 654 = .ok (.if_icmp .eq 839, 3) := by decide +kernel
theorem dL_law_657 : decode cL_law 657 = .ok (.iconst 0, 1) := by decide +kernel
theorem dL_law_658 : decode cL_law 658 = .ok (.ireturn, 1) := by decide +kernel
theorem dL_law_659 : decode cL_law 659 = .ok (.aload_n 1, 1) := by decide +kernel
theorem dL_law_660 : decode cL_law 660 = .ok (.aload_n 3, 1) := by decide +kernel
theorem dL_law_661 : decode cL_law 661 = .ok (.invokestatic 128, 3) := by decide +kernel
theorem dL_law_664 : decode cL_law 664 = .ok (.istore 6, 2) := by decide +kernel
theorem dL_law_666 : decode cL_law 666 = .ok (.aload_n 2, 1) := by decide +kernel
theorem dL_law_667 : decode cL_law 667 = .ok (.invokevirtual 130, 3) := by decide +kernel
theorem dL_law_670 : decode cL_law 670 = .ok (.istore 7, 2) := by decide +kernel
theorem dL_law_672 : decode cL_law 672 = .ok (.aload_n 2, 1) := by decide +kernel
theorem dL_law_673 : decode cL_law 673 = .ok (.invokevirtual 90, 3) := by decide +kernel
theorem dL_law_676 : decode cL_law 676 = .ok (.iload 6, 2) := by decide +kernel
theorem dL_law_678 : decode cL_law 678 = .ok (.if_icmp .eq 5, 3) := by decide +kernel
theorem dL_law_681 : decode cL_law 681 = .ok (.iconst 0, 1) := by decide +kernel
theorem dL_law_682 : decode cL_law 682 = .ok (.ireturn, 1) := by decide +kernel
theorem dL_law_683 : decode cL_law 683 = .ok (.iload 6, 2) := by decide +kernel
theorem dL_law_685 : decode cL_law 685 = .ok (.ifCond .ne 15, 3) := by decide +kernel
theorem dL_law_688 : decode cL_law 688 = .ok (.aload_n 3, 1) := by decide +kernel
theorem dL_law_689 : decode cL_law 689 = .ok (.iconst 0, 1) := by decide +kernel
theorem dL_law_690 : decode cL_law 690 = .ok (.laload, 1) := by decide +kernel
theorem dL_law_691 : decode cL_law 691 = .ok (.iload 7, 2) := by decide +kernel
theorem dL_law_693 : decode cL_law 693 = .ok (.i2l, 1) := by decide +kernel
theorem dL_law_694 : decode cL_law 694 = .ok (.lcmp, 1) := by decide +kernel
theorem dL_law_695 : decode cL_law 695 = .ok (.ifCond .eq 5, 3) := by decide +kernel
theorem dL_law_698 : decode cL_law 698 = .ok (.iconst 0, 1) := by decide +kernel
theorem dL_law_699 : decode cL_law 699 = .ok (.ireturn, 1) := by decide +kernel
theorem dL_law_700 : decode cL_law 700 = .ok (.goto 793, 3) := by decide +kernel
theorem dL_law_703 : decode cL_law 703 = .ok (.aload_n 1, 1) := by decide +kernel
theorem dL_law_704 : decode cL_law 704 = .ok (.aload_n 3, 1) := by decide +kernel
theorem dL_law_705 : decode cL_law 705 = .ok (.invokestatic 131, 3) := by decide +kernel
theorem dL_law_708 : decode cL_law 708 = .ok (.istore 6, 2) := by decide +kernel
theorem dL_law_710 : decode cL_law 710 = .ok (.aload_n 2, 1) := by decide +kernel
theorem dL_law_711 : decode cL_law 711 = .ok (.invokevirtual 133, 3) := by decide +kernel
theorem dL_law_714 : decode cL_law 714 = .ok (.istore 7, 2) := by decide +kernel
theorem dL_law_716 : decode cL_law 716 = .ok (.aload_n 2, 1) := by decide +kernel
theorem dL_law_717 : decode cL_law 717 = .ok (.invokevirtual 90, 3) := by decide +kernel
theorem dL_law_720 : decode cL_law 720 = .ok (.iload 6, 2) := by decide +kernel
theorem dL_law_722 : decode cL_law 722 = .ok (.if_icmp .eq 5, 3) := by decide +kernel
theorem dL_law_725 : decode cL_law 725 = .ok (.iconst 0, 1) := by decide +kernel
theorem dL_law_726 : decode cL_law 726 = .ok (.ireturn, 1) := by decide +kernel
theorem dL_law_727 : decode cL_law 727 = .ok (.iload 6, 2) := by decide +kernel
theorem dL_law_729 : decode cL_law 729 = .ok (.ifCond .ne 15, 3) := by decide +kernel
theorem dL_law_732 : decode cL_law 732 = .ok (.aload_n 3, 1) := by decide +kernel
theorem dL_law_733 : decode cL_law 733 = .ok (.iconst 0, 1) := by decide +kernel
theorem dL_law_734 : decode cL_law 734 = .ok (.laload, 1) := by decide +kernel
theorem dL_law_735 : decode cL_law 735 = .ok (.iload 7, 2) := by decide +kernel
theorem dL_law_737 : decode cL_law 737 = .ok (.i2l, 1) := by decide +kernel
theorem dL_law_738 : decode cL_law 738 = .ok (.lcmp, 1) := by decide +kernel
theorem dL_law_739 : decode cL_law 739 = .ok (.ifCond .eq 5, 3) := by decide +kernel
theorem dL_law_742 : decode cL_law 742 = .ok (.iconst 0, 1) := by decide +kernel
theorem dL_law_743 : decode cL_law 743 = .ok (.ireturn, 1) := by decide +kernel
theorem dL_law_744 : decode cL_law 744 = .ok (.goto 749, 3) := by decide +kernel
theorem dL_law_747 : decode cL_law 747 = .ok (.aload_n 1, 1) := by decide +kernel
theorem dL_law_748 : decode cL_law 748 = .ok (.aload_n 0, 1) := by decide +kernel
theorem dL_law_749 : decode cL_law 749 = .ok (.iload 5, 2) := by decide +kernel
theorem dL_law_751 : decode cL_law 751 = .ok (.iconst 1, 1) := by decide +kernel
theorem dL_law_752 : decode cL_law 752 = .ok (.iadd, 1) := by decide +kernel
theorem dL_law_753 : decode cL_law 753 = .ok (.iaload, 1) := by decide +kernel
theorem dL_law_754 : decode cL_law 754 = .ok (.aload_n 0, 1) := by decide +kernel
theorem dL_law_755 : decode cL_law 755 = .ok (.iload 5, 2) := by decide +kernel
theorem dL_law_757 : decode cL_law 757 = .ok (.iconst 2, 1) := by decide +kernel
theorem dL_law_758 : decode cL_law 758 = .ok (.iadd, 1) := by decide +kernel
theorem dL_law_759 : decode cL_law 759 = .ok (.iaload, 1) := by decide +kernel
theorem dL_law_760 : decode cL_law 760 = .ok (.aload_n 3, 1) := by decide +kernel
theorem dL_law_761 : decode cL_law 761 = .ok (.invokestatic 134, 3) := by decide +kernel
theorem dL_law_764 : decode cL_law 764 = .ok (.istore 6, 2) := by decide +kernel
theorem dL_law_766 : decode cL_law 766 = .ok (.aload_n 2, 1) := by decide +kernel
theorem dL_law_767 : decode cL_law 767 = .ok (.aload_n 0, 1) := by decide +kernel
theorem dL_law_768 : decode cL_law 768 = .ok (.iload 5, 2) := by decide +kernel
theorem dL_law_770 : decode cL_law 770 = .ok (.iconst 1, 1) := by decide +kernel
theorem dL_law_771 : decode cL_law 771 = .ok (.iadd, 1) := by decide +kernel
theorem dL_law_772 : decode cL_law 772 = .ok (.iaload, 1) := by decide +kernel
theorem dL_law_773 : decode cL_law 773 = .ok (.aload_n 0, 1) := by decide +kernel
theorem dL_law_774 : decode cL_law 774 = .ok (.iload 5, 2) := by decide +kernel
theorem dL_law_776 : decode cL_law 776 = .ok (.iconst 2, 1) := by decide +kernel
theorem dL_law_777 : decode cL_law 777 = .ok (.iadd, 1) := by decide +kernel
theorem dL_law_778 : decode cL_law 778 = .ok (.iaload, 1) := by decide +kernel
theorem dL_law_779 : decode cL_law 779 = .ok (.invokevirtual 136, 3) := by decide +kernel
theorem dL_law_782 : decode cL_law 782 = .ok (.istore 7, 2) := by decide +kernel
theorem dL_law_784 : decode cL_law 784 = .ok (.aload_n 2, 1) := by decide +kernel
theorem dL_law_785 : decode cL_law 785 = .ok (.invokevirtual 90, 3) := by decide +kernel
theorem dL_law_788 : decode cL_law 788 = .ok (.iload 6, 2) := by decide +kernel
theorem dL_law_790 : decode cL_law 790 = .ok (.if_icmp .eq 5, 3) := by decide +kernel
theorem dL_law_793 : decode cL_law 793 = .ok (.iconst 0, 1) := by decide +kernel
theorem dL_law_794 : decode cL_law 794 = .ok (.ireturn, 1) := by decide +kernel
theorem dL_law_795 : decode cL_law 795 = .ok (.iload 6, 2) := by decide +kernel
theorem dL_law_797 : decode cL_law 797 = .ok (.ifCond .ne 15, 3) := by decide +kernel
theorem dL_law_800 : decode cL_law 800 = .ok (.aload_n 3, 1) := by decide +kernel
theorem dL_law_801 : decode cL_law 801 = .ok (.iconst 0, 1) := by decide +kernel
theorem dL_law_802 : decode cL_law 802 = .ok (.laload, 1) := by decide +kernel
theorem dL_law_803 : decode cL_law 803 = .ok (.iload 7, 2) := by decide +kernel
theorem dL_law_805 : decode cL_law 805 = .ok (.i2l, 1) := by decide +kernel
theorem dL_law_806 : decode cL_law 806 = .ok (.lcmp, 1) := by decide +kernel
theorem dL_law_807 : decode cL_law 807 = .ok (.ifCond .eq 5, 3) := by decide +kernel
theorem dL_law_810 : decode cL_law 810 = .ok (.iconst 0, 1) := by decide +kernel
theorem dL_law_811 : decode cL_law 811 = .ok (.ireturn, 1) := by decide +kernel
theorem dL_law_812 : decode cL_law 812 = .ok (.goto 681, 3) := by decide +kernel
theorem dL_law_815 : decode cL_law 815 = .ok (.aload_n 1, 1) := by decide +kernel
theorem dL_law_816 : decode cL_law 816 = .ok (.aload_n 0, 1) := by decide +kernel
theorem dL_law_817 : decode cL_law 817 = .ok (.iload 5, 2) := by decide +kernel
theorem dL_law_819 : decode cL_law 819 = .ok (.iconst 1, 1) := by decide +kernel
theorem dL_law_820 : decode cL_law 820 = .ok (.iadd, 1) := by decide +kernel
theorem dL_law_821 : decode cL_law 821 = .ok (.iaload, 1) := by decide +kernel
theorem dL_law_822 : decode cL_law 822 = .ok (.aload_n 0, 1) := by decide +kernel
theorem dL_law_823 : decode cL_law 823 = .ok (.iload 5, 2) := by decide +kernel
theorem dL_law_825 : decode cL_law 825 = .ok (.iconst 2, 1) := by decide +kernel
theorem dL_law_826 : decode cL_law 826 = .ok (.iadd, 1) := by decide +kernel
theorem dL_law_827 : decode cL_law 827 = .ok (.iaload, 1) := by decide +kernel
theorem dL_law_828 : decode cL_law 828 = .ok (.aload_n 3, 1) := by decide +kernel
theorem dL_law_829 : decode cL_law 829 = .ok (.invokestatic 137, 3) := by decide +kernel
theorem dL_law_832 : decode cL_law 832 = .ok (.istore 6, 2) := by decide +kernel
theorem dL_law_834 : decode cL_law 834 = .ok (.aload_n 2, 1) := by decide +kernel
theorem dL_law_835 : decode cL_law 835 = .ok (.aload_n 0, 1) := by decide +kernel
theorem dL_law_836 : decode cL_law 836 = .ok (.iload 5, 2) := by decide +kernel
theorem dL_law_838 : decode cL_law 838 = .ok (.iconst 1, 1) := by decide +kernel
theorem dL_law_839 : decode cL_law 839 = .ok (.iadd, 1) := by decide +kernel
theorem dL_law_840 : decode cL_law 840 = .ok (.iaload, 1) := by decide +kernel
theorem dL_law_841 : decode cL_law 841 = .ok (.aload_n 0, 1) := by decide +kernel
theorem dL_law_842 : decode cL_law 842 = .ok (.iload 5, 2) := by decide +kernel
theorem dL_law_844 : decode cL_law 844 = .ok (.iconst 2, 1) := by decide +kernel
theorem dL_law_845 : decode cL_law 845 = .ok (.iadd, 1) := by decide +kernel
theorem dL_law_846 : decode cL_law 846 = .ok (.iaload, 1) := by decide +kernel
theorem dL_law_847 : decode cL_law 847 = .ok (.invokevirtual 139, 3) := by decide +kernel
theorem dL_law_850 : decode cL_law 850 = .ok (.istore 7, 2) := by decide +kernel
theorem dL_law_852 : decode cL_law 852 = .ok (.aload_n 2, 1) := by decide +kernel
theorem dL_law_853 : decode cL_law 853 = .ok (.invokevirtual 90, 3) := by decide +kernel
theorem dL_law_856 : decode cL_law 856 = .ok (.iload 6, 2) := by decide +kernel
theorem dL_law_858 : decode cL_law 858 = .ok (.if_icmp .eq 5, 3) := by decide +kernel
theorem dL_law_861 : decode cL_law 861 = .ok (.iconst 0, 1) := by decide +kernel
theorem dL_law_862 : decode cL_law 862 = .ok (.ireturn, 1) := by decide +kernel
theorem dL_law_863 : decode cL_law 863 = .ok (.iload 6, 2) := by decide +kernel
theorem dL_law_865 : decode cL_law 865 = .ok (.ifCond .ne 15, 3) := by decide +kernel
theorem dL_law_868 : decode cL_law 868 = .ok (.aload_n 3, 1) := by decide +kernel
theorem dL_law_869 : decode cL_law 869 = .ok (.iconst 0, 1) := by decide +kernel
theorem dL_law_870 : decode cL_law 870 = .ok (.laload, 1) := by decide +kernel
theorem dL_law_871 : decode cL_law 871 = .ok (.iload 7, 2) := by decide +kernel
theorem dL_law_873 : decode cL_law 873 = .ok (.i2l, 1) := by decide +kernel
theorem dL_law_874 : decode cL_law 874 = .ok (.lcmp, 1) := by decide +kernel
theorem dL_law_875 : decode cL_law 875 = .ok (.ifCond .eq 5, 3) := by decide +kernel
theorem dL_law_878 : decode cL_law 878 = .ok (.iconst 0, 1) := by decide +kernel
theorem dL_law_879 : decode cL_law 879 = .ok (.ireturn, 1) := by decide +kernel
theorem dL_law_880 : decode cL_law 880 = .ok (.goto 613, 3) := by decide +kernel
theorem dL_law_883 : decode cL_law 883 = .ok (.aload_n 1, 1) := by decide +kernel
theorem dL_law_884 : decode cL_law 884 = .ok (.aload_n 0, 1) := by decide +kernel
theorem dL_law_885 : decode cL_law 885 = .ok (.iload 5, 2) := by decide +kernel
theorem dL_law_887 : decode cL_law 887 = .ok (.iconst 1, 1) := by decide +kernel
theorem dL_law_888 : decode cL_law 888 = .ok (.iadd, 1) := by decide +kernel
theorem dL_law_889 : decode cL_law 889 = .ok (.iaload, 1) := by decide +kernel
theorem dL_law_890 : decode cL_law 890 = .ok (.aload_n 0, 1) := by decide +kernel
theorem dL_law_891 : decode cL_law 891 = .ok (.iload 5, 2) := by decide +kernel
theorem dL_law_893 : decode cL_law 893 = .ok (.iconst 2, 1) := by decide +kernel
theorem dL_law_894 : decode cL_law 894 = .ok (.iadd, 1) := by decide +kernel
theorem dL_law_895 : decode cL_law 895 = .ok (.iaload, 1) := by decide +kernel
theorem dL_law_896 : decode cL_law 896 = .ok (.aload_n 0, 1) := by decide +kernel
theorem dL_law_897 : decode cL_law 897 = .ok (.iload 5, 2) := by decide +kernel
theorem dL_law_899 : decode cL_law 899 = .ok (.iconst 3, 1) := by decide +kernel
theorem dL_law_900 : decode cL_law 900 = .ok (.iadd, 1) := by decide +kernel
theorem dL_law_901 : decode cL_law 901 = .ok (.iaload, 1) := by decide +kernel
theorem dL_law_902 : decode cL_law 902 = .ok (.aload_n 3, 1) := by decide +kernel
theorem dL_law_903 : decode cL_law 903 = .ok (.invokestatic 140, 3) := by decide +kernel
theorem dL_law_906 : decode cL_law 906 = .ok (.istore 6, 2) := by decide +kernel
theorem dL_law_908 : decode cL_law 908 = .ok (.aload_n 2, 1) := by decide +kernel
theorem dL_law_909 : decode cL_law 909 = .ok (.aload_n 0, 1) := by decide +kernel
theorem dL_law_910 : decode cL_law 910 = .ok (.iload 5, 2) := by decide +kernel
theorem dL_law_912 : decode cL_law 912 = .ok (.iconst 1, 1) := by decide +kernel
theorem dL_law_913 : decode cL_law 913 = .ok (.iadd, 1) := by decide +kernel
theorem dL_law_914 : decode cL_law 914 = .ok (.iaload, 1) := by decide +kernel
theorem dL_law_915 : decode cL_law 915 = .ok (.aload_n 0, 1) := by decide +kernel
theorem dL_law_916 : decode cL_law 916 = .ok (.iload 5, 2) := by decide +kernel
theorem dL_law_918 : decode cL_law 918 = .ok (.iconst 2, 1) := by decide +kernel
theorem dL_law_919 : decode cL_law 919 = .ok (.iadd, 1) := by decide +kernel
theorem dL_law_920 : decode cL_law 920 = .ok (.iaload, 1) := by decide +kernel
theorem dL_law_921 : decode cL_law 921 = .ok (.aload_n 0, 1) := by decide +kernel
theorem dL_law_922 : decode cL_law 922 = .ok (.iload 5, 2) := by decide +kernel
theorem dL_law_924 : decode cL_law 924 = .ok (.iconst 3, 1) := by decide +kernel
theorem dL_law_925 : decode cL_law 925 = .ok (.iadd, 1) := by decide +kernel
theorem dL_law_926 : decode cL_law 926 = .ok (.iaload, 1) := by decide +kernel
theorem dL_law_927 : decode cL_law 927 = .ok (.invokevirtual 143, 3) := by decide +kernel
theorem dL_law_930 : decode cL_law 930 = .ok (.istore 7, 2) := by decide +kernel
theorem dL_law_932 : decode cL_law 932 = .ok (.aload_n 2, 1) := by decide +kernel
theorem dL_law_933 : decode cL_law 933 = .ok (.invokevirtual 90, 3) := by decide +kernel
theorem dL_law_936 : decode cL_law 936 = .ok (.iload 6, 2) := by decide +kernel
theorem dL_law_938 : decode cL_law 938 = .ok (.if_icmp .eq 5, 3) := by decide +kernel
theorem dL_law_941 : decode cL_law 941 = .ok (.iconst 0, 1) := by decide +kernel
theorem dL_law_942 : decode cL_law 942 = .ok (.ireturn, 1) := by decide +kernel
theorem dL_law_943 : decode cL_law 943 = .ok (.iload 6, 2) := by decide +kernel
theorem dL_law_945 : decode cL_law 945 = .ok (.ifCond .ne 15, 3) := by decide +kernel
theorem dL_law_948 : decode cL_law 948 = .ok (.aload_n 3, 1) := by decide +kernel
theorem dL_law_949 : decode cL_law 949 = .ok (.iconst 0, 1) := by decide +kernel
theorem dL_law_950 : decode cL_law 950 = .ok (.laload, 1) := by decide +kernel
theorem dL_law_951 : decode cL_law 951 = .ok (.iload 7, 2) := by decide +kernel
theorem dL_law_953 : decode cL_law 953 = .ok (.i2l, 1) := by decide +kernel
theorem dL_law_954 : decode cL_law 954 = .ok (.lcmp, 1) := by decide +kernel
theorem dL_law_955 : decode cL_law 955 = .ok (.ifCond .eq 5, 3) := by decide +kernel
theorem dL_law_958 : decode cL_law 958 = .ok (.iconst 0, 1) := by decide +kernel
theorem dL_law_959 : decode cL_law 959 = .ok (.ireturn, 1) := by decide +kernel
theorem dL_law_960 : decode cL_law 960 = .ok (.goto 533, 3) := by decide +kernel
theorem dL_law_963 : decode cL_law 963 = .ok (.aload_n 1, 1) := by decide +kernel
theorem dL_law_964 : decode cL_law 964 = .ok (.aload_n 0, 1) := by decide +kernel
theorem dL_law_965 : decode cL_law 965 = .ok (.iload 5, 2) := by decide +kernel
theorem dL_law_967 : decode cL_law 967 = .ok (.iconst 1, 1) := by decide +kernel
theorem dL_law_968 : decode cL_law 968 = .ok (.iadd, 1) := by decide +kernel
theorem dL_law_969 : decode cL_law 969 = .ok (.iaload, 1) := by decide +kernel
theorem dL_law_970 : decode cL_law 970 = .ok (.aload_n 3, 1) := by decide +kernel
theorem dL_law_971 : decode cL_law 971 = .ok (.invokestatic 144, 3) := by decide +kernel
theorem dL_law_974 : decode cL_law 974 = .ok (.istore 6, 2) := by decide +kernel
theorem dL_law_976 : decode cL_law 976 = .ok (.aload_n 2, 1) := by decide +kernel
theorem dL_law_977 : decode cL_law 977 = .ok (.aload_n 0, 1) := by decide +kernel
theorem dL_law_978 : decode cL_law 978 = .ok (.iload 5, 2) := by decide +kernel
theorem dL_law_980 : decode cL_law 980 = .ok (.iconst 1, 1) := by decide +kernel
theorem dL_law_981 : decode cL_law 981 = .ok (.iadd, 1) := by decide +kernel
theorem dL_law_982 : decode cL_law 982 = .ok (.iaload, 1) := by decide +kernel
theorem dL_law_983 : decode cL_law 983 = .ok (.invokevirtual 146, 3) := by decide +kernel
theorem dL_law_986 : decode cL_law 986 = .ok (.istore 7, 2) := by decide +kernel
theorem dL_law_988 : decode cL_law 988 = .ok (.aload_n 2, 1) := by decide +kernel
theorem dL_law_989 : decode cL_law 989 = .ok (.invokevirtual 90, 3) := by decide +kernel
theorem dL_law_992 : decode cL_law 992 = .ok (.iload 6, 2) := by decide +kernel
theorem dL_law_994 : decode cL_law 994 = .ok (.if_icmp .eq 5, 3) := by decide +kernel
theorem dL_law_997 : decode cL_law 997 = .ok (.iconst 0, 1) := by decide +kernel
theorem dL_law_998 : decode cL_law 998 = .ok (.ireturn, 1) := by decide +kernel
theorem dL_law_999 : decode cL_law 999 = .ok (.iload 6, 2) := by decide +kernel
theorem dL_law_1001 : decode cL_law 1001 = .ok (.ifCond .ne 15, 3) := by decide +kernel
theorem dL_law_1004 : decode cL_law 1004 = .ok (.aload_n 3, 1) := by decide +kernel
theorem dL_law_1005 : decode cL_law 1005 = .ok (.iconst 0, 1) := by decide +kernel
theorem dL_law_1006 : decode cL_law 1006 = .ok (.laload, 1) := by decide +kernel
theorem dL_law_1007 : decode cL_law 1007 = .ok (.iload 7, 2) := by decide +kernel
theorem dL_law_1009 : decode cL_law 1009 = .ok (.i2l, 1) := by decide +kernel
theorem dL_law_1010 : decode cL_law 1010 = .ok (.lcmp, 1) := by decide +kernel
theorem dL_law_1011 : decode cL_law 1011 = .ok (.ifCond .eq 5, 3) := by decide +kernel
theorem dL_law_1014 : decode cL_law 1014 = .ok (.iconst 0, 1) := by decide +kernel
theorem dL_law_1015 : decode cL_law 1015 = .ok (.ireturn, 1) := by decide +kernel
theorem dL_law_1016 : decode cL_law 1016 = .ok (.goto 477, 3) := by decide +kernel
theorem dL_law_1019 : decode cL_law 1019 = .ok (.aload_n 1, 1) := by decide +kernel
theorem dL_law_1020 : decode cL_law 1020 = .ok (.aload_n 0, 1) := by decide +kernel
theorem dL_law_1021 : decode cL_law 1021 = .ok (.iload 5, 2) := by decide +kernel
theorem dL_law_1023 : decode cL_law 1023 = .ok (.iconst 1, 1) := by decide +kernel
theorem dL_law_1024 : decode cL_law 1024 = .ok (.iadd, 1) := by decide +kernel
theorem dL_law_1025 : decode cL_law 1025 = .ok (.iaload, 1) := by decide +kernel
theorem dL_law_1026 : decode cL_law 1026 = .ok (.aload_n 3, 1) := by decide +kernel
theorem dL_law_1027 : decode cL_law 1027 = .ok (.invokestatic 147, 3) := by decide +kernel
theorem dL_law_1030 : decode cL_law 1030 = .ok (.istore 6, 2) := by decide +kernel
theorem dL_law_1032 : decode cL_law 1032 = .ok (.aload_n 2, 1) := by decide +kernel
theorem dL_law_1033 : decode cL_law 1033 = .ok (.aload_n 0, 1) := by decide +kernel
theorem dL_law_1034 : decode cL_law 1034 = .ok (.iload 5, 2) := by decide +kernel
theorem dL_law_1036 : decode cL_law 1036 = .ok (.iconst 1, 1) := by decide +kernel
theorem dL_law_1037 : decode cL_law 1037 = .ok (.iadd, 1) := by decide +kernel
theorem dL_law_1038 : decode cL_law 1038 = .ok (.iaload, 1) := by decide +kernel
theorem dL_law_1039 : decode cL_law 1039 = .ok (.invokevirtual 149, 3) := by decide +kernel
theorem dL_law_1042 : decode cL_law 1042 = .ok (.istore 7, 2) := by decide +kernel
theorem dL_law_1044 : decode cL_law 1044 = .ok (.aload_n 2, 1) := by decide +kernel
theorem dL_law_1045 : decode cL_law 1045 = .ok (.invokevirtual 90, 3) := by decide +kernel
theorem dL_law_1048 : decode cL_law 1048 = .ok (.iload 6, 2) := by decide +kernel
theorem dL_law_1050 : decode cL_law 1050 = .ok (.if_icmp .eq 5, 3) := by decide +kernel
theorem dL_law_1053 : decode cL_law 1053 = .ok (.iconst 0, 1) := by decide +kernel
theorem dL_law_1054 : decode cL_law 1054 = .ok (.ireturn, 1) := by decide +kernel
theorem dL_law_1055 : decode cL_law 1055 = .ok (.iload 6, 2) := by decide +kernel
theorem dL_law_1057 : decode cL_law 1057 = .ok (.ifCond .ne 15, 3) := by decide +kernel
theorem dL_law_1060 : decode cL_law 1060 = .ok (.aload_n 3, 1) := by decide +kernel
theorem dL_law_1061 : decode cL_law 1061 = .ok (.iconst 0, 1) := by decide +kernel
theorem dL_law_1062 : decode cL_law 1062 = .ok (.laload, 1) := by decide +kernel
theorem dL_law_1063 : decode cL_law 1063 = .ok (.iload 7, 2) := by decide +kernel
theorem dL_law_1065 : decode cL_law 1065 = .ok (.i2l, 1) := by decide +kernel
theorem dL_law_1066 : decode cL_law 1066 = .ok (.lcmp, 1) := by decide +kernel
theorem dL_law_1067 : decode cL_law 1067 = .ok (.ifCond .eq 5, 3) := by decide +kernel
theorem dL_law_1070 : decode cL_law 1070 = .ok (.iconst 0, 1) := by decide +kernel
theorem dL_law_1071 : decode cL_law 1071 = .ok (.ireturn, 1) := by decide +kernel
theorem dL_law_1072 : decode cL_law 1072 = .ok (.goto 421, 3) := by decide +kernel
theorem dL_law_1075 : decode cL_law 1075 = .ok (.aload_n 1, 1) := by decide +kernel
theorem dL_law_1076 : decode cL_law 1076 = .ok (.aload_n 0, 1) := by decide +kernel
theorem dL_law_1077 : decode cL_law 1077 = .ok (.iload 5, 2) := by decide +kernel
theorem dL_law_1079 : decode cL_law 1079 = .ok (.iconst 1, 1) := by decide +kernel
theorem dL_law_1080 : decode cL_law 1080 = .ok (.iadd, 1) := by decide +kernel
theorem dL_law_1081 : decode cL_law 1081 = .ok (.iaload, 1) := by decide +kernel
theorem dL_law_1082 : decode cL_law 1082 = .ok (.aload_n 3, 1) := by decide +kernel
theorem dL_law_1083 : decode cL_law 1083 = .ok (.invokestatic 150, 3) := by decide +kernel
theorem dL_law_1086 : decode cL_law 1086 = .ok (.istore 6, 2) := by decide +kernel
theorem dL_law_1088 : decode cL_law 1088 = .ok (.aload_n 2, 1) := by decide +kernel
theorem dL_law_1089 : decode cL_law 1089 = .ok (.aload_n 0, 1) := by decide +kernel
theorem dL_law_1090 : decode cL_law 1090 = .ok (.iload 5, 2) := by decide +kernel
theorem dL_law_1092 : decode cL_law 1092 = .ok (.iconst 1, 1) := by decide +kernel
theorem dL_law_1093 : decode cL_law 1093 = .ok (.iadd, 1) := by decide +kernel
theorem dL_law_1094 : decode cL_law 1094 = .ok (.iaload, 1) := by decide +kernel
theorem dL_law_1095 : decode cL_law 1095 = .ok (.invokevirtual 152, 3) := by decide +kernel
theorem dL_law_1098 : decode cL_law 1098 = .ok (.istore 7, 2) := by decide +kernel
theorem dL_law_1100 : decode cL_law 1100 = .ok (.aload_n 2, 1) := by decide +kernel
theorem dL_law_1101 : decode cL_law 1101 = .ok (.invokevirtual 90, 3) := by decide +kernel
theorem dL_law_1104 : decode cL_law 1104 = .ok (.iload 6, 2) := by decide +kernel
theorem dL_law_1106 : decode cL_law 1106 = .ok (.if_icmp .eq 5, 3) := by decide +kernel
theorem dL_law_1109 : decode cL_law 1109 = .ok (.iconst 0, 1) := by decide +kernel
theorem dL_law_1110 : decode cL_law 1110 = .ok (.ireturn, 1) := by decide +kernel
theorem dL_law_1111 : decode cL_law 1111 = .ok (.iload 6, 2) := by decide +kernel
theorem dL_law_1113 : decode cL_law 1113 = .ok (.ifCond .ne 15, 3) := by decide +kernel
theorem dL_law_1116 : decode cL_law 1116 = .ok (.aload_n 3, 1) := by decide +kernel
theorem dL_law_1117 : decode cL_law 1117 = .ok (.iconst 0, 1) := by decide +kernel
theorem dL_law_1118 : decode cL_law 1118 = .ok (.laload, 1) := by decide +kernel
theorem dL_law_1119 : decode cL_law 1119 = .ok (.iload 7, 2) := by decide +kernel
theorem dL_law_1121 : decode cL_law 1121 = .ok (.i2l, 1) := by decide +kernel
theorem dL_law_1122 : decode cL_law 1122 = .ok (.lcmp, 1) := by decide +kernel
theorem dL_law_1123 : decode cL_law 1123 = .ok (.ifCond .eq 5, 3) := by decide +kernel
theorem dL_law_1126 : decode cL_law 1126 = .ok (.iconst 0, 1) := by decide +kernel
theorem dL_law_1127 : decode cL_law 1127 = .ok (.ireturn, 1) := by decide +kernel
theorem dL_law_1128 : decode cL_law 1128 = .ok (.goto 365, 3) := by decide +kernel
theorem dL_law_1131 : decode cL_law 1131 = .ok (.aload_n 1, 1) := by decide +kernel
theorem dL_law_1132 : decode cL_law 1132 = .ok (.aload_n 0, 1) := by decide +kernel
theorem dL_law_1133 : decode cL_law 1133 = .ok (.iload 5, 2) := by decide +kernel
theorem dL_law_1135 : decode cL_law 1135 = .ok (.iconst 1, 1) := by decide +kernel
theorem dL_law_1136 : decode cL_law 1136 = .ok (.iadd, 1) := by decide +kernel
theorem dL_law_1137 : decode cL_law 1137 = .ok (.iaload, 1) := by decide +kernel
theorem dL_law_1138 : decode cL_law 1138 = .ok (.aload_n 0, 1) := by decide +kernel
theorem dL_law_1139 : decode cL_law 1139 = .ok (.iload 5, 2) := by decide +kernel
theorem dL_law_1141 : decode cL_law 1141 = .ok (.iconst 2, 1) := by decide +kernel
theorem dL_law_1142 : decode cL_law 1142 = .ok (.iadd, 1) := by decide +kernel
theorem dL_law_1143 : decode cL_law 1143 = .ok (.iaload, 1) := by decide +kernel
theorem dL_law_1144 : decode cL_law 1144 = .ok (.aload_n 0, 1) := by decide +kernel
theorem dL_law_1145 : decode cL_law 1145 = .ok (.iload 5, 2) := by decide +kernel
theorem dL_law_1147 : decode cL_law 1147 = .ok (.iconst 3, 1) := by decide +kernel
theorem dL_law_1148 : decode cL_law 1148 = .ok (.iadd, 1) := by decide +kernel
theorem dL_law_1149 : decode cL_law 1149 = .ok (.iaload, 1) := by decide +kernel
theorem dL_law_1150 : decode cL_law 1150 = .ok (.aload_n 3, 1) := by decide +kernel
theorem dL_law_1151 : decode cL_law 1151 = .ok (.invokestatic 153, 3) := by decide +kernel
theorem dL_law_1154 : decode cL_law 1154 = .ok (.istore 6, 2) := by decide +kernel
theorem dL_law_1156 : decode cL_law 1156 = .ok (.aload_n 2, 1) := by decide +kernel
theorem dL_law_1157 : decode cL_law 1157 = .ok (.aload_n 0, 1) := by decide +kernel
theorem dL_law_1158 : decode cL_law 1158 = .ok (.iload 5, 2) := by decide +kernel
theorem dL_law_1160 : decode cL_law 1160 = .ok (.iconst 1, 1) := by decide +kernel
theorem dL_law_1161 : decode cL_law 1161 = .ok (.iadd, 1) := by decide +kernel
theorem dL_law_1162 : decode cL_law 1162 = .ok (.iaload, 1) := by decide +kernel
theorem dL_law_1163 : decode cL_law 1163 = .ok (.aload_n 0, 1) := by decide +kernel
theorem dL_law_1164 : decode cL_law 1164 = .ok (.iload 5, 2) := by decide +kernel
theorem dL_law_1166 : decode cL_law 1166 = .ok (.iconst 2, 1) := by decide +kernel
theorem dL_law_1167 : decode cL_law 1167 = .ok (.iadd, 1) := by decide +kernel
theorem dL_law_1168 : decode cL_law 1168 = .ok (.iaload, 1) := by decide +kernel
theorem dL_law_1169 : decode cL_law 1169 = .ok (.aload_n 0, 1) := by decide +kernel
theorem dL_law_1170 : decode cL_law 1170 = .ok (.iload 5, 2) := by decide +kernel
theorem dL_law_1172 : decode cL_law 1172 = .ok (.iconst 3, 1) := by decide +kernel
theorem dL_law_1173 : decode cL_law 1173 = .ok (.iadd, 1) := by decide +kernel
theorem dL_law_1174 : decode cL_law 1174 = .ok (.iaload, 1) := by decide +kernel
theorem dL_law_1175 : decode cL_law 1175 = .ok (.invokevirtual 155, 3) := by decide +kernel
theorem dL_law_1178 : decode cL_law 1178 = .ok (.istore 7, 2) := by decide +kernel
theorem dL_law_1180 : decode cL_law 1180 = .ok (.aload_n 2, 1) := by decide +kernel
theorem dL_law_1181 : decode cL_law 1181 = .ok (.invokevirtual 90, 3) := by decide +kernel
theorem dL_law_1184 : decode cL_law 1184 = .ok (.iload 6, 2) := by decide +kernel
theorem dL_law_1186 : decode cL_law 1186 = .ok (.if_icmp .eq 5, 3) := by decide +kernel
theorem dL_law_1189 : decode cL_law 1189 = .ok (.iconst 0, 1) := by decide +kernel
theorem dL_law_1190 : decode cL_law 1190 = .ok (.ireturn, 1) := by decide +kernel
theorem dL_law_1191 : decode cL_law 1191 = .ok (.iload 6, 2) := by decide +kernel
theorem dL_law_1193 : decode cL_law 1193 = .ok (.ifCond .ne 15, 3) := by decide +kernel
theorem dL_law_1196 : decode cL_law 1196 = .ok (.aload_n 3, 1) := by decide +kernel
theorem dL_law_1197 : decode cL_law 1197 = .ok (.iconst 0, 1) := by decide +kernel
theorem dL_law_1198 : decode cL_law 1198 = .ok (.laload, 1) := by decide +kernel
theorem dL_law_1199 : decode cL_law 1199 = .ok (.iload 7, 2) := by decide +kernel
theorem dL_law_1201 : decode cL_law 1201 = .ok (.i2l, 1) := by decide +kernel
theorem dL_law_1202 : decode cL_law 1202 = .ok (.lcmp, 1) := by decide +kernel
theorem dL_law_1203 : decode cL_law 1203 = .ok (.ifCond .eq 5, 3) := by decide +kernel
theorem dL_law_1206 : decode cL_law 1206 = .ok (.iconst 0, 1) := by decide +kernel
theorem dL_law_1207 : decode cL_law 1207 = .ok (.ireturn, 1) := by decide +kernel
theorem dL_law_1208 : decode cL_law 1208 = .ok (.goto 285, 3) := by decide +kernel
theorem dL_law_1211 : decode cL_law 1211 = .ok (.aload_n 1, 1) := by decide +kernel
theorem dL_law_1212 : decode cL_law 1212 = .ok (.aload_n 0, 1) := by decide +kernel
theorem dL_law_1213 : decode cL_law 1213 = .ok (.iload 5, 2) := by decide +kernel
theorem dL_law_1215 : decode cL_law 1215 = .ok (.iconst 1, 1) := by decide +kernel
theorem dL_law_1216 : decode cL_law 1216 = .ok (.iadd, 1) := by decide +kernel
theorem dL_law_1217 : decode cL_law 1217 = .ok (.iaload, 1) := by decide +kernel
theorem dL_law_1218 : decode cL_law 1218 = .ok (.aload_n 0, 1) := by decide +kernel
theorem dL_law_1219 : decode cL_law 1219 = .ok (.iload 5, 2) := by decide +kernel
theorem dL_law_1221 : decode cL_law 1221 = .ok (.iconst 2, 1) := by decide +kernel
theorem dL_law_1222 : decode cL_law 1222 = .ok (.iadd, 1) := by decide +kernel
theorem dL_law_1223 : decode cL_law 1223 = .ok (.iaload, 1) := by decide +kernel
theorem dL_law_1224 : decode cL_law 1224 = .ok (.aload_n 0, 1) := by decide +kernel
theorem dL_law_1225 : decode cL_law 1225 = .ok (.iload 5, 2) := by decide +kernel
theorem dL_law_1227 : decode cL_law 1227 = .ok (.iconst 3, 1) := by decide +kernel
theorem dL_law_1228 : decode cL_law 1228 = .ok (.iadd, 1) := by decide +kernel
theorem dL_law_1229 : decode cL_law 1229 = .ok (.iaload, 1) := by decide +kernel
theorem dL_law_1230 : decode cL_law 1230 = .ok (.aload_n 3, 1) := by decide +kernel
theorem dL_law_1231 : decode cL_law 1231 = .ok (.invokestatic 156, 3) := by decide +kernel
theorem dL_law_1234 : decode cL_law 1234 = .ok (.istore 6, 2) := by decide +kernel
theorem dL_law_1236 : decode cL_law 1236 = .ok (.aload_n 2, 1) := by decide +kernel
theorem dL_law_1237 : decode cL_law 1237 = .ok (.aload_n 0, 1) := by decide +kernel
theorem dL_law_1238 : decode cL_law 1238 = .ok (.iload 5, 2) := by decide +kernel
theorem dL_law_1240 : decode cL_law 1240 = .ok (.iconst 1, 1) := by decide +kernel
theorem dL_law_1241 : decode cL_law 1241 = .ok (.iadd, 1) := by decide +kernel
theorem dL_law_1242 : decode cL_law 1242 = .ok (.iaload, 1) := by decide +kernel
theorem dL_law_1243 : decode cL_law 1243 = .ok (.aload_n 0, 1) := by decide +kernel
theorem dL_law_1244 : decode cL_law 1244 = .ok (.iload 5, 2) := by decide +kernel
theorem dL_law_1246 : decode cL_law 1246 = .ok (.iconst 2, 1) := by decide +kernel
theorem dL_law_1247 : decode cL_law 1247 = .ok (.iadd, 1) := by decide +kernel
theorem dL_law_1248 : decode cL_law 1248 = .ok (.iaload, 1) := by decide +kernel
theorem dL_law_1249 : decode cL_law 1249 = .ok (.aload_n 0, 1) := by decide +kernel
theorem dL_law_1250 : decode cL_law 1250 = .ok (.iload 5, 2) := by decide +kernel
theorem dL_law_1252 : decode cL_law 1252 = .ok (.iconst 3, 1) := by decide +kernel
theorem dL_law_1253 : decode cL_law 1253 = .ok (.iadd, 1) := by decide +kernel
theorem dL_law_1254 : decode cL_law 1254 = .ok (.iaload, 1) := by decide +kernel
theorem dL_law_1255 : decode cL_law 1255 = .ok (.invokevirtual 158, 3) := by decide +kernel
theorem dL_law_1258 : decode cL_law 1258 = .ok (.istore 7, 2) := by decide +kernel
theorem dL_law_1260 : decode cL_law 1260 = .ok (.aload_n 2, 1) := by decide +kernel
theorem dL_law_1261 : decode cL_law 1261 = .ok (.invokevirtual 90, 3) := by decide +kernel
theorem dL_law_1264 : decode cL_law 1264 = .ok (.iload 6, 2) := by decide +kernel
theorem dL_law_1266 : decode cL_law 1266 = .ok (.if_icmp .eq 5, 3) := by decide +kernel
theorem dL_law_1269 : decode cL_law 1269 = .ok (.iconst 0, 1) := by decide +kernel
theorem dL_law_1270 : decode cL_law 1270 = .ok (.ireturn, 1) := by decide +kernel
theorem dL_law_1271 : decode cL_law 1271 = .ok (.iload 6, 2) := by decide +kernel
theorem dL_law_1273 : decode cL_law 1273 = .ok (.ifCond .ne 15, 3) := by decide +kernel
theorem dL_law_1276 : decode cL_law 1276 = .ok (.aload_n 3, 1) := by decide +kernel
theorem dL_law_1277 : decode cL_law 1277 = .ok (.iconst 0, 1) := by decide +kernel
theorem dL_law_1278 : decode cL_law 1278 = .ok (.laload, 1) := by decide +kernel
theorem dL_law_1279 : decode cL_law 1279 = .ok (.iload 7, 2) := by decide +kernel
theorem dL_law_1281 : decode cL_law 1281 = .ok (.i2l, 1) := by decide +kernel
theorem dL_law_1282 : decode cL_law 1282 = .ok (.lcmp, 1) := by decide +kernel
theorem dL_law_1283 : decode cL_law 1283 = .ok (.ifCond .eq 5, 3) := by decide +kernel
theorem dL_law_1286 : decode cL_law 1286 = .ok (.iconst 0, 1) := by decide +kernel
theorem dL_law_1287 : decode cL_law 1287 = .ok (.ireturn, 1) := by decide +kernel
theorem dL_law_1288 : decode cL_law 1288 = .ok (.goto 205, 3) := by decide +kernel
theorem dL_law_1291 : decode cL_law 1291 = .ok (.aload_n 1, 1) := by decide +kernel
theorem dL_law_1292 : decode cL_law 1292 = .ok (.aload_n 0, 1) := by decide +kernel
theorem dL_law_1293 : decode cL_law 1293 = .ok (.iload 5, 2) := by decide +kernel
theorem dL_law_1295 : decode cL_law 1295 = .ok (.iconst 1, 1) := by decide +kernel
theorem dL_law_1296 : decode cL_law 1296 = .ok (.iadd, 1) := by decide +kernel
theorem dL_law_1297 : decode cL_law 1297 = .ok (.iaload, 1) := by decide +kernel
theorem dL_law_1298 : decode cL_law 1298 = .ok (.aload_n 0, 1) := by decide +kernel
theorem dL_law_1299 : decode cL_law 1299 = .ok (.iload 5, 2) := by decide +kernel
theorem dL_law_1301 : decode cL_law 1301 = .ok (.iconst 2, 1) := by decide +kernel
theorem dL_law_1302 : decode cL_law 1302 = .ok (.iadd, 1) := by decide +kernel
theorem dL_law_1303 : decode cL_law 1303 = .ok (.iaload, 1) := by decide +kernel
theorem dL_law_1304 : decode cL_law 1304 = .ok (.aload_n 3, 1) := by decide +kernel
theorem dL_law_1305 : decode cL_law 1305 = .ok (.invokestatic 159, 3) := by decide +kernel
theorem dL_law_1308 : decode cL_law 1308 = .ok (.istore 6, 2) := by decide +kernel
theorem dL_law_1310 : decode cL_law 1310 = .ok (.aload_n 2, 1) := by decide +kernel
theorem dL_law_1311 : decode cL_law 1311 = .ok (.aload_n 0, 1) := by decide +kernel
theorem dL_law_1312 : decode cL_law 1312 = .ok (.iload 5, 2) := by decide +kernel
theorem dL_law_1314 : decode cL_law 1314 = .ok (.iconst 1, 1) := by decide +kernel
theorem dL_law_1315 : decode cL_law 1315 = .ok (.iadd, 1) := by decide +kernel
theorem dL_law_1316 : decode cL_law 1316 = .ok (.iaload, 1) := by decide +kernel
theorem dL_law_1317 : decode cL_law 1317 = .ok (.aload_n 0, 1) := by decide +kernel
theorem dL_law_1318 : decode cL_law 1318 = .ok (.iload 5, 2) := by decide +kernel
theorem dL_law_1320 : decode cL_law 1320 = .ok (.iconst 2, 1) := by decide +kernel
theorem dL_law_1321 : decode cL_law 1321 = .ok (.iadd, 1) := by decide +kernel
theorem dL_law_1322 : decode cL_law 1322 = .ok (.iaload, 1) := by decide +kernel
theorem dL_law_1323 : decode cL_law 1323 = .ok (.invokevirtual 161, 3) := by decide +kernel
theorem dL_law_1326 : decode cL_law 1326 = .ok (.istore 7, 2) := by decide +kernel
theorem dL_law_1328 : decode cL_law 1328 = .ok (.aload_n 2, 1) := by decide +kernel
theorem dL_law_1329 : decode cL_law 1329 = .ok (.invokevirtual 90, 3) := by decide +kernel
theorem dL_law_1332 : decode cL_law 1332 = .ok (.iload 6, 2) := by decide +kernel
theorem dL_law_1334 : decode cL_law 1334 = .ok (.if_icmp .eq 5, 3) := by decide +kernel
theorem dL_law_1337 : decode cL_law 1337 = .ok (.iconst 0, 1) := by decide +kernel
theorem dL_law_1338 : decode cL_law 1338 = .ok (.ireturn, 1) := by decide +kernel
theorem dL_law_1339 : decode cL_law 1339 = .ok (.iload 6, 2) := by decide +kernel
theorem dL_law_1341 : decode cL_law 1341 = .ok (.ifCond .ne 15, 3) := by decide +kernel
theorem dL_law_1344 : decode cL_law 1344 = .ok (.aload_n 3, 1) := by decide +kernel
theorem dL_law_1345 : decode cL_law 1345 = .ok (.iconst 0, 1) := by decide +kernel
theorem dL_law_1346 : decode cL_law 1346 = .ok (.laload, 1) := by decide +kernel
theorem dL_law_1347 : decode cL_law 1347 = .ok (.iload 7, 2) := by decide +kernel
theorem dL_law_1349 : decode cL_law 1349 = .ok (.i2l, 1) := by decide +kernel
theorem dL_law_1350 : decode cL_law 1350 = .ok (.lcmp, 1) := by decide +kernel
theorem dL_law_1351 : decode cL_law 1351 = .ok (.ifCond .eq 5, 3) := by decide +kernel
theorem dL_law_1354 : decode cL_law 1354 = .ok (.iconst 0, 1) := by decide +kernel
theorem dL_law_1355 : decode cL_law 1355 = .ok (.ireturn, 1) := by decide +kernel
theorem dL_law_1356 : decode cL_law 1356 = .ok (.goto 137, 3) := by decide +kernel
theorem dL_law_1359 : decode cL_law 1359 = .ok (.aload_n 1, 1) := by decide +kernel
theorem dL_law_1360 : decode cL_law 1360 = .ok (.aload_n 0, 1) := by decide +kernel
theorem dL_law_1361 : decode cL_law 1361 = .ok (.iload 5, 2) := by decide +kernel
theorem dL_law_1363 : decode cL_law 1363 = .ok (.iconst 1, 1) := by decide +kernel
theorem dL_law_1364 : decode cL_law 1364 = .ok (.iadd, 1) := by decide +kernel
theorem dL_law_1365 : decode cL_law 1365 = .ok (.iaload, 1) := by decide +kernel
theorem dL_law_1366 : decode cL_law 1366 = .ok (.aload 4, 2) := by decide +kernel
theorem dL_law_1368 : decode cL_law 1368 = .ok (.invokestatic 162, 3) := by decide +kernel
theorem dL_law_1371 : decode cL_law 1371 = .ok (.istore 6, 2) := by decide +kernel
theorem dL_law_1373 : decode cL_law 1373 = .ok (.aload_n 2, 1) := by decide +kernel
theorem dL_law_1374 : decode cL_law 1374 = .ok (.aload_n 0, 1) := by decide +kernel
theorem dL_law_1375 : decode cL_law 1375 = .ok (.iload 5, 2) := by decide +kernel
theorem dL_law_1377 : decode cL_law 1377 = .ok (.iconst 1, 1) := by decide +kernel
theorem dL_law_1378 : decode cL_law 1378 = .ok (.iadd, 1) := by decide +kernel
theorem dL_law_1379 : decode cL_law 1379 = .ok (.iaload, 1) := by decide +kernel
theorem dL_law_1380 : decode cL_law 1380 = .ok (.invokevirtual 165, 3) := by decide +kernel
theorem dL_law_1383 : decode cL_law 1383 = .ok (.dstore 7, 2) := by decide +kernel
theorem dL_law_1385 : decode cL_law 1385 = .ok (.aload_n 2, 1) := by decide +kernel
theorem dL_law_1386 : decode cL_law 1386 = .ok (.invokevirtual 90, 3) := by decide +kernel
theorem dL_law_1389 : decode cL_law 1389 = .ok (.iload 6, 2) := by decide +kernel
theorem dL_law_1391 : decode cL_law 1391 = .ok (.if_icmp .eq 5, 3) := by decide +kernel
theorem dL_law_1394 : decode cL_law 1394 = .ok (.iconst 0, 1) := by decide +kernel
theorem dL_law_1395 : decode cL_law 1395 = .ok (.ireturn, 1) := by decide +kernel
theorem dL_law_1396 : decode cL_law 1396 = .ok (.iload 6, 2) := by decide +kernel
theorem dL_law_1398 : decode cL_law 1398 = .ok (.ifCond .ne 35, 3) := by decide +kernel
theorem dL_law_1401 : decode cL_law 1401 = .ok (.aload 4, 2) := by decide +kernel
theorem dL_law_1403 : decode cL_law 1403 = .ok (.iconst 0, 1) := by decide +kernel
theorem dL_law_1404 : decode cL_law 1404 = .ok (.daload, 1) := by decide +kernel
theorem dL_law_1405 : decode cL_law 1405 = .ok (.dload 7, 2) := by decide +kernel
theorem dL_law_1407 : decode cL_law 1407 = .ok (.dcmp .l, 1) := by decide +kernel
theorem dL_law_1408 : decode cL_law 1408 = .ok (.ifCond .eq 25, 3) := by decide +kernel
theorem dL_law_1411 : decode cL_law 1411 = .ok (.aload 4, 2) := by decide +kernel
theorem dL_law_1413 : decode cL_law 1413 = .ok (.iconst 0, 1) := by decide +kernel
theorem dL_law_1414 : decode cL_law 1414 = .ok (.daload, 1) := by decide +kernel
theorem dL_law_1415 : decode cL_law 1415 = .ok (.aload 4, 2) := by decide +kernel
theorem dL_law_1417 : decode cL_law 1417 = .ok (.iconst 0, 1) := by decide +kernel
theorem dL_law_1418 : decode cL_law 1418 = .ok (.daload, 1) := by decide +kernel
theorem dL_law_1419 : decode cL_law 1419 = .ok (.dcmp .l, 1) := by decide +kernel
theorem dL_law_1420 : decode cL_law 1420 = .ok (.ifCond .eq 11, 3) := by decide +kernel
theorem dL_law_1423 : decode cL_law 1423 = .ok (.dload 7, 2) := by decide +kernel
theorem dL_law_1425 : decode cL_law 1425 = .ok (.dload 7, 2) := by decide +kernel
theorem dL_law_1427 : decode cL_law 1427 = .ok (.dcmp .l, 1) := by decide +kernel
theorem dL_law_1428 : decode cL_law 1428 = .ok (.ifCond .ne 5, 3) := by decide +kernel
theorem dL_law_1431 : decode cL_law 1431 = .ok (.iconst 0, 1) := by decide +kernel
theorem dL_law_1432 : decode cL_law 1432 = .ok (.ireturn, 1) := by decide +kernel
theorem dL_law_1433 : decode cL_law 1433 = .ok (.goto 60, 3) := by decide +kernel
theorem dL_law_1436 : decode cL_law 1436 = .ok (.aload_n 1, 1) := by decide +kernel
theorem dL_law_1437 : decode cL_law 1437 = .ok (.invokevirtual 166, 3) := by decide +kernel
theorem dL_law_1440 : decode cL_law 1440 = .ok (.f2d, 1) := by decide +kernel
theorem dL_law_1441 : decode cL_law 1441 = .ok (.dstore 6, 2) := by decide +kernel
theorem dL_law_1443 : decode cL_law 1443 = .ok (.aload_n 2, 1) := by decide +kernel
theorem dL_law_1444 : decode cL_law 1444 = .ok (.invokevirtual 170, 3) := by decide +kernel
theorem dL_law_1447 : decode cL_law 1447 = .ok (.f2d, 1) := by decide +kernel
theorem dL_law_1448 : decode cL_law 1448 = .ok (.dstore 8, 2) := by decide +kernel
theorem dL_law_1450 : decode cL_law 1450 = .ok (.dload 6, 2) := by decide +kernel
theorem dL_law_1452 : decode cL_law 1452 = .ok (.dload 8, 2) := by decide +kernel
theorem dL_law_1454 : decode cL_law 1454 = .ok (.dcmp .l, 1) := by decide +kernel
theorem dL_law_1455 : decode cL_law 1455 = .ok (.ifCond .eq 21, 3) := by decide +kernel
theorem dL_law_1458 : decode cL_law 1458 = .ok (.dload 6, 2) := by decide +kernel
theorem dL_law_1460 : decode cL_law 1460 = .ok (.dload 6, 2) := by decide +kernel
theorem dL_law_1462 : decode cL_law 1462 = .ok (.dcmp .l, 1) := by decide +kernel
theorem dL_law_1463 : decode cL_law 1463 = .ok (.ifCond .eq 11, 3) := by decide +kernel
theorem dL_law_1466 : decode cL_law 1466 = .ok (.dload 8, 2) := by decide +kernel
theorem dL_law_1468 : decode cL_law 1468 = .ok (.dload 8, 2) := by decide +kernel
theorem dL_law_1470 : decode cL_law 1470 = .ok (.dcmp .l, 1) := by decide +kernel
theorem dL_law_1471 : decode cL_law 1471 = .ok (.ifCond .ne 5, 3) := by decide +kernel
theorem dL_law_1474 : decode cL_law 1474 = .ok (.iconst 0, 1) := by decide +kernel
theorem dL_law_1475 : decode cL_law 1475 = .ok (.ireturn, 1) := by decide +kernel
theorem dL_law_1476 : decode cL_law 1476 = .ok (.goto 17, 3) := by decide +kernel
theorem dL_law_1479 : decode cL_law 1479 = .ok (.aload_n 1, 1) := by decide +kernel
theorem dL_law_1480 : decode cL_law 1480 = .ok (.invokevirtual 171, 3) := by decide +kernel
theorem dL_law_1483 : decode cL_law 1483 = .ok (.aload_n 2, 1) := by decide +kernel
theorem dL_law_1484 : decode cL_law 1484 = .ok (.invokevirtual 175, 3) := by decide +kernel
theorem dL_law_1487 : decode cL_law 1487 = .ok (.lcmp, 1) := by decide +kernel
theorem dL_law_1488 : decode cL_law 1488 = .ok (.ifCond .eq 5, 3) := by decide +kernel
theorem dL_law_1491 : decode cL_law 1491 = .ok (.iconst 0, 1) := by decide +kernel
theorem dL_law_1492 : decode cL_law 1492 = .ok (.ireturn, 1) := by decide +kernel
theorem dL_law_1493 : decode cL_law 1493 = .ok (.iinc 5 4, 3) := by decide +kernel
theorem dL_law_1496 : decode cL_law 1496 = .ok (.goto (-1468), 3) := by decide +kernel
theorem dL_law_1499 : decode cL_law 1499 = .ok (.iconst 1, 1) := by decide +kernel
theorem dL_law_1500 : decode cL_law 1500 = .ok (.ireturn, 1) := by decide +kernel
end
section
/-! MEMORY: what the objects of both systems hold, by address and slot; kinds of addresses; the heap holds a memory -/
abbrev Mem : Type := (Nat → Nat → Int32) × (Nat → Nat → Nat) × (Nat → Int64) × (Nat → UInt64)
def mI (M : Mem) (a k : Nat) : Int32 := M.1 a k
def sI (M : Mem) (a k : Nat) (v : Int32) : Mem := (fun b => if b = a then upd (M.1 b) k v else M.1 b, M.2)
def mR (M : Mem) (a k : Nat) : Nat := M.2.1 a k
def sR (M : Mem) (a k : Nat) (v : Nat) : Mem := (M.1, fun b j => if b = a ∧ j = k then v else M.2.1 b j, M.2.2)
def mJ (M : Mem) (a : Nat) : Int64 := M.2.2.1 a
def sJ (M : Mem) (a : Nat) (v : Int64) : Mem := (M.1, M.2.1, fun b => if b = a then v else M.2.2.1 b, M.2.2.2)
def mD (M : Mem) (a : Nat) : UInt64 := M.2.2.2 a
def sD (M : Mem) (a : Nat) (v : UInt64) : Mem := (M.1, M.2.1, M.2.2.1, fun b => if b = a then v else M.2.2.2 b)
/-- the start of the law, the classes' numbers and slots, the array classes' numbers (0 int, 1 char, 2 Packet, 3 Voice, 4 State, 5 long, 6 double), the kinds of addresses -/
abbrev Gt : Type := State × va_G × (Nat → ClassId) × (Nat → Nat)
def gS (G : Gt) : State := G.1
def gD (G : Gt) : va_G := G.2.1
def gC (G : Gt) : Nat → ClassId := G.2.2.1
def gK (G : Gt) : Nat → Nat := G.2.2.2
def gB (G : Gt) : Nat := (gS G).heap.size
abbrev gT (G : Gt) : List (ClassId × FieldType) := [(gC G 0, .int), (gC G 1, .char), (gC G 2, .object "FoldedVoices$Packet"), (gC G 3, .object "FoldedVoices$Voice"), (gC G 4, .object "FoldedVoices$State"), (gC G 5, .long), (gC G 6, .double)]
def cob (M : Mem) (a : Nat) : Nat → Option va_E := fun k => match k with
  | 1 => some (.inr (0, [.int (mI M a 0), .int (mI M a 1)]))
  | 2 => some (.inr (1, [.ref (a + 1), .int (mI M a 1), .int (mI M a 2), .int (mI M a 3), .int (mI M a 4), .int (mI M a 5), .int (mI M a 6), .int (mI M a 7), .int (mI M a 8), .int (mI M a 9)]))
  | 3 => some (.inr (2, [.ref (a + 1), .ref (a + 2), .int (mI M a 2), .int (mI M a 3), .int (mI M a 4), .ref (a + 3)]))
  | 4 => some (.inr (3, [.ref (a + 1), .int (mI M a 1), .int (mI M a 2), .int (mI M a 3), .ref (a + 2), .int (mI M a 5), .int (mI M a 6), .int (mI M a 7), .ref (a + 6), .ref (a + 7), .int (mI M a 10)]))
  | 5 => some (.inr (4, [.ref (a + 1)]))
  | 6 => some (.inr (5, [.ref (a + 1), .ref (a + 2)]))
  | 7 => some (.inr (6, [.ref (a + 1), .int (mI M a 1), .int (mI M a 2), .int (mI M a 3), .int (mI M a 4), .int (mI M a 5), .int (mI M a 6)]))
  | 8 => some (.inr (7, [.ref (a + 1), .ref (a + 9), .ref (a + 11), .int (mI M a 3), .int (mI M a 4)]))
  | 9 => some (.inr (8, [.ref (a + 1), .ref (a + 137), .int (mI M a 2), .ref (a + 273), .int (mI M a 4), .ref (a + 274), .ref (a + 276), .ref (a + 277)]))
  | 10 => some (.inr (9, [.ref (a + 1), .ref (a + 2), .int (mI M a 2), .ref (a + 3), .int (mI M a 4), .ref (a + 4), .ref (a + 5), .int (mI M a 7), .ref (a + 6), .int (mI M a 9), .int (mI M a 10), .int (mI M a 11), .ref (a + 7), .ref (a + 8), .ref (a + 9), .long (mJ M a)]))
  | _ => none
/-- the cell of an address of kind k: 1 to 10 an object; 1000 + n an int row of n, 5000 + n a char row, 6000 + n a row of packets, 7000 + n of voices, 8000 + n of states, 9000 + n of longs, 10000 + n of doubles -/
def cel (G : Gt) (M : Mem) (a : Nat) : Option va_E :=
  if gK G a < 1000 then cob M a (gK G a)
  else if gK G a < 5000 then some (.inl (gC G 0, gK G a - 1000, .inl (mI M a)))
  else if gK G a < 6000 then some (.inl (gC G 1, gK G a - 5000, .inl (mI M a)))
  else if gK G a < 7000 then some (.inl (gC G 2, gK G a - 6000, .inr (.inr (.inr (.inr fun j => some (mR M a j))))))
  else if gK G a < 8000 then some (.inl (gC G 3, gK G a - 7000, .inr (.inr (.inr (.inr fun j => some (a + 3 + 44 * j))))))
  else if gK G a < 9000 then some (.inl (gC G 4, gK G a - 8000, .inr (.inr (.inr (.inr fun j => some (mR M a j))))))
  else if gK G a < 10000 then some (.inl (gC G 5, gK G a - 9000, .inr (.inl fun _ => mJ M a)))
  else some (.inl (gC G 6, gK G a - 10000, .inr (.inr (.inr (.inl fun _ => mD M a)))))
/-- references that change keep their kinds -/
def wfM (G : Gt) (M : Mem) : Prop := (∀ a j, gK G a = 6008 → j < 8 → gK G (mR M a j) = 3) ∧ (∀ a j, gK G a = 8006 → j < 6 → gK G (mR M a j) = 6)
def Mh (G : Gt) (M : Mem) (H : Heap) : Prop := (∀ a e, cel G M a = some e → va_at (gD G) vwCl (a, e) H) ∧ (gB G ≤ H.size ∧ ∀ q : Nat, q < gB G → H[q]? = (gS G).heap[q]?) ∧ wfM G M
/-- words that stay true when the tables warm up -/
def tw (w : Cond) : Bool := match w with
  | .fieldLinkNest .. => true
  | .methodLinkNest .. => true
  | .arrayClass _ => true
  | w => w.onTables && w.keeps
theorem tw_moves {s U : State} {a a' : Array Value} {w : Cond} (hW : s.WarmedH U.vm) (ht : tw w = true) (h : w.before a s = true) : w.before a' U = true := by
  cases w with
  | fieldLinkNest _ _ _ _ _ _ => exact va_Nw.use rfl (va_Nw.warmF hW (va_Nw.of rfl h))
  | methodLinkNest _ _ _ _ => exact va_Nw.use rfl (va_Nw.warmM hW (va_Nw.of rfl h))
  | arrayClass ty => exact word_at hW (Or.inr ⟨_, rfl⟩) h
  | _ => exact word_at hW (Or.inl ht) h
def KK (U : State) : Prop := ∀ w ∈ lw_tbl, tw w = true → ∀ a : Array Value, w.before a U = true
theorem KK.moves {s U : State} (hW : s.WarmedH U.vm) (h : KK s) : KK U := fun w hw ht a => tw_moves (a := #[]) hW ht (h w hw ht #[])
theorem KK.blind {U : State} {g : JFrame} {mk : MethodId} {a : Array Value} (h : KK U) : KK (U.calling g mk a) := KK.moves (show U.WarmedH (U.calling g mk a).vm from State.WarmedH.refl U) h
theorem Mh.one {G : Gt} {M : Mem} {H : Heap} (h : Mh G M H) {a : Nat} {e : va_E} (hc : cel G M a = some e) : va_P (gD G) vwCl [(a, e)] H := fun k q hk => by
  match k, hk with
  | 0, hk => cases hk; exact h.1 a e hc
  | k + 1, hk => simp at hk
theorem Mh.put {G : Gt} {M M' : Mem} {H H1 : Heap} (h : Mh G M H) {a : Nat} {e : va_E} (hc : cel G M' a = some e) (he : va_at (gD G) vwCl (a, e) H1) (hz : H1.size = H.size) (hq : ∀ q : Nat, q ≠ a → H1[q]? = H[q]?) (hne : ∀ b, b ≠ a → cel G M' b = cel G M b) (ha : gB G ≤ a) (hw : wfM G M') : Mh G M' H1 := by
  refine ⟨fun b e1 hb => ?_, ⟨by rw [hz]; exact h.2.1.1, fun q hlt => by rw [hq q (by omega)]; exact h.2.1.2 q hlt⟩, hw⟩
  by_cases hba : b = a
  · subst hba
    rw [hc] at hb
    cases hb
    exact he
  · rw [hne b hba] at hb
    exact (h.1 b e1 hb).kept (hq b hba)
def gA (G : Gt) : Nat → Prop := fun q => gB G ≤ q
theorem gA_new {G : Gt} {M : Mem} {H : Heap} (h : Mh G M H) : ∀ q : Nat, H.size ≤ q → gA G q := fun q hq => Nat.le_trans h.2.1.1 hq
theorem cel_sI {G : Gt} {M : Mem} {a k : Nat} {v : Int32} (b : Nat) (hb : b ≠ a) : cel G (sI M a k v) b = cel G M b := by
  have e1 : mI (sI M a k v) b = mI M b := by funext j; simp [mI, sI, hb]
  have e2 : mR (sI M a k v) b = mR M b := rfl
  have e3 : mJ (sI M a k v) b = mJ M b := rfl
  have e4 : mD (sI M a k v) b = mD M b := rfl
  simp only [cel, cob, e1, e2, e3, e4]
theorem cel_sR {G : Gt} {M : Mem} {a k : Nat} {v : Nat} (b : Nat) (hb : b ≠ a) : cel G (sR M a k v) b = cel G M b := by
  have e1 : mI (sR M a k v) b = mI M b := rfl
  have e2 : mR (sR M a k v) b = mR M b := by funext j; simp [mR, sR, hb]
  have e3 : mJ (sR M a k v) b = mJ M b := rfl
  have e4 : mD (sR M a k v) b = mD M b := rfl
  simp only [cel, cob, e1, e2, e3, e4]
theorem cel_sJ {G : Gt} {M : Mem} {a : Nat} {v : Int64} (b : Nat) (hb : b ≠ a) : cel G (sJ M a v) b = cel G M b := by
  have e1 : mI (sJ M a v) b = mI M b := rfl
  have e2 : mR (sJ M a v) b = mR M b := rfl
  have e3 : mJ (sJ M a v) b = mJ M b := by simp [mJ, sJ, hb]
  have e4 : mD (sJ M a v) b = mD M b := rfl
  simp only [cel, cob, e1, e2, e3, e4]
theorem cel_sD {G : Gt} {M : Mem} {a : Nat} {v : UInt64} (b : Nat) (hb : b ≠ a) : cel G (sD M a v) b = cel G M b := by
  have e1 : mI (sD M a v) b = mI M b := rfl
  have e2 : mR (sD M a v) b = mR M b := rfl
  have e3 : mJ (sD M a v) b = mJ M b := rfl
  have e4 : mD (sD M a v) b = mD M b := by simp [mD, sD, hb]
  simp only [cel, cob, e1, e2, e3, e4]
theorem mI_sI {M : Mem} {a k : Nat} {v : Int32} {b j : Nat} : mI (sI M a k v) b j = if b = a ∧ j = k then v else mI M b j := by
  by_cases h : b = a
  · subst h
    by_cases h2 : j = k
    · subst h2; simp [mI, sI, upd]
    · simp [mI, sI, upd, h2]
  · simp [mI, sI, h]
theorem mI_sR {M : Mem} {a k : Nat} {v : Nat} {b j : Nat} : mI (sR M a k v) b j = mI M b j := rfl
theorem mI_sJ {M : Mem} {a : Nat} {v : Int64} {b j : Nat} : mI (sJ M a v) b j = mI M b j := rfl
theorem mI_sD {M : Mem} {a : Nat} {v : UInt64} {b j : Nat} : mI (sD M a v) b j = mI M b j := rfl
theorem mR_sI {M : Mem} {a k : Nat} {v : Int32} {b j : Nat} : mR (sI M a k v) b j = mR M b j := rfl
theorem mR_sR {M : Mem} {a k : Nat} {v : Nat} {b j : Nat} : mR (sR M a k v) b j = if b = a ∧ j = k then v else mR M b j := rfl
theorem mR_sJ {M : Mem} {a : Nat} {v : Int64} {b j : Nat} : mR (sJ M a v) b j = mR M b j := rfl
theorem mR_sD {M : Mem} {a : Nat} {v : UInt64} {b j : Nat} : mR (sD M a v) b j = mR M b j := rfl
theorem mJ_sI {M : Mem} {a k : Nat} {v : Int32} {b : Nat} : mJ (sI M a k v) b = mJ M b := rfl
theorem mJ_sR {M : Mem} {a k : Nat} {v : Nat} {b : Nat} : mJ (sR M a k v) b = mJ M b := rfl
theorem mJ_sJ {M : Mem} {a : Nat} {v : Int64} {b : Nat} : mJ (sJ M a v) b = if b = a then v else mJ M b := rfl
theorem mJ_sD {M : Mem} {a : Nat} {v : UInt64} {b : Nat} : mJ (sD M a v) b = mJ M b := rfl
theorem mD_sI {M : Mem} {a k : Nat} {v : Int32} {b : Nat} : mD (sI M a k v) b = mD M b := rfl
theorem mD_sR {M : Mem} {a k : Nat} {v : Nat} {b : Nat} : mD (sR M a k v) b = mD M b := rfl
theorem mD_sJ {M : Mem} {a : Nat} {v : Int64} {b : Nat} : mD (sJ M a v) b = mD M b := rfl
theorem mD_sD {M : Mem} {a : Nat} {v : UInt64} {b : Nat} : mD (sD M a v) b = if b = a then v else mD M b := rfl
theorem wfM.sI {G : Gt} {M : Mem} {a k : Nat} {v : Int32} (h : wfM G M) : wfM G (sI M a k v) := h
theorem wfM.sJ {G : Gt} {M : Mem} {a : Nat} {v : Int64} (h : wfM G M) : wfM G (sJ M a v) := h
theorem wfM.sD {G : Gt} {M : Mem} {a : Nat} {v : UInt64} (h : wfM G M) : wfM G (sD M a v) := h
theorem wfM.sR {G : Gt} {M : Mem} {a k : Nat} {v : Nat} (h : wfM G M) (h1 : gK G a = 6008 → gK G v = 3) (h2 : gK G a = 8006 → gK G v = 6) : wfM G (sR M a k v) := by
  refine ⟨fun b j hb hj => ?_, fun b j hb hj => ?_⟩
  · rw [mR_sR]
    split
    · rename_i q; rw [q.1] at hb; exact h1 hb
    · exact h.1 b j hb hj
  · rw [mR_sR]
    split
    · rename_i q; rw [q.1] at hb; exact h2 hb
    · exact h.2 b j hb hj
end
section
/-! rows over memories -/
theorem cel_o {G : Gt} {M : Mem} {a k : Nat} (h : gK G a = k) (hk : k < 1000) : cel G M a = cob M a k := by simp only [cel, h, if_pos hk]
theorem cel_ia {G : Gt} {M : Mem} {a n : Nat} (h : gK G a = 1000 + n) (hn : n < 4000) : cel G M a = some (.inl (gC G 0, n, .inl (mI M a))) := by
  have e1 : ¬ 1000 + n < 1000 := by omega
  have e2 : 1000 + n < 5000 := by omega
  have e3 : 1000 + n - 1000 = n := by omega
  simp only [cel, h, if_neg e1, if_pos e2, e3]
theorem cel_ca {G : Gt} {M : Mem} {a n : Nat} (h : gK G a = 5000 + n) (hn : n < 1000) : cel G M a = some (.inl (gC G 1, n, .inl (mI M a))) := by
  have e1 : ¬ 5000 + n < 1000 := by omega
  have e2 : ¬ 5000 + n < 5000 := by omega
  have e3 : 5000 + n < 6000 := by omega
  have e4 : 5000 + n - 5000 = n := by omega
  simp only [cel, h, if_neg e1, if_neg e2, if_pos e3, e4]
theorem cel_pa {G : Gt} {M : Mem} {a : Nat} (h : gK G a = 6008) : cel G M a = some (.inl (gC G 2, 8, .inr (.inr (.inr (.inr fun j => some (mR M a j)))))) := by
  simp only [cel, h]; rfl
theorem cel_va {G : Gt} {M : Mem} {a : Nat} (h : gK G a = 7003) : cel G M a = some (.inl (gC G 3, 3, .inr (.inr (.inr (.inr fun j => some (a + 3 + 44 * j)))))) := by
  simp only [cel, h]; rfl
theorem cel_sa {G : Gt} {M : Mem} {a : Nat} (h : gK G a = 8006) : cel G M a = some (.inl (gC G 4, 6, .inr (.inr (.inr (.inr fun j => some (mR M a j)))))) := by
  simp only [cel, h]; rfl
theorem cel_la {G : Gt} {M : Mem} {a : Nat} (h : gK G a = 9001) : cel G M a = some (.inl (gC G 5, 1, .inr (.inl fun _ => mJ M a))) := by
  simp only [cel, h]; rfl
theorem cel_da {G : Gt} {M : Mem} {a : Nat} (h : gK G a = 10001) : cel G M a = some (.inl (gC G 6, 1, .inr (.inr (.inr (.inl fun _ => mD M a))))) := by
  simp only [cel, h]; rfl
abbrev ix (i : Int32) (n : Nat) : Prop := ¬ (i < 0 ∨ n ≤ i.toNatClampNeg)
theorem ix_lt {i : Int32} {n : Nat} (h : ix i n) : i.toNatClampNeg < n := Nat.not_le.mp fun q => h (Or.inr q)
/-- a value gets a name -/
def nb {α β : Type} (x : α) (k : α → Option β) : Option β := k x
theorem nb_e {α β : Type} {x : α} {k : α → Option β} {r : β} (h : nb x k = some r) : ∃ y, x = y ∧ k y = some r := ⟨x, rfl, h⟩
theorem nb_s {α β : Type} (x : α) (k : α → Option β) : nb x k = k x := rfl
/-- a check -/
def gd {β : Type} (c : Prop) [Decidable c] (x : Option β) : Option β := if c then x else none
theorem gd_e {β : Type} {c : Prop} [Decidable c] {x : Option β} {r : β} (h : gd c x = some r) : c ∧ x = some r := by
  unfold gd at h
  split at h
  · exact ⟨‹_›, h⟩
  · cases h
theorem gd_s {β : Type} {c : Prop} [Decidable c] {x : Option β} (h : c) : gd c x = x := if_pos h
/-- a call: an answer and a memory; an answer alone; a memory alone -/
def cb {α β γ : Type} (o : Option (α × β)) (k : α → β → Option γ) : Option γ := match o with
  | none => none
  | some q => k q.1 q.2
theorem cb_e {α β γ : Type} {o : Option (α × β)} {k : α → β → Option γ} {r : γ} (h : cb o k = some r) : ∃ x y, o = some (x, y) ∧ k x y = some r := by
  cases o with
  | none => cases h
  | some q => exact ⟨q.1, q.2, rfl, h⟩
theorem cb_s {α β γ : Type} (x : α) (y : β) (k : α → β → Option γ) : cb (some (x, y)) k = k x y := rfl
def vb {β γ : Type} (o : Option β) (k : β → Option γ) : Option γ := match o with
  | none => none
  | some q => k q
theorem vb_e {β γ : Type} {o : Option β} {k : β → Option γ} {r : γ} (h : vb o k = some r) : ∃ y, o = some y ∧ k y = some r := by
  cases o with
  | none => cases h
  | some q => exact ⟨q, rfl, h⟩
theorem vb_s {β γ : Type} (y : β) (k : β → Option γ) : vb (some y) k = k y := rfl
section ROWS
variable {p : Program} {l : Launch} {e : Env} {R : Room} {s : State} {m : MethodId} {args : Array Value} {below : List Frame} {meth : Method} {c : Code} {H : Heap} {locs : List Loc} {cells slots : Nat} {Q : State → Prop} {cc : ByteArray} {pc : Nat} {ls : Array Slot} {rest : List Value} {G : Gt} {M : Mem} {a : Nat} {H0 : Heap}
theorem s_nm {x y : Int32} (h : x = y) (k : W p l e R s m args below meth c H locs cells slots Q (F0 m pc ls (.int y :: rest))) : W p l e R s m args below meth c H locs cells slots Q (F0 m pc ls (.int x :: rest)) := by rw [h]; exact k
theorem s_nmr {x y : Nat} (h : x = y) (k : W p l e R s m args below meth c H locs cells slots Q (F0 m pc ls (.ref y :: rest))) : W p l e R s m args below meth c H locs cells slots Q (F0 m pc ls (.ref x :: rest)) := by rw [h]; exact k
theorem s_nml {x y : Int64} (h : x = y) (k : W p l e R s m args below meth c H locs cells slots Q (F0 m pc ls (.long y :: rest))) : W p l e R s m args below meth c H locs cells slots Q (F0 m pc ls (.long x :: rest)) := by rw [h]; exact k
theorem s_nmd {x y : UInt64} (h : x = y) (k : W p l e R s m args below meth c H locs cells slots Q (F0 m pc ls (.double y :: rest))) : W p l e R s m args below meth c H locs cells slots Q (F0 m pc ls (.double x :: rest)) := by rw [h]; exact k
theorem s_iald (n : Nat) (hx : p.tables.exec = Jvm.exec) (hb : c.code = cc) (hK : va_K (gD G) vwCl (gT G) s) (hM : Mh G M H) (ha : gK G a = 1000 + n) (hn : n < 4000) {i : Int32} (hi : ix i n) (hdg : decode cc pc = .ok (.iaload, 1))
    (kk : W p l e R s m args below meth c H locs cells slots Q (F0 m (pc + 1) ls (.int (mI M a i.toNatClampNeg) :: rest))) : W p l e R s m args below meth c H locs cells slots Q (F0 m pc ls (.int i :: .ref a :: rest)) :=
  va_iald hx hb hK (hM.one (cel_ia ha hn)) 0 0 rfl rfl hi hdg kk
theorem s_cald (n : Nat) (hx : p.tables.exec = Jvm.exec) (hb : c.code = cc) (hK : va_K (gD G) vwCl (gT G) s) (hM : Mh G M H) (ha : gK G a = 5000 + n) (hn : n < 1000) {i : Int32} (hi : ix i n) (hdg : decode cc pc = .ok (.caload, 1))
    (kk : W p l e R s m args below meth c H locs cells slots Q (F0 m (pc + 1) ls (.int (mI M a i.toNatClampNeg) :: rest))) : W p l e R s m args below meth c H locs cells slots Q (F0 m pc ls (.int i :: .ref a :: rest)) :=
  va_cald hx hb hK (hM.one (cel_ca ha hn)) 0 1 rfl rfl hi hdg kk
theorem s_paald (hx : p.tables.exec = Jvm.exec) (hb : c.code = cc) (hK : va_K (gD G) vwCl (gT G) s) (hM : Mh G M H) (ha : gK G a = 6008) {i : Int32} (hi : ix i 8) (hdg : decode cc pc = .ok (.aaload, 1))
    (kk : gK G (mR M a i.toNatClampNeg) = 3 → W p l e R s m args below meth c H locs cells slots Q (F0 m (pc + 1) ls (.ref (mR M a i.toNatClampNeg) :: rest))) : W p l e R s m args below meth c H locs cells slots Q (F0 m pc ls (.int i :: .ref a :: rest)) :=
  va_aldq hx hb hK (hM.one (cel_pa ha)) 0 2 rfl rfl hi hdg (kk (hM.2.2.1 a _ ha (ix_lt hi)))
theorem s_saald (hx : p.tables.exec = Jvm.exec) (hb : c.code = cc) (hK : va_K (gD G) vwCl (gT G) s) (hM : Mh G M H) (ha : gK G a = 8006) {i : Int32} (hi : ix i 6) (hdg : decode cc pc = .ok (.aaload, 1))
    (kk : gK G (mR M a i.toNatClampNeg) = 6 → W p l e R s m args below meth c H locs cells slots Q (F0 m (pc + 1) ls (.ref (mR M a i.toNatClampNeg) :: rest))) : W p l e R s m args below meth c H locs cells slots Q (F0 m pc ls (.int i :: .ref a :: rest)) :=
  va_aldq hx hb hK (hM.one (cel_sa ha)) 0 4 rfl rfl hi hdg (kk (hM.2.2.2 a _ ha (ix_lt hi)))
theorem s_vaald (hx : p.tables.exec = Jvm.exec) (hb : c.code = cc) (hK : va_K (gD G) vwCl (gT G) s) (hM : Mh G M H) (hv : ∀ j, j < 3 → gK G (a + 3 + 44 * j) = 8) (ha : gK G a = 7003) {i : Int32} (hi : ix i 3) (hdg : decode cc pc = .ok (.aaload, 1))
    (kk : gK G (a + 3 + 44 * i.toNatClampNeg) = 8 → W p l e R s m args below meth c H locs cells slots Q (F0 m (pc + 1) ls (.ref (a + 3 + 44 * i.toNatClampNeg) :: rest))) : W p l e R s m args below meth c H locs cells slots Q (F0 m pc ls (.int i :: .ref a :: rest)) :=
  va_aldq hx hb hK (hM.one (cel_va ha)) 0 3 rfl rfl hi hdg (kk (hv _ (ix_lt hi)))
theorem s_lald (hx : p.tables.exec = Jvm.exec) (hb : c.code = cc) (hK : va_K (gD G) vwCl (gT G) s) (hM : Mh G M H) (ha : gK G a = 9001) {i : Int32} (hi : ix i 1) (hdg : decode cc pc = .ok (.laload, 1))
    (kk : W p l e R s m args below meth c H locs cells slots Q (F0 m (pc + 1) ls (.long (mJ M a) :: rest))) : W p l e R s m args below meth c H locs cells slots Q (F0 m pc ls (.int i :: .ref a :: rest)) :=
  va_lald hx hb hK (hM.one (cel_la ha)) 0 5 rfl rfl hi hdg kk
theorem s_dald (hx : p.tables.exec = Jvm.exec) (hb : c.code = cc) (hK : va_K (gD G) vwCl (gT G) s) (hM : Mh G M H) (ha : gK G a = 10001) {i : Int32} (hi : ix i 1) (hdg : decode cc pc = .ok (.daload, 1))
    (kk : W p l e R s m args below meth c H locs cells slots Q (F0 m (pc + 1) ls (.double (mD M a) :: rest))) : W p l e R s m args below meth c H locs cells slots Q (F0 m pc ls (.int i :: .ref a :: rest)) :=
  va_dald hx hb hK (hM.one (cel_da ha)) 0 6 rfl rfl hi hdg kk
theorem s_alen {ty : FieldType} (t0 : Nat) (hx : p.tables.exec = Jvm.exec) (hb : c.code = cc) (hK : va_K (gD G) vwCl (gT G) s) (hM : Mh G M H) {cA : ClassId} {x : vp_A} (hc : cel G M a = some (.inl (cA, x))) (ht : (gT G)[t0]? = some (cA, ty)) {v : Int32} (hv : Int32.ofNat x.1 = v) (hdg : decode cc pc = .ok (.arraylength, 1))
    (kk : W p l e R s m args below meth c H locs cells slots Q (F0 m (pc + 1) ls (.int v :: rest))) : W p l e R s m args below meth c H locs cells slots Q (F0 m pc ls (.ref a :: rest)) :=
  va_alen hx hb hK (hM.one hc) 0 t0 rfl ht hv hdg kk
theorem s_iast (n : Nat) (hx : p.tables.exec = Jvm.exec) (hb : c.code = cc) (hK : va_K (gD G) vwCl (gT G) s) (hM : Mh G M H) (hS : va_S (gA G) H0 H locs) (ha : gK G a = 1000 + n) (hn : n < 4000) (hB : gB G ≤ a) {i x : Int32} (hi : ix i n) (hdg : decode cc pc = .ok (.iastore, 1))
    (kk : ∀ (H1 : Heap) (locs1 : List Loc), Mh G (sI M a i.toNatClampNeg x) H1 → va_S (gA G) H0 H1 locs1 → W p l e R s m args below meth c H1 locs1 cells slots Q (F0 m (pc + 1) ls rest)) : W p l e R s m args below meth c H locs cells slots Q (F0 m pc ls (.int x :: .int i :: .ref a :: rest)) := by
  have hP := hM.one (cel_ia (M := M) ha hn)
  refine W.iast hx hb (hP 0 _ rfl) ((hK.2 0 _ rfl).1 n (fun j => .int (mI M a j))) (fun q => by cases q) (by show ¬ (i < 0 ∨ (arrV _ _ _).slots.size ≤ _); rw [arrV_size]; exact hi) rfl rfl hdg fun H1 e z oq => ?_
  refine kk H1 _ (hM.put (cel_ia ha hn) ?_ z oq (fun b hb2 => cel_sI b hb2) hB hM.2.2.sI) (hS.put z oq hB)
  show H1[a]? = some (vp_cell _ _)
  rw [e, vp_cell_i, vp_cell_i, arrV_store]
  congr 2
  funext q
  by_cases hq : q = i.toNatClampNeg
  · subst hq; simp [updV, mI_sI]
  · simp [updV, mI_sI, hq]
theorem s_cast (n : Nat) (hx : p.tables.exec = Jvm.exec) (hb : c.code = cc) (hK : va_K (gD G) vwCl (gT G) s) (hM : Mh G M H) (hS : va_S (gA G) H0 H locs) (ha : gK G a = 5000 + n) (hn : n < 1000) (hB : gB G ≤ a) {i x : Int32} (hi : ix i n) (hdg : decode cc pc = .ok (.castore, 1))
    (kk : ∀ (H1 : Heap) (locs1 : List Loc), Mh G (sI M a i.toNatClampNeg (vp_nar .char x)) H1 → va_S (gA G) H0 H1 locs1 → W p l e R s m args below meth c H1 locs1 cells slots Q (F0 m (pc + 1) ls rest)) : W p l e R s m args below meth c H locs cells slots Q (F0 m pc ls (.int x :: .int i :: .ref a :: rest)) := by
  have hP := hM.one (cel_ca (M := M) ha hn)
  refine W.cast hx hb (hP 0 _ rfl) ((hK.2 1 _ rfl).1 n (fun j => .int (mI M a j))) (fun q => by cases q) (by show ¬ (i < 0 ∨ (arrV _ _ _).slots.size ≤ _); rw [arrV_size]; exact hi) rfl rfl hdg fun H1 e z oq => ?_
  refine kk H1 _ (hM.put (cel_ca ha hn) ?_ z oq (fun b hb2 => cel_sI b hb2) hB hM.2.2.sI) (hS.put z oq hB)
  show H1[a]? = some (vp_cell _ _)
  rw [e, vp_cell_i, vp_cell_i, arrV_store]
  congr 2
  funext q
  by_cases hq : q = i.toNatClampNeg
  · subst hq
    simp [updV, mI_sI, vp_nar]
    try rfl
  · simp [updV, mI_sI, hq]
/-- a reference is put into a row of references (2 packets, 4 states) -/
theorem s_aast (t0 ci nn : Nat) (hx : p.tables.exec = Jvm.exec) (hb : c.code = cc) (hK : va_K (gD G) vwCl (gT G) s) (hM : Mh G M H) (hS : va_S (gA G) H0 H locs) {cA : ClassId} {r : vw_C} {v : Nat} {vs : List Value} (hB : gB G ≤ a)
    (hc : ∀ N : Mem, cel G N a = some (.inl (cA, nn, .inr (.inr (.inr (.inr fun j => some (mR N a j))))))) (ht : (gT G)[t0]? = some (cA, .object r.1)) (hv : cel G M v = some (.inr (ci, vs))) (hr : vwCl[ci]? = some r) {i : Int32} (hi : ix i nn) (hw : wfM G (sR M a i.toNatClampNeg v)) (hdg : decode cc pc = .ok (.aastore, 1))
    (kk : ∀ (H1 : Heap) (locs1 : List Loc), Mh G (sR M a i.toNatClampNeg v) H1 → va_S (gA G) H0 H1 locs1 → W p l e R s m args below meth c H1 locs1 cells slots Q (F0 m (pc + 1) ls rest)) : W p l e R s m args below meth c H locs cells slots Q (F0 m pc ls (.ref v :: .int i :: .ref a :: rest)) := by
  have hP := hM.one (hc M)
  have hPv := hM.one hv
  have hlt := ix_lt hi
  have h0 : ¬ i < 0 := fun q => hi (Or.inl q)
  obtain ⟨r', hr', cellV, g1, g2, g3, -⟩ := hPv 0 _ rfl
  have hcls := (hK.1 ci r hr).2
  obtain ⟨kA, comp, k1, k2, k3, -⟩ := (hK.2 t0 _ ht).2
  have hcomp : comp = (gD G).1 ci := Option.some.inj (k3.symm.trans hcls.1)
  subst hcomp
  obtain ⟨kC, hkC, -⟩ := hcls.2
  refine W.aast hx hb (hP 0 _ rfl) (fun q h => by cases h) (fun h => by cases h) k1 k2 rfl hkC ⟨h0, by show _ < (arrV _ _ _).slots.size; rw [arrV_size]; exact hlt⟩ g1 (fun q h => by rw [g3] at h; cases h) (by rw [g2]; exact hkC) (by rw [g2]; exact va_assign hcls) rfl rfl hdg fun H1 e z oq => ?_
  refine kk H1 _ (hM.put (hc _) ?_ z oq (fun b hb2 => cel_sR b hb2) hB hw) (hS.put z oq hB)
  show H1[a]? = some (vp_cell _ _)
  rw [e, vp_cell_q, vp_cell_q, arrV_store]
  congr 2
  funext q
  by_cases hq : q = i.toNatClampNeg
  · subst hq; simp [updV, mR_sR, va_rf]
  · simp [updV, mR_sR, hq]
theorem s_get {own ref C : String} {T : u_T} {N ci index : Nat} {fs : List Value} (hx : p.tables.exec = Jvm.exec) (hb : c.code = cc) (hL : ∀ w ∈ u_ws C T N, w.before args s = true) (hown : s.vm.findClass own = some m.cls) (hK : va_K (gD G) vwCl (gT G) s) (hM : Mh G M H) (hc : cel G M a = some (.inr (ci, fs))) (hci : vwCl[ci]? = some (C, T, N)) (k : Nat) (hk : k < N) {v : Value} (hv : fs[k]? = some v) (hre : (T k).1 = ref) (hlink : (Cond.fieldLink own index ref (T k).2.1 (T k).2.2.1).before args s = true) (hdg : decode cc pc = .ok (.getfield index, 3))
    (kk : W p l e R s m args below meth c H locs cells slots Q (F0 m (pc + 3) ls (v :: rest))) : W p l e R s m args below meth c H locs cells slots Q (F0 m pc ls (.ref a :: rest)) :=
  va_get hx hb hL (fun _ h => h) hown hK (hM.one hc) 0 rfl hci k hk hlink (fun _ h => by rw [← hre]; exact h) hv hdg kk
theorem s_getN {own ref C host : String} {T : u_T} {N ci index : Nat} {fs : List Value} (hx : p.tables.exec = Jvm.exec) (hb : c.code = cc) (hL : ∀ w ∈ u_ws C T N, w.before args s = true) (hown : s.vm.findClass own = some m.cls) (hK : va_K (gD G) vwCl (gT G) s) (hM : Mh G M H) (hc : cel G M a = some (.inr (ci, fs))) (hci : vwCl[ci]? = some (C, T, N)) (k : Nat) (hk : k < N) {v : Value} (hv : fs[k]? = some v) (hre : (T k).1 = ref) (hlink : (Cond.fieldLinkNest own index ref (T k).2.1 (T k).2.2.1 host).before args s = true) (hdg : decode cc pc = .ok (.getfield index, 3))
    (kk : W p l e R s m args below meth c H locs cells slots Q (F0 m (pc + 3) ls (v :: rest))) : W p l e R s m args below meth c H locs cells slots Q (F0 m pc ls (.ref a :: rest)) :=
  va_getN hx hb hL (fun _ h => h) hown hK (hM.one hc) 0 rfl hci k hk hlink (fun _ h => by rw [← hre]; exact h) hv hdg kk
end ROWS
end
section
/-! puts, contracts, calls -/
section PUTS
variable {p : Program} {l : Launch} {e : Env} {R : Room} {s : State} {m : MethodId} {args : Array Value} {below : List Frame} {meth : Method} {c : Code} {H : Heap} {locs : List Loc} {cells slots : Nat} {Q : State → Prop} {cc : ByteArray} {pc : Nat} {ls : Array Slot} {rest : List Value} {G : Gt} {M : Mem} {a : Nat} {H0 : Heap}
theorem s_put {own ref C : String} {T : u_T} {N ci index : Nat} {fs : List Value} {M' : Mem} (ty0 : Nat → FieldType) (hx : p.tables.exec = Jvm.exec) (hb : c.code = cc) (hL : ∀ w ∈ u_ws C T N, w.before args s = true) (hty : ∀ k, k < N → parseFieldDescriptor (T k).2.2.1 = some (ty0 k)) (hnm : ∀ a, a < N → ∀ b, b < N → a ≠ b → (T a).2.1 ≠ (T b).2.1) (hown : s.vm.findClass own = some m.cls) (hK : va_K (gD G) vwCl (gT G) s) (hM : Mh G M H) (hS : va_S (gA G) H0 H locs) (hB : gB G ≤ a) (hc : cel G M a = some (.inr (ci, fs))) (hci : vwCl[ci]? = some (C, T, N)) (k : Nat) (hk : k < N) (hfin : (T k).2.2.2 = false) {v : Value} (hn : narrow (ty0 k) v = v) (hfit : fits (ty0 k) v = true) (hl : k < fs.length) (hc' : cel G M' a = some (.inr (ci, fs.set k v))) (hne : ∀ b, b ≠ a → cel G M' b = cel G M b) (hw : wfM G M')
    (hre : (T k).1 = ref) (hlink : (Cond.fieldLink own index ref (T k).2.1 (T k).2.2.1).before args s = true) (hdg : decode cc pc = .ok (.putfield index, 3))
    (kk : ∀ (H1 : Heap) (locs1 : List Loc), Mh G M' H1 → va_S (gA G) H0 H1 locs1 → W p l e R s m args below meth c H1 locs1 cells slots Q (F0 m (pc + 3) ls rest)) : W p l e R s m args below meth c H locs cells slots Q (F0 m pc ls (v :: .ref a :: rest)) := by
  have hap := va_apart (own := own) hL (fun _ h => h) ty0 hty hnm hK hci
  obtain ⟨r, h1, cell, q1, q2, q3, q4⟩ := hM.one hc 0 _ rfl
  have hr : r = (C, T, N) := Option.some.inj (h1.symm.trans hci)
  subst hr
  obtain ⟨hSl, hfc, kC, hkC, hkind⟩ := hK.1 ci _ hci
  obtain ⟨cf, kf, fi, f, hi, hsl⟩ := hSl k hk
  have hlay := hL _ (u_in_lay hk)
  unfold u_lay at hlay
  rw [if_neg (by rw [hfin]; decide)] at hlay
  have hst := (u_facts hfc hkC (u_lays hL (fun _ h => h) hk) hi).1
  have h6 := u_store hfc hkC hkind hlay hi (hty k hk) hn hfit
  refine W.putK hx hb (f := f) ⟨hown, hlink, ⟨_, _, _, by rw [← hre]; exact hi⟩, hst⟩ (by rw [q2]; exact h6) q1 q3 (by rw [hsl]; exact k2_hasslot (q4 k hk)) rfl rfl hdg fun H' e1 e2 e3 => ?_
  rw [hsl] at e1 ⊢
  exact kk H' _ (hM.put hc' ⟨_, hci, t_OB.to (V := updV (vp_V fs) k v) ⟨_, e1, q2, q3, t_set q4 hap hk v⟩ (fun j _ => vp_updV_set hl v j)⟩ e2 e3 hne hB hw) (hS.put e2 e3 hB)
theorem s_putN {own ref C host : String} {T : u_T} {N ci index : Nat} {fs : List Value} {M' : Mem} (ty0 : Nat → FieldType) (hx : p.tables.exec = Jvm.exec) (hb : c.code = cc) (hL : ∀ w ∈ u_ws C T N, w.before args s = true) (hty : ∀ k, k < N → parseFieldDescriptor (T k).2.2.1 = some (ty0 k)) (hnm : ∀ a, a < N → ∀ b, b < N → a ≠ b → (T a).2.1 ≠ (T b).2.1) (hown : s.vm.findClass own = some m.cls) (hK : va_K (gD G) vwCl (gT G) s) (hM : Mh G M H) (hS : va_S (gA G) H0 H locs) (hB : gB G ≤ a) (hc : cel G M a = some (.inr (ci, fs))) (hci : vwCl[ci]? = some (C, T, N)) (k : Nat) (hk : k < N) (hfin : (T k).2.2.2 = false) {v : Value} (hn : narrow (ty0 k) v = v) (hfit : fits (ty0 k) v = true) (hl : k < fs.length) (hc' : cel G M' a = some (.inr (ci, fs.set k v))) (hne : ∀ b, b ≠ a → cel G M' b = cel G M b) (hw : wfM G M')
    (hre : (T k).1 = ref) (hlink : (Cond.fieldLinkNest own index ref (T k).2.1 (T k).2.2.1 host).before args s = true) (hdg : decode cc pc = .ok (.putfield index, 3))
    (kk : ∀ (H1 : Heap) (locs1 : List Loc), Mh G M' H1 → va_S (gA G) H0 H1 locs1 → W p l e R s m args below meth c H1 locs1 cells slots Q (F0 m (pc + 3) ls rest)) : W p l e R s m args below meth c H locs cells slots Q (F0 m pc ls (v :: .ref a :: rest)) := by
  have hap := va_apart (own := own) hL (fun _ h => h) ty0 hty hnm hK hci
  obtain ⟨r, h1, cell, q1, q2, q3, q4⟩ := hM.one hc 0 _ rfl
  have hr : r = (C, T, N) := Option.some.inj (h1.symm.trans hci)
  subst hr
  obtain ⟨hSl, hfc, kC, hkC, hkind⟩ := hK.1 ci _ hci
  obtain ⟨cf, kf, fi, f, hi, hsl⟩ := hSl k hk
  have hlay := hL _ (u_in_lay hk)
  unfold u_lay at hlay
  rw [if_neg (by rw [hfin]; decide)] at hlay
  have hst := (u_facts hfc hkC (u_lays hL (fun _ h => h) hk) hi).1
  have h6 := u_store hfc hkC hkind hlay hi (hty k hk) hn hfit
  refine va_WputK hx hb (f := f) hown hlink (by rw [← hre]; exact hi) hst (by rw [q2]; exact h6) q1 q3 (by rw [hsl]; exact k2_hasslot (q4 k hk)) rfl rfl hdg fun H' e1 e2 e3 => ?_
  rw [hsl] at e1 ⊢
  exact kk H' _ (hM.put hc' ⟨_, hci, t_OB.to (V := updV (vp_V fs) k v) ⟨_, e1, q2, q3, t_set q4 hap hk v⟩ (fun j _ => vp_updV_set hl v j)⟩ e2 e3 hne hB hw) (hS.put e2 e3 hB)
end PUTS
def Pre (G : Gt) (M : Mem) (U : State) : Prop := KK U ∧ (gS G).vm.Alike U.vm ∧ Mh G M U.heap
def QV (G : Gt) (ov : Option Value) (M' : Mem) : Array Value → State → Outcome → State → Prop := fun _ st oc t => oc = .returned ov ∧ Mh G M' t.heap ∧ va_F (gA G) st t
/-- a contract: with these arguments over this memory it returns this, over that memory -/
def Kc (G : Gt) (l : Launch) (y : MethodName) (cc : ByteArray) (maxL : Nat) (ret : Option FieldType) (rm : Room) (As : List Value) (M : Mem) (ov : Option Value) (M' : Mem) : Prop :=
  Met l y [.code y cc maxL ret] rm (va_Pc As (Pre G M)) (QV G ov M') 0 0 (gA G)
theorem pre_blind {G : Gt} {M : Mem} {As : List Value} : FrameBlind (va_Pc As (Pre G M)) := fun _ _ _ _ h => ⟨h.1, h.2.1.blind, h.2.2.1, h.2.2.2⟩
theorem start {G : Gt} {l : Launch} {y : MethodName} {cc : ByteArray} {maxL : Nat} {ret : Option FieldType} {rm : Room} {As : List Value} {M M' : Mem} {ov : Option Value} (hy : plainName y.cls = true) (hlen : (lg_sl As).length ≤ maxL)
    (body : ∀ (p : Program) (e : Env) (s : State) (m : MethodId) (args : Array Value) (below : List Frame) (meth : Method) (c : Code) (ls : Array Slot), p.tables.exec = Jvm.exec → c.code = cc → meth.sig.returnType = ret → s.vm.findClass y.cls = some m.cls → c.maxLocals = maxL → meth.locks = false → KK s → (gS G).vm.Alike s.vm → Mh G M s.heap → lv_has ls maxL (lv_args 0 As) →
      W p l e rm s m args below meth c s.heap [] 0 0 (MQ below (QV G ov M') args s 0 0 (gA G)) (F0 m 0 ls [])) : Kc G l y cc maxL ret rm As M ov M' := by
  refine Met.ofW (cc := cc) (maxL := maxL) (ret := ret) hy rfl ?_
  intro p e s m args below meth c s₁ B hml hv
  obtain ⟨rfl, hts, hV, hM⟩ := hv
  have hl := lv_entry As (n := maxL) hlen
  rw [lg_entry_eq]
  exact body p e s m _ below meth c _ B.exec B.bytes B.returns (findClass_of_methodNamed B.named) hml B.notSynchronized hts hV hM hl
def pkgV (y : MethodName) (bytes : ByteArray) (maxL : Nat) (ret : Option FieldType) (n : Nat) : Prop := (Cond.code y bytes maxL ret ∈ lw_tbl ∧ Cond.initialized y.cls ∈ lw_tbl) ∧ (Cond.instanceMethod y ∈ lw_tbl ∧ Cond.selects y.cls y y ∈ lw_tbl) ∧ (y.cls ≠ "java/lang/invoke/MethodHandle" ∧ y.cls ≠ "java/lang/invoke/VarHandle") ∧ (parseMethodDescriptor y.desc).map (fun d => d.parameters.length) = some n
def pkgS (y : MethodName) (bytes : ByteArray) (maxL : Nat) (ret : Option FieldType) (n : Nat) : Prop := (Cond.code y bytes maxL ret ∈ lw_tbl ∧ Cond.initialized y.cls ∈ lw_tbl) ∧ Cond.static y ∈ lw_tbl ∧ (y.cls ≠ "java/lang/invoke/MethodHandle" ∧ y.cls ≠ "java/lang/invoke/VarHandle") ∧ (parseMethodDescriptor y.desc).map (fun d => d.parameters.length) = some n
section CALLS
variable {p : Program} {l : Launch} {e : Env} {R : Room} {s : State} {m : MethodId} {args : Array Value} {below : List Frame} {meth : Method} {c : Code} {H : Heap} {locs : List Loc} {cells slots : Nat} {Q : State → Prop} {cc : ByteArray} {pc nL : Nat} {ls : Array Slot} {rest st0 : List Value} {G : Gt} {M M1 : Mem} {H0 : Heap} {y : MethodName} {bytes : ByteArray} {maxL n idx : Nat} {ret : Option FieldType} {rm : Room} {As : List Value} {ov : Option Value} {own host : String}
theorem code_moves {w : Cond} (hw : ∀ y b k r, w = Cond.code y b k r → True) (hts : KK s) (hm : w ∈ lw_tbl) (ht : tw w = true) : ∀ w' ∈ [w], ∀ (a' : Array Value) (U : State), s.WarmedH U.vm → w'.before a' U = true := by
  intro w' h a' U hW
  rw [List.mem_singleton.mp h]
  exact tw_moves (a := #[]) hW ht (hts w hm ht #[])
theorem c_go {a : Array Value} (hr : va_Run p l e R s m args below meth c H locs cells slots 0 0 (F0 m pc ls st0) rest (QV G ov M1 a) (gA G)) (hS : va_S (gA G) H0 H locs)
    (kk : ∀ (H1 : Heap) (locs1 : List Loc), Mh G M1 H1 → va_S (gA G) H0 H1 locs1 → W p l e R s m args below meth c H1 locs1 cells slots Q (F0 m (pc + 3) ls (ov.toList ++ rest))) : W p l e R s m args below meth c H locs cells slots Q (F0 m pc ls st0) := by
  intro T hT X
  obtain ⟨v, st₀, t, T', L, h0, X', hL, e1, e2, ⟨hv, hM, hz, hk⟩, st⟩ := hr T hT X
  cases hv
  rw [h0] at hz hk
  obtain ⟨t2, a1, b1⟩ := kk T'.heap (locs ++ L) (by rw [e1]; exact hM)
    ⟨Nat.le_trans hS.1 (by rw [e1]; exact hz), fun q h1 h2 => by rw [e1, hk q (Nat.lt_of_lt_of_le h1 hS.1) h2]; exact hS.2.1 q h1 h2, fun q hq => by
      rcases List.mem_append.mp hq with h | h
      · exact hS.2.2 q h
      · exact hL q h⟩ T' rfl X'
  exact ⟨t2, st t2 a1, b1⟩
theorem c_V {b ci : Nat} {fs : List Value} {q : vw_C} (hx : p.tables.exec = Jvm.exec) (hb : c.code = cc) (hml : c.maxLocals = nL) (hown : s.vm.findClass own = some m.cls) (hts : KK s) (hV : (gS G).vm.Alike s.vm) (hK : va_K (gD G) vwCl (gT G) s) (hM : Mh G M H) (hS : va_S (gA G) H0 H locs) (hk : Kc G l y bytes maxL ret rm (.ref b :: As) M ov M1) (w : pkgV y bytes maxL ret n) (hl : (Cond.methodLink own idx y).before args s = true)
    (hc : cel G M b = some (.inr (ci, fs))) (hci : vwCl[ci]? = some q) (hq : q.1 = y.cls) (hrm : (rm.cells = 0 ∧ rm.slots = 0) ∧ rm.frames + 1 ≤ R.frames ∧ 8 + (maxL + 11) + rm.locals ≤ R.locals) (hcs : cells ≤ R.cells ∧ slots ≤ R.slots) (hn : As.length = n) (hsz : ls.size = nL) (hst : st0 = As.reverse ++ .ref b :: rest) (hW : (rest.map fun v => v.category).sum ≤ 8) (hdg : decode cc pc = .ok (.invokevirtual idx, 3))
    (kk : ∀ (H1 : Heap) (locs1 : List Loc), Mh G M1 H1 → va_S (gA G) H0 H1 locs1 → W p l e R s m args below meth c H1 locs1 cells slots Q (F0 m (pc + 3) ls (ov.toList ++ rest))) : W p l e R s m args below meth c H locs cells slots Q (F0 m pc ls st0) := by
  obtain ⟨⟨w1, w2⟩, ⟨w3, w4⟩, w5, w6⟩ := w
  have hcw : CallW R s args own y.cls idx y bytes maxL ret [.code y bytes maxL ret] rm 0 0 n := by
    refine ⟨⟨hrm.1.1, hrm.1.2, hrm.2.1, hrm.2.2, code_moves (fun _ _ _ _ _ => trivial) hts w1 rfl, List.mem_singleton.mpr rfl, hts _ w1 rfl _, hts _ w2 rfl _, w5, fun sig h => ?_, hl⟩, hts _ w3 rfl _, hts _ w4 rfl _⟩
    rw [h] at w6
    exact (Option.some.inj w6).symm
  exact c_go (va_runV (Ts := []) ⟨hx, hb, hml, hown, fun _ h => absurd h List.not_mem_nil⟩ hk hcw ⟨pre_blind, by rw [← hq]; exact va_recv hK (hM.one hc) hci (q0 := 0) rfl, fun U hU hW1 => ⟨rfl, hts.moves hW1, ⟨hV.trans hW1.alike, by rw [hU]; exact hM⟩⟩⟩ rfl hn hsz hst (lv_room hW) hdg hcs) hS kk
theorem c_S (hx : p.tables.exec = Jvm.exec) (hb : c.code = cc) (hml : c.maxLocals = nL) (hown : s.vm.findClass own = some m.cls) (hts : KK s) (hV : (gS G).vm.Alike s.vm) (hM : Mh G M H) (hS : va_S (gA G) H0 H locs) (hk : Kc G l y bytes maxL ret rm As M ov M1) (w : pkgS y bytes maxL ret n) (hl : (Cond.methodLink own idx y).before args s = true)
    (hrm : (rm.cells = 0 ∧ rm.slots = 0) ∧ rm.frames + 1 ≤ R.frames ∧ 8 + (maxL + 11) + rm.locals ≤ R.locals) (hcs : cells ≤ R.cells ∧ slots ≤ R.slots) (hn : As.length = n) (hsz : ls.size = nL) (hst : st0 = As.reverse ++ rest) (hW : (rest.map fun v => v.category).sum ≤ 8) (hdg : decode cc pc = .ok (.invokestatic idx, 3))
    (kk : ∀ (H1 : Heap) (locs1 : List Loc), Mh G M1 H1 → va_S (gA G) H0 H1 locs1 → W p l e R s m args below meth c H1 locs1 cells slots Q (F0 m (pc + 3) ls (ov.toList ++ rest))) : W p l e R s m args below meth c H locs cells slots Q (F0 m pc ls st0) := by
  obtain ⟨⟨w1, w2⟩, w3, w5, w6⟩ := w
  have hcw : CallB R s args own idx y bytes maxL ret [.code y bytes maxL ret] rm 0 0 n ∧ (Cond.static y).before args s = true := by
    refine ⟨⟨hrm.1.1, hrm.1.2, hrm.2.1, hrm.2.2, code_moves (fun _ _ _ _ _ => trivial) hts w1 rfl, List.mem_singleton.mpr rfl, hts _ w1 rfl _, hts _ w2 rfl _, w5, fun sig h => ?_, hl⟩, hts _ w3 rfl _⟩
    rw [h] at w6
    exact (Option.some.inj w6).symm
  exact c_go (va_runS (Ts := []) ⟨hx, hb, hml, hown, fun _ h => absurd h List.not_mem_nil⟩ hk hcw ⟨pre_blind, fun U hU hW1 => ⟨rfl, hts.moves hW1, ⟨hV.trans hW1.alike, by rw [hU]; exact hM⟩⟩⟩ rfl hn hsz hst (lv_room hW) hdg hcs) hS kk
theorem c_SN (hx : p.tables.exec = Jvm.exec) (hb : c.code = cc) (hml : c.maxLocals = nL) (hown : s.vm.findClass own = some m.cls) (hts : KK s) (hV : (gS G).vm.Alike s.vm) (hM : Mh G M H) (hS : va_S (gA G) H0 H locs) (hk : Kc G l y bytes maxL ret rm As M ov M1) (w : pkgS y bytes maxL ret n) (hl : (Cond.methodLinkNest own idx y host).before args s = true)
    (hrm : (rm.cells = 0 ∧ rm.slots = 0) ∧ rm.frames + 1 ≤ R.frames ∧ 8 + (maxL + 11) + rm.locals ≤ R.locals) (hcs : cells ≤ R.cells ∧ slots ≤ R.slots) (hn : As.length = n) (hsz : ls.size = nL) (hst : st0 = As.reverse ++ rest) (hW : (rest.map fun v => v.category).sum ≤ 8) (hdg : decode cc pc = .ok (.invokestatic idx, 3))
    (kk : ∀ (H1 : Heap) (locs1 : List Loc), Mh G M1 H1 → va_S (gA G) H0 H1 locs1 → W p l e R s m args below meth c H1 locs1 cells slots Q (F0 m (pc + 3) ls (ov.toList ++ rest))) : W p l e R s m args below meth c H locs cells slots Q (F0 m pc ls st0) := by
  obtain ⟨⟨w1, w2⟩, w3, w5, w6⟩ := w
  have hcw : va_CN R s args own idx y host bytes maxL ret [.code y bytes maxL ret] rm 0 0 n ∧ (Cond.static y).before args s = true ∧ True := by
    refine ⟨⟨⟨hrm.1.1, hrm.1.2, hrm.2.1, hrm.2.2, code_moves (fun _ _ _ _ _ => trivial) hts w1 rfl, List.mem_singleton.mpr rfl⟩, hts _ w1 rfl _, hts _ w2 rfl _, w5, fun sig h => ?_, hl⟩, hts _ w3 rfl _, trivial⟩
    rw [h] at w6
    exact (Option.some.inj w6).symm
  exact c_go (va_runSN (Ts := []) ⟨hx, hb, hml, hown, fun _ h => absurd h List.not_mem_nil⟩ hk hcw ⟨pre_blind, fun U hU hW1 => ⟨rfl, hts.moves hW1, ⟨hV.trans hW1.alike, by rw [hU]; exact hM⟩⟩⟩ rfl hn hsz hst (lv_room hW) hdg hcs) hS kk
/-- the ends -/
theorem e_i {v : Int32} {M' : Mem} {H : Heap} {locs : List Loc} (hx : p.tables.exec = Jvm.exec) (hb : c.code = cc) (hr : meth.sig.returnType = some .int) (hlocks : meth.locks = false) (hM : Mh G M' H) (hS : va_S (gA G) s.heap H locs) (hdg : decode cc pc = .ok (.ireturn, 1)) : W p l e R s m args below meth c H locs 0 0 (MQ below (QV G (some (.int v)) M') args s 0 0 (gA G)) (F0 m pc ls [.int v]) :=
  W.iret hx hb hr (fun t ht _ => ⟨rfl, by rw [ht]; exact hM, hS.F ht⟩) hS.2.2 hdg hlocks
theorem e_z {v : Int32} {M' : Mem} {H : Heap} {locs : List Loc} {ty : FieldType} (hx : p.tables.exec = Jvm.exec) (hb : c.code = cc) (hr : meth.sig.returnType = some ty) (hlocks : meth.locks = false) (hM : Mh G M' H) (hS : va_S (gA G) s.heap H locs) (hn : narrow ty (.int v) = .int v) (hdg : decode cc pc = .ok (.ireturn, 1)) : W p l e R s m args below meth c H locs 0 0 (MQ below (QV G (some (.int v)) M') args s 0 0 (gA G)) (F0 m pc ls [.int v]) :=
  W.zret hx hb hr hn (fun t ht _ => ⟨rfl, by rw [ht]; exact hM, hS.F ht⟩) hS.2.2 hdg hlocks
theorem e_l {v : Int64} {M' : Mem} {H : Heap} {locs : List Loc} (hx : p.tables.exec = Jvm.exec) (hb : c.code = cc) (hr : meth.sig.returnType = some .long) (hlocks : meth.locks = false) (hM : Mh G M' H) (hS : va_S (gA G) s.heap H locs) (hdg : decode cc pc = .ok (.lreturn, 1)) : W p l e R s m args below meth c H locs 0 0 (MQ below (QV G (some (.long v)) M') args s 0 0 (gA G)) (F0 m pc ls [.long v]) :=
  W.lret hx hb hr (fun t ht _ => ⟨rfl, by rw [ht]; exact hM, hS.F ht⟩) hS.2.2 hdg hlocks
theorem e_f {v : UInt32} {M' : Mem} {H : Heap} {locs : List Loc} (hx : p.tables.exec = Jvm.exec) (hb : c.code = cc) (hr : meth.sig.returnType = some .float) (hlocks : meth.locks = false) (hM : Mh G M' H) (hS : va_S (gA G) s.heap H locs) (hdg : decode cc pc = .ok (.freturn, 1)) : W p l e R s m args below meth c H locs 0 0 (MQ below (QV G (some (.float v)) M') args s 0 0 (gA G)) (F0 m pc ls [.float v]) :=
  W.fret hx hb hr (fun t ht _ => ⟨rfl, by rw [ht]; exact hM, hS.F ht⟩) hS.2.2 hdg hlocks
theorem e_d {v : UInt64} {M' : Mem} {H : Heap} {locs : List Loc} (hx : p.tables.exec = Jvm.exec) (hb : c.code = cc) (hr : meth.sig.returnType = some .double) (hlocks : meth.locks = false) (hM : Mh G M' H) (hS : va_S (gA G) s.heap H locs) (hdg : decode cc pc = .ok (.dreturn, 1)) : W p l e R s m args below meth c H locs 0 0 (MQ below (QV G (some (.double v)) M') args s 0 0 (gA G)) (F0 m pc ls [.double v]) :=
  W.dret hx hb hr (fun t ht _ => ⟨rfl, by rw [ht]; exact hM, hS.F ht⟩) hS.2.2 hdg hlocks
theorem e_v {M' : Mem} {H : Heap} {locs : List Loc} (hx : p.tables.exec = Jvm.exec) (hb : c.code = cc) (hr : meth.sig.returnType = none) (hlocks : meth.locks = false) (hM : Mh G M' H) (hS : va_S (gA G) s.heap H locs) (hdg : decode cc pc = .ok (.return_, 1)) : W p l e R s m args below meth c H locs 0 0 (MQ below (QV G none M') args s 0 0 (gA G)) (F0 m pc ls []) :=
  W.vret hx hb hr (fun t ht _ => ⟨rfl, by rw [ht]; exact hM, hS.F ht⟩) hS.2.2 hdg hlocks
end CALLS
end
section
theorem zz_look : True := trivial
end
