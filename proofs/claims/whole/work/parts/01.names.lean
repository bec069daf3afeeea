-- ===== PART A: goes FIRST, ahead of the names: the tables' words, and 'selects' of the private methods out of them =====
/-- a private method of a class that the tables say can be made, by its rows of tables_1 -/
def lw_okq (q : MethodName × Nat) : Prop := (q.1.cls ≠ "java/lang/invoke/MethodHandle" ∧ q.1.cls ≠ "java/lang/invoke/VarHandle") ∧ Cond.instantiable q.1.cls q.2 ∈ tables_1 ∧ Cond.privateMethod q.1 ∈ tables_1 ∧ Cond.instanceMethod q.1 ∈ tables_1
theorem lw_p0 : lw_okq (⟨"BreathBand", "textOf", "(I)LBreathBand$Text;"⟩, 17) := ⟨⟨by decide +kernel, by decide +kernel⟩, List.mem_of_getElem? (i := 14) (by decide +kernel), List.mem_of_getElem? (i := 316) (by decide +kernel), List.mem_of_getElem? (i := 317) (by decide +kernel)⟩
theorem lw_p1 : lw_okq (⟨"BreathBand", "takeTexts", "()V"⟩, 17) := ⟨⟨by decide +kernel, by decide +kernel⟩, List.mem_of_getElem? (i := 14) (by decide +kernel), List.mem_of_getElem? (i := 324) (by decide +kernel), List.mem_of_getElem? (i := 325) (by decide +kernel)⟩
theorem lw_p2 : lw_okq (⟨"BreathBand$Text", "mayStand", "(II)Z"⟩, 5) := ⟨⟨by decide +kernel, by decide +kernel⟩, List.mem_of_getElem? (i := 22) (by decide +kernel), List.mem_of_getElem? (i := 340) (by decide +kernel), List.mem_of_getElem? (i := 341) (by decide +kernel)⟩
theorem lw_p3 : lw_okq (⟨"BreathBand", "unlearn", "()V"⟩, 17) := ⟨⟨by decide +kernel, by decide +kernel⟩, List.mem_of_getElem? (i := 14) (by decide +kernel), List.mem_of_getElem? (i := 377) (by decide +kernel), List.mem_of_getElem? (i := 378) (by decide +kernel)⟩
theorem lw_p4 : lw_okq (⟨"BreathBand", "isPlayer", "(I)Z"⟩, 17) := ⟨⟨by decide +kernel, by decide +kernel⟩, List.mem_of_getElem? (i := 14) (by decide +kernel), List.mem_of_getElem? (i := 398) (by decide +kernel), List.mem_of_getElem? (i := 399) (by decide +kernel)⟩
theorem lw_p5 : lw_okq (⟨"BreathBand", "found", "(I)I"⟩, 17) := ⟨⟨by decide +kernel, by decide +kernel⟩, List.mem_of_getElem? (i := 14) (by decide +kernel), List.mem_of_getElem? (i := 430) (by decide +kernel), List.mem_of_getElem? (i := 431) (by decide +kernel)⟩
theorem lw_p6 : lw_okq (⟨"BreathBand", "runAsTold", "()LBreathBand$Run;"⟩, 17) := ⟨⟨by decide +kernel, by decide +kernel⟩, List.mem_of_getElem? (i := 14) (by decide +kernel), List.mem_of_getElem? (i := 438) (by decide +kernel), List.mem_of_getElem? (i := 439) (by decide +kernel)⟩
theorem lw_p7 : lw_okq (⟨"BreathBand$Run", "clear", "(LBreathBand$Band;)V"⟩, 17) := ⟨⟨by decide +kernel, by decide +kernel⟩, List.mem_of_getElem? (i := 122) (by decide +kernel), List.mem_of_getElem? (i := 446) (by decide +kernel), List.mem_of_getElem? (i := 447) (by decide +kernel)⟩
theorem lw_p8 : lw_okq (⟨"BreathBand$Run", "gatherEvents", "(LBreathBand$Band;)V"⟩, 17) := ⟨⟨by decide +kernel, by decide +kernel⟩, List.mem_of_getElem? (i := 122) (by decide +kernel), List.mem_of_getElem? (i := 451) (by decide +kernel), List.mem_of_getElem? (i := 452) (by decide +kernel)⟩
theorem lw_p9 : lw_okq (⟨"BreathBand$Run", "gather", "(II)V"⟩, 17) := ⟨⟨by decide +kernel, by decide +kernel⟩, List.mem_of_getElem? (i := 122) (by decide +kernel), List.mem_of_getElem? (i := 455) (by decide +kernel), List.mem_of_getElem? (i := 456) (by decide +kernel)⟩
theorem lw_p10 : lw_okq (⟨"BreathBand$Run", "steal", "(I)V"⟩, 17) := ⟨⟨by decide +kernel, by decide +kernel⟩, List.mem_of_getElem? (i := 122) (by decide +kernel), List.mem_of_getElem? (i := 459) (by decide +kernel), List.mem_of_getElem? (i := 460) (by decide +kernel)⟩
theorem lw_p11 : lw_okq (⟨"BreathBand$Run", "soundOne", "(LBreathBand$Band;II)V"⟩, 17) := ⟨⟨by decide +kernel, by decide +kernel⟩, List.mem_of_getElem? (i := 122) (by decide +kernel), List.mem_of_getElem? (i := 464) (by decide +kernel), List.mem_of_getElem? (i := 465) (by decide +kernel)⟩
theorem lw_p12 : lw_okq (⟨"BreathBand$Run", "passOn", "(LBreathBand$Band;Z)I"⟩, 17) := ⟨⟨by decide +kernel, by decide +kernel⟩, List.mem_of_getElem? (i := 122) (by decide +kernel), List.mem_of_getElem? (i := 471) (by decide +kernel), List.mem_of_getElem? (i := 472) (by decide +kernel)⟩
theorem lw_p13 : lw_okq (⟨"BreathBand", "isNote", "(I)Z"⟩, 17) := ⟨⟨by decide +kernel, by decide +kernel⟩, List.mem_of_getElem? (i := 14) (by decide +kernel), List.mem_of_getElem? (i := 479) (by decide +kernel), List.mem_of_getElem? (i := 480) (by decide +kernel)⟩
theorem lw_p14 : lw_okq (⟨"BreathBand", "searchFill", "()V"⟩, 17) := ⟨⟨by decide +kernel, by decide +kernel⟩, List.mem_of_getElem? (i := 14) (by decide +kernel), List.mem_of_getElem? (i := 507) (by decide +kernel), List.mem_of_getElem? (i := 508) (by decide +kernel)⟩
theorem lw_p15 : lw_okq (⟨"BreathBand", "triedSounds", "()I"⟩, 17) := ⟨⟨by decide +kernel, by decide +kernel⟩, List.mem_of_getElem? (i := 14) (by decide +kernel), List.mem_of_getElem? (i := 522) (by decide +kernel), List.mem_of_getElem? (i := 523) (by decide +kernel)⟩
def lw_privs_1 : List (MethodName × Nat) := [(⟨"BreathBand", "textOf", "(I)LBreathBand$Text;"⟩, 17), (⟨"BreathBand", "takeTexts", "()V"⟩, 17), (⟨"BreathBand$Text", "mayStand", "(II)Z"⟩, 5), (⟨"BreathBand", "unlearn", "()V"⟩, 17), (⟨"BreathBand", "isPlayer", "(I)Z"⟩, 17), (⟨"BreathBand", "found", "(I)I"⟩, 17), (⟨"BreathBand", "runAsTold", "()LBreathBand$Run;"⟩, 17), (⟨"BreathBand$Run", "clear", "(LBreathBand$Band;)V"⟩, 17), (⟨"BreathBand$Run", "gatherEvents", "(LBreathBand$Band;)V"⟩, 17), (⟨"BreathBand$Run", "gather", "(II)V"⟩, 17), (⟨"BreathBand$Run", "steal", "(I)V"⟩, 17), (⟨"BreathBand$Run", "soundOne", "(LBreathBand$Band;II)V"⟩, 17), (⟨"BreathBand$Run", "passOn", "(LBreathBand$Band;Z)I"⟩, 17), (⟨"BreathBand", "isNote", "(I)Z"⟩, 17), (⟨"BreathBand", "searchFill", "()V"⟩, 17), (⟨"BreathBand", "triedSounds", "()I"⟩, 17)]
theorem lw_r1 : ∀ q ∈ lw_privs_1, lw_okq q := List.forall_mem_cons.mpr ⟨lw_p0, List.forall_mem_cons.mpr ⟨lw_p1, List.forall_mem_cons.mpr ⟨lw_p2, List.forall_mem_cons.mpr ⟨lw_p3, List.forall_mem_cons.mpr ⟨lw_p4, List.forall_mem_cons.mpr ⟨lw_p5, List.forall_mem_cons.mpr ⟨lw_p6, List.forall_mem_cons.mpr ⟨lw_p7, List.forall_mem_cons.mpr ⟨lw_p8, List.forall_mem_cons.mpr ⟨lw_p9, List.forall_mem_cons.mpr ⟨lw_p10, List.forall_mem_cons.mpr ⟨lw_p11, List.forall_mem_cons.mpr ⟨lw_p12, List.forall_mem_cons.mpr ⟨lw_p13, List.forall_mem_cons.mpr ⟨lw_p14, List.forall_mem_cons.mpr ⟨lw_p15, fun _ h => absurd h List.not_mem_nil⟩⟩⟩⟩⟩⟩⟩⟩⟩⟩⟩⟩⟩⟩⟩⟩
theorem lw_p16 : lw_okq (⟨"BreathBand", "searchSwap", "()V"⟩, 17) := ⟨⟨by decide +kernel, by decide +kernel⟩, List.mem_of_getElem? (i := 14) (by decide +kernel), List.mem_of_getElem? (i := 534) (by decide +kernel), List.mem_of_getElem? (i := 535) (by decide +kernel)⟩
theorem lw_p17 : lw_okq (⟨"BreathBand", "searchHold", "()V"⟩, 17) := ⟨⟨by decide +kernel, by decide +kernel⟩, List.mem_of_getElem? (i := 14) (by decide +kernel), List.mem_of_getElem? (i := 546) (by decide +kernel), List.mem_of_getElem? (i := 547) (by decide +kernel)⟩
theorem lw_p18 : lw_okq (⟨"BreathBand", "searchSpare", "()V"⟩, 17) := ⟨⟨by decide +kernel, by decide +kernel⟩, List.mem_of_getElem? (i := 14) (by decide +kernel), List.mem_of_getElem? (i := 554) (by decide +kernel), List.mem_of_getElem? (i := 555) (by decide +kernel)⟩
theorem lw_p19 : lw_okq (⟨"BreathBand", "noneMissedWithout", "(I)Z"⟩, 17) := ⟨⟨by decide +kernel, by decide +kernel⟩, List.mem_of_getElem? (i := 14) (by decide +kernel), List.mem_of_getElem? (i := 558) (by decide +kernel), List.mem_of_getElem? (i := 559) (by decide +kernel)⟩
theorem lw_p20 : lw_okq (⟨"BreathBand", "triedFits", "()Z"⟩, 17) := ⟨⟨by decide +kernel, by decide +kernel⟩, List.mem_of_getElem? (i := 14) (by decide +kernel), List.mem_of_getElem? (i := 578) (by decide +kernel), List.mem_of_getElem? (i := 579) (by decide +kernel)⟩
theorem lw_p21 : lw_okq (⟨"BreathBand", "countAlike", "(I)V"⟩, 17) := ⟨⟨by decide +kernel, by decide +kernel⟩, List.mem_of_getElem? (i := 14) (by decide +kernel), List.mem_of_getElem? (i := 594) (by decide +kernel), List.mem_of_getElem? (i := 595) (by decide +kernel)⟩
theorem lw_p22 : lw_okq (⟨"BreathBand", "mostAlike", "(I)I"⟩, 17) := ⟨⟨by decide +kernel, by decide +kernel⟩, List.mem_of_getElem? (i := 14) (by decide +kernel), List.mem_of_getElem? (i := 599) (by decide +kernel), List.mem_of_getElem? (i := 600) (by decide +kernel)⟩
theorem lw_p23 : lw_okq (⟨"BreathBand", "learnSubsets", "()V"⟩, 17) := ⟨⟨by decide +kernel, by decide +kernel⟩, List.mem_of_getElem? (i := 14) (by decide +kernel), List.mem_of_getElem? (i := 611) (by decide +kernel), List.mem_of_getElem? (i := 612) (by decide +kernel)⟩
theorem lw_p24 : lw_okq (⟨"BreathBand", "weight", "(II)J"⟩, 17) := ⟨⟨by decide +kernel, by decide +kernel⟩, List.mem_of_getElem? (i := 14) (by decide +kernel), List.mem_of_getElem? (i := 621) (by decide +kernel), List.mem_of_getElem? (i := 622) (by decide +kernel)⟩
theorem lw_p25 : lw_okq (⟨"BreathBand", "drawNotes", "(II)V"⟩, 17) := ⟨⟨by decide +kernel, by decide +kernel⟩, List.mem_of_getElem? (i := 14) (by decide +kernel), List.mem_of_getElem? (i := 631) (by decide +kernel), List.mem_of_getElem? (i := 632) (by decide +kernel)⟩
theorem lw_p26 : lw_okq (⟨"BreathBand", "mixNotes", "(J)J"⟩, 17) := ⟨⟨by decide +kernel, by decide +kernel⟩, List.mem_of_getElem? (i := 14) (by decide +kernel), List.mem_of_getElem? (i := 700) (by decide +kernel), List.mem_of_getElem? (i := 701) (by decide +kernel)⟩
theorem lw_p27 : lw_okq (⟨"BreathBand", "mixPlayers", "(J)J"⟩, 17) := ⟨⟨by decide +kernel, by decide +kernel⟩, List.mem_of_getElem? (i := 14) (by decide +kernel), List.mem_of_getElem? (i := 707) (by decide +kernel), List.mem_of_getElem? (i := 708) (by decide +kernel)⟩
theorem lw_p28 : lw_okq (⟨"BreathBandModel", "finds", "(I)I"⟩, 32) := ⟨⟨by decide +kernel, by decide +kernel⟩, List.mem_of_getElem? (i := 725) (by decide +kernel), List.mem_of_getElem? (i := 840) (by decide +kernel), List.mem_of_getElem? (i := 841) (by decide +kernel)⟩
theorem lw_p29 : lw_okq (⟨"BreathBandModel", "lacks", "(III)I"⟩, 32) := ⟨⟨by decide +kernel, by decide +kernel⟩, List.mem_of_getElem? (i := 725) (by decide +kernel), List.mem_of_getElem? (i := 852) (by decide +kernel), List.mem_of_getElem? (i := 853) (by decide +kernel)⟩
theorem lw_p30 : lw_okq (⟨"BreathBandModel", "readsText", "(I)I"⟩, 32) := ⟨⟨by decide +kernel, by decide +kernel⟩, List.mem_of_getElem? (i := 725) (by decide +kernel), List.mem_of_getElem? (i := 888) (by decide +kernel), List.mem_of_getElem? (i := 889) (by decide +kernel)⟩
theorem lw_p31 : lw_okq (⟨"BreathBandModel", "readsPlayers", "()I"⟩, 32) := ⟨⟨by decide +kernel, by decide +kernel⟩, List.mem_of_getElem? (i := 725) (by decide +kernel), List.mem_of_getElem? (i := 892) (by decide +kernel), List.mem_of_getElem? (i := 893) (by decide +kernel)⟩
def lw_privs_2 : List (MethodName × Nat) := [(⟨"BreathBand", "searchSwap", "()V"⟩, 17), (⟨"BreathBand", "searchHold", "()V"⟩, 17), (⟨"BreathBand", "searchSpare", "()V"⟩, 17), (⟨"BreathBand", "noneMissedWithout", "(I)Z"⟩, 17), (⟨"BreathBand", "triedFits", "()Z"⟩, 17), (⟨"BreathBand", "countAlike", "(I)V"⟩, 17), (⟨"BreathBand", "mostAlike", "(I)I"⟩, 17), (⟨"BreathBand", "learnSubsets", "()V"⟩, 17), (⟨"BreathBand", "weight", "(II)J"⟩, 17), (⟨"BreathBand", "drawNotes", "(II)V"⟩, 17), (⟨"BreathBand", "mixNotes", "(J)J"⟩, 17), (⟨"BreathBand", "mixPlayers", "(J)J"⟩, 17), (⟨"BreathBandModel", "finds", "(I)I"⟩, 32), (⟨"BreathBandModel", "lacks", "(III)I"⟩, 32), (⟨"BreathBandModel", "readsText", "(I)I"⟩, 32), (⟨"BreathBandModel", "readsPlayers", "()I"⟩, 32)]
theorem lw_r2 : ∀ q ∈ lw_privs_2, lw_okq q := List.forall_mem_cons.mpr ⟨lw_p16, List.forall_mem_cons.mpr ⟨lw_p17, List.forall_mem_cons.mpr ⟨lw_p18, List.forall_mem_cons.mpr ⟨lw_p19, List.forall_mem_cons.mpr ⟨lw_p20, List.forall_mem_cons.mpr ⟨lw_p21, List.forall_mem_cons.mpr ⟨lw_p22, List.forall_mem_cons.mpr ⟨lw_p23, List.forall_mem_cons.mpr ⟨lw_p24, List.forall_mem_cons.mpr ⟨lw_p25, List.forall_mem_cons.mpr ⟨lw_p26, List.forall_mem_cons.mpr ⟨lw_p27, List.forall_mem_cons.mpr ⟨lw_p28, List.forall_mem_cons.mpr ⟨lw_p29, List.forall_mem_cons.mpr ⟨lw_p30, List.forall_mem_cons.mpr ⟨lw_p31, fun _ h => absurd h List.not_mem_nil⟩⟩⟩⟩⟩⟩⟩⟩⟩⟩⟩⟩⟩⟩⟩⟩
theorem lw_p32 : lw_okq (⟨"BreathBandModel", "readsNotes", "()I"⟩, 32) := ⟨⟨by decide +kernel, by decide +kernel⟩, List.mem_of_getElem? (i := 725) (by decide +kernel), List.mem_of_getElem? (i := 901) (by decide +kernel), List.mem_of_getElem? (i := 902) (by decide +kernel)⟩
theorem lw_p33 : lw_okq (⟨"BreathBandModel", "isPlayer", "(I)Z"⟩, 32) := ⟨⟨by decide +kernel, by decide +kernel⟩, List.mem_of_getElem? (i := 725) (by decide +kernel), List.mem_of_getElem? (i := 916) (by decide +kernel), List.mem_of_getElem? (i := 917) (by decide +kernel)⟩
theorem lw_p34 : lw_okq (⟨"BreathBandModel", "noteBy", "(II)I"⟩, 32) := ⟨⟨by decide +kernel, by decide +kernel⟩, List.mem_of_getElem? (i := 725) (by decide +kernel), List.mem_of_getElem? (i := 925) (by decide +kernel), List.mem_of_getElem? (i := 926) (by decide +kernel)⟩
theorem lw_p35 : lw_okq (⟨"BreathBandModel", "find", "()V"⟩, 32) := ⟨⟨by decide +kernel, by decide +kernel⟩, List.mem_of_getElem? (i := 725) (by decide +kernel), List.mem_of_getElem? (i := 955) (by decide +kernel), List.mem_of_getElem? (i := 956) (by decide +kernel)⟩
theorem lw_p36 : lw_okq (⟨"BreathBandModel", "seats", "()V"⟩, 32) := ⟨⟨by decide +kernel, by decide +kernel⟩, List.mem_of_getElem? (i := 725) (by decide +kernel), List.mem_of_getElem? (i := 959) (by decide +kernel), List.mem_of_getElem? (i := 960) (by decide +kernel)⟩
theorem lw_p37 : lw_okq (⟨"BreathBandModel", "lives", "()V"⟩, 32) := ⟨⟨by decide +kernel, by decide +kernel⟩, List.mem_of_getElem? (i := 725) (by decide +kernel), List.mem_of_getElem? (i := 963) (by decide +kernel), List.mem_of_getElem? (i := 964) (by decide +kernel)⟩
theorem lw_p38 : lw_okq (⟨"BreathBandModel", "passes", "(I)V"⟩, 32) := ⟨⟨by decide +kernel, by decide +kernel⟩, List.mem_of_getElem? (i := 725) (by decide +kernel), List.mem_of_getElem? (i := 967) (by decide +kernel), List.mem_of_getElem? (i := 968) (by decide +kernel)⟩
theorem lw_p39 : lw_okq (⟨"BreathBandModel", "many", "(II)I"⟩, 32) := ⟨⟨by decide +kernel, by decide +kernel⟩, List.mem_of_getElem? (i := 725) (by decide +kernel), List.mem_of_getElem? (i := 971) (by decide +kernel), List.mem_of_getElem? (i := 972) (by decide +kernel)⟩
theorem lw_p40 : lw_okq (⟨"BreathBandModel", "blows", "(I)V"⟩, 32) := ⟨⟨by decide +kernel, by decide +kernel⟩, List.mem_of_getElem? (i := 725) (by decide +kernel), List.mem_of_getElem? (i := 981) (by decide +kernel), List.mem_of_getElem? (i := 982) (by decide +kernel)⟩
theorem lw_p41 : lw_okq (⟨"BreathBandModel", "whoIn", "(I)I"⟩, 32) := ⟨⟨by decide +kernel, by decide +kernel⟩, List.mem_of_getElem? (i := 725) (by decide +kernel), List.mem_of_getElem? (i := 988) (by decide +kernel), List.mem_of_getElem? (i := 989) (by decide +kernel)⟩
theorem lw_p42 : lw_okq (⟨"BreathBandModel", "atBy", "(II)I"⟩, 32) := ⟨⟨by decide +kernel, by decide +kernel⟩, List.mem_of_getElem? (i := 725) (by decide +kernel), List.mem_of_getElem? (i := 992) (by decide +kernel), List.mem_of_getElem? (i := 993) (by decide +kernel)⟩
theorem lw_p43 : lw_okq (⟨"BreathBandModel", "isNote", "(I)Z"⟩, 32) := ⟨⟨by decide +kernel, by decide +kernel⟩, List.mem_of_getElem? (i := 725) (by decide +kernel), List.mem_of_getElem? (i := 1000) (by decide +kernel), List.mem_of_getElem? (i := 1001) (by decide +kernel)⟩
theorem lw_p44 : lw_okq (⟨"BreathBandModel", "takesBy", "(II)I"⟩, 32) := ⟨⟨by decide +kernel, by decide +kernel⟩, List.mem_of_getElem? (i := 725) (by decide +kernel), List.mem_of_getElem? (i := 1008) (by decide +kernel), List.mem_of_getElem? (i := 1009) (by decide +kernel)⟩
theorem lw_p45 : lw_okq (⟨"BreathBandModel", "sumBy", "(I)I"⟩, 32) := ⟨⟨by decide +kernel, by decide +kernel⟩, List.mem_of_getElem? (i := 725) (by decide +kernel), List.mem_of_getElem? (i := 1016) (by decide +kernel), List.mem_of_getElem? (i := 1017) (by decide +kernel)⟩
theorem lw_p46 : lw_okq (⟨"BreathBandModel", "soundNow", "()I"⟩, 32) := ⟨⟨by decide +kernel, by decide +kernel⟩, List.mem_of_getElem? (i := 725) (by decide +kernel), List.mem_of_getElem? (i := 1020) (by decide +kernel), List.mem_of_getElem? (i := 1021) (by decide +kernel)⟩
theorem lw_p47 : lw_okq (⟨"BreathBandModel", "flatNow", "()I"⟩, 32) := ⟨⟨by decide +kernel, by decide +kernel⟩, List.mem_of_getElem? (i := 725) (by decide +kernel), List.mem_of_getElem? (i := 1028) (by decide +kernel), List.mem_of_getElem? (i := 1029) (by decide +kernel)⟩
def lw_privs_3 : List (MethodName × Nat) := [(⟨"BreathBandModel", "readsNotes", "()I"⟩, 32), (⟨"BreathBandModel", "isPlayer", "(I)Z"⟩, 32), (⟨"BreathBandModel", "noteBy", "(II)I"⟩, 32), (⟨"BreathBandModel", "find", "()V"⟩, 32), (⟨"BreathBandModel", "seats", "()V"⟩, 32), (⟨"BreathBandModel", "lives", "()V"⟩, 32), (⟨"BreathBandModel", "passes", "(I)V"⟩, 32), (⟨"BreathBandModel", "many", "(II)I"⟩, 32), (⟨"BreathBandModel", "blows", "(I)V"⟩, 32), (⟨"BreathBandModel", "whoIn", "(I)I"⟩, 32), (⟨"BreathBandModel", "atBy", "(II)I"⟩, 32), (⟨"BreathBandModel", "isNote", "(I)Z"⟩, 32), (⟨"BreathBandModel", "takesBy", "(II)I"⟩, 32), (⟨"BreathBandModel", "sumBy", "(I)I"⟩, 32), (⟨"BreathBandModel", "soundNow", "()I"⟩, 32), (⟨"BreathBandModel", "flatNow", "()I"⟩, 32)]
theorem lw_r3 : ∀ q ∈ lw_privs_3, lw_okq q := List.forall_mem_cons.mpr ⟨lw_p32, List.forall_mem_cons.mpr ⟨lw_p33, List.forall_mem_cons.mpr ⟨lw_p34, List.forall_mem_cons.mpr ⟨lw_p35, List.forall_mem_cons.mpr ⟨lw_p36, List.forall_mem_cons.mpr ⟨lw_p37, List.forall_mem_cons.mpr ⟨lw_p38, List.forall_mem_cons.mpr ⟨lw_p39, List.forall_mem_cons.mpr ⟨lw_p40, List.forall_mem_cons.mpr ⟨lw_p41, List.forall_mem_cons.mpr ⟨lw_p42, List.forall_mem_cons.mpr ⟨lw_p43, List.forall_mem_cons.mpr ⟨lw_p44, List.forall_mem_cons.mpr ⟨lw_p45, List.forall_mem_cons.mpr ⟨lw_p46, List.forall_mem_cons.mpr ⟨lw_p47, fun _ h => absurd h List.not_mem_nil⟩⟩⟩⟩⟩⟩⟩⟩⟩⟩⟩⟩⟩⟩⟩⟩
theorem lw_p48 : lw_okq (⟨"BreathBandModel", "silentNow", "()I"⟩, 32) := ⟨⟨by decide +kernel, by decide +kernel⟩, List.mem_of_getElem? (i := 725) (by decide +kernel), List.mem_of_getElem? (i := 1036) (by decide +kernel), List.mem_of_getElem? (i := 1037) (by decide +kernel)⟩
theorem lw_p49 : lw_okq (⟨"BreathBandModel", "greedyNow", "()I"⟩, 32) := ⟨⟨by decide +kernel, by decide +kernel⟩, List.mem_of_getElem? (i := 725) (by decide +kernel), List.mem_of_getElem? (i := 1044) (by decide +kernel), List.mem_of_getElem? (i := 1045) (by decide +kernel)⟩
theorem lw_p50 : lw_okq (⟨"BreathBandModel", "fillBy", "(I)I"⟩, 32) := ⟨⟨by decide +kernel, by decide +kernel⟩, List.mem_of_getElem? (i := 725) (by decide +kernel), List.mem_of_getElem? (i := 1055) (by decide +kernel), List.mem_of_getElem? (i := 1056) (by decide +kernel)⟩
theorem lw_p51 : lw_okq (⟨"BreathBandModel", "swapBy", "(I)I"⟩, 32) := ⟨⟨by decide +kernel, by decide +kernel⟩, List.mem_of_getElem? (i := 725) (by decide +kernel), List.mem_of_getElem? (i := 1063) (by decide +kernel), List.mem_of_getElem? (i := 1064) (by decide +kernel)⟩
theorem lw_p52 : lw_okq (⟨"BreathBandModel", "holdBy", "(I)I"⟩, 32) := ⟨⟨by decide +kernel, by decide +kernel⟩, List.mem_of_getElem? (i := 725) (by decide +kernel), List.mem_of_getElem? (i := 1071) (by decide +kernel), List.mem_of_getElem? (i := 1072) (by decide +kernel)⟩
theorem lw_p53 : lw_okq (⟨"BreathBandModel", "spareBy", "(I)I"⟩, 32) := ⟨⟨by decide +kernel, by decide +kernel⟩, List.mem_of_getElem? (i := 725) (by decide +kernel), List.mem_of_getElem? (i := 1080) (by decide +kernel), List.mem_of_getElem? (i := 1081) (by decide +kernel)⟩
theorem lw_p54 : lw_okq (⟨"BreathBandModel", "isSpared", "(I)Z"⟩, 32) := ⟨⟨by decide +kernel, by decide +kernel⟩, List.mem_of_getElem? (i := 725) (by decide +kernel), List.mem_of_getElem? (i := 1084) (by decide +kernel), List.mem_of_getElem? (i := 1085) (by decide +kernel)⟩
theorem lw_p55 : lw_okq (⟨"BreathBandModel", "neverNow", "()I"⟩, 32) := ⟨⟨by decide +kernel, by decide +kernel⟩, List.mem_of_getElem? (i := 725) (by decide +kernel), List.mem_of_getElem? (i := 1100) (by decide +kernel), List.mem_of_getElem? (i := 1101) (by decide +kernel)⟩
theorem lw_p56 : lw_okq (⟨"BreathBandModel", "isHeard", "()Z"⟩, 32) := ⟨⟨by decide +kernel, by decide +kernel⟩, List.mem_of_getElem? (i := 725) (by decide +kernel), List.mem_of_getElem? (i := 1104) (by decide +kernel), List.mem_of_getElem? (i := 1105) (by decide +kernel)⟩
theorem lw_p57 : lw_okq (⟨"BreathBandModel", "wasOf", "(II)I"⟩, 32) := ⟨⟨by decide +kernel, by decide +kernel⟩, List.mem_of_getElem? (i := 725) (by decide +kernel), List.mem_of_getElem? (i := 1112) (by decide +kernel), List.mem_of_getElem? (i := 1113) (by decide +kernel)⟩
theorem lw_p58 : lw_okq (⟨"BreathBandModel", "wasteOf", "(I)I"⟩, 32) := ⟨⟨by decide +kernel, by decide +kernel⟩, List.mem_of_getElem? (i := 725) (by decide +kernel), List.mem_of_getElem? (i := 1116) (by decide +kernel), List.mem_of_getElem? (i := 1117) (by decide +kernel)⟩
theorem lw_p59 : lw_okq (⟨"BreathBandModel", "sortOf", "(I)I"⟩, 32) := ⟨⟨by decide +kernel, by decide +kernel⟩, List.mem_of_getElem? (i := 725) (by decide +kernel), List.mem_of_getElem? (i := 1120) (by decide +kernel), List.mem_of_getElem? (i := 1121) (by decide +kernel)⟩
theorem lw_p60 : lw_okq (⟨"BreathBandModel", "askOf", "(I)I"⟩, 32) := ⟨⟨by decide +kernel, by decide +kernel⟩, List.mem_of_getElem? (i := 725) (by decide +kernel), List.mem_of_getElem? (i := 1128) (by decide +kernel), List.mem_of_getElem? (i := 1129) (by decide +kernel)⟩
theorem lw_p61 : lw_okq (⟨"BreathBandModel", "alike", "(II)I"⟩, 32) := ⟨⟨by decide +kernel, by decide +kernel⟩, List.mem_of_getElem? (i := 725) (by decide +kernel), List.mem_of_getElem? (i := 1132) (by decide +kernel), List.mem_of_getElem? (i := 1133) (by decide +kernel)⟩
theorem lw_p62 : lw_okq (⟨"BreathBandModel", "chanceOf", "(III)J"⟩, 32) := ⟨⟨by decide +kernel, by decide +kernel⟩, List.mem_of_getElem? (i := 725) (by decide +kernel), List.mem_of_getElem? (i := 1141) (by decide +kernel), List.mem_of_getElem? (i := 1142) (by decide +kernel)⟩
theorem lw_p63 : lw_okq (⟨"BreathBandModel", "yearsOf", "(III)I"⟩, 32) := ⟨⟨by decide +kernel, by decide +kernel⟩, List.mem_of_getElem? (i := 725) (by decide +kernel), List.mem_of_getElem? (i := 1156) (by decide +kernel), List.mem_of_getElem? (i := 1157) (by decide +kernel)⟩
def lw_privs_4 : List (MethodName × Nat) := [(⟨"BreathBandModel", "silentNow", "()I"⟩, 32), (⟨"BreathBandModel", "greedyNow", "()I"⟩, 32), (⟨"BreathBandModel", "fillBy", "(I)I"⟩, 32), (⟨"BreathBandModel", "swapBy", "(I)I"⟩, 32), (⟨"BreathBandModel", "holdBy", "(I)I"⟩, 32), (⟨"BreathBandModel", "spareBy", "(I)I"⟩, 32), (⟨"BreathBandModel", "isSpared", "(I)Z"⟩, 32), (⟨"BreathBandModel", "neverNow", "()I"⟩, 32), (⟨"BreathBandModel", "isHeard", "()Z"⟩, 32), (⟨"BreathBandModel", "wasOf", "(II)I"⟩, 32), (⟨"BreathBandModel", "wasteOf", "(I)I"⟩, 32), (⟨"BreathBandModel", "sortOf", "(I)I"⟩, 32), (⟨"BreathBandModel", "askOf", "(I)I"⟩, 32), (⟨"BreathBandModel", "alike", "(II)I"⟩, 32), (⟨"BreathBandModel", "chanceOf", "(III)J"⟩, 32), (⟨"BreathBandModel", "yearsOf", "(III)I"⟩, 32)]
theorem lw_r4 : ∀ q ∈ lw_privs_4, lw_okq q := List.forall_mem_cons.mpr ⟨lw_p48, List.forall_mem_cons.mpr ⟨lw_p49, List.forall_mem_cons.mpr ⟨lw_p50, List.forall_mem_cons.mpr ⟨lw_p51, List.forall_mem_cons.mpr ⟨lw_p52, List.forall_mem_cons.mpr ⟨lw_p53, List.forall_mem_cons.mpr ⟨lw_p54, List.forall_mem_cons.mpr ⟨lw_p55, List.forall_mem_cons.mpr ⟨lw_p56, List.forall_mem_cons.mpr ⟨lw_p57, List.forall_mem_cons.mpr ⟨lw_p58, List.forall_mem_cons.mpr ⟨lw_p59, List.forall_mem_cons.mpr ⟨lw_p60, List.forall_mem_cons.mpr ⟨lw_p61, List.forall_mem_cons.mpr ⟨lw_p62, List.forall_mem_cons.mpr ⟨lw_p63, fun _ h => absurd h List.not_mem_nil⟩⟩⟩⟩⟩⟩⟩⟩⟩⟩⟩⟩⟩⟩⟩⟩
theorem lw_p64 : lw_okq (⟨"BreathBandModel", "lot", "(I)I"⟩, 32) := ⟨⟨by decide +kernel, by decide +kernel⟩, List.mem_of_getElem? (i := 725) (by decide +kernel), List.mem_of_getElem? (i := 1160) (by decide +kernel), List.mem_of_getElem? (i := 1161) (by decide +kernel)⟩
theorem lw_p65 : lw_okq (⟨"BreathBandModel", "tellsNote", "(JI)J"⟩, 32) := ⟨⟨by decide +kernel, by decide +kernel⟩, List.mem_of_getElem? (i := 725) (by decide +kernel), List.mem_of_getElem? (i := 1180) (by decide +kernel), List.mem_of_getElem? (i := 1181) (by decide +kernel)⟩
theorem lw_p66 : lw_okq (⟨"BreathBandModel", "tellsPlayer", "(JI)J"⟩, 32) := ⟨⟨by decide +kernel, by decide +kernel⟩, List.mem_of_getElem? (i := 725) (by decide +kernel), List.mem_of_getElem? (i := 1184) (by decide +kernel), List.mem_of_getElem? (i := 1185) (by decide +kernel)⟩
def lw_privs_5 : List (MethodName × Nat) := [(⟨"BreathBandModel", "lot", "(I)I"⟩, 32), (⟨"BreathBandModel", "tellsNote", "(JI)J"⟩, 32), (⟨"BreathBandModel", "tellsPlayer", "(JI)J"⟩, 32)]
theorem lw_r5 : ∀ q ∈ lw_privs_5, lw_okq q := List.forall_mem_cons.mpr ⟨lw_p64, List.forall_mem_cons.mpr ⟨lw_p65, List.forall_mem_cons.mpr ⟨lw_p66, fun _ h => absurd h List.not_mem_nil⟩⟩⟩
def lw_privs : List (MethodName × Nat) := lw_privs_1 ++ (lw_privs_2 ++ (lw_privs_3 ++ (lw_privs_4 ++ (lw_privs_5))))
def lw_tbl : List Cond := k2_sels lw_privs ++ tables_1
theorem lw_privs_ok : ∀ q ∈ lw_privs, lw_okq q := by
  show ∀ q ∈ lw_privs_1 ++ (lw_privs_2 ++ (lw_privs_3 ++ (lw_privs_4 ++ (lw_privs_5)))), lw_okq q
  exact List.forall_mem_append.mpr ⟨lw_r1, List.forall_mem_append.mpr ⟨lw_r2, List.forall_mem_append.mpr ⟨lw_r3, List.forall_mem_append.mpr ⟨lw_r4, lw_r5⟩⟩⟩⟩

def RX0 : String := "BreathBand$Band"
def TX0 : u_T := fun k => match k with
  | 0 => ("BreathBand$Band", "players", "I", false)
  | 1 => ("BreathBand$Band", "sort", "[I", true)
  | 2 => ("BreathBand$Band", "lets", "[I", true)
  | 3 => ("BreathBand$Band", "seatOf", "[I", true)
  | 4 => ("BreathBand$Band", "sitter", "[I", true)
  | 5 => ("BreathBand$Band", "notes", "I", false)
  | 6 => ("BreathBand$Band", "noteBeat", "[I", true)
  | 7 => ("BreathBand$Band", "notePlayer", "[I", true)
  | 8 => ("BreathBand$Band", "notesOn", "[I", true)
  | 9 => ("BreathBand$Band", "bagAtFirst", "I", false)
  | 10 => ("BreathBand$Band", "events", "I", false)
  | 11 => ("BreathBand$Band", "eventKind", "[I", true)
  | 12 => ("BreathBand$Band", "eventBeat", "[I", true)
  | 13 => ("BreathBand$Band", "without", "I", false)
  | _ => ("BreathBand$Band", "alsoKept", "I", false)
def tyX0 : Nat → FieldType := fun k => match k with
  | 0 => .int
  | 1 => .array .int
  | 2 => .array .int
  | 3 => .array .int
  | 4 => .array .int
  | 5 => .int
  | 6 => .array .int
  | 7 => .array .int
  | 8 => .array .int
  | 9 => .int
  | 10 => .int
  | 11 => .array .int
  | 12 => .array .int
  | 13 => .int
  | _ => .int
abbrev wsX00 : List Cond := u_ws RX0 TX0 15
theorem nmX0 : ∀ a, a < 15 → ∀ b, b < 15 → a ≠ b → (TX0 a).2.1 ≠ (TX0 b).2.1 := by decide +kernel
theorem tyX0_ok : ∀ k, k < 15 → parseFieldDescriptor (TX0 k).2.2.1 = some (tyX0 k) := by decide +kernel
abbrev cX0_init : ByteArray := prog_2_method_1_code
def yX0_init : MethodName := ⟨RX0, "<init>", "()V"⟩
abbrev cX0_takePlayers : ByteArray := prog_2_method_2_code
def yX0_takePlayers : MethodName := ⟨RX0, "takePlayers", "(LBreathBand$Text;)V"⟩
abbrev cX0_takeNotes : ByteArray := prog_2_method_3_code
def yX0_takeNotes : MethodName := ⟨RX0, "takeNotes", "(LBreathBand$Text;)V"⟩
abbrev cX0_clearNotes : ByteArray := prog_2_method_4_code
def yX0_clearNotes : MethodName := ⟨RX0, "clearNotes", "()V"⟩
abbrev cX0_addNote : ByteArray := prog_2_method_5_code
def yX0_addNote : MethodName := ⟨RX0, "addNote", "(II)V"⟩
abbrev cX0_addEvent : ByteArray := prog_2_method_6_code
def yX0_addEvent : MethodName := ⟨RX0, "addEvent", "(II)Z"⟩
abbrev cX0_become : ByteArray := prog_2_method_7_code
def yX0_become : MethodName := ⟨RX0, "become", "(LBreathBand$Band;)V"⟩
abbrev cX0_changeSeats : ByteArray := prog_2_method_8_code
def yX0_changeSeats : MethodName := ⟨RX0, "changeSeats", "(II)V"⟩
def RX1 : String := "BreathBand$Best"
def TX1 : u_T := fun k => match k with
  | 0 => ("BreathBand$Best", "known", "Z", false)
  | 1 => ("BreathBand$Best", "first", "I", false)
  | 2 => ("BreathBand$Best", "other", "I", false)
  | _ => ("BreathBand$Best", "many", "I", false)
def tyX1 : Nat → FieldType := fun k => match k with
  | 0 => .boolean
  | 1 => .int
  | 2 => .int
  | _ => .int
abbrev wsX10 : List Cond := u_ws RX1 TX1 4
theorem nmX1 : ∀ a, a < 4 → ∀ b, b < 4 → a ≠ b → (TX1 a).2.1 ≠ (TX1 b).2.1 := by decide +kernel
theorem tyX1_ok : ∀ k, k < 4 → parseFieldDescriptor (TX1 k).2.2.1 = some (tyX1 k) := by decide +kernel
abbrev cX1_init : ByteArray := prog_3_method_1_code
def yX1_init : MethodName := ⟨RX1, "<init>", "()V"⟩
abbrev cX1_begin : ByteArray := prog_3_method_2_code
def yX1_begin : MethodName := ⟨RX1, "begin", "()V"⟩
abbrev cX1_offer : ByteArray := prog_3_method_3_code
def yX1_offer : MethodName := ⟨RX1, "offer", "(III)V"⟩
def RX2 : String := "BreathBand$Ear"
def TX2 : u_T := fun k => match k with
  | 0 => ("BreathBand$Ear", "notes", "[I", true)
  | 1 => ("BreathBand$Ear", "outcomes", "[I", true)
  | _ => ("BreathBand$Ear", "size", "I", false)
def tyX2 : Nat → FieldType := fun k => match k with
  | 0 => .array .int
  | 1 => .array .int
  | _ => .int
abbrev wsX20 : List Cond := u_ws RX2 TX2 3
theorem nmX2 : ∀ a, a < 3 → ∀ b, b < 3 → a ≠ b → (TX2 a).2.1 ≠ (TX2 b).2.1 := by decide +kernel
theorem tyX2_ok : ∀ k, k < 3 → parseFieldDescriptor (TX2 k).2.2.1 = some (tyX2 k) := by decide +kernel
abbrev cX2_init : ByteArray := prog_4_method_1_code
def yX2_init : MethodName := ⟨RX2, "<init>", "()V"⟩
abbrev cX2_remember : ByteArray := prog_4_method_2_code
def yX2_remember : MethodName := ⟨RX2, "remember", "(II)Z"⟩
abbrev cX2_fits : ByteArray := prog_4_method_3_code
def yX2_fits : MethodName := ⟨RX2, "fits", "(LBreathBand$Run;I)Z"⟩
def RX3 : String := "BreathBand$Run"
def TX3 : u_T := fun k => match k with
  | 0 => ("BreathBand$Run", "seatBehind", "[I", true)
  | 1 => ("BreathBand$Run", "heldBehind", "[I", true)
  | 2 => ("BreathBand$Run", "lostOn", "[I", true)
  | 3 => ("BreathBand$Run", "outcome", "[I", true)
  | 4 => ("BreathBand$Run", "soundedOf", "[I", true)
  | 5 => ("BreathBand$Run", "takenBy", "[I", true)
  | 6 => ("BreathBand$Run", "goneFrom", "[I", true)
  | 7 => ("BreathBand$Run", "sounded", "I", false)
  | 8 => ("BreathBand$Run", "soundedBits", "I", false)
  | 9 => ("BreathBand$Run", "missedOfThese", "I", false)
  | 10 => ("BreathBand$Run", "leaks", "I", false)
  | 11 => ("BreathBand$Run", "stolen", "I", false)
  | 12 => ("BreathBand$Run", "theftsOn", "[I", true)
  | 13 => ("BreathBand$Run", "frosts", "I", false)
  | 14 => ("BreathBand$Run", "kept", "I", false)
  | 15 => ("BreathBand$Run", "here", "I", false)
  | _ => ("BreathBand$Run", "held", "I", false)
def tyX3 : Nat → FieldType := fun k => match k with
  | 0 => .array .int
  | 1 => .array .int
  | 2 => .array .int
  | 3 => .array .int
  | 4 => .array .int
  | 5 => .array .int
  | 6 => .array .int
  | 7 => .int
  | 8 => .int
  | 9 => .int
  | 10 => .int
  | 11 => .int
  | 12 => .array .int
  | 13 => .int
  | 14 => .int
  | 15 => .int
  | _ => .int
abbrev wsX30 : List Cond := u_ws RX3 TX3 17
theorem nmX3 : ∀ a, a < 17 → ∀ b, b < 17 → a ≠ b → (TX3 a).2.1 ≠ (TX3 b).2.1 := by decide +kernel
theorem tyX3_ok : ∀ k, k < 17 → parseFieldDescriptor (TX3 k).2.2.1 = some (tyX3 k) := by decide +kernel
abbrev cX3_init : ByteArray := prog_5_method_1_code
def yX3_init : MethodName := ⟨RX3, "<init>", "()V"⟩
abbrev cX3_play : ByteArray := prog_5_method_2_code
def yX3_play : MethodName := ⟨RX3, "play", "(LBreathBand$Band;)V"⟩
abbrev cX3_clear : ByteArray := prog_5_method_3_code
def yX3_clear : MethodName := ⟨RX3, "clear", "(LBreathBand$Band;)V"⟩
abbrev cX3_gatherEvents : ByteArray := prog_5_method_4_code
def yX3_gatherEvents : MethodName := ⟨RX3, "gatherEvents", "(LBreathBand$Band;)V"⟩
abbrev cX3_gather : ByteArray := prog_5_method_5_code
def yX3_gather : MethodName := ⟨RX3, "gather", "(II)V"⟩
abbrev cX3_steal : ByteArray := prog_5_method_6_code
def yX3_steal : MethodName := ⟨RX3, "steal", "(I)V"⟩
abbrev cX3_soundOne : ByteArray := prog_5_method_7_code
def yX3_soundOne : MethodName := ⟨RX3, "soundOne", "(LBreathBand$Band;II)V"⟩
abbrev cX3_passOn : ByteArray := prog_5_method_8_code
def yX3_passOn : MethodName := ⟨RX3, "passOn", "(LBreathBand$Band;Z)I"⟩
def RX4 : String := "BreathBand$Sheet"
def TX4 : u_T := fun k => match k with
  | 0 => ("BreathBand$Sheet", "lost", "Z", false)
  | 1 => ("BreathBand$Sheet", "form", "I", false)
  | 2 => ("BreathBand$Sheet", "size", "I", false)
  | _ => ("BreathBand$Sheet", "items", "[I", true)
def tyX4 : Nat → FieldType := fun k => match k with
  | 0 => .boolean
  | 1 => .int
  | 2 => .int
  | _ => .array .int
abbrev wsX40 : List Cond := u_ws RX4 TX4 4
theorem nmX4 : ∀ a, a < 4 → ∀ b, b < 4 → a ≠ b → (TX4 a).2.1 ≠ (TX4 b).2.1 := by decide +kernel
theorem tyX4_ok : ∀ k, k < 4 → parseFieldDescriptor (TX4 k).2.2.1 = some (tyX4 k) := by decide +kernel
abbrev cX4_init : ByteArray := prog_6_method_1_code
def yX4_init : MethodName := ⟨RX4, "<init>", "()V"⟩
abbrev cX4_renew : ByteArray := prog_6_method_2_code
def yX4_renew : MethodName := ⟨RX4, "renew", "(II)V"⟩
abbrev cX4_findingAt : ByteArray := prog_6_method_3_code
def yX4_findingAt : MethodName := ⟨RX4, "findingAt", "(II)I"⟩
abbrev cX4_holds : ByteArray := prog_6_method_4_code
def yX4_holds : MethodName := ⟨RX4, "holds", "(II)Z"⟩
abbrev cX4_put : ByteArray := prog_6_method_5_code
def yX4_put : MethodName := ⟨RX4, "put", "(II)V"⟩
def RX5 : String := "BreathBand$Text"
def TX5 : u_T := fun k => match k with
  | 0 => ("BreathBand$Text", "ofNotes", "Z", true)
  | 1 => ("BreathBand$Text", "room", "I", true)
  | 2 => ("BreathBand$Text", "mostThings", "I", true)
  | 3 => ("BreathBand$Text", "bytes", "[I", true)
  | _ => ("BreathBand$Text", "size", "I", false)
def tyX5 : Nat → FieldType := fun k => match k with
  | 0 => .boolean
  | 1 => .int
  | 2 => .int
  | 3 => .array .int
  | _ => .int
abbrev wsX50 : List Cond := u_ws RX5 TX5 5
theorem nmX5 : ∀ a, a < 5 → ∀ b, b < 5 → a ≠ b → (TX5 a).2.1 ≠ (TX5 b).2.1 := by decide +kernel
theorem tyX5_ok : ∀ k, k < 5 → parseFieldDescriptor (TX5 k).2.2.1 = some (tyX5 k) := by decide +kernel
abbrev cX5_init : ByteArray := prog_7_method_1_code
def yX5_init : MethodName := ⟨RX5, "<init>", "(Z)V"⟩
abbrev cX5_append : ByteArray := prog_7_method_2_code
def yX5_append : MethodName := ⟨RX5, "append", "(I)Z"⟩
abbrev cX5_faultPlace : ByteArray := prog_7_method_3_code
def yX5_faultPlace : MethodName := ⟨RX5, "faultPlace", "()I"⟩
abbrev cX5_things : ByteArray := prog_7_method_4_code
def yX5_things : MethodName := ⟨RX5, "things", "()I"⟩
abbrev cX5_meaning : ByteArray := prog_7_method_5_code
def yX5_meaning : MethodName := ⟨RX5, "meaning", "(II)I"⟩
abbrev cX5_meaningAt : ByteArray := prog_7_method_6_code
def yX5_meaningAt : MethodName := ⟨RX5, "meaningAt", "(II)I"⟩
abbrev cX5_mayStand : ByteArray := prog_7_method_7_code
def yX5_mayStand : MethodName := ⟨RX5, "mayStand", "(II)Z"⟩
abbrev cX5_upTo : ByteArray := prog_7_method_8_code
def yX5_upTo : MethodName := ⟨RX5, "upTo", "(ICI)I"⟩
abbrev cX5_sortOf : ByteArray := prog_7_method_9_code
def yX5_sortOf : MethodName := ⟨RX5, "sortOf", "(I)I"⟩
def RX6 : String := "BreathBand"
def TX6 : u_T := fun k => match k with
  | 0 => ("BreathBand", "playersText", "LBreathBand$Text;", true)
  | 1 => ("BreathBand", "notesText", "LBreathBand$Text;", true)
  | 2 => ("BreathBand", "told", "LBreathBand$Band;", true)
  | 3 => ("BreathBand", "trial", "LBreathBand$Band;", true)
  | 4 => ("BreathBand", "asTold", "LBreathBand$Run;", true)
  | 5 => ("BreathBand", "tried", "LBreathBand$Run;", true)
  | 6 => ("BreathBand", "ear", "LBreathBand$Ear;", true)
  | 7 => ("BreathBand", "bestFill", "LBreathBand$Best;", true)
  | 8 => ("BreathBand", "bestSwap", "LBreathBand$Best;", true)
  | 9 => ("BreathBand", "bestHold", "LBreathBand$Best;", true)
  | 10 => ("BreathBand", "bestSpare", "LBreathBand$Best;", true)
  | 11 => ("BreathBand", "soundsWithout", "[I", true)
  | 12 => ("BreathBand", "alike", "[I", true)
  | 13 => ("BreathBand", "sheets", "[LBreathBand$Sheet;", true)
  | 14 => ("BreathBand", "toldKnown", "Z", false)
  | 15 => ("BreathBand", "subsetsKnown", "Z", false)
  | _ => ("BreathBand", "latestFinding", "I", false)
def tyX6 : Nat → FieldType := fun k => match k with
  | 0 => .object "BreathBand$Text"
  | 1 => .object "BreathBand$Text"
  | 2 => .object "BreathBand$Band"
  | 3 => .object "BreathBand$Band"
  | 4 => .object "BreathBand$Run"
  | 5 => .object "BreathBand$Run"
  | 6 => .object "BreathBand$Ear"
  | 7 => .object "BreathBand$Best"
  | 8 => .object "BreathBand$Best"
  | 9 => .object "BreathBand$Best"
  | 10 => .object "BreathBand$Best"
  | 11 => .array .int
  | 12 => .array .int
  | 13 => .array (.object "BreathBand$Sheet")
  | 14 => .boolean
  | 15 => .boolean
  | _ => .int
abbrev wsX60 : List Cond := u_ws RX6 TX6 17
theorem nmX6 : ∀ a, a < 17 → ∀ b, b < 17 → a ≠ b → (TX6 a).2.1 ≠ (TX6 b).2.1 := by decide +kernel
theorem tyX6_ok : ∀ k, k < 17 → parseFieldDescriptor (TX6 k).2.2.1 = some (tyX6 k) := by decide +kernel
abbrev cX6_init : ByteArray := prog_1_method_1_code
def yX6_init : MethodName := ⟨RX6, "<init>", "()V"⟩
abbrev cX6_type : ByteArray := prog_1_method_2_code
def yX6_type : MethodName := ⟨RX6, "type", "(II)I"⟩
abbrev cX6_wipe : ByteArray := prog_1_method_3_code
def yX6_wipe : MethodName := ⟨RX6, "wipe", "(I)I"⟩
abbrev cX6_undo : ByteArray := prog_1_method_4_code
def yX6_undo : MethodName := ⟨RX6, "undo", "(I)I"⟩
abbrev cX6_fault : ByteArray := prog_1_method_5_code
def yX6_fault : MethodName := ⟨RX6, "fault", "(I)I"⟩
abbrev cX6_player : ByteArray := prog_1_method_6_code
def yX6_player : MethodName := ⟨RX6, "player", "(II)I"⟩
abbrev cX6_note : ByteArray := prog_1_method_7_code
def yX6_note : MethodName := ⟨RX6, "note", "(II)I"⟩
abbrev cX6_bag : ByteArray := prog_1_method_8_code
def yX6_bag : MethodName := ⟨RX6, "bag", "(I)I"⟩
abbrev cX6_event : ByteArray := prog_1_method_9_code
def yX6_event : MethodName := ⟨RX6, "event", "(II)I"⟩
abbrev cX6_back : ByteArray := prog_1_method_10_code
def yX6_back : MethodName := ⟨RX6, "back", "()I"⟩
abbrev cX6_read : ByteArray := prog_1_method_11_code
def yX6_read : MethodName := ⟨RX6, "read", "(I)I"⟩
abbrev cX6_at : ByteArray := prog_1_method_12_code
def yX6_at : MethodName := ⟨RX6, "at", "(II)I"⟩
abbrev cX6_heard : ByteArray := prog_1_method_13_code
def yX6_heard : MethodName := ⟨RX6, "heard", "(I)I"⟩
abbrev cX6_takes : ByteArray := prog_1_method_14_code
def yX6_takes : MethodName := ⟨RX6, "takes", "(II)I"⟩
abbrev cX6_sum : ByteArray := prog_1_method_15_code
def yX6_sum : MethodName := ⟨RX6, "sum", "(I)I"⟩
abbrev cX6_flat : ByteArray := prog_1_method_16_code
def yX6_flat : MethodName := ⟨RX6, "flat", "()I"⟩
abbrev cX6_silent : ByteArray := prog_1_method_17_code
def yX6_silent : MethodName := ⟨RX6, "silent", "()I"⟩
abbrev cX6_greedy : ByteArray := prog_1_method_18_code
def yX6_greedy : MethodName := ⟨RX6, "greedy", "()I"⟩
abbrev cX6_fill : ByteArray := prog_1_method_19_code
def yX6_fill : MethodName := ⟨RX6, "fill", "(I)I"⟩
abbrev cX6_swap : ByteArray := prog_1_method_20_code
def yX6_swap : MethodName := ⟨RX6, "swap", "(I)I"⟩
abbrev cX6_hold : ByteArray := prog_1_method_21_code
def yX6_hold : MethodName := ⟨RX6, "hold", "(I)I"⟩
abbrev cX6_spare : ByteArray := prog_1_method_22_code
def yX6_spare : MethodName := ⟨RX6, "spare", "(I)I"⟩
abbrev cX6_hear : ByteArray := prog_1_method_23_code
def yX6_hear : MethodName := ⟨RX6, "hear", "(II)I"⟩
abbrev cX6_forget : ByteArray := prog_1_method_24_code
def yX6_forget : MethodName := ⟨RX6, "forget", "()I"⟩
abbrev cX6_never : ByteArray := prog_1_method_25_code
def yX6_never : MethodName := ⟨RX6, "never", "()I"⟩
abbrev cX6_was : ByteArray := prog_1_method_26_code
def yX6_was : MethodName := ⟨RX6, "was", "(II)I"⟩
abbrev cX6_ask : ByteArray := prog_1_method_27_code
def yX6_ask : MethodName := ⟨RX6, "ask", "(I)I"⟩
abbrev cX6_chance : ByteArray := prog_1_method_28_code
def yX6_chance : MethodName := ⟨RX6, "chance", "(III)J"⟩
abbrev cX6_years : ByteArray := prog_1_method_29_code
def yX6_years : MethodName := ⟨RX6, "years", "(III)I"⟩
abbrev cX6_sheet : ByteArray := prog_1_method_30_code
def yX6_sheet : MethodName := ⟨RX6, "sheet", "(III)I"⟩
abbrev cX6_lose : ByteArray := prog_1_method_31_code
def yX6_lose : MethodName := ⟨RX6, "lose", "(I)I"⟩
abbrev cX6_lay : ByteArray := prog_1_method_32_code
def yX6_lay : MethodName := ⟨RX6, "lay", "(IIII)I"⟩
abbrev cX6_get : ByteArray := prog_1_method_33_code
def yX6_get : MethodName := ⟨RX6, "get", "(III)I"⟩
abbrev cX6_copy : ByteArray := prog_1_method_34_code
def yX6_copy : MethodName := ⟨RX6, "copy", "(IIIII)I"⟩
abbrev cX6_write : ByteArray := prog_1_method_35_code
def yX6_write : MethodName := ⟨RX6, "write", "(I)I"⟩
abbrev cX6_count : ByteArray := prog_1_method_36_code
def yX6_count : MethodName := ⟨RX6, "count", "(I)I"⟩
abbrev cX6_digest : ByteArray := prog_1_method_37_code
def yX6_digest : MethodName := ⟨RX6, "digest", "()J"⟩
abbrev cX6_mixNotes : ByteArray := prog_1_method_38_code
def yX6_mixNotes : MethodName := ⟨RX6, "mixNotes", "(J)J"⟩
abbrev cX6_mixPlayers : ByteArray := prog_1_method_39_code
def yX6_mixPlayers : MethodName := ⟨RX6, "mixPlayers", "(J)J"⟩
abbrev cX6_mix : ByteArray := prog_1_method_40_code
def yX6_mix : MethodName := ⟨RX6, "mix", "(JJ)J"⟩
abbrev cX6_within : ByteArray := prog_1_method_41_code
def yX6_within : MethodName := ⟨RX6, "within", "(III)Z"⟩
abbrev cX6_isEvent : ByteArray := prog_1_method_42_code
def yX6_isEvent : MethodName := ⟨RX6, "isEvent", "(II)Z"⟩
abbrev cX6_isPlayer : ByteArray := prog_1_method_43_code
def yX6_isPlayer : MethodName := ⟨RX6, "isPlayer", "(I)Z"⟩
abbrev cX6_isNote : ByteArray := prog_1_method_44_code
def yX6_isNote : MethodName := ⟨RX6, "isNote", "(I)Z"⟩
abbrev cX6_textOf : ByteArray := prog_1_method_45_code
def yX6_textOf : MethodName := ⟨RX6, "textOf", "(I)LBreathBand$Text;"⟩
abbrev cX6_found : ByteArray := prog_1_method_46_code
def yX6_found : MethodName := ⟨RX6, "found", "(I)I"⟩
abbrev cX6_takeTexts : ByteArray := prog_1_method_47_code
def yX6_takeTexts : MethodName := ⟨RX6, "takeTexts", "()V"⟩
abbrev cX6_unlearn : ByteArray := prog_1_method_48_code
def yX6_unlearn : MethodName := ⟨RX6, "unlearn", "()V"⟩
abbrev cX6_runAsTold : ByteArray := prog_1_method_49_code
def yX6_runAsTold : MethodName := ⟨RX6, "runAsTold", "()LBreathBand$Run;"⟩
abbrev cX6_triedSounds : ByteArray := prog_1_method_50_code
def yX6_triedSounds : MethodName := ⟨RX6, "triedSounds", "()I"⟩
abbrev cX6_triedFits : ByteArray := prog_1_method_51_code
def yX6_triedFits : MethodName := ⟨RX6, "triedFits", "()Z"⟩
abbrev cX6_searchFill : ByteArray := prog_1_method_52_code
def yX6_searchFill : MethodName := ⟨RX6, "searchFill", "()V"⟩
abbrev cX6_searchSwap : ByteArray := prog_1_method_53_code
def yX6_searchSwap : MethodName := ⟨RX6, "searchSwap", "()V"⟩
abbrev cX6_searchHold : ByteArray := prog_1_method_54_code
def yX6_searchHold : MethodName := ⟨RX6, "searchHold", "()V"⟩
abbrev cX6_searchSpare : ByteArray := prog_1_method_55_code
def yX6_searchSpare : MethodName := ⟨RX6, "searchSpare", "()V"⟩
abbrev cX6_noneMissedWithout : ByteArray := prog_1_method_56_code
def yX6_noneMissedWithout : MethodName := ⟨RX6, "noneMissedWithout", "(I)Z"⟩
abbrev cX6_learnSubsets : ByteArray := prog_1_method_57_code
def yX6_learnSubsets : MethodName := ⟨RX6, "learnSubsets", "()V"⟩
abbrev cX6_weight : ByteArray := prog_1_method_58_code
def yX6_weight : MethodName := ⟨RX6, "weight", "(II)J"⟩
abbrev cX6_countAlike : ByteArray := prog_1_method_59_code
def yX6_countAlike : MethodName := ⟨RX6, "countAlike", "(I)V"⟩
abbrev cX6_mostAlike : ByteArray := prog_1_method_60_code
def yX6_mostAlike : MethodName := ⟨RX6, "mostAlike", "(I)I"⟩
abbrev cX6_drawNotes : ByteArray := prog_1_method_61_code
def yX6_drawNotes : MethodName := ⟨RX6, "drawNotes", "(II)V"⟩
abbrev cX6_nextSeed : ByteArray := prog_1_method_62_code
def yX6_nextSeed : MethodName := ⟨RX6, "nextSeed", "(I)I"⟩
def RX7 : String := "BreathBandModel"
def TX7 : u_T := fun k => match k with
  | 0 => ("BreathBandModel", "forms", "[I", true)
  | 1 => ("BreathBandModel", "sizes", "[I", true)
  | 2 => ("BreathBandModel", "items", "[I", true)
  | 3 => ("BreathBandModel", "moved", "[I", true)
  | 4 => ("BreathBandModel", "latest", "I", false)
  | 5 => ("BreathBandModel", "bytes", "[I", true)
  | 6 => ("BreathBandModel", "typed", "[I", true)
  | 7 => ("BreathBandModel", "players", "I", false)
  | 8 => ("BreathBandModel", "player", "[I", true)
  | 9 => ("BreathBandModel", "notes", "I", false)
  | 10 => ("BreathBandModel", "note", "[I", true)
  | 11 => ("BreathBandModel", "bag", "I", false)
  | 12 => ("BreathBandModel", "events", "I", false)
  | 13 => ("BreathBandModel", "event", "[I", true)
  | 14 => ("BreathBandModel", "gone", "I", false)
  | 15 => ("BreathBandModel", "oddBeat", "I", false)
  | 16 => ("BreathBandModel", "seat", "I", false)
  | 17 => ("BreathBandModel", "holds", "I", false)
  | 18 => ("BreathBandModel", "stolen", "I", false)
  | 19 => ("BreathBandModel", "leaks", "I", false)
  | 20 => ("BreathBandModel", "seatBy", "[I", true)
  | 21 => ("BreathBandModel", "holdsBy", "[I", true)
  | 22 => ("BreathBandModel", "lostBy", "[I", true)
  | 23 => ("BreathBandModel", "state", "[I", true)
  | 24 => ("BreathBandModel", "sounds", "[I", true)
  | 25 => ("BreathBandModel", "took", "[I", true)
  | 26 => ("BreathBandModel", "goes", "[I", true)
  | 27 => ("BreathBandModel", "sits", "[I", true)
  | 28 => ("BreathBandModel", "tales", "I", false)
  | 29 => ("BreathBandModel", "tale", "[I", true)
  | 30 => ("BreathBandModel", "ways", "[I", true)
  | _ => ("BreathBandModel", "drawn", "I", false)
def tyX7 : Nat → FieldType := fun k => match k with
  | 0 => .array .int
  | 1 => .array .int
  | 2 => .array .int
  | 3 => .array .int
  | 4 => .int
  | 5 => .array .int
  | 6 => .array .int
  | 7 => .int
  | 8 => .array .int
  | 9 => .int
  | 10 => .array .int
  | 11 => .int
  | 12 => .int
  | 13 => .array .int
  | 14 => .int
  | 15 => .int
  | 16 => .int
  | 17 => .int
  | 18 => .int
  | 19 => .int
  | 20 => .array .int
  | 21 => .array .int
  | 22 => .array .int
  | 23 => .array .int
  | 24 => .array .int
  | 25 => .array .int
  | 26 => .array .int
  | 27 => .array .int
  | 28 => .int
  | 29 => .array .int
  | 30 => .array .int
  | _ => .int
abbrev wsX70 : List Cond := u_ws RX7 TX7 32
theorem nmX7 : ∀ a, a < 32 → ∀ b, b < 32 → a ≠ b → (TX7 a).2.1 ≠ (TX7 b).2.1 := by decide +kernel
theorem tyX7_ok : ∀ k, k < 32 → parseFieldDescriptor (TX7 k).2.2.1 = some (tyX7 k) := by decide +kernel
abbrev cX7_init : ByteArray := prog_9_method_1_code
def yX7_init : MethodName := ⟨RX7, "<init>", "()V"⟩
abbrev cX7_in : ByteArray := prog_9_method_3_code
def yX7_in : MethodName := ⟨RX7, "in", "(JJJ)Z"⟩
abbrev cX7_no : ByteArray := prog_9_method_4_code
def yX7_no : MethodName := ⟨RX7, "no", "(I)J"⟩
abbrev cX7_isTwo : ByteArray := prog_9_method_5_code
def yX7_isTwo : MethodName := ⟨RX7, "isTwo", "(I)Z"⟩
abbrev cX7_isIn : ByteArray := prog_9_method_6_code
def yX7_isIn : MethodName := ⟨RX7, "isIn", "(II)Z"⟩
abbrev cX7_lesser : ByteArray := prog_9_method_7_code
def yX7_lesser : MethodName := ⟨RX7, "lesser", "(II)I"⟩
abbrev cX7_greater : ByteArray := prog_9_method_8_code
def yX7_greater : MethodName := ⟨RX7, "greater", "(II)I"⟩
abbrev cX7_apart : ByteArray := prog_9_method_9_code
def yX7_apart : MethodName := ⟨RX7, "apart", "(II)I"⟩
abbrev cX7_part : ByteArray := prog_9_method_10_code
def yX7_part : MethodName := ⟨RX7, "part", "(JJI)J"⟩
abbrev cX7_finds : ByteArray := prog_9_method_11_code
def yX7_finds : MethodName := ⟨RX7, "finds", "(I)I"⟩
abbrev cX7_isSheet : ByteArray := prog_9_method_12_code
def yX7_isSheet : MethodName := ⟨RX7, "isSheet", "(I)Z"⟩
abbrev cX7_sheet : ByteArray := prog_9_method_13_code
def yX7_sheet : MethodName := ⟨RX7, "sheet", "(III)I"⟩
abbrev cX7_lose : ByteArray := prog_9_method_14_code
def yX7_lose : MethodName := ⟨RX7, "lose", "(I)I"⟩
abbrev cX7_lacks : ByteArray := prog_9_method_15_code
def yX7_lacks : MethodName := ⟨RX7, "lacks", "(III)I"⟩
abbrev cX7_cut : ByteArray := prog_9_method_16_code
def yX7_cut : MethodName := ⟨RX7, "cut", "(II)I"⟩
abbrev cX7_lay : ByteArray := prog_9_method_17_code
def yX7_lay : MethodName := ⟨RX7, "lay", "(IIII)I"⟩
abbrev cX7_get : ByteArray := prog_9_method_18_code
def yX7_get : MethodName := ⟨RX7, "get", "(III)I"⟩
abbrev cX7_copy : ByteArray := prog_9_method_19_code
def yX7_copy : MethodName := ⟨RX7, "copy", "(IIIII)I"⟩
abbrev cX7_type : ByteArray := prog_9_method_20_code
def yX7_type : MethodName := ⟨RX7, "type", "(II)I"⟩
abbrev cX7_wipe : ByteArray := prog_9_method_21_code
def yX7_wipe : MethodName := ⟨RX7, "wipe", "(I)I"⟩
abbrev cX7_undo : ByteArray := prog_9_method_22_code
def yX7_undo : MethodName := ⟨RX7, "undo", "(I)I"⟩
abbrev cX7_playerOf : ByteArray := prog_9_method_23_code
def yX7_playerOf : MethodName := ⟨RX7, "playerOf", "(II)I"⟩
abbrev cX7_readsPlayers : ByteArray := prog_9_method_24_code
def yX7_readsPlayers : MethodName := ⟨RX7, "readsPlayers", "()I"⟩
abbrev cX7_letterOf : ByteArray := prog_9_method_25_code
def yX7_letterOf : MethodName := ⟨RX7, "letterOf", "(II)I"⟩
abbrev cX7_noteOf : ByteArray := prog_9_method_26_code
def yX7_noteOf : MethodName := ⟨RX7, "noteOf", "(II)I"⟩
abbrev cX7_readsNotes : ByteArray := prog_9_method_27_code
def yX7_readsNotes : MethodName := ⟨RX7, "readsNotes", "()I"⟩
abbrev cX7_readsText : ByteArray := prog_9_method_28_code
def yX7_readsText : MethodName := ⟨RX7, "readsText", "(I)I"⟩
abbrev cX7_fault : ByteArray := prog_9_method_29_code
def yX7_fault : MethodName := ⟨RX7, "fault", "(I)I"⟩
abbrev cX7_isPlayer : ByteArray := prog_9_method_30_code
def yX7_isPlayer : MethodName := ⟨RX7, "isPlayer", "(I)Z"⟩
abbrev cX7_isNote : ByteArray := prog_9_method_31_code
def yX7_isNote : MethodName := ⟨RX7, "isNote", "(I)Z"⟩
abbrev cX7_isBeat : ByteArray := prog_9_method_32_code
def yX7_isBeat : MethodName := ⟨RX7, "isBeat", "(I)Z"⟩
abbrev cX7_player : ByteArray := prog_9_method_33_code
def yX7_player : MethodName := ⟨RX7, "player", "(II)I"⟩
abbrev cX7_noteBy : ByteArray := prog_9_method_34_code
def yX7_noteBy : MethodName := ⟨RX7, "noteBy", "(II)I"⟩
abbrev cX7_note : ByteArray := prog_9_method_35_code
def yX7_note : MethodName := ⟨RX7, "note", "(II)I"⟩
abbrev cX7_bag : ByteArray := prog_9_method_36_code
def yX7_bag : MethodName := ⟨RX7, "bag", "(I)I"⟩
abbrev cX7_event : ByteArray := prog_9_method_37_code
def yX7_event : MethodName := ⟨RX7, "event", "(II)I"⟩
abbrev cX7_back : ByteArray := prog_9_method_38_code
def yX7_back : MethodName := ⟨RX7, "back", "()I"⟩
abbrev cX7_read : ByteArray := prog_9_method_39_code
def yX7_read : MethodName := ⟨RX7, "read", "(I)I"⟩
abbrev cX7_many : ByteArray := prog_9_method_40_code
def yX7_many : MethodName := ⟨RX7, "many", "(II)I"⟩
abbrev cX7_whoIn : ByteArray := prog_9_method_41_code
def yX7_whoIn : MethodName := ⟨RX7, "whoIn", "(I)I"⟩
abbrev cX7_blows : ByteArray := prog_9_method_42_code
def yX7_blows : MethodName := ⟨RX7, "blows", "(I)V"⟩
abbrev cX7_passes : ByteArray := prog_9_method_43_code
def yX7_passes : MethodName := ⟨RX7, "passes", "(I)V"⟩
abbrev cX7_lives : ByteArray := prog_9_method_44_code
def yX7_lives : MethodName := ⟨RX7, "lives", "()V"⟩
abbrev cX7_seats : ByteArray := prog_9_method_45_code
def yX7_seats : MethodName := ⟨RX7, "seats", "()V"⟩
abbrev cX7_find : ByteArray := prog_9_method_46_code
def yX7_find : MethodName := ⟨RX7, "find", "()V"⟩
abbrev cX7_atBy : ByteArray := prog_9_method_47_code
def yX7_atBy : MethodName := ⟨RX7, "atBy", "(II)I"⟩
abbrev cX7_at : ByteArray := prog_9_method_48_code
def yX7_at : MethodName := ⟨RX7, "at", "(II)I"⟩
abbrev cX7_heard : ByteArray := prog_9_method_49_code
def yX7_heard : MethodName := ⟨RX7, "heard", "(I)I"⟩
abbrev cX7_takesBy : ByteArray := prog_9_method_50_code
def yX7_takesBy : MethodName := ⟨RX7, "takesBy", "(II)I"⟩
abbrev cX7_takes : ByteArray := prog_9_method_51_code
def yX7_takes : MethodName := ⟨RX7, "takes", "(II)I"⟩
abbrev cX7_soundNow : ByteArray := prog_9_method_52_code
def yX7_soundNow : MethodName := ⟨RX7, "soundNow", "()I"⟩
abbrev cX7_sumBy : ByteArray := prog_9_method_53_code
def yX7_sumBy : MethodName := ⟨RX7, "sumBy", "(I)I"⟩
abbrev cX7_sum : ByteArray := prog_9_method_54_code
def yX7_sum : MethodName := ⟨RX7, "sum", "(I)I"⟩
abbrev cX7_flatNow : ByteArray := prog_9_method_55_code
def yX7_flatNow : MethodName := ⟨RX7, "flatNow", "()I"⟩
abbrev cX7_flat : ByteArray := prog_9_method_56_code
def yX7_flat : MethodName := ⟨RX7, "flat", "()I"⟩
abbrev cX7_silentNow : ByteArray := prog_9_method_57_code
def yX7_silentNow : MethodName := ⟨RX7, "silentNow", "()I"⟩
abbrev cX7_silent : ByteArray := prog_9_method_58_code
def yX7_silent : MethodName := ⟨RX7, "silent", "()I"⟩
abbrev cX7_greedyNow : ByteArray := prog_9_method_59_code
def yX7_greedyNow : MethodName := ⟨RX7, "greedyNow", "()I"⟩
abbrev cX7_greedy : ByteArray := prog_9_method_60_code
def yX7_greedy : MethodName := ⟨RX7, "greedy", "()I"⟩
abbrev cX7_fillBy : ByteArray := prog_9_method_61_code
def yX7_fillBy : MethodName := ⟨RX7, "fillBy", "(I)I"⟩
abbrev cX7_fill : ByteArray := prog_9_method_62_code
def yX7_fill : MethodName := ⟨RX7, "fill", "(I)I"⟩
abbrev cX7_swapBy : ByteArray := prog_9_method_63_code
def yX7_swapBy : MethodName := ⟨RX7, "swapBy", "(I)I"⟩
abbrev cX7_swap : ByteArray := prog_9_method_64_code
def yX7_swap : MethodName := ⟨RX7, "swap", "(I)I"⟩
abbrev cX7_holdBy : ByteArray := prog_9_method_65_code
def yX7_holdBy : MethodName := ⟨RX7, "holdBy", "(I)I"⟩
abbrev cX7_hold : ByteArray := prog_9_method_66_code
def yX7_hold : MethodName := ⟨RX7, "hold", "(I)I"⟩
abbrev cX7_isSpared : ByteArray := prog_9_method_67_code
def yX7_isSpared : MethodName := ⟨RX7, "isSpared", "(I)Z"⟩
abbrev cX7_spareBy : ByteArray := prog_9_method_68_code
def yX7_spareBy : MethodName := ⟨RX7, "spareBy", "(I)I"⟩
abbrev cX7_spare : ByteArray := prog_9_method_69_code
def yX7_spare : MethodName := ⟨RX7, "spare", "(I)I"⟩
abbrev cX7_hear : ByteArray := prog_9_method_70_code
def yX7_hear : MethodName := ⟨RX7, "hear", "(II)I"⟩
abbrev cX7_forget : ByteArray := prog_9_method_71_code
def yX7_forget : MethodName := ⟨RX7, "forget", "()I"⟩
abbrev cX7_isHeard : ByteArray := prog_9_method_72_code
def yX7_isHeard : MethodName := ⟨RX7, "isHeard", "()Z"⟩
abbrev cX7_neverNow : ByteArray := prog_9_method_73_code
def yX7_neverNow : MethodName := ⟨RX7, "neverNow", "()I"⟩
abbrev cX7_never : ByteArray := prog_9_method_74_code
def yX7_never : MethodName := ⟨RX7, "never", "()I"⟩
abbrev cX7_wasteOf : ByteArray := prog_9_method_75_code
def yX7_wasteOf : MethodName := ⟨RX7, "wasteOf", "(I)I"⟩
abbrev cX7_sortOf : ByteArray := prog_9_method_76_code
def yX7_sortOf : MethodName := ⟨RX7, "sortOf", "(I)I"⟩
abbrev cX7_wasOf : ByteArray := prog_9_method_77_code
def yX7_wasOf : MethodName := ⟨RX7, "wasOf", "(II)I"⟩
abbrev cX7_was : ByteArray := prog_9_method_78_code
def yX7_was : MethodName := ⟨RX7, "was", "(II)I"⟩
abbrev cX7_alike : ByteArray := prog_9_method_79_code
def yX7_alike : MethodName := ⟨RX7, "alike", "(II)I"⟩
abbrev cX7_askOf : ByteArray := prog_9_method_80_code
def yX7_askOf : MethodName := ⟨RX7, "askOf", "(I)I"⟩
abbrev cX7_ask : ByteArray := prog_9_method_81_code
def yX7_ask : MethodName := ⟨RX7, "ask", "(I)I"⟩
abbrev cX7_chanceOf : ByteArray := prog_9_method_82_code
def yX7_chanceOf : MethodName := ⟨RX7, "chanceOf", "(III)J"⟩
abbrev cX7_chance : ByteArray := prog_9_method_83_code
def yX7_chance : MethodName := ⟨RX7, "chance", "(III)J"⟩
abbrev cX7_lot : ByteArray := prog_9_method_84_code
def yX7_lot : MethodName := ⟨RX7, "lot", "(I)I"⟩
abbrev cX7_yearsOf : ByteArray := prog_9_method_85_code
def yX7_yearsOf : MethodName := ⟨RX7, "yearsOf", "(III)I"⟩
abbrev cX7_years : ByteArray := prog_9_method_86_code
def yX7_years : MethodName := ⟨RX7, "years", "(III)I"⟩
abbrev cX7_write : ByteArray := prog_9_method_87_code
def yX7_write : MethodName := ⟨RX7, "write", "(I)I"⟩
abbrev cX7_count : ByteArray := prog_9_method_88_code
def yX7_count : MethodName := ⟨RX7, "count", "(I)I"⟩
abbrev cX7_tellsNote : ByteArray := prog_9_method_89_code
def yX7_tellsNote : MethodName := ⟨RX7, "tellsNote", "(JI)J"⟩
abbrev cX7_tellsPlayer : ByteArray := prog_9_method_90_code
def yX7_tellsPlayer : MethodName := ⟨RX7, "tellsPlayer", "(JI)J"⟩
abbrev cX7_digest : ByteArray := prog_9_method_91_code
def yX7_digest : MethodName := ⟨RX7, "digest", "()J"⟩
def RJ6 : String := "java/lang/Integer"
abbrev cJ6_bitCount_0f7a4 : ByteArray := prog_10_method_49_code
def yJ6_bitCount_0f7a4 : MethodName := ⟨RJ6, "bitCount", "(I)I"⟩
def RJ9 : String := "java/lang/Math"
abbrev cJ9_abs_0f7a4 : ByteArray := prog_11_method_59_code
def yJ9_abs_0f7a4 : MethodName := ⟨RJ9, "abs", "(I)I"⟩
abbrev cJ9_max_7cf53 : ByteArray := prog_11_method_65_code
def yJ9_max_7cf53 : MethodName := ⟨RJ9, "max", "(II)I"⟩
abbrev cJ9_min_7cf53 : ByteArray := prog_11_method_69_code
def yJ9_min_7cf53 : MethodName := ⟨RJ9, "min", "(II)I"⟩
def RJ10 : String := "java/lang/System"
def RJ7 : String := "java/util/Arrays"
abbrev cJ7_fill_53178 : ByteArray := prog_13_method_103_code
def yJ7_fill_53178 : MethodName := ⟨RJ7, "fill", "([II)V"⟩
def RL : String := "BreathBandLaw"
abbrev cL_law : ByteArray := code
def yL_law : MethodName := ⟨RL, "law", "([I)Z"⟩
/-- the classes whose objects the world holds -/
abbrev vwCl : List vw_C := [(RX0, TX0, 15), (RX1, TX1, 4), (RX2, TX2, 3), (RX3, TX3, 17), (RX4, TX4, 4), (RX5, TX5, 5), (RX6, TX6, 17), (RX7, TX7, 32)]
