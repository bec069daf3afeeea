section
-- ===== PART A: goes FIRST, ahead of the names: the tables' words, and 'selects' of the private methods out of them =====
/-- a private method of a class that the tables say can be made, by its rows of tables_1 -/
def lw_okq (q : MethodName × Nat) : Prop := (q.1.cls ≠ "java/lang/invoke/MethodHandle" ∧ q.1.cls ≠ "java/lang/invoke/VarHandle") ∧ Cond.instantiable q.1.cls q.2 ∈ tables_1 ∧ Cond.privateMethod q.1 ∈ tables_1 ∧ Cond.instanceMethod q.1 ∈ tables_1
theorem lw_p0 : lw_okq (⟨"BreathBand", "textOf", "(I)LBreathBand$Text;"⟩, 17) := ⟨⟨by decide +kernel, by decide +kernel⟩, List.mem_of_getElem? (i := 14) (by decide +kernel), List.mem_of_getElem? (i := 316) (by decide +kernel), List.mem_of_getElem? (i := 317) (by decide +kernel)⟩
theorem lw_p1 : lw_okq (⟨"BreathBand", "takeTexts", "()V"⟩, 17) := ⟨⟨by decide +kernel, by decide +kernel⟩, List.mem_of_getElem? (i := 14) (by decide +kernel), List.mem_of_getElem? (i := 324) (by decide +kernel), List.mem_of_getElem? (i := 325) (by decide +kernel)⟩
theorem lw_p2 : lw_okq (⟨"BreathBand$Text", "mayStand", "(II)Z"⟩, 5) := ⟨⟨by decide +kernel, by decide +kernel⟩, List.mem_of_getElem? (i := 22) (by decide +kernel), List.mem_of_getElem? (i := 340) (by decide +kernel), List.mem_of_getElem? (i := 341) (by decide +kernel)⟩
theorem lw_p3 : lw_okq (⟨"BreathBand", "unlearn", "()V"⟩, 17) := ⟨⟨by decide +kernel, by decide +kernel⟩, List.mem_of_getElem? (i := 14) (by decide +kernel), List.mem_of_getElem? (i := 377) (by decide +kernel), List.mem_of_getElem? (i := 378) (by decide +kernel)⟩
theorem lw_p4 : lw_okq (⟨"BreathBand", "isPlayer", "(I)Z"⟩, 17) := ⟨⟨by decide +kernel, by decide +kernel⟩, List.mem_of_getElem? (i := 14) (by decide +kernel), List.mem_of_getElem? (i := 398) (by decide +kernel), List.mem_of_getElem? (i := 399) (by decide +kernel)⟩
theorem lw_p5 : lw_okq (⟨"BreathBand", "found", "(I)I"⟩, 17) := ⟨⟨by decide +kernel, by decide +kernel⟩, List.mem_of_getElem? (i := 14) (by decide +kernel), List.mem_of_getElem? (i := 430) (by decide +kernel), List.mem_of_getElem? (i := 431) (by decide +kernel)⟩
theorem lw_p6 : lw_okq (⟨"BreathBand", "runAsTold", "()LBreathBand$Run;"⟩, 17) := ⟨⟨by decide +kernel, by decide +kernel⟩, List.mem_of_getElem? (i := 14) (by decide +kernel), List.mem_of_getElem? (i := 438) (by decide +kernel), List.mem_of_getElem? (i := 439) (by decide +kernel)⟩
theorem lw_p7 : lw_okq (⟨"BreathBand$Run", "clear", "(LBreathBand$Band;)V"⟩, 17) := ⟨⟨by decide +kernel, by decide +kernel⟩, List.mem_of_getElem? (i := 122) (by decide +kernel), List.mem_of_getElem? (i := 446) (by decide +kernel), List.mem_of_getElem? (i := 447) (by decide +kernel)⟩
theorem lw_p8 : lw_okq (⟨"BreathBand$Run", "gatherEvents", "(LBreathBand$Band;)V"⟩, 17) := ⟨⟨by decide +kernel, by decide +kernel⟩, List.mem_of_getElem? (i := 122) (by decide +kernel), List.mem_of_getElem? (i := 451) (by decide +kernel), List.mem_of_getElem? (i := 452) (by decide +kernel)⟩
theorem lw_p9 : lw_okq (⟨"BreathBand$Run", "gather", "(II)V"⟩, 17) := ⟨⟨by decide +kernel, by decide +kernel⟩, List.mem_of_getElem? (i := 122) (by decide +kernel), List.mem_of_getElem? (i := 455) (by decide +kernel), List.mem_of_getElem? (i := 456) (by decide +kernel)⟩
theorem lw_p10 : lw_okq (⟨"BreathBand$Run", "steal", "(I)V"⟩, 17) := ⟨⟨by decide +kernel, by decide +kernel⟩, List.mem_of_getElem? (i := 122) (by decide +kernel), List.mem_of_getElem? (i := 459) (by decide +kernel), List.mem_of_getElem? (i := 460) (by decide +kernel)⟩
theorem lw_p11 : lw_okq (⟨"BreathBand$Run", "soundOne", "(LBreathBand$Band;II)V"⟩, 17) := ⟨⟨by decide +kernel, by decide +kernel⟩, List.mem_of_getElem? (i := 122) (by decide +kernel), List.mem_of_getElem? (i := 464) (by decide +kernel), List.mem_of_getElem? (i := 465) (by decide +kernel)⟩
theorem lw_p12 : lw_okq (⟨"BreathBand$Run", "passOn", "(LBreathBand$Band;Z)I"⟩, 17) := ⟨⟨by decide +kernel, by decide +kernel⟩, List.mem_of_getElem? (i := 122) (by decide +kernel), List.mem_of_getElem? (i := 471) (by decide +kernel), List.mem_of_getElem? (i := 472) (by decide +kernel)⟩
theorem lw_p13 : lw_okq (⟨"BreathBand", "isNote", "(I)Z"⟩, 17) := ⟨⟨by decide +kernel, by decide +kernel⟩, List.mem_of_getElem? (i := 14) (by decide +kernel), List.mem_of_getElem? (i := 479) (by decide +kernel), List.mem_of_getElem? (i := 480) (by decide +kernel)⟩
theorem lw_p14 : lw_okq (⟨"BreathBand", "searchFill", "()V"⟩, 17) := ⟨⟨by decide +kernel, by decide +kernel⟩, List.mem_of_getElem? (i := 14) (by decide +kernel), List.mem_of_getElem? (i := 507) (by decide +kernel), List.mem_of_getElem? (i := 508) (by decide +kernel)⟩
theorem lw_p15 : lw_okq (⟨"BreathBand", "triedSounds", "()I"⟩, 17) := ⟨⟨by decide +kernel, by decide +kernel⟩, List.mem_of_getElem? (i := 14) (by decide +kernel), List.mem_of_getElem? (i := 522) (by decide +kernel), List.mem_of_getElem? (i := 523) (by decide +kernel)⟩
def lw_privs_1 : List (MethodName × Nat) := [(⟨"BreathBand", "textOf", "(I)LBreathBand$Text;"⟩, 17), (⟨"BreathBand", "takeTexts", "()V"⟩, 17), (⟨"BreathBand$Text", "mayStand", "(II)Z"⟩, 5), (⟨"BreathBand", "unlearn", "()V"⟩, 17), (⟨"BreathBand", "isPlayer", "(I)Z"⟩, 17), (⟨"BreathBand", "found", "(I)I"⟩, 17), (⟨"BreathBand", "runAsTold", "()LBreathBand$Run;"⟩, 17), (⟨"BreathBand$Run", "clear", "(LBreathBand$Band;)V"⟩, 17), (⟨"BreathBand$Run", "gatherEvents", "(LBreathBand$Band;)V"⟩, 17), (⟨"BreathBand$Run", "gather", "(II)V"⟩, 17), (⟨"BreathBand$Run", "steal", "(I)V"⟩, 17), (⟨"BreathBand$Run", "soundOne", "(LBreathBand$Band;II)V"⟩, 17), (⟨"BreathBand$Run", "passOn", "(LBreathBand$Band;Z)I"⟩, 17), (⟨"BreathBand", "isNote", "(I)Z"⟩, 17), (⟨"BreathBand", "searchFill", "()V"⟩, 17), (⟨"BreathBand", "triedSounds", "()I"⟩, 17)]
theorem lw_r1 : ∀ q ∈ lw_privs_1, lw_okq q := List.forall_mem_cons.mpr ⟨lw_p0, List.forall_mem_cons.mpr ⟨lw_p1, List.forall_mem_cons.mpr ⟨lw_p2, List.forall_mem_cons.mpr ⟨lw_p3, List.forall_mem_cons.mpr ⟨lw_p4, List.forall_mem_cons.mpr ⟨lw_p5, List.forall_mem_cons.mpr ⟨lw_p6, List.forall_mem_cons.mpr ⟨lw_p7, List.forall_mem_cons.mpr ⟨lw_p8, List.forall_mem_cons.mpr ⟨lw_p9, List.forall_mem_cons.mpr ⟨lw_p10, List.forall_mem_cons.mpr ⟨lw_p11, List.forall_mem_cons.mpr ⟨lw_p12, List.forall_mem_cons.mpr ⟨lw_p13, List.forall_mem_cons.mpr ⟨lw_p14, List.forall_mem_cons.mpr ⟨lw_p15, fun _ h => absurd h List.not_mem_nil⟩⟩⟩⟩⟩⟩⟩⟩⟩⟩⟩⟩⟩⟩⟩⟩
theorem lw_p16 : lw_okq (⟨"BreathBand", "searchSwap", "()V"⟩, 17) := ⟨⟨by decide +kernel, by decide +kernel⟩, List.mem_of_getElem? (i := 14) (by decide +kernel), List.mem_of_getElem? (i := 534) (by decide +kernel), List.mem_of_getElem? (i := 535) (by decide +kernel)⟩
theorem lw_p17 : lw_okq (⟨"BreathBand", "searchHold", "()V"⟩, 17) := ⟨⟨by decide +kernel, by decide +kernel⟩, List.mem_of_getElem? (i := 14) (by decide +kernel), List.mem_of_getElem? (i := 546) (by decide +kernel), List.mem_of_getElem? (i := 547) (by decide +kernel)⟩
theorem lw_p18 : lw_okq (⟨"BreathBand", "searchSpare", "()V"⟩, 17) := ⟨⟨by decide +kernel, by decide +kernel⟩, List.mem_of_getElem? (i := 14) (by decide +kernel), List.mem_of_getElem? (i := 554) (by decide +kernel), List.mem_of_getElem? (i := 555) (by decide +kernel)⟩
theorem lw_p19 : lw_okq (⟨"BreathBand", "noneMissedWithout", "(I)Z"⟩, 17) := ⟨⟨by decide +kernel, by decide +kernel⟩, List.mem_of_getElem? (i := 14) (by decide +kernel), List.mem_of_getElem? (i := 558) (by decide +kernel), List.mem_of_getElem? (i := 559) (by decide +kernel)⟩
theorem lw_p20 : lw_okq (⟨"BreathBand", "triedFits", "()Z"⟩, 17) := ⟨⟨by decide +kernel, by decide +kernel⟩, List.mem_of_getElem? (i := 14) (by decide +kernel), List.mem_of_getElem? (i := 578) (by decide +kernel), List.mem_of_getElem? (i := 579) (by decide +kernel)⟩
theorem lw_p21 : lw_okq (⟨"BreathBand", "countAlike", "(I)V"⟩, 17) := ⟨⟨by decide +kernel, by decide +kernel⟩, List.mem_of_getElem? (i := 14) (by decide +kernel), List.mem_of_getElem? (i := 594) (by decide +kernel), List.mem_of_getElem? (i := 595) (by decide +kernel)⟩
theorem lw_p22 : lw_okq (⟨"BreathBand", "mostAlike", "(I)I"⟩, 17) := ⟨⟨by decide +kernel, by decide +kernel⟩, List.mem_of_getElem? (i := 14) (by decide +kernel), List.mem_of_getElem? (i := 599) (by decide +kernel), List.mem_of_getElem? (i := 600) (by decide +kernel)⟩
theorem lw_p23 : lw_okq (⟨"BreathBand", "learnSubsets", "()V"⟩, 17) := ⟨⟨by decide +kernel, by decide +kernel⟩, List.mem_of_getElem? (i := 14) (by decide +kernel), List.mem_of_getElem? (i := 611) (by decide +kernel), List.mem_of_getElem? (i := 612) (by decide +kernel)⟩
theorem lw_p24 : lw_okq (⟨"BreathBand", "weight", "(II)J"⟩, 17) := ⟨⟨by decide +kernel, by decide +kernel⟩, List.mem_of_getElem? (i := 14) (by decide +kernel), List.mem_of_getElem? (i := 621) (by decide +kernel), List.mem_of_getElem? (i := 622) (by decide +kernel)⟩
theorem lw_p25 : lw_okq (⟨"BreathBand", "drawNotes", "(II)V"⟩, 17) := ⟨⟨by decide +kernel, by decide +kernel⟩, List.mem_of_getElem? (i := 14) (by decide +kernel), List.mem_of_getElem? (i := 631) (by decide +kernel), List.mem_of_getElem? (i := 632) (by decide +kernel)⟩
theorem lw_p26 : lw_okq (⟨"BreathBand", "mixNotes", "(J)J"⟩, 17) := ⟨⟨by decide +kernel, by decide +kernel⟩, List.mem_of_getElem? (i := 14) (by decide +kernel), List.mem_of_getElem? (i := 700) (by decide +kernel), List.mem_of_getElem? (i := 701) (by decide +kernel)⟩
theorem lw_p27 : lw_okq (⟨"BreathBand", "mixPlayers", "(J)J"⟩, 17) := ⟨⟨by decide +kernel, by decide +kernel⟩, List.mem_of_getElem? (i := 14) (by decide +kernel), List.mem_of_getElem? (i := 707) (by decide +kernel), List.mem_of_getElem? (i := 708) (by decide +kernel)⟩
theorem lw_p28 : lw_okq (⟨"BreathBandModel", "finds", "(I)I"⟩, 32) := ⟨⟨by decide +kernel, by decide +kernel⟩, List.mem_of_getElem? (i := 725) (by decide +kernel), List.mem_of_getElem? (i := 840) (by decide +kernel), List.mem_of_getElem? (i := 841) (by decide +kernel)⟩
theorem lw_p29 : lw_okq (⟨"BreathBandModel", "lacks", "(III)I"⟩, 32) := ⟨⟨by decide +kernel, by decide +kernel⟩, List.mem_of_getElem? (i := 725) (by decide +kernel), List.mem_of_getElem? (i := 852) (by decide +kernel), List.mem_of_getElem? (i := 853) (by decide +kernel)⟩
theorem lw_p30 : lw_okq (⟨"BreathBandModel", "readsText", "(I)I"⟩, 32) := ⟨⟨by decide +kernel, by decide +kernel⟩, List.mem_of_getElem? (i := 725) (by decide +kernel), List.mem_of_getElem? (i := 888) (by decide +kernel), List.mem_of_getElem? (i := 889) (by decide +kernel)⟩
theorem lw_p31 : lw_okq (⟨"BreathBandModel", "readsPlayers", "()I"⟩, 32) := ⟨⟨by decide +kernel, by decide +kernel⟩, List.mem_of_getElem? (i := 725) (by decide +kernel), List.mem_of_getElem? (i := 892) (by decide +kernel), List.mem_of_getElem? (i := 893) (by decide +kernel)⟩
def lw_privs_2 : List (MethodName × Nat) := [(⟨"BreathBand", "searchSwap", "()V"⟩, 17), (⟨"BreathBand", "searchHold", "()V"⟩, 17), (⟨"BreathBand", "searchSpare", "()V"⟩, 17), (⟨"BreathBand", "noneMissedWithout", "(I)Z"⟩, 17), (⟨"BreathBand", "triedFits", "()Z"⟩, 17), (⟨"BreathBand", "countAlike", "(I)V"⟩, 17), (⟨"BreathBand", "mostAlike", "(I)I"⟩, 17), (⟨"BreathBand", "learnSubsets", "()V"⟩, 17), (⟨"BreathBand", "weight", "(II)J"⟩, 17), (⟨"BreathBand", "drawNotes", "(II)V"⟩, 17), (⟨"BreathBand", "mixNotes", "(J)J"⟩, 17), (⟨"BreathBand", "mixPlayers", "(J)J"⟩, 17), (⟨"BreathBandModel", "finds", "(I)I"⟩, 32), (⟨"BreathBandModel", "lacks", "(III)I"⟩, 32), (⟨"BreathBandModel", "readsText", "(I)I"⟩, 32), (⟨"BreathBandModel", "readsPlayers", "()I"⟩, 32)]
theorem lw_r2 : ∀ q ∈ lw_privs_2, lw_okq q := List.forall_mem_cons.mpr ⟨lw_p16, List.forall_mem_cons.mpr ⟨lw_p17, List.forall_mem_cons.mpr ⟨lw_p18, List.forall_mem_cons.mpr ⟨lw_p19, List.forall_mem_cons.mpr ⟨lw_p20, List.forall_mem_cons.mpr ⟨lw_p21, List.forall_mem_cons.mpr ⟨lw_p22, List.forall_mem_cons.mpr ⟨lw_p23, List.forall_mem_cons.mpr ⟨lw_p24, List.forall_mem_cons.mpr ⟨lw_p25, List.forall_mem_cons.mpr ⟨lw_p26, List.forall_mem_cons.mpr ⟨lw_p27, List.forall_mem_cons.mpr ⟨lw_p28, List.forall_mem_cons.mpr ⟨lw_p29, List.forall_mem_cons.mpr ⟨lw_p30, List.forall_mem_cons.mpr ⟨lw_p31, fun _ h => absurd h List.not_mem_nil⟩⟩⟩⟩⟩⟩⟩⟩⟩⟩⟩⟩⟩⟩⟩⟩
theorem lw_p32 : lw_okq (⟨"BreathBandModel", "readsNotes", "()I"⟩, 32) := ⟨⟨by decide +kernel, by decide +kernel⟩, List.mem_of_getElem? (i := 725) (by decide +kernel), List.mem_of_getElem? (i := 901) (by decide +kernel), List.mem_of_getElem? (i := 902) (by decide +kernel)⟩
theorem lw_p33 : lw_okq (⟨"BreathBandModel", "isPlayer", "(I)Z"⟩, 32) := ⟨⟨by decide +kernel, by decide +kernel⟩, List.mem_of_getElem? (i := 725) (by decide +kernel), List.mem_of_getElem? (i := 916) (by decide +kernel), List.mem_of_getElem? (i := 917) (by decide +kernel)⟩
theorem lw_p34 : lw_okq (⟨"BreathBandModel", "noteBy", "(II)I"⟩, 32) := ⟨⟨by decide +kernel, by decide +kernel⟩, List.mem_of_getElem? (i := 725) (by decide +kernel), List.mem_of_getElem? (i := 925) (by decide +kernel), List.mem_of_getElem? (i := 926) (by decide +kernel)⟩
theorem lw_p35 : lw_okq (⟨"BreathBandModel", "find", "()V"⟩, 32) := ⟨⟨by decide +kernel, by decide +kernel⟩, List.mem_of_getElem? (i := 725) (by decide +kernel), List.mem_of_getElem? (i := 955) (by decide +kernel), List.mem_of_getElem? (i := 956) (by decide +kernel)⟩
theorem lw_p36 : lw_okq (⟨"BreathBandModel", "seats", "()V"⟩, 32) := ⟨⟨by decide +kernel, by decide +kernel⟩, List.mem_of_getElem? (i := 725) (by decide +kernel), List.mem_of_getElem? (i := 959) (by decide +kernel), List.mem_of_getElem? (i := 960) (by decide +kernel)⟩
theorem lw_p37 : lw_okq (⟨"BreathBandModel", "lives", "()V"⟩, 32) := ⟨⟨by decide +kernel, by decide +kernel⟩, List.mem_of_getElem? (i := 725) (by decide +kernel), List.mem_of_getElem? (i := 963) (by decide +kernel), List.mem_of_getElem? (i := 964) (by decide +kernel)⟩
theorem lw_p38 : lw_okq (⟨"BreathBandModel", "passes", "(I)V"⟩, 32) := ⟨⟨by decide +kernel, by decide +kernel⟩, List.mem_of_getElem? (i := 725) (by decide +kernel), List.mem_of_getElem? (i := 967) (by decide +kernel), List.mem_of_getElem? (i := 968) (by decide +kernel)⟩
theorem lw_p39 : lw_okq (⟨"BreathBandModel", "many", "(II)I"⟩, 32) := ⟨⟨by decide +kernel, by decide +kernel⟩, List.mem_of_getElem? (i := 725) (by decide +kernel), List.mem_of_getElem? (i := 971) (by decide +kernel), List.mem_of_getElem? (i := 972) (by decide +kernel)⟩
theorem lw_p40 : lw_okq (⟨"BreathBandModel", "blows", "(I)V"⟩, 32) := ⟨⟨by decide +kernel, by decide +kernel⟩, List.mem_of_getElem? (i := 725) (by decide +kernel), List.mem_of_getElem? (i := 981) (by decide +kernel), List.mem_of_getElem? (i := 982) (by decide +kernel)⟩
theorem lw_p41 : lw_okq (⟨"BreathBandModel", "whoIn", "(I)I"⟩, 32) := ⟨⟨by decide +kernel, by decide +kernel⟩, List.mem_of_getElem? (i := 725) (by decide +kernel), List.mem_of_getElem? (i := 988) (by decide +kernel), List.mem_of_getElem? (i := 989) (by decide +kernel)⟩
theorem lw_p42 : lw_okq (⟨"BreathBandModel", "atBy", "(II)I"⟩, 32) := ⟨⟨by decide +kernel, by decide +kernel⟩, List.mem_of_getElem? (i := 725) (by decide +kernel), List.mem_of_getElem? (i := 992) (by decide +kernel), List.mem_of_getElem? (i := 993) (by decide +kernel)⟩
theorem lw_p43 : lw_okq (⟨"BreathBandModel", "isNote", "(I)Z"⟩, 32) := ⟨⟨by decide +kernel, by decide +kernel⟩, List.mem_of_getElem? (i := 725) (by decide +kernel), List.mem_of_getElem? (i := 1000) (by decide +kernel), List.mem_of_getElem? (i := 1001) (by decide +kernel)⟩
theorem lw_p44 : lw_okq (⟨"BreathBandModel", "takesBy", "(II)I"⟩, 32) := ⟨⟨by decide +kernel, by decide +kernel⟩, List.mem_of_getElem? (i := 725) (by decide +kernel), List.mem_of_getElem? (i := 1008) (by decide +kernel), List.mem_of_getElem? (i := 1009) (by decide +kernel)⟩
theorem lw_p45 : lw_okq (⟨"BreathBandModel", "sumBy", "(I)I"⟩, 32) := ⟨⟨by decide +kernel, by decide +kernel⟩, List.mem_of_getElem? (i := 725) (by decide +kernel), List.mem_of_getElem? (i := 1016) (by decide +kernel), List.mem_of_getElem? (i := 1017) (by decide +kernel)⟩
theorem lw_p46 : lw_okq (⟨"BreathBandModel", "soundNow", "()I"⟩, 32) := ⟨⟨by decide +kernel, by decide +kernel⟩, List.mem_of_getElem? (i := 725) (by decide +kernel), List.mem_of_getElem? (i := 1020) (by decide +kernel), List.mem_of_getElem? (i := 1021) (by decide +kernel)⟩
theorem lw_p47 : lw_okq (⟨"BreathBandModel", "flatNow", "()I"⟩, 32) := ⟨⟨by decide +kernel, by decide +kernel⟩, List.mem_of_getElem? (i := 725) (by decide +kernel), List.mem_of_getElem? (i := 1028) (by decide +kernel), List.mem_of_getElem? (i := 1029) (by decide +kernel)⟩
def lw_privs_3 : List (MethodName × Nat) := [(⟨"BreathBandModel", "readsNotes", "()I"⟩, 32), (⟨"BreathBandModel", "isPlayer", "(I)Z"⟩, 32), (⟨"BreathBandModel", "noteBy", "(II)I"⟩, 32), (⟨"BreathBandModel", "find", "()V"⟩, 32), (⟨"BreathBandModel", "seats", "()V"⟩, 32), (⟨"BreathBandModel", "lives", "()V"⟩, 32), (⟨"BreathBandModel", "passes", "(I)V"⟩, 32), (⟨"BreathBandModel", "many", "(II)I"⟩, 32), (⟨"BreathBandModel", "blows", "(I)V"⟩, 32), (⟨"BreathBandModel", "whoIn", "(I)I"⟩, 32), (⟨"BreathBandModel", "atBy", "(II)I"⟩, 32), (⟨"BreathBandModel", "isNote", "(I)Z"⟩, 32), (⟨"BreathBandModel", "takesBy", "(II)I"⟩, 32), (⟨"BreathBandModel", "sumBy", "(I)I"⟩, 32), (⟨"BreathBandModel", "soundNow", "()I"⟩, 32), (⟨"BreathBandModel", "flatNow", "()I"⟩, 32)]
theorem lw_r3 : ∀ q ∈ lw_privs_3, lw_okq q := List.forall_mem_cons.mpr ⟨lw_p32, List.forall_mem_cons.mpr ⟨lw_p33, List.forall_mem_cons.mpr ⟨lw_p34, List.forall_mem_cons.mpr ⟨lw_p35, List.forall_mem_cons.mpr ⟨lw_p36, List.forall_mem_cons.mpr ⟨lw_p37, List.forall_mem_cons.mpr ⟨lw_p38, List.forall_mem_cons.mpr ⟨lw_p39, List.forall_mem_cons.mpr ⟨lw_p40, List.forall_mem_cons.mpr ⟨lw_p41, List.forall_mem_cons.mpr ⟨lw_p42, List.forall_mem_cons.mpr ⟨lw_p43, List.forall_mem_cons.mpr ⟨lw_p44, List.forall_mem_cons.mpr ⟨lw_p45, List.forall_mem_cons.mpr ⟨lw_p46, List.forall_mem_cons.mpr ⟨lw_p47, fun _ h => absurd h List.not_mem_nil⟩⟩⟩⟩⟩⟩⟩⟩⟩⟩⟩⟩⟩⟩⟩⟩
theorem lw_p48 : lw_okq (⟨"BreathBandModel", "silentNow", "()I"⟩, 32) := ⟨⟨by decide +kernel, by decide +kernel⟩, List.mem_of_getElem? (i := 725) (by decide +kernel), List.mem_of_getElem? (i := 1036) (by decide +kernel), List.mem_of_getElem? (i := 1037) (by decide +kernel)⟩
theorem lw_p49 : lw_okq (⟨"BreathBandModel", "greedyNow", "()I"⟩, 32) := ⟨⟨by decide +kernel, by decide +kernel⟩, List.mem_of_getElem? (i := 725) (by decide +kernel), List.mem_of_getElem? (i := 1044) (by decide +kernel), List.mem_of_getElem? (i := 1045) (by decide +kernel)⟩
theorem lw_p50 : lw_okq (⟨"BreathBandModel", "fillBy", "(I)I"⟩, 32) := ⟨⟨by decide +kernel, by decide +kernel⟩, List.mem_of_getElem? (i := 725) (by decide +kernel), List.mem_of_getElem? (i := 1055) (by decide +kernel), List.mem_of_getElem? (i := 1056) (by decide +kernel)⟩
theorem lw_p51 : lw_okq (⟨"BreathBandModel", "swapBy", "(I)I"⟩, 32) := ⟨⟨by decide +kernel, by decide +kernel⟩, List.mem_of_getElem? (i := 725) (by decide +kernel), List.mem_of_getElem? (i := 1063) (by decide +kernel), List.mem_of_getElem? (i := 1064) (by decide +kernel)⟩
theorem lw_p52 : lw_okq (⟨"BreathBandModel", "holdBy", "(I)I"⟩, 32) := ⟨⟨by decide +kernel, by decide +kernel⟩, List.mem_of_getElem? (i := 725) (by decide +kernel), List.mem_of_getElem? (i := 1071) (by decide +kernel), List.mem_of_getElem? (i := 1072) (by decide +kernel)⟩
theorem lw_p53 : lw_okq (⟨"BreathBandModel", "spareBy", "(I)I"⟩, 32) := ⟨⟨by decide +kernel, by decide +kernel⟩, List.mem_of_getElem? (i := 725) (by decide +kernel), List.mem_of_getElem? (i := 1080) (by decide +kernel), List.mem_of_getElem? (i := 1081) (by decide +kernel)⟩
theorem lw_p54 : lw_okq (⟨"BreathBandModel", "isSpared", "(I)Z"⟩, 32) := ⟨⟨by decide +kernel, by decide +kernel⟩, List.mem_of_getElem? (i := 725) (by decide +kernel), List.mem_of_getElem? (i := 1084) (by decide +kernel), List.mem_of_getElem? (i := 1085) (by decide +kernel)⟩
theorem lw_p55 : lw_okq (⟨"BreathBandModel", "neverNow", "()I"⟩, 32) := ⟨⟨by decide +kernel, by decide +kernel⟩, List.mem_of_getElem? (i := 725) (by decide +kernel), List.mem_of_getElem? (i := 1100) (by decide +kernel), List.mem_of_getElem? (i := 1101) (by decide +kernel)⟩
theorem lw_p56 : lw_okq (⟨"BreathBandModel", "isHeard", "()Z"⟩, 32) := ⟨⟨by decide +kernel, by decide +kernel⟩, List.mem_of_getElem? (i := 725) (by decide +kernel), List.mem_of_getElem? (i := 1104) (by decide +kernel), List.mem_of_getElem? (i := 1105) (by decide +kernel)⟩
theorem lw_p57 : lw_okq (⟨"BreathBandModel", "wasOf", "(II)I"⟩, 32) := ⟨⟨by decide +kernel, by decide +kernel⟩, List.mem_of_getElem? (i := 725) (by decide +kernel), List.mem_of_getElem? (i := 1112) (by decide +kernel), List.mem_of_getElem? (i := 1113) (by decide +kernel)⟩
theorem lw_p58 : lw_okq (⟨"BreathBandModel", "wasteOf", "(I)I"⟩, 32) := ⟨⟨by decide +kernel, by decide +kernel⟩, List.mem_of_getElem? (i := 725) (by decide +kernel), List.mem_of_getElem? (i := 1116) (by decide +kernel), List.mem_of_getElem? (i := 1117) (by decide +kernel)⟩
theorem lw_p59 : lw_okq (⟨"BreathBandModel", "sortOf", "(I)I"⟩, 32) := ⟨⟨by decide +kernel, by decide +kernel⟩, List.mem_of_getElem? (i := 725) (by decide +kernel), List.mem_of_getElem? (i := 1120) (by decide +kernel), List.mem_of_getElem? (i := 1121) (by decide +kernel)⟩
theorem lw_p60 : lw_okq (⟨"BreathBandModel", "askOf", "(I)I"⟩, 32) := ⟨⟨by decide +kernel, by decide +kernel⟩, List.mem_of_getElem? (i := 725) (by decide +kernel), List.mem_of_getElem? (i := 1128) (by decide +kernel), List.mem_of_getElem? (i := 1129) (by decide +kernel)⟩
theorem lw_p61 : lw_okq (⟨"BreathBandModel", "alike", "(II)I"⟩, 32) := ⟨⟨by decide +kernel, by decide +kernel⟩, List.mem_of_getElem? (i := 725) (by decide +kernel), List.mem_of_getElem? (i := 1132) (by decide +kernel), List.mem_of_getElem? (i := 1133) (by decide +kernel)⟩
theorem lw_p62 : lw_okq (⟨"BreathBandModel", "chanceOf", "(III)J"⟩, 32) := ⟨⟨by decide +kernel, by decide +kernel⟩, List.mem_of_getElem? (i := 725) (by decide +kernel), List.mem_of_getElem? (i := 1141) (by decide +kernel), List.mem_of_getElem? (i := 1142) (by decide +kernel)⟩
theorem lw_p63 : lw_okq (⟨"BreathBandModel", "yearsOf", "(III)I"⟩, 32) := ⟨⟨by decide +kernel, by decide +kernel⟩, List.mem_of_getElem? (i := 725) (by decide +kernel), List.mem_of_getElem? (i := 1156) (by decide +kernel), List.mem_of_getElem? (i := 1157) (by decide +kernel)⟩
def lw_privs_4 : List (MethodName × Nat) := [(⟨"BreathBandModel", "silentNow", "()I"⟩, 32), (⟨"BreathBandModel", "greedyNow", "()I"⟩, 32), (⟨"BreathBandModel", "fillBy", "(I)I"⟩, 32), (⟨"BreathBandModel", "swapBy", "(I)I"⟩, 32), (⟨"BreathBandModel", "holdBy", "(I)I"⟩, 32), (⟨"BreathBandModel", "spareBy", "(I)I"⟩, 32), (⟨"BreathBandModel", "isSpared", "(I)Z"⟩, 32), (⟨"BreathBandModel", "neverNow", "()I"⟩, 32), (⟨"BreathBandModel", "isHeard", "()Z"⟩, 32), (⟨"BreathBandModel", "wasOf", "(II)I"⟩, 32), (⟨"BreathBandModel", "wasteOf", "(I)I"⟩, 32), (⟨"BreathBandModel", "sortOf", "(I)I"⟩, 32), (⟨"BreathBandModel", "askOf", "(I)I"⟩, 32), (⟨"BreathBandModel", "alike", "(II)I"⟩, 32), (⟨"BreathBandModel", "chanceOf", "(III)J"⟩, 32), (⟨"BreathBandModel", "yearsOf", "(III)I"⟩, 32)]
theorem lw_r4 : ∀ q ∈ lw_privs_4, lw_okq q := List.forall_mem_cons.mpr ⟨lw_p48, List.forall_mem_cons.mpr ⟨lw_p49, List.forall_mem_cons.mpr ⟨lw_p50, List.forall_mem_cons.mpr ⟨lw_p51, List.forall_mem_cons.mpr ⟨lw_p52, List.forall_mem_cons.mpr ⟨lw_p53, List.forall_mem_cons.mpr ⟨lw_p54, List.forall_mem_cons.mpr ⟨lw_p55, List.forall_mem_cons.mpr ⟨lw_p56, List.forall_mem_cons.mpr ⟨lw_p57, List.forall_mem_cons.mpr ⟨lw_p58, List.forall_mem_cons.mpr ⟨lw_p59, List.forall_mem_cons.mpr ⟨lw_p60, List.forall_mem_cons.mpr ⟨lw_p61, List.forall_mem_cons.mpr ⟨lw_p62, List.forall_mem_cons.mpr ⟨lw_p63, fun _ h => absurd h List.not_mem_nil⟩⟩⟩⟩⟩⟩⟩⟩⟩⟩⟩⟩⟩⟩⟩⟩
theorem lw_p64 : lw_okq (⟨"BreathBandModel", "lot", "(I)I"⟩, 32) := ⟨⟨by decide +kernel, by decide +kernel⟩, List.mem_of_getElem? (i := 725) (by decide +kernel), List.mem_of_getElem? (i := 1160) (by decide +kernel), List.mem_of_getElem? (i := 1161) (by decide +kernel)⟩
theorem lw_p65 : lw_okq (⟨"BreathBandModel", "tellsNote", "(JI)J"⟩, 32) := ⟨⟨by decide +kernel, by decide +kernel⟩, List.mem_of_getElem? (i := 725) (by decide +kernel), List.mem_of_getElem? (i := 1180) (by decide +kernel), List.mem_of_getElem? (i := 1181) (by decide +kernel)⟩
theorem lw_p66 : lw_okq (⟨"BreathBandModel", "tellsPlayer", "(JI)J"⟩, 32) := ⟨⟨by decide +kernel, by decide +kernel⟩, List.mem_of_getElem? (i := 725) (by decide +kernel), List.mem_of_getElem? (i := 1184) (by decide +kernel), List.mem_of_getElem? (i := 1185) (by decide +kernel)⟩
def lw_privs_5 : List (MethodName × Nat) := [(⟨"BreathBandModel", "lot", "(I)I"⟩, 32), (⟨"BreathBandModel", "tellsNote", "(JI)J"⟩, 32), (⟨"BreathBandModel", "tellsPlayer", "(JI)J"⟩, 32)]
theorem lw_r5 : ∀ q ∈ lw_privs_5, lw_okq q := List.forall_mem_cons.mpr ⟨lw_p64, List.forall_mem_cons.mpr ⟨lw_p65, List.forall_mem_cons.mpr ⟨lw_p66, fun _ h => absurd h List.not_mem_nil⟩⟩⟩
def lw_privs : List (MethodName × Nat) := lw_privs_1 ++ (lw_privs_2 ++ (lw_privs_3 ++ (lw_privs_4 ++ (lw_privs_5))))
def lw_tbl : List Cond := k2_sels lw_privs ++ tables_1
theorem lw_privs_ok : ∀ q ∈ lw_privs, lw_okq q := by
  show ∀ q ∈ lw_privs_1 ++ (lw_privs_2 ++ (lw_privs_3 ++ (lw_privs_4 ++ (lw_privs_5)))), lw_okq q
  exact List.forall_mem_append.mpr ⟨lw_r1, List.forall_mem_append.mpr ⟨lw_r2, List.forall_mem_append.mpr ⟨lw_r3, List.forall_mem_append.mpr ⟨lw_r4, lw_r5⟩⟩⟩⟩

def RX0 : String := "BreathBand$Band"
def TX0 : u_T := fun k => match k with
  | 0 => ("BreathBand$Band", "players", "I", false)
  | 1 => ("BreathBand$Band", "sort", "[I", true)
  | 2 => ("BreathBand$Band", "lets", "[I", true)
  | 3 => ("BreathBand$Band", "seatOf", "[I", true)
  | 4 => ("BreathBand$Band", "sitter", "[I", true)
  | 5 => ("BreathBand$Band", "notes", "I", false)
  | 6 => ("BreathBand$Band", "noteBeat", "[I", true)
  | 7 => ("BreathBand$Band", "notePlayer", "[I", true)
  | 8 => ("BreathBand$Band", "notesOn", "[I", true)
  | 9 => ("BreathBand$Band", "bagAtFirst", "I", false)
  | 10 => ("BreathBand$Band", "events", "I", false)
  | 11 => ("BreathBand$Band", "eventKind", "[I", true)
  | 12 => ("BreathBand$Band", "eventBeat", "[I", true)
  | 13 => ("BreathBand$Band", "without", "I", false)
  | _ => ("BreathBand$Band", "alsoKept", "I", false)
def tyX0 : Nat → FieldType := fun k => match k with
  | 0 => .int
  | 1 => .array .int
  | 2 => .array .int
  | 3 => .array .int
  | 4 => .array .int
  | 5 => .int
  | 6 => .array .int
  | 7 => .array .int
  | 8 => .array .int
  | 9 => .int
  | 10 => .int
  | 11 => .array .int
  | 12 => .array .int
  | 13 => .int
  | _ => .int
abbrev wsX00 : List Cond := u_ws RX0 TX0 15
theorem nmX0 : ∀ a, a < 15 → ∀ b, b < 15 → a ≠ b → (TX0 a).2.1 ≠ (TX0 b).2.1 := by decide +kernel
theorem tyX0_ok : ∀ k, k < 15 → parseFieldDescriptor (TX0 k).2.2.1 = some (tyX0 k) := by decide +kernel
abbrev cX0_init : ByteArray := prog_2_method_1_code
def yX0_init : MethodName := ⟨RX0, "<init>", "()V"⟩
abbrev cX0_takePlayers : ByteArray := prog_2_method_2_code
def yX0_takePlayers : MethodName := ⟨RX0, "takePlayers", "(LBreathBand$Text;)V"⟩
abbrev cX0_takeNotes : ByteArray := prog_2_method_3_code
def yX0_takeNotes : MethodName := ⟨RX0, "takeNotes", "(LBreathBand$Text;)V"⟩
abbrev cX0_clearNotes : ByteArray := prog_2_method_4_code
def yX0_clearNotes : MethodName := ⟨RX0, "clearNotes", "()V"⟩
abbrev cX0_addNote : ByteArray := prog_2_method_5_code
def yX0_addNote : MethodName := ⟨RX0, "addNote", "(II)V"⟩
abbrev cX0_addEvent : ByteArray := prog_2_method_6_code
def yX0_addEvent : MethodName := ⟨RX0, "addEvent", "(II)Z"⟩
abbrev cX0_become : ByteArray := prog_2_method_7_code
def yX0_become : MethodName := ⟨RX0, "become", "(LBreathBand$Band;)V"⟩
abbrev cX0_changeSeats : ByteArray := prog_2_method_8_code
def yX0_changeSeats : MethodName := ⟨RX0, "changeSeats", "(II)V"⟩
def RX1 : String := "BreathBand$Best"
def TX1 : u_T := fun k => match k with
  | 0 => ("BreathBand$Best", "known", "Z", false)
  | 1 => ("BreathBand$Best", "first", "I", false)
  | 2 => ("BreathBand$Best", "other", "I", false)
  | _ => ("BreathBand$Best", "many", "I", false)
def tyX1 : Nat → FieldType := fun k => match k with
  | 0 => .boolean
  | 1 => .int
  | 2 => .int
  | _ => .int
abbrev wsX10 : List Cond := u_ws RX1 TX1 4
theorem nmX1 : ∀ a, a < 4 → ∀ b, b < 4 → a ≠ b → (TX1 a).2.1 ≠ (TX1 b).2.1 := by decide +kernel
theorem tyX1_ok : ∀ k, k < 4 → parseFieldDescriptor (TX1 k).2.2.1 = some (tyX1 k) := by decide +kernel
abbrev cX1_init : ByteArray := prog_3_method_1_code
def yX1_init : MethodName := ⟨RX1, "<init>", "()V"⟩
abbrev cX1_begin : ByteArray := prog_3_method_2_code
def yX1_begin : MethodName := ⟨RX1, "begin", "()V"⟩
abbrev cX1_offer : ByteArray := prog_3_method_3_code
def yX1_offer : MethodName := ⟨RX1, "offer", "(III)V"⟩
def RX2 : String := "BreathBand$Ear"
def TX2 : u_T := fun k => match k with
  | 0 => ("BreathBand$Ear", "notes", "[I", true)
  | 1 => ("BreathBand$Ear", "outcomes", "[I", true)
  | _ => ("BreathBand$Ear", "size", "I", false)
def tyX2 : Nat → FieldType := fun k => match k with
  | 0 => .array .int
  | 1 => .array .int
  | _ => .int
abbrev wsX20 : List Cond := u_ws RX2 TX2 3
theorem nmX2 : ∀ a, a < 3 → ∀ b, b < 3 → a ≠ b → (TX2 a).2.1 ≠ (TX2 b).2.1 := by decide +kernel
theorem tyX2_ok : ∀ k, k < 3 → parseFieldDescriptor (TX2 k).2.2.1 = some (tyX2 k) := by decide +kernel
abbrev cX2_init : ByteArray := prog_4_method_1_code
def yX2_init : MethodName := ⟨RX2, "<init>", "()V"⟩
abbrev cX2_remember : ByteArray := prog_4_method_2_code
def yX2_remember : MethodName := ⟨RX2, "remember", "(II)Z"⟩
abbrev cX2_fits : ByteArray := prog_4_method_3_code
def yX2_fits : MethodName := ⟨RX2, "fits", "(LBreathBand$Run;I)Z"⟩
def RX3 : String := "BreathBand$Run"
def TX3 : u_T := fun k => match k with
  | 0 => ("BreathBand$Run", "seatBehind", "[I", true)
  | 1 => ("BreathBand$Run", "heldBehind", "[I", true)
  | 2 => ("BreathBand$Run", "lostOn", "[I", true)
  | 3 => ("BreathBand$Run", "outcome", "[I", true)
  | 4 => ("BreathBand$Run", "soundedOf", "[I", true)
  | 5 => ("BreathBand$Run", "takenBy", "[I", true)
  | 6 => ("BreathBand$Run", "goneFrom", "[I", true)
  | 7 => ("BreathBand$Run", "sounded", "I", false)
  | 8 => ("BreathBand$Run", "soundedBits", "I", false)
  | 9 => ("BreathBand$Run", "missedOfThese", "I", false)
  | 10 => ("BreathBand$Run", "leaks", "I", false)
  | 11 => ("BreathBand$Run", "stolen", "I", false)
  | 12 => ("BreathBand$Run", "theftsOn", "[I", true)
  | 13 => ("BreathBand$Run", "frosts", "I", false)
  | 14 => ("BreathBand$Run", "kept", "I", false)
  | 15 => ("BreathBand$Run", "here", "I", false)
  | _ => ("BreathBand$Run", "held", "I", false)
def tyX3 : Nat → FieldType := fun k => match k with
  | 0 => .array .int
  | 1 => .array .int
  | 2 => .array .int
  | 3 => .array .int
  | 4 => .array .int
  | 5 => .array .int
  | 6 => .array .int
  | 7 => .int
  | 8 => .int
  | 9 => .int
  | 10 => .int
  | 11 => .int
  | 12 => .array .int
  | 13 => .int
  | 14 => .int
  | 15 => .int
  | _ => .int
abbrev wsX30 : List Cond := u_ws RX3 TX3 17
theorem nmX3 : ∀ a, a < 17 → ∀ b, b < 17 → a ≠ b → (TX3 a).2.1 ≠ (TX3 b).2.1 := by decide +kernel
theorem tyX3_ok : ∀ k, k < 17 → parseFieldDescriptor (TX3 k).2.2.1 = some (tyX3 k) := by decide +kernel
abbrev cX3_init : ByteArray := prog_5_method_1_code
def yX3_init : MethodName := ⟨RX3, "<init>", "()V"⟩
abbrev cX3_play : ByteArray := prog_5_method_2_code
def yX3_play : MethodName := ⟨RX3, "play", "(LBreathBand$Band;)V"⟩
abbrev cX3_clear : ByteArray := prog_5_method_3_code
def yX3_clear : MethodName := ⟨RX3, "clear", "(LBreathBand$Band;)V"⟩
abbrev cX3_gatherEvents : ByteArray := prog_5_method_4_code
def yX3_gatherEvents : MethodName := ⟨RX3, "gatherEvents", "(LBreathBand$Band;)V"⟩
abbrev cX3_gather : ByteArray := prog_5_method_5_code
def yX3_gather : MethodName := ⟨RX3, "gather", "(II)V"⟩
abbrev cX3_steal : ByteArray := prog_5_method_6_code
def yX3_steal : MethodName := ⟨RX3, "steal", "(I)V"⟩
abbrev cX3_soundOne : ByteArray := prog_5_method_7_code
def yX3_soundOne : MethodName := ⟨RX3, "soundOne", "(LBreathBand$Band;II)V"⟩
abbrev cX3_passOn : ByteArray := prog_5_method_8_code
def yX3_passOn : MethodName := ⟨RX3, "passOn", "(LBreathBand$Band;Z)I"⟩
def RX4 : String := "BreathBand$Sheet"
def TX4 : u_T := fun k => match k with
  | 0 => ("BreathBand$Sheet", "lost", "Z", false)
  | 1 => ("BreathBand$Sheet", "form", "I", false)
  | 2 => ("BreathBand$Sheet", "size", "I", false)
  | _ => ("BreathBand$Sheet", "items", "[I", true)
def tyX4 : Nat → FieldType := fun k => match k with
  | 0 => .boolean
  | 1 => .int
  | 2 => .int
  | _ => .array .int
abbrev wsX40 : List Cond := u_ws RX4 TX4 4
theorem nmX4 : ∀ a, a < 4 → ∀ b, b < 4 → a ≠ b → (TX4 a).2.1 ≠ (TX4 b).2.1 := by decide +kernel
theorem tyX4_ok : ∀ k, k < 4 → parseFieldDescriptor (TX4 k).2.2.1 = some (tyX4 k) := by decide +kernel
abbrev cX4_init : ByteArray := prog_6_method_1_code
def yX4_init : MethodName := ⟨RX4, "<init>", "()V"⟩
abbrev cX4_renew : ByteArray := prog_6_method_2_code
def yX4_renew : MethodName := ⟨RX4, "renew", "(II)V"⟩
abbrev cX4_findingAt : ByteArray := prog_6_method_3_code
def yX4_findingAt : MethodName := ⟨RX4, "findingAt", "(II)I"⟩
abbrev cX4_holds : ByteArray := prog_6_method_4_code
def yX4_holds : MethodName := ⟨RX4, "holds", "(II)Z"⟩
abbrev cX4_put : ByteArray := prog_6_method_5_code
def yX4_put : MethodName := ⟨RX4, "put", "(II)V"⟩
def RX5 : String := "BreathBand$Text"
def TX5 : u_T := fun k => match k with
  | 0 => ("BreathBand$Text", "ofNotes", "Z", true)
  | 1 => ("BreathBand$Text", "room", "I", true)
  | 2 => ("BreathBand$Text", "mostThings", "I", true)
  | 3 => ("BreathBand$Text", "bytes", "[I", true)
  | _ => ("BreathBand$Text", "size", "I", false)
def tyX5 : Nat → FieldType := fun k => match k with
  | 0 => .boolean
  | 1 => .int
  | 2 => .int
  | 3 => .array .int
  | _ => .int
abbrev wsX50 : List Cond := u_ws RX5 TX5 5
theorem nmX5 : ∀ a, a < 5 → ∀ b, b < 5 → a ≠ b → (TX5 a).2.1 ≠ (TX5 b).2.1 := by decide +kernel
theorem tyX5_ok : ∀ k, k < 5 → parseFieldDescriptor (TX5 k).2.2.1 = some (tyX5 k) := by decide +kernel
abbrev cX5_init : ByteArray := prog_7_method_1_code
def yX5_init : MethodName := ⟨RX5, "<init>", "(Z)V"⟩
abbrev cX5_append : ByteArray := prog_7_method_2_code
def yX5_append : MethodName := ⟨RX5, "append", "(I)Z"⟩
abbrev cX5_faultPlace : ByteArray := prog_7_method_3_code
def yX5_faultPlace : MethodName := ⟨RX5, "faultPlace", "()I"⟩
abbrev cX5_things : ByteArray := prog_7_method_4_code
def yX5_things : MethodName := ⟨RX5, "things", "()I"⟩
abbrev cX5_meaning : ByteArray := prog_7_method_5_code
def yX5_meaning : MethodName := ⟨RX5, "meaning", "(II)I"⟩
abbrev cX5_meaningAt : ByteArray := prog_7_method_6_code
def yX5_meaningAt : MethodName := ⟨RX5, "meaningAt", "(II)I"⟩
abbrev cX5_mayStand : ByteArray := prog_7_method_7_code
def yX5_mayStand : MethodName := ⟨RX5, "mayStand", "(II)Z"⟩
abbrev cX5_upTo : ByteArray := prog_7_method_8_code
def yX5_upTo : MethodName := ⟨RX5, "upTo", "(ICI)I"⟩
abbrev cX5_sortOf : ByteArray := prog_7_method_9_code
def yX5_sortOf : MethodName := ⟨RX5, "sortOf", "(I)I"⟩
def RX6 : String := "BreathBand"
def TX6 : u_T := fun k => match k with
  | 0 => ("BreathBand", "playersText", "LBreathBand$Text;", true)
  | 1 => ("BreathBand", "notesText", "LBreathBand$Text;", true)
  | 2 => ("BreathBand", "told", "LBreathBand$Band;", true)
  | 3 => ("BreathBand", "trial", "LBreathBand$Band;", true)
  | 4 => ("BreathBand", "asTold", "LBreathBand$Run;", true)
  | 5 => ("BreathBand", "tried", "LBreathBand$Run;", true)
  | 6 => ("BreathBand", "ear", "LBreathBand$Ear;", true)
  | 7 => ("BreathBand", "bestFill", "LBreathBand$Best;", true)
  | 8 => ("BreathBand", "bestSwap", "LBreathBand$Best;", true)
  | 9 => ("BreathBand", "bestHold", "LBreathBand$Best;", true)
  | 10 => ("BreathBand", "bestSpare", "LBreathBand$Best;", true)
  | 11 => ("BreathBand", "soundsWithout", "[I", true)
  | 12 => ("BreathBand", "alike", "[I", true)
  | 13 => ("BreathBand", "sheets", "[LBreathBand$Sheet;", true)
  | 14 => ("BreathBand", "toldKnown", "Z", false)
  | 15 => ("BreathBand", "subsetsKnown", "Z", false)
  | _ => ("BreathBand", "latestFinding", "I", false)
def tyX6 : Nat → FieldType := fun k => match k with
  | 0 => .object "BreathBand$Text"
  | 1 => .object "BreathBand$Text"
  | 2 => .object "BreathBand$Band"
  | 3 => .object "BreathBand$Band"
  | 4 => .object "BreathBand$Run"
  | 5 => .object "BreathBand$Run"
  | 6 => .object "BreathBand$Ear"
  | 7 => .object "BreathBand$Best"
  | 8 => .object "BreathBand$Best"
  | 9 => .object "BreathBand$Best"
  | 10 => .object "BreathBand$Best"
  | 11 => .array .int
  | 12 => .array .int
  | 13 => .array (.object "BreathBand$Sheet")
  | 14 => .boolean
  | 15 => .boolean
  | _ => .int
abbrev wsX60 : List Cond := u_ws RX6 TX6 17
theorem nmX6 : ∀ a, a < 17 → ∀ b, b < 17 → a ≠ b → (TX6 a).2.1 ≠ (TX6 b).2.1 := by decide +kernel
theorem tyX6_ok : ∀ k, k < 17 → parseFieldDescriptor (TX6 k).2.2.1 = some (tyX6 k) := by decide +kernel
abbrev cX6_init : ByteArray := prog_1_method_1_code
def yX6_init : MethodName := ⟨RX6, "<init>", "()V"⟩
abbrev cX6_type : ByteArray := prog_1_method_2_code
def yX6_type : MethodName := ⟨RX6, "type", "(II)I"⟩
abbrev cX6_wipe : ByteArray := prog_1_method_3_code
def yX6_wipe : MethodName := ⟨RX6, "wipe", "(I)I"⟩
abbrev cX6_undo : ByteArray := prog_1_method_4_code
def yX6_undo : MethodName := ⟨RX6, "undo", "(I)I"⟩
abbrev cX6_fault : ByteArray := prog_1_method_5_code
def yX6_fault : MethodName := ⟨RX6, "fault", "(I)I"⟩
abbrev cX6_player : ByteArray := prog_1_method_6_code
def yX6_player : MethodName := ⟨RX6, "player", "(II)I"⟩
abbrev cX6_note : ByteArray := prog_1_method_7_code
def yX6_note : MethodName := ⟨RX6, "note", "(II)I"⟩
abbrev cX6_bag : ByteArray := prog_1_method_8_code
def yX6_bag : MethodName := ⟨RX6, "bag", "(I)I"⟩
abbrev cX6_event : ByteArray := prog_1_method_9_code
def yX6_event : MethodName := ⟨RX6, "event", "(II)I"⟩
abbrev cX6_back : ByteArray := prog_1_method_10_code
def yX6_back : MethodName := ⟨RX6, "back", "()I"⟩
abbrev cX6_read : ByteArray := prog_1_method_11_code
def yX6_read : MethodName := ⟨RX6, "read", "(I)I"⟩
abbrev cX6_at : ByteArray := prog_1_method_12_code
def yX6_at : MethodName := ⟨RX6, "at", "(II)I"⟩
abbrev cX6_heard : ByteArray := prog_1_method_13_code
def yX6_heard : MethodName := ⟨RX6, "heard", "(I)I"⟩
abbrev cX6_takes : ByteArray := prog_1_method_14_code
def yX6_takes : MethodName := ⟨RX6, "takes", "(II)I"⟩
abbrev cX6_sum : ByteArray := prog_1_method_15_code
def yX6_sum : MethodName := ⟨RX6, "sum", "(I)I"⟩
abbrev cX6_flat : ByteArray := prog_1_method_16_code
def yX6_flat : MethodName := ⟨RX6, "flat", "()I"⟩
abbrev cX6_silent : ByteArray := prog_1_method_17_code
def yX6_silent : MethodName := ⟨RX6, "silent", "()I"⟩
abbrev cX6_greedy : ByteArray := prog_1_method_18_code
def yX6_greedy : MethodName := ⟨RX6, "greedy", "()I"⟩
abbrev cX6_fill : ByteArray := prog_1_method_19_code
def yX6_fill : MethodName := ⟨RX6, "fill", "(I)I"⟩
abbrev cX6_swap : ByteArray := prog_1_method_20_code
def yX6_swap : MethodName := ⟨RX6, "swap", "(I)I"⟩
abbrev cX6_hold : ByteArray := prog_1_method_21_code
def yX6_hold : MethodName := ⟨RX6, "hold", "(I)I"⟩
abbrev cX6_spare : ByteArray := prog_1_method_22_code
def yX6_spare : MethodName := ⟨RX6, "spare", "(I)I"⟩
abbrev cX6_hear : ByteArray := prog_1_method_23_code
def yX6_hear : MethodName := ⟨RX6, "hear", "(II)I"⟩
abbrev cX6_forget : ByteArray := prog_1_method_24_code
def yX6_forget : MethodName := ⟨RX6, "forget", "()I"⟩
abbrev cX6_never : ByteArray := prog_1_method_25_code
def yX6_never : MethodName := ⟨RX6, "never", "()I"⟩
abbrev cX6_was : ByteArray := prog_1_method_26_code
def yX6_was : MethodName := ⟨RX6, "was", "(II)I"⟩
abbrev cX6_ask : ByteArray := prog_1_method_27_code
def yX6_ask : MethodName := ⟨RX6, "ask", "(I)I"⟩
abbrev cX6_chance : ByteArray := prog_1_method_28_code
def yX6_chance : MethodName := ⟨RX6, "chance", "(III)J"⟩
abbrev cX6_years : ByteArray := prog_1_method_29_code
def yX6_years : MethodName := ⟨RX6, "years", "(III)I"⟩
abbrev cX6_sheet : ByteArray := prog_1_method_30_code
def yX6_sheet : MethodName := ⟨RX6, "sheet", "(III)I"⟩
abbrev cX6_lose : ByteArray := prog_1_method_31_code
def yX6_lose : MethodName := ⟨RX6, "lose", "(I)I"⟩
abbrev cX6_lay : ByteArray := prog_1_method_32_code
def yX6_lay : MethodName := ⟨RX6, "lay", "(IIII)I"⟩
abbrev cX6_get : ByteArray := prog_1_method_33_code
def yX6_get : MethodName := ⟨RX6, "get", "(III)I"⟩
abbrev cX6_copy : ByteArray := prog_1_method_34_code
def yX6_copy : MethodName := ⟨RX6, "copy", "(IIIII)I"⟩
abbrev cX6_write : ByteArray := prog_1_method_35_code
def yX6_write : MethodName := ⟨RX6, "write", "(I)I"⟩
abbrev cX6_count : ByteArray := prog_1_method_36_code
def yX6_count : MethodName := ⟨RX6, "count", "(I)I"⟩
abbrev cX6_digest : ByteArray := prog_1_method_37_code
def yX6_digest : MethodName := ⟨RX6, "digest", "()J"⟩
abbrev cX6_mixNotes : ByteArray := prog_1_method_38_code
def yX6_mixNotes : MethodName := ⟨RX6, "mixNotes", "(J)J"⟩
abbrev cX6_mixPlayers : ByteArray := prog_1_method_39_code
def yX6_mixPlayers : MethodName := ⟨RX6, "mixPlayers", "(J)J"⟩
abbrev cX6_mix : ByteArray := prog_1_method_40_code
def yX6_mix : MethodName := ⟨RX6, "mix", "(JJ)J"⟩
abbrev cX6_within : ByteArray := prog_1_method_41_code
def yX6_within : MethodName := ⟨RX6, "within", "(III)Z"⟩
abbrev cX6_isEvent : ByteArray := prog_1_method_42_code
def yX6_isEvent : MethodName := ⟨RX6, "isEvent", "(II)Z"⟩
abbrev cX6_isPlayer : ByteArray := prog_1_method_43_code
def yX6_isPlayer : MethodName := ⟨RX6, "isPlayer", "(I)Z"⟩
abbrev cX6_isNote : ByteArray := prog_1_method_44_code
def yX6_isNote : MethodName := ⟨RX6, "isNote", "(I)Z"⟩
abbrev cX6_textOf : ByteArray := prog_1_method_45_code
def yX6_textOf : MethodName := ⟨RX6, "textOf", "(I)LBreathBand$Text;"⟩
abbrev cX6_found : ByteArray := prog_1_method_46_code
def yX6_found : MethodName := ⟨RX6, "found", "(I)I"⟩
abbrev cX6_takeTexts : ByteArray := prog_1_method_47_code
def yX6_takeTexts : MethodName := ⟨RX6, "takeTexts", "()V"⟩
abbrev cX6_unlearn : ByteArray := prog_1_method_48_code
def yX6_unlearn : MethodName := ⟨RX6, "unlearn", "()V"⟩
abbrev cX6_runAsTold : ByteArray := prog_1_method_49_code
def yX6_runAsTold : MethodName := ⟨RX6, "runAsTold", "()LBreathBand$Run;"⟩
abbrev cX6_triedSounds : ByteArray := prog_1_method_50_code
def yX6_triedSounds : MethodName := ⟨RX6, "triedSounds", "()I"⟩
abbrev cX6_triedFits : ByteArray := prog_1_method_51_code
def yX6_triedFits : MethodName := ⟨RX6, "triedFits", "()Z"⟩
abbrev cX6_searchFill : ByteArray := prog_1_method_52_code
def yX6_searchFill : MethodName := ⟨RX6, "searchFill", "()V"⟩
abbrev cX6_searchSwap : ByteArray := prog_1_method_53_code
def yX6_searchSwap : MethodName := ⟨RX6, "searchSwap", "()V"⟩
abbrev cX6_searchHold : ByteArray := prog_1_method_54_code
def yX6_searchHold : MethodName := ⟨RX6, "searchHold", "()V"⟩
abbrev cX6_searchSpare : ByteArray := prog_1_method_55_code
def yX6_searchSpare : MethodName := ⟨RX6, "searchSpare", "()V"⟩
abbrev cX6_noneMissedWithout : ByteArray := prog_1_method_56_code
def yX6_noneMissedWithout : MethodName := ⟨RX6, "noneMissedWithout", "(I)Z"⟩
abbrev cX6_learnSubsets : ByteArray := prog_1_method_57_code
def yX6_learnSubsets : MethodName := ⟨RX6, "learnSubsets", "()V"⟩
abbrev cX6_weight : ByteArray := prog_1_method_58_code
def yX6_weight : MethodName := ⟨RX6, "weight", "(II)J"⟩
abbrev cX6_countAlike : ByteArray := prog_1_method_59_code
def yX6_countAlike : MethodName := ⟨RX6, "countAlike", "(I)V"⟩
abbrev cX6_mostAlike : ByteArray := prog_1_method_60_code
def yX6_mostAlike : MethodName := ⟨RX6, "mostAlike", "(I)I"⟩
abbrev cX6_drawNotes : ByteArray := prog_1_method_61_code
def yX6_drawNotes : MethodName := ⟨RX6, "drawNotes", "(II)V"⟩
abbrev cX6_nextSeed : ByteArray := prog_1_method_62_code
def yX6_nextSeed : MethodName := ⟨RX6, "nextSeed", "(I)I"⟩
def RX7 : String := "BreathBandModel"
def TX7 : u_T := fun k => match k with
  | 0 => ("BreathBandModel", "forms", "[I", true)
  | 1 => ("BreathBandModel", "sizes", "[I", true)
  | 2 => ("BreathBandModel", "items", "[I", true)
  | 3 => ("BreathBandModel", "moved", "[I", true)
  | 4 => ("BreathBandModel", "latest", "I", false)
  | 5 => ("BreathBandModel", "bytes", "[I", true)
  | 6 => ("BreathBandModel", "typed", "[I", true)
  | 7 => ("BreathBandModel", "players", "I", false)
  | 8 => ("BreathBandModel", "player", "[I", true)
  | 9 => ("BreathBandModel", "notes", "I", false)
  | 10 => ("BreathBandModel", "note", "[I", true)
  | 11 => ("BreathBandModel", "bag", "I", false)
  | 12 => ("BreathBandModel", "events", "I", false)
  | 13 => ("BreathBandModel", "event", "[I", true)
  | 14 => ("BreathBandModel", "gone", "I", false)
  | 15 => ("BreathBandModel", "oddBeat", "I", false)
  | 16 => ("BreathBandModel", "seat", "I", false)
  | 17 => ("BreathBandModel", "holds", "I", false)
  | 18 => ("BreathBandModel", "stolen", "I", false)
  | 19 => ("BreathBandModel", "leaks", "I", false)
  | 20 => ("BreathBandModel", "seatBy", "[I", true)
  | 21 => ("BreathBandModel", "holdsBy", "[I", true)
  | 22 => ("BreathBandModel", "lostBy", "[I", true)
  | 23 => ("BreathBandModel", "state", "[I", true)
  | 24 => ("BreathBandModel", "sounds", "[I", true)
  | 25 => ("BreathBandModel", "took", "[I", true)
  | 26 => ("BreathBandModel", "goes", "[I", true)
  | 27 => ("BreathBandModel", "sits", "[I", true)
  | 28 => ("BreathBandModel", "tales", "I", false)
  | 29 => ("BreathBandModel", "tale", "[I", true)
  | 30 => ("BreathBandModel", "ways", "[I", true)
  | _ => ("BreathBandModel", "drawn", "I", false)
def tyX7 : Nat → FieldType := fun k => match k with
  | 0 => .array .int
  | 1 => .array .int
  | 2 => .array .int
  | 3 => .array .int
  | 4 => .int
  | 5 => .array .int
  | 6 => .array .int
  | 7 => .int
  | 8 => .array .int
  | 9 => .int
  | 10 => .array .int
  | 11 => .int
  | 12 => .int
  | 13 => .array .int
  | 14 => .int
  | 15 => .int
  | 16 => .int
  | 17 => .int
  | 18 => .int
  | 19 => .int
  | 20 => .array .int
  | 21 => .array .int
  | 22 => .array .int
  | 23 => .array .int
  | 24 => .array .int
  | 25 => .array .int
  | 26 => .array .int
  | 27 => .array .int
  | 28 => .int
  | 29 => .array .int
  | 30 => .array .int
  | _ => .int
abbrev wsX70 : List Cond := u_ws RX7 TX7 32
theorem nmX7 : ∀ a, a < 32 → ∀ b, b < 32 → a ≠ b → (TX7 a).2.1 ≠ (TX7 b).2.1 := by decide +kernel
theorem tyX7_ok : ∀ k, k < 32 → parseFieldDescriptor (TX7 k).2.2.1 = some (tyX7 k) := by decide +kernel
abbrev cX7_init : ByteArray := prog_9_method_1_code
def yX7_init : MethodName := ⟨RX7, "<init>", "()V"⟩
abbrev cX7_in : ByteArray := prog_9_method_3_code
def yX7_in : MethodName := ⟨RX7, "in", "(JJJ)Z"⟩
abbrev cX7_no : ByteArray := prog_9_method_4_code
def yX7_no : MethodName := ⟨RX7, "no", "(I)J"⟩
abbrev cX7_isTwo : ByteArray := prog_9_method_5_code
def yX7_isTwo : MethodName := ⟨RX7, "isTwo", "(I)Z"⟩
abbrev cX7_isIn : ByteArray := prog_9_method_6_code
def yX7_isIn : MethodName := ⟨RX7, "isIn", "(II)Z"⟩
abbrev cX7_lesser : ByteArray := prog_9_method_7_code
def yX7_lesser : MethodName := ⟨RX7, "lesser", "(II)I"⟩
abbrev cX7_greater : ByteArray := prog_9_method_8_code
def yX7_greater : MethodName := ⟨RX7, "greater", "(II)I"⟩
abbrev cX7_apart : ByteArray := prog_9_method_9_code
def yX7_apart : MethodName := ⟨RX7, "apart", "(II)I"⟩
abbrev cX7_part : ByteArray := prog_9_method_10_code
def yX7_part : MethodName := ⟨RX7, "part", "(JJI)J"⟩
abbrev cX7_finds : ByteArray := prog_9_method_11_code
def yX7_finds : MethodName := ⟨RX7, "finds", "(I)I"⟩
abbrev cX7_isSheet : ByteArray := prog_9_method_12_code
def yX7_isSheet : MethodName := ⟨RX7, "isSheet", "(I)Z"⟩
abbrev cX7_sheet : ByteArray := prog_9_method_13_code
def yX7_sheet : MethodName := ⟨RX7, "sheet", "(III)I"⟩
abbrev cX7_lose : ByteArray := prog_9_method_14_code
def yX7_lose : MethodName := ⟨RX7, "lose", "(I)I"⟩
abbrev cX7_lacks : ByteArray := prog_9_method_15_code
def yX7_lacks : MethodName := ⟨RX7, "lacks", "(III)I"⟩
abbrev cX7_cut : ByteArray := prog_9_method_16_code
def yX7_cut : MethodName := ⟨RX7, "cut", "(II)I"⟩
abbrev cX7_lay : ByteArray := prog_9_method_17_code
def yX7_lay : MethodName := ⟨RX7, "lay", "(IIII)I"⟩
abbrev cX7_get : ByteArray := prog_9_method_18_code
def yX7_get : MethodName := ⟨RX7, "get", "(III)I"⟩
abbrev cX7_copy : ByteArray := prog_9_method_19_code
def yX7_copy : MethodName := ⟨RX7, "copy", "(IIIII)I"⟩
abbrev cX7_type : ByteArray := prog_9_method_20_code
def yX7_type : MethodName := ⟨RX7, "type", "(II)I"⟩
abbrev cX7_wipe : ByteArray := prog_9_method_21_code
def yX7_wipe : MethodName := ⟨RX7, "wipe", "(I)I"⟩
abbrev cX7_undo : ByteArray := prog_9_method_22_code
def yX7_undo : MethodName := ⟨RX7, "undo", "(I)I"⟩
abbrev cX7_playerOf : ByteArray := prog_9_method_23_code
def yX7_playerOf : MethodName := ⟨RX7, "playerOf", "(II)I"⟩
abbrev cX7_readsPlayers : ByteArray := prog_9_method_24_code
def yX7_readsPlayers : MethodName := ⟨RX7, "readsPlayers", "()I"⟩
abbrev cX7_letterOf : ByteArray := prog_9_method_25_code
def yX7_letterOf : MethodName := ⟨RX7, "letterOf", "(II)I"⟩
abbrev cX7_noteOf : ByteArray := prog_9_method_26_code
def yX7_noteOf : MethodName := ⟨RX7, "noteOf", "(II)I"⟩
abbrev cX7_readsNotes : ByteArray := prog_9_method_27_code
def yX7_readsNotes : MethodName := ⟨RX7, "readsNotes", "()I"⟩
abbrev cX7_readsText : ByteArray := prog_9_method_28_code
def yX7_readsText : MethodName := ⟨RX7, "readsText", "(I)I"⟩
abbrev cX7_fault : ByteArray := prog_9_method_29_code
def yX7_fault : MethodName := ⟨RX7, "fault", "(I)I"⟩
abbrev cX7_isPlayer : ByteArray := prog_9_method_30_code
def yX7_isPlayer : MethodName := ⟨RX7, "isPlayer", "(I)Z"⟩
abbrev cX7_isNote : ByteArray := prog_9_method_31_code
def yX7_isNote : MethodName := ⟨RX7, "isNote", "(I)Z"⟩
abbrev cX7_isBeat : ByteArray := prog_9_method_32_code
def yX7_isBeat : MethodName := ⟨RX7, "isBeat", "(I)Z"⟩
abbrev cX7_player : ByteArray := prog_9_method_33_code
def yX7_player : MethodName := ⟨RX7, "player", "(II)I"⟩
abbrev cX7_noteBy : ByteArray := prog_9_method_34_code
def yX7_noteBy : MethodName := ⟨RX7, "noteBy", "(II)I"⟩
abbrev cX7_note : ByteArray := prog_9_method_35_code
def yX7_note : MethodName := ⟨RX7, "note", "(II)I"⟩
abbrev cX7_bag : ByteArray := prog_9_method_36_code
def yX7_bag : MethodName := ⟨RX7, "bag", "(I)I"⟩
abbrev cX7_event : ByteArray := prog_9_method_37_code
def yX7_event : MethodName := ⟨RX7, "event", "(II)I"⟩
abbrev cX7_back : ByteArray := prog_9_method_38_code
def yX7_back : MethodName := ⟨RX7, "back", "()I"⟩
abbrev cX7_read : ByteArray := prog_9_method_39_code
def yX7_read : MethodName := ⟨RX7, "read", "(I)I"⟩
abbrev cX7_many : ByteArray := prog_9_method_40_code
def yX7_many : MethodName := ⟨RX7, "many", "(II)I"⟩
abbrev cX7_whoIn : ByteArray := prog_9_method_41_code
def yX7_whoIn : MethodName := ⟨RX7, "whoIn", "(I)I"⟩
abbrev cX7_blows : ByteArray := prog_9_method_42_code
def yX7_blows : MethodName := ⟨RX7, "blows", "(I)V"⟩
abbrev cX7_passes : ByteArray := prog_9_method_43_code
def yX7_passes : MethodName := ⟨RX7, "passes", "(I)V"⟩
abbrev cX7_lives : ByteArray := prog_9_method_44_code
def yX7_lives : MethodName := ⟨RX7, "lives", "()V"⟩
abbrev cX7_seats : ByteArray := prog_9_method_45_code
def yX7_seats : MethodName := ⟨RX7, "seats", "()V"⟩
abbrev cX7_find : ByteArray := prog_9_method_46_code
def yX7_find : MethodName := ⟨RX7, "find", "()V"⟩
abbrev cX7_atBy : ByteArray := prog_9_method_47_code
def yX7_atBy : MethodName := ⟨RX7, "atBy", "(II)I"⟩
abbrev cX7_at : ByteArray := prog_9_method_48_code
def yX7_at : MethodName := ⟨RX7, "at", "(II)I"⟩
abbrev cX7_heard : ByteArray := prog_9_method_49_code
def yX7_heard : MethodName := ⟨RX7, "heard", "(I)I"⟩
abbrev cX7_takesBy : ByteArray := prog_9_method_50_code
def yX7_takesBy : MethodName := ⟨RX7, "takesBy", "(II)I"⟩
abbrev cX7_takes : ByteArray := prog_9_method_51_code
def yX7_takes : MethodName := ⟨RX7, "takes", "(II)I"⟩
abbrev cX7_soundNow : ByteArray := prog_9_method_52_code
def yX7_soundNow : MethodName := ⟨RX7, "soundNow", "()I"⟩
abbrev cX7_sumBy : ByteArray := prog_9_method_53_code
def yX7_sumBy : MethodName := ⟨RX7, "sumBy", "(I)I"⟩
abbrev cX7_sum : ByteArray := prog_9_method_54_code
def yX7_sum : MethodName := ⟨RX7, "sum", "(I)I"⟩
abbrev cX7_flatNow : ByteArray := prog_9_method_55_code
def yX7_flatNow : MethodName := ⟨RX7, "flatNow", "()I"⟩
abbrev cX7_flat : ByteArray := prog_9_method_56_code
def yX7_flat : MethodName := ⟨RX7, "flat", "()I"⟩
abbrev cX7_silentNow : ByteArray := prog_9_method_57_code
def yX7_silentNow : MethodName := ⟨RX7, "silentNow", "()I"⟩
abbrev cX7_silent : ByteArray := prog_9_method_58_code
def yX7_silent : MethodName := ⟨RX7, "silent", "()I"⟩
abbrev cX7_greedyNow : ByteArray := prog_9_method_59_code
def yX7_greedyNow : MethodName := ⟨RX7, "greedyNow", "()I"⟩
abbrev cX7_greedy : ByteArray := prog_9_method_60_code
def yX7_greedy : MethodName := ⟨RX7, "greedy", "()I"⟩
abbrev cX7_fillBy : ByteArray := prog_9_method_61_code
def yX7_fillBy : MethodName := ⟨RX7, "fillBy", "(I)I"⟩
abbrev cX7_fill : ByteArray := prog_9_method_62_code
def yX7_fill : MethodName := ⟨RX7, "fill", "(I)I"⟩
abbrev cX7_swapBy : ByteArray := prog_9_method_63_code
def yX7_swapBy : MethodName := ⟨RX7, "swapBy", "(I)I"⟩
abbrev cX7_swap : ByteArray := prog_9_method_64_code
def yX7_swap : MethodName := ⟨RX7, "swap", "(I)I"⟩
abbrev cX7_holdBy : ByteArray := prog_9_method_65_code
def yX7_holdBy : MethodName := ⟨RX7, "holdBy", "(I)I"⟩
abbrev cX7_hold : ByteArray := prog_9_method_66_code
def yX7_hold : MethodName := ⟨RX7, "hold", "(I)I"⟩
abbrev cX7_isSpared : ByteArray := prog_9_method_67_code
def yX7_isSpared : MethodName := ⟨RX7, "isSpared", "(I)Z"⟩
abbrev cX7_spareBy : ByteArray := prog_9_method_68_code
def yX7_spareBy : MethodName := ⟨RX7, "spareBy", "(I)I"⟩
abbrev cX7_spare : ByteArray := prog_9_method_69_code
def yX7_spare : MethodName := ⟨RX7, "spare", "(I)I"⟩
abbrev cX7_hear : ByteArray := prog_9_method_70_code
def yX7_hear : MethodName := ⟨RX7, "hear", "(II)I"⟩
abbrev cX7_forget : ByteArray := prog_9_method_71_code
def yX7_forget : MethodName := ⟨RX7, "forget", "()I"⟩
abbrev cX7_isHeard : ByteArray := prog_9_method_72_code
def yX7_isHeard : MethodName := ⟨RX7, "isHeard", "()Z"⟩
abbrev cX7_neverNow : ByteArray := prog_9_method_73_code
def yX7_neverNow : MethodName := ⟨RX7, "neverNow", "()I"⟩
abbrev cX7_never : ByteArray := prog_9_method_74_code
def yX7_never : MethodName := ⟨RX7, "never", "()I"⟩
abbrev cX7_wasteOf : ByteArray := prog_9_method_75_code
def yX7_wasteOf : MethodName := ⟨RX7, "wasteOf", "(I)I"⟩
abbrev cX7_sortOf : ByteArray := prog_9_method_76_code
def yX7_sortOf : MethodName := ⟨RX7, "sortOf", "(I)I"⟩
abbrev cX7_wasOf : ByteArray := prog_9_method_77_code
def yX7_wasOf : MethodName := ⟨RX7, "wasOf", "(II)I"⟩
abbrev cX7_was : ByteArray := prog_9_method_78_code
def yX7_was : MethodName := ⟨RX7, "was", "(II)I"⟩
abbrev cX7_alike : ByteArray := prog_9_method_79_code
def yX7_alike : MethodName := ⟨RX7, "alike", "(II)I"⟩
abbrev cX7_askOf : ByteArray := prog_9_method_80_code
def yX7_askOf : MethodName := ⟨RX7, "askOf", "(I)I"⟩
abbrev cX7_ask : ByteArray := prog_9_method_81_code
def yX7_ask : MethodName := ⟨RX7, "ask", "(I)I"⟩
abbrev cX7_chanceOf : ByteArray := prog_9_method_82_code
def yX7_chanceOf : MethodName := ⟨RX7, "chanceOf", "(III)J"⟩
abbrev cX7_chance : ByteArray := prog_9_method_83_code
def yX7_chance : MethodName := ⟨RX7, "chance", "(III)J"⟩
abbrev cX7_lot : ByteArray := prog_9_method_84_code
def yX7_lot : MethodName := ⟨RX7, "lot", "(I)I"⟩
abbrev cX7_yearsOf : ByteArray := prog_9_method_85_code
def yX7_yearsOf : MethodName := ⟨RX7, "yearsOf", "(III)I"⟩
abbrev cX7_years : ByteArray := prog_9_method_86_code
def yX7_years : MethodName := ⟨RX7, "years", "(III)I"⟩
abbrev cX7_write : ByteArray := prog_9_method_87_code
def yX7_write : MethodName := ⟨RX7, "write", "(I)I"⟩
abbrev cX7_count : ByteArray := prog_9_method_88_code
def yX7_count : MethodName := ⟨RX7, "count", "(I)I"⟩
abbrev cX7_tellsNote : ByteArray := prog_9_method_89_code
def yX7_tellsNote : MethodName := ⟨RX7, "tellsNote", "(JI)J"⟩
abbrev cX7_tellsPlayer : ByteArray := prog_9_method_90_code
def yX7_tellsPlayer : MethodName := ⟨RX7, "tellsPlayer", "(JI)J"⟩
abbrev cX7_digest : ByteArray := prog_9_method_91_code
def yX7_digest : MethodName := ⟨RX7, "digest", "()J"⟩
def RJ6 : String := "java/lang/Integer"
abbrev cJ6_bitCount_0f7a4 : ByteArray := prog_10_method_49_code
def yJ6_bitCount_0f7a4 : MethodName := ⟨RJ6, "bitCount", "(I)I"⟩
def RJ9 : String := "java/lang/Math"
abbrev cJ9_abs_0f7a4 : ByteArray := prog_11_method_59_code
def yJ9_abs_0f7a4 : MethodName := ⟨RJ9, "abs", "(I)I"⟩
abbrev cJ9_max_7cf53 : ByteArray := prog_11_method_65_code
def yJ9_max_7cf53 : MethodName := ⟨RJ9, "max", "(II)I"⟩
abbrev cJ9_min_7cf53 : ByteArray := prog_11_method_69_code
def yJ9_min_7cf53 : MethodName := ⟨RJ9, "min", "(II)I"⟩
def RJ10 : String := "java/lang/System"
def RJ7 : String := "java/util/Arrays"
abbrev cJ7_fill_53178 : ByteArray := prog_13_method_103_code
def yJ7_fill_53178 : MethodName := ⟨RJ7, "fill", "([II)V"⟩
def RL : String := "BreathBandLaw"
abbrev cL_law : ByteArray := code
def yL_law : MethodName := ⟨RL, "law", "([I)Z"⟩
/-- the classes whose objects the world holds -/
abbrev vwCl : List vw_C := [(RX0, TX0, 15), (RX1, TX1, 4), (RX2, TX2, 3), (RX3, TX3, 17), (RX4, TX4, 4), (RX5, TX5, 5), (RX6, TX6, 17), (RX7, TX7, 32)]
end
section
theorem dX0_init_0 : decode cX0_init 0 = .ok (.aload_n 0, 1) := by decide +kernel
theorem dX0_init_1 : decode cX0_init 1 = .ok (.invokespecial 3, 3) := by decide +kernel
theorem dX0_init_4 : decode cX0_init 4 = .ok (.aload_n 0, 1) := by decide +kernel
theorem dX0_init_5 : decode cX0_init 5 = .ok (.iconst 0, 1) := by decide +kernel
theorem dX0_init_6 : decode cX0_init 6 = .ok (.putfield 9, 3) := by decide +kernel
theorem dX0_init_9 : decode cX0_init 9 = .ok (.aload_n 0, 1) := by decide +kernel
theorem dX0_init_10 : decode cX0_init 10 = .ok (.bipush 11, 2) := by decide +kernel
theorem dX0_init_12 : decode cX0_init 12 = .ok (.newarray .int, 2) := by decide +kernel
theorem dX0_init_14 : decode cX0_init 14 = .ok (.putfield 15, 3) := by decide +kernel
theorem dX0_init_17 : decode cX0_init 17 = .ok (.aload_n 0, 1) := by decide +kernel
theorem dX0_init_18 : decode cX0_init 18 = .ok (.bipush 11, 2) := by decide +kernel
theorem dX0_init_20 : decode cX0_init 20 = .ok (.newarray .int, 2) := by decide +kernel
theorem dX0_init_22 : decode cX0_init 22 = .ok (.putfield 19, 3) := by decide +kernel
theorem dX0_init_25 : decode cX0_init 25 = .ok (.aload_n 0, 1) := by decide +kernel
theorem dX0_init_26 : decode cX0_init 26 = .ok (.bipush 11, 2) := by decide +kernel
theorem dX0_init_28 : decode cX0_init 28 = .ok (.newarray .int, 2) := by decide +kernel
theorem dX0_init_30 : decode cX0_init 30 = .ok (.putfield 22, 3) := by decide +kernel
theorem dX0_init_33 : decode cX0_init 33 = .ok (.aload_n 0, 1) := by decide +kernel
theorem dX0_init_34 : decode cX0_init 34 = .ok (.bipush 11, 2) := by decide +kernel
theorem dX0_init_36 : decode cX0_init 36 = .ok (.newarray .int, 2) := by decide +kernel
theorem dX0_init_38 : decode cX0_init 38 = .ok (.putfield 25, 3) := by decide +kernel
theorem dX0_init_41 : decode cX0_init 41 = .ok (.aload_n 0, 1) := by decide +kernel
theorem dX0_init_42 : decode cX0_init 42 = .ok (.iconst 0, 1) := by decide +kernel
theorem dX0_init_43 : decode cX0_init 43 = .ok (.putfield 28, 3) := by decide +kernel
theorem dX0_init_46 : decode cX0_init 46 = .ok (.aload_n 0, 1) := by decide +kernel
theorem dX0_init_47 : decode cX0_init 47 = .ok (.bipush 16, 2) := by decide +kernel
theorem dX0_init_49 : decode cX0_init 49 = .ok (.newarray .int, 2) := by decide +kernel
theorem dX0_init_51 : decode cX0_init 51 = .ok (.putfield 31, 3) := by decide +kernel
theorem dX0_init_54 : decode cX0_init 54 = .ok (.aload_n 0, 1) := by decide +kernel
theorem dX0_init_55 : decode cX0_init 55 = .ok (.bipush 16, 2) := by decide +kernel
theorem dX0_init_57 : decode cX0_init 57 = .ok (.newarray .int, 2) := by decide +kernel
theorem dX0_init_59 : decode cX0_init 59 = .ok (.putfield 34, 3) := by decide +kernel
theorem dX0_init_62 : decode cX0_init 62 = .ok (.aload_n 0, 1) := by decide +kernel
theorem dX0_init_63 : decode cX0_init 63 = .ok (.bipush 24, 2) := by decide +kernel
theorem dX0_init_65 : decode cX0_init 65 = .ok (.newarray .int, 2) := by decide +kernel
theorem dX0_init_67 : decode cX0_init 67 = .ok (.putfield 37, 3) := by decide +kernel
theorem dX0_init_70 : decode cX0_init 70 = .ok (.aload_n 0, 1) := by decide +kernel
theorem dX0_init_71 : decode cX0_init 71 = .ok (.bipush 40, 2) := by decide +kernel
theorem dX0_init_73 : decode cX0_init 73 = .ok (.putfield 40, 3) := by decide +kernel
theorem dX0_init_76 : decode cX0_init 76 = .ok (.aload_n 0, 1) := by decide +kernel
theorem dX0_init_77 : decode cX0_init 77 = .ok (.iconst 0, 1) := by decide +kernel
theorem dX0_init_78 : decode cX0_init 78 = .ok (.putfield 43, 3) := by decide +kernel
theorem dX0_init_81 : decode cX0_init 81 = .ok (.aload_n 0, 1) := by decide +kernel
theorem dX0_init_82 : decode cX0_init 82 = .ok (.bipush 8, 2) := by decide +kernel
theorem dX0_init_84 : decode cX0_init 84 = .ok (.newarray .int, 2) := by decide +kernel
theorem dX0_init_86 : decode cX0_init 86 = .ok (.putfield 46, 3) := by decide +kernel
theorem dX0_init_89 : decode cX0_init 89 = .ok (.aload_n 0, 1) := by decide +kernel
theorem dX0_init_90 : decode cX0_init 90 = .ok (.bipush 8, 2) := by decide +kernel
theorem dX0_init_92 : decode cX0_init 92 = .ok (.newarray .int, 2) := by decide +kernel
theorem dX0_init_94 : decode cX0_init 94 = .ok (.putfield 49, 3) := by decide +kernel
theorem dX0_init_97 : decode cX0_init 97 = .ok (.aload_n 0, 1) := by decide +kernel
theorem dX0_init_98 : decode cX0_init 98 = .ok (.iconst 0, 1) := by decide +kernel
theorem dX0_init_99 : decode cX0_init 99 = .ok (.putfield 52, 3) := by decide +kernel
theorem dX0_init_102 : decode cX0_init 102 = .ok (.aload_n 0, 1) := by decide +kernel
theorem dX0_init_103 : decode cX0_init 103 = .ok (.iconst (-1), 1) := by decide +kernel
theorem dX0_init_104 : decode cX0_init 104 = .ok (.putfield 55, 3) := by decide +kernel
theorem dX0_init_107 : decode cX0_init 107 = .ok (.return_, 1) := by decide +kernel
theorem dX0_takePlayers_0 : decode cX0_takePlayers 0 = .ok (.aload_n 0, 1) := by decide +kernel
theorem dX0_takePlayers_1 : decode cX0_takePlayers 1 = .ok (.aload_n 1, 1) := by decide +kernel
theorem dX0_takePlayers_2 : decode cX0_takePlayers 2 = .ok (.invokevirtual 58, 3) := by decide +kernel
theorem dX0_takePlayers_5 : decode cX0_takePlayers 5 = .ok (.bipush 11, 2) := by decide +kernel
theorem dX0_takePlayers_7 : decode cX0_takePlayers 7 = .ok (.invokestatic 64, 3) := by decide +kernel
theorem dX0_takePlayers_10 : decode cX0_takePlayers 10 = .ok (.putfield 9, 3) := by decide +kernel
theorem dX0_takePlayers_13 : decode cX0_takePlayers 13 = .ok (.iconst 0, 1) := by decide +kernel
theorem dX0_takePlayers_14 : decode cX0_takePlayers 14 = .ok (.istore_n 2, 1) := by decide +kernel
theorem dX0_takePlayers_15 : decode cX0_takePlayers 15 = .ok (.iload_n 2, 1) := by decide +kernel
theorem dX0_takePlayers_16 : decode cX0_takePlayers 16 = .ok (.aload_n 0, 1) := by decide +kernel
theorem dX0_takePlayers_17 : decode cX0_takePlayers 17 = .ok (.getfield 9, 3) := by decide +kernel
theorem dX0_takePlayers_20 : decode cX0_takePlayers 20 = .ok (.if_icmp .ge 47, 3) := by decide +kernel
theorem dX0_takePlayers_23 : decode cX0_takePlayers 23 = .ok (.aload_n 0, 1) := by decide +kernel
theorem dX0_takePlayers_24 : decode cX0_takePlayers 24 = .ok (.getfield 15, 3) := by decide +kernel
theorem dX0_takePlayers_27 : decode cX0_takePlayers 27 = .ok (.iload_n 2, 1) := by decide +kernel
theorem dX0_takePlayers_28 : decode cX0_takePlayers 28 = .ok (.aload_n 1, 1) := by decide +kernel
theorem dX0_takePlayers_29 : decode cX0_takePlayers 29 = .ok (.iload_n 2, 1) := by decide +kernel
theorem dX0_takePlayers_30 : decode cX0_takePlayers 30 = .ok (.iconst 0, 1) := by decide +kernel
theorem dX0_takePlayers_31 : decode cX0_takePlayers 31 = .ok (.invokevirtual 70, 3) := by decide +kernel
theorem dX0_takePlayers_34 : decode cX0_takePlayers 34 = .ok (.iastore, 1) := by decide +kernel
theorem dX0_takePlayers_35 : decode cX0_takePlayers 35 = .ok (.aload_n 0, 1) := by decide +kernel
theorem dX0_takePlayers_36 : decode cX0_takePlayers 36 = .ok (.getfield 19, 3) := by decide +kernel
theorem dX0_takePlayers_39 : decode cX0_takePlayers 39 = .ok (.iload_n 2, 1) := by decide +kernel
theorem dX0_takePlayers_40 : decode cX0_takePlayers 40 = .ok (.aload_n 1, 1) := by decide +kernel
theorem dX0_takePlayers_41 : decode cX0_takePlayers 41 = .ok (.iload_n 2, 1) := by decide +kernel
theorem dX0_takePlayers_42 : decode cX0_takePlayers 42 = .ok (.iconst 1, 1) := by decide +kernel
theorem dX0_takePlayers_43 : decode cX0_takePlayers 43 = .ok (.invokevirtual 70, 3) := by decide +kernel
theorem dX0_takePlayers_46 : decode cX0_takePlayers 46 = .ok (.iastore, 1) := by decide +kernel
theorem dX0_takePlayers_47 : decode cX0_takePlayers 47 = .ok (.aload_n 0, 1) := by decide +kernel
theorem dX0_takePlayers_48 : decode cX0_takePlayers 48 = .ok (.getfield 22, 3) := by decide +kernel
theorem dX0_takePlayers_51 : decode cX0_takePlayers 51 = .ok (.iload_n 2, 1) := by decide +kernel
theorem dX0_takePlayers_52 : decode cX0_takePlayers 52 = .ok (.iload_n 2, 1) := by decide +kernel
theorem dX0_takePlayers_53 : decode cX0_takePlayers 53 = .ok (.iastore, 1) := by decide +kernel
theorem dX0_takePlayers_54 : decode cX0_takePlayers 54 = .ok (.aload_n 0, 1) := by decide +kernel
theorem dX0_takePlayers_55 : decode cX0_takePlayers 55 = .ok (.getfield 25, 3) := by decide +kernel
theorem dX0_takePlayers_58 : decode cX0_takePlayers 58 = .ok (.iload_n 2, 1) := by decide +kernel
theorem dX0_takePlayers_59 : decode cX0_takePlayers 59 = .ok (.iload_n 2, 1) := by decide +kernel
theorem dX0_takePlayers_60 : decode cX0_takePlayers 60 = .ok (.iastore, 1) := by decide +kernel
theorem dX0_takePlayers_61 : decode cX0_takePlayers 61 = .ok (.iinc 2 1, 3) := by decide +kernel
theorem dX0_takePlayers_64 : decode cX0_takePlayers 64 = .ok (.goto (-49), 3) := by decide +kernel
theorem dX0_takePlayers_67 : decode cX0_takePlayers 67 = .ok (.return_, 1) := by decide +kernel
theorem dX0_takeNotes_0 : decode cX0_takeNotes 0 = .ok (.aload_n 0, 1) := by decide +kernel
theorem dX0_takeNotes_1 : decode cX0_takeNotes 1 = .ok (.invokevirtual 73, 3) := by decide +kernel
theorem dX0_takeNotes_4 : decode cX0_takeNotes 4 = .ok (.aload_n 1, 1) := by decide +kernel
theorem dX0_takeNotes_5 : decode cX0_takeNotes 5 = .ok (.invokevirtual 58, 3) := by decide +kernel
theorem dX0_takeNotes_8 : decode cX0_takeNotes 8 = .ok (.istore_n 2, 1) := by decide +kernel
theorem dX0_takeNotes_9 : decode cX0_takeNotes 9 = .ok (.iconst 0, 1) := by decide +kernel
theorem dX0_takeNotes_10 : decode cX0_takeNotes 10 = .ok (.istore_n 3, 1) := by decide +kernel
theorem dX0_takeNotes_11 : decode cX0_takeNotes 11 = .ok (.iload_n 3, 1) := by decide +kernel
theorem dX0_takeNotes_12 : decode cX0_takeNotes 12 = .ok (.iload_n 2, 1) := by decide +kernel
theorem dX0_takeNotes_13 : decode cX0_takeNotes 13 = .ok (.if_icmp .ge 25, 3) := by decide +kernel
theorem dX0_takeNotes_16 : decode cX0_takeNotes 16 = .ok (.aload_n 0, 1) := by decide +kernel
theorem dX0_takeNotes_17 : decode cX0_takeNotes 17 = .ok (.aload_n 1, 1) := by decide +kernel
theorem dX0_takeNotes_18 : decode cX0_takeNotes 18 = .ok (.iload_n 3, 1) := by decide +kernel
theorem dX0_takeNotes_19 : decode cX0_takeNotes 19 = .ok (.iconst 0, 1) := by decide +kernel
theorem dX0_takeNotes_20 : decode cX0_takeNotes 20 = .ok (.invokevirtual 70, 3) := by decide +kernel
theorem dX0_takeNotes_23 : decode cX0_takeNotes 23 = .ok (.aload_n 1, 1) := by decide +kernel
theorem dX0_takeNotes_24 : decode cX0_takeNotes 24 = .ok (.iload_n 3, 1) := by decide +kernel
theorem dX0_takeNotes_25 : decode cX0_takeNotes 25 = .ok (.iconst 1, 1) := by decide +kernel
theorem dX0_takeNotes_26 : decode cX0_takeNotes 26 = .ok (.invokevirtual 70, 3) := by decide +kernel
theorem dX0_takeNotes_29 : decode cX0_takeNotes 29 = .ok (.invokevirtual 76, 3) := by decide +kernel
theorem dX0_takeNotes_32 : decode cX0_takeNotes 32 = .ok (.iinc 3 1, 3) := by decide +kernel
theorem dX0_takeNotes_35 : decode cX0_takeNotes 35 = .ok (.goto (-24), 3) := by decide +kernel
theorem dX0_takeNotes_38 : decode cX0_takeNotes 38 = .ok (.return_, 1) := by decide +kernel
theorem dX0_clearNotes_0 : decode cX0_clearNotes 0 = .ok (.aload_n 0, 1) := by decide +kernel
theorem dX0_clearNotes_1 : decode cX0_clearNotes 1 = .ok (.iconst 0, 1) := by decide +kernel
theorem dX0_clearNotes_2 : decode cX0_clearNotes 2 = .ok (.putfield 28, 3) := by decide +kernel
theorem dX0_clearNotes_5 : decode cX0_clearNotes 5 = .ok (.aload_n 0, 1) := by decide +kernel
theorem dX0_clearNotes_6 : decode cX0_clearNotes 6 = .ok (.getfield 37, 3) := by decide +kernel
theorem dX0_clearNotes_9 : decode cX0_clearNotes 9 = .ok (.iconst 0, 1) := by decide +kernel
theorem dX0_clearNotes_10 : decode cX0_clearNotes 10 = .ok (.invokestatic 80, 3) := by decide +kernel
theorem dX0_clearNotes_13 : decode cX0_clearNotes 13 = .ok (.return_, 1) := by decide +kernel
theorem dX0_addNote_0 : decode cX0_addNote 0 = .ok (.aload_n 0, 1) := by decide +kernel
theorem dX0_addNote_1 : decode cX0_addNote 1 = .ok (.getfield 28, 3) := by decide +kernel
theorem dX0_addNote_4 : decode cX0_addNote 4 = .ok (.bipush 16, 2) := by decide +kernel
theorem dX0_addNote_6 : decode cX0_addNote 6 = .ok (.if_icmp .ge 23, 3) := by decide +kernel
theorem dX0_addNote_9 : decode cX0_addNote 9 = .ok (.iload_n 1, 1) := by decide +kernel
theorem dX0_addNote_10 : decode cX0_addNote 10 = .ok (.iconst 0, 1) := by decide +kernel
theorem dX0_addNote_11 : decode cX0_addNote 11 = .ok (.bipush 23, 2) := by decide +kernel
theorem dX0_addNote_13 : decode cX0_addNote 13 = .ok (.invokestatic 86, 3) := by decide +kernel
theorem dX0_addNote_16 : decode cX0_addNote 16 = .ok (.ifCond .eq 13, 3) := by decide +kernel
theorem dX0_addNote_19 : decode cX0_addNote 19 = .ok (.iload_n 2, 1) := by decide +kernel
theorem dX0_addNote_20 : decode cX0_addNote 20 = .ok (.iconst 0, 1) := by decide +kernel
theorem dX0_addNote_21 : decode cX0_addNote 21 = .ok (.bipush 10, 2) := by decide +kernel
theorem dX0_addNote_23 : decode cX0_addNote 23 = .ok (.invokestatic 86, 3) := by decide +kernel
theorem dX0_addNote_26 : decode cX0_addNote 26 = .ok (.ifCond .ne 4, 3) := by decide +kernel
theorem dX0_addNote_29 : decode cX0_addNote 29 = .ok (.return_, 1) := by decide +kernel
theorem dX0_addNote_30 : decode cX0_addNote 30 = .ok (.aload_n 0, 1) := by decide +kernel
theorem dX0_addNote_31 : decode cX0_addNote 31 = .ok (.getfield 31, 3) := by decide +kernel
theorem dX0_addNote_34 : decode cX0_addNote 34 = .ok (.aload_n 0, 1) := by decide +kernel
theorem dX0_addNote_35 : decode cX0_addNote 35 = .ok (.getfield 28, 3) := by decide +kernel
theorem dX0_addNote_38 : decode cX0_addNote 38 = .ok (.iload_n 1, 1) := by decide +kernel
theorem dX0_addNote_39 : decode cX0_addNote 39 = .ok (.iastore, 1) := by decide +kernel
theorem dX0_addNote_40 : decode cX0_addNote 40 = .ok (.aload_n 0, 1) := by decide +kernel
theorem dX0_addNote_41 : decode cX0_addNote 41 = .ok (.getfield 34, 3) := by decide +kernel
theorem dX0_addNote_44 : decode cX0_addNote 44 = .ok (.aload_n 0, 1) := by decide +kernel
theorem dX0_addNote_45 : decode cX0_addNote 45 = .ok (.getfield 28, 3) := by decide +kernel
theorem dX0_addNote_48 : decode cX0_addNote 48 = .ok (.iload_n 2, 1) := by decide +kernel
theorem dX0_addNote_49 : decode cX0_addNote 49 = .ok (.iastore, 1) := by decide +kernel
theorem dX0_addNote_50 : decode cX0_addNote 50 = .ok (.aload_n 0, 1) := by decide +kernel
theorem dX0_addNote_51 : decode cX0_addNote 51 = .ok (.getfield 37, 3) := by decide +kernel
theorem dX0_addNote_54 : decode cX0_addNote 54 = .ok (.iload_n 1, 1) := by decide +kernel
theorem dX0_addNote_55 : decode cX0_addNote 55 = .ok (.dup2, 1) := by decide +kernel
theorem dX0_addNote_56 : decode cX0_addNote 56 = .ok (.iaload, 1) := by decide +kernel
theorem dX0_addNote_57 : decode cX0_addNote 57 = .ok (.iconst 1, 1) := by decide +kernel
theorem dX0_addNote_58 : decode cX0_addNote 58 = .ok (.aload_n 0, 1) := by decide +kernel
theorem dX0_addNote_59 : decode cX0_addNote 59 = .ok (.getfield 28, 3) := by decide +kernel
theorem dX0_addNote_62 : decode cX0_addNote 62 = .ok (.ishl, 1) := by decide +kernel
theorem dX0_addNote_63 : decode cX0_addNote 63 = .ok (.ior, 1) := by decide +kernel
theorem dX0_addNote_64 : decode cX0_addNote 64 = .ok (.iastore, 1) := by decide +kernel
theorem dX0_addNote_65 : decode cX0_addNote 65 = .ok (.aload_n 0, 1) := by decide +kernel
theorem dX0_addNote_66 : decode cX0_addNote 66 = .ok (.dup, 1) := by decide +kernel
theorem dX0_addNote_67 : decode cX0_addNote 67 = .ok (.getfield 28, 3) := by decide +kernel
theorem dX0_addNote_70 : decode cX0_addNote 70 = .ok (.iconst 1, 1) := by decide +kernel
theorem dX0_addNote_71 : decode cX0_addNote 71 = .ok (.iadd, 1) := by decide +kernel
theorem dX0_addNote_72 : decode cX0_addNote 72 = .ok (.putfield 28, 3) := by decide +kernel
theorem dX0_addNote_75 : decode cX0_addNote 75 = .ok (.return_, 1) := by decide +kernel
theorem dX0_addEvent_0 : decode cX0_addEvent 0 = .ok (.aload_n 0, 1) := by decide +kernel
theorem dX0_addEvent_1 : decode cX0_addEvent 1 = .ok (.getfield 43, 3) := by decide +kernel
theorem dX0_addEvent_4 : decode cX0_addEvent 4 = .ok (.bipush 8, 2) := by decide +kernel
theorem dX0_addEvent_6 : decode cX0_addEvent 6 = .ok (.if_icmp .ge 11, 3) := by decide +kernel
theorem dX0_addEvent_9 : decode cX0_addEvent 9 = .ok (.iload_n 1, 1) := by decide +kernel
theorem dX0_addEvent_10 : decode cX0_addEvent 10 = .ok (.iload_n 2, 1) := by decide +kernel
theorem dX0_addEvent_11 : decode cX0_addEvent 11 = .ok (.invokestatic 90, 3) := by decide +kernel
theorem dX0_addEvent_14 : decode cX0_addEvent 14 = .ok (.ifCond .ne 5, 3) := by decide +kernel
theorem dX0_addEvent_17 : decode cX0_addEvent 17 = .ok (.iconst 0, 1) := by decide +kernel
theorem dX0_addEvent_18 : decode cX0_addEvent 18 = .ok (.ireturn, 1) := by decide +kernel
theorem dX0_addEvent_19 : decode cX0_addEvent 19 = .ok (.aload_n 0, 1) := by decide +kernel
theorem dX0_addEvent_20 : decode cX0_addEvent 20 = .ok (.getfield 46, 3) := by decide +kernel
theorem dX0_addEvent_23 : decode cX0_addEvent 23 = .ok (.aload_n 0, 1) := by decide +kernel
theorem dX0_addEvent_24 : decode cX0_addEvent 24 = .ok (.getfield 43, 3) := by decide +kernel
theorem dX0_addEvent_27 : decode cX0_addEvent 27 = .ok (.iload_n 1, 1) := by decide +kernel
theorem dX0_addEvent_28 : decode cX0_addEvent 28 = .ok (.iastore, 1) := by decide +kernel
theorem dX0_addEvent_29 : decode cX0_addEvent 29 = .ok (.aload_n 0, 1) := by decide +kernel
theorem dX0_addEvent_30 : decode cX0_addEvent 30 = .ok (.getfield 49, 3) := by decide +kernel
theorem dX0_addEvent_33 : decode cX0_addEvent 33 = .ok (.aload_n 0, 1) := by decide +kernel
theorem dX0_addEvent_34 : decode cX0_addEvent 34 = .ok (.getfield 43, 3) := by decide +kernel
theorem dX0_addEvent_37 : decode cX0_addEvent 37 = .ok (.iload_n 2, 1) := by decide +kernel
theorem dX0_addEvent_38 : decode cX0_addEvent 38 = .ok (.iastore, 1) := by decide +kernel
theorem dX0_addEvent_39 : decode cX0_addEvent 39 = .ok (.aload_n 0, 1) := by decide +kernel
theorem dX0_addEvent_40 : decode cX0_addEvent 40 = .ok (.dup, 1) := by decide +kernel
theorem dX0_addEvent_41 : decode cX0_addEvent 41 = .ok (.getfield 43, 3) := by decide +kernel
theorem dX0_addEvent_44 : decode cX0_addEvent 44 = .ok (.iconst 1, 1) := by decide +kernel
theorem dX0_addEvent_45 : decode cX0_addEvent 45 = .ok (.iadd, 1) := by decide +kernel
theorem dX0_addEvent_46 : decode cX0_addEvent 46 = .ok (.putfield 43, 3) := by decide +kernel
theorem dX0_addEvent_49 : decode cX0_addEvent 49 = .ok (.iconst 1, 1) := by decide +kernel
theorem dX0_addEvent_50 : decode cX0_addEvent 50 = .ok (.ireturn, 1) := by decide +kernel
theorem dX0_become_0 : decode cX0_become 0 = .ok (.aload_n 0, 1) := by decide +kernel
theorem dX0_become_1 : decode cX0_become 1 = .ok (.aload_n 1, 1) := by decide +kernel
theorem dX0_become_2 : decode cX0_become 2 = .ok (.getfield 9, 3) := by decide +kernel
theorem dX0_become_5 : decode cX0_become 5 = .ok (.putfield 9, 3) := by decide +kernel
theorem dX0_become_8 : decode cX0_become 8 = .ok (.aload_n 1, 1) := by decide +kernel
theorem dX0_become_9 : decode cX0_become 9 = .ok (.getfield 15, 3) := by decide +kernel
theorem dX0_become_12 : decode cX0_become 12 = .ok (.iconst 0, 1) := by decide +kernel
theorem dX0_become_13 : decode cX0_become 13 = .ok (.aload_n 0, 1) := by decide +kernel
theorem dX0_become_14 : decode cX0_become 14 = .ok (.getfield 15, 3) := by decide +kernel
theorem dX0_become_17 : decode cX0_become 17 = .ok (.iconst 0, 1) := by decide +kernel
theorem dX0_become_18 : decode cX0_become 18 = .ok (.bipush 11, 2) := by decide +kernel
theorem dX0_become_20 : decode cX0_become 20 = .ok (.invokestatic 94, 3) := by decide +kernel
theorem dX0_become_23 : decode cX0_become 23 = .ok (.aload_n 1, 1) := by decide +kernel
theorem dX0_become_24 : decode cX0_become 24 = .ok (.getfield 19, 3) := by decide +kernel
theorem dX0_become_27 : decode cX0_become 27 = .ok (.iconst 0, 1) := by decide +kernel
theorem dX0_become_28 : decode cX0_become 28 = .ok (.aload_n 0, 1) := by decide +kernel
theorem dX0_become_29 : decode cX0_become 29 = .ok (.getfield 19, 3) := by decide +kernel
theorem dX0_become_32 : decode cX0_become 32 = .ok (.iconst 0, 1) := by decide +kernel
theorem dX0_become_33 : decode cX0_become 33 = .ok (.bipush 11, 2) := by decide +kernel
theorem dX0_become_35 : decode cX0_become 35 = .ok (.invokestatic 94, 3) := by decide +kernel
theorem dX0_become_38 : decode cX0_become 38 = .ok (.aload_n 1, 1) := by decide +kernel
theorem dX0_become_39 : decode cX0_become 39 = .ok (.getfield 22, 3) := by decide +kernel
theorem dX0_become_42 : decode cX0_become 42 = .ok (.iconst 0, 1) := by decide +kernel
theorem dX0_become_43 : decode cX0_become 43 = .ok (.aload_n 0, 1) := by decide +kernel
theorem dX0_become_44 : decode cX0_become 44 = .ok (.getfield 22, 3) := by decide +kernel
theorem dX0_become_47 : decode cX0_become 47 = .ok (.iconst 0, 1) := by decide +kernel
theorem dX0_become_48 : decode cX0_become 48 = .ok (.bipush 11, 2) := by decide +kernel
theorem dX0_become_50 : decode cX0_become 50 = .ok (.invokestatic 94, 3) := by decide +kernel
theorem dX0_become_53 : decode cX0_become 53 = .ok (.aload_n 1, 1) := by decide +kernel
theorem dX0_become_54 : decode cX0_become 54 = .ok (.getfield 25, 3) := by decide +kernel
theorem dX0_become_57 : decode cX0_become 57 = .ok (.iconst 0, 1) := by decide +kernel
theorem dX0_become_58 : decode cX0_become 58 = .ok (.aload_n 0, 1) := by decide +kernel
theorem dX0_become_59 : decode cX0_become 59 = .ok (.getfield 25, 3) := by decide +kernel
theorem dX0_become_62 : decode cX0_become 62 = .ok (.iconst 0, 1) := by decide +kernel
theorem dX0_become_63 : decode cX0_become 63 = .ok (.bipush 11, 2) := by decide +kernel
theorem dX0_become_65 : decode cX0_become 65 = .ok (.invokestatic 94, 3) := by decide +kernel
theorem dX0_become_68 : decode cX0_become 68 = .ok (.aload_n 0, 1) := by decide +kernel
theorem dX0_become_69 : decode cX0_become 69 = .ok (.aload_n 1, 1) := by decide +kernel
theorem dX0_become_70 : decode cX0_become 70 = .ok (.getfield 28, 3) := by decide +kernel
theorem dX0_become_73 : decode cX0_become 73 = .ok (.putfield 28, 3) := by decide +kernel
theorem dX0_become_76 : decode cX0_become 76 = .ok (.aload_n 1, 1) := by decide +kernel
theorem dX0_become_77 : decode cX0_become 77 = .ok (.getfield 31, 3) := by decide +kernel
theorem dX0_become_80 : decode cX0_become 80 = .ok (.iconst 0, 1) := by decide +kernel
theorem dX0_become_81 : decode cX0_become 81 = .ok (.aload_n 0, 1) := by decide +kernel
theorem dX0_become_82 : decode cX0_become 82 = .ok (.getfield 31, 3) := by decide +kernel
theorem dX0_become_85 : decode cX0_become 85 = .ok (.iconst 0, 1) := by decide +kernel
theorem dX0_become_86 : decode cX0_become 86 = .ok (.bipush 16, 2) := by decide +kernel
theorem dX0_become_88 : decode cX0_become 88 = .ok (.invokestatic 94, 3) := by decide +kernel
theorem dX0_become_91 : decode cX0_become 91 = .ok (.aload_n 1, 1) := by decide +kernel
theorem dX0_become_92 : decode cX0_become 92 = .ok (.getfield 34, 3) := by decide +kernel
theorem dX0_become_95 : decode cX0_become 95 = .ok (.iconst 0, 1) := by decide +kernel
theorem dX0_become_96 : decode cX0_become 96 = .ok (.aload_n 0, 1) := by decide +kernel
theorem dX0_become_97 : decode cX0_become 97 = .ok (.getfield 34, 3) := by decide +kernel
theorem dX0_become_100 : decode cX0_become 100 = .ok (.iconst 0, 1) := by decide +kernel
theorem dX0_become_101 : decode cX0_become 101 = .ok (.bipush 16, 2) := by decide +kernel
theorem dX0_become_103 : decode cX0_become 103 = .ok (.invokestatic 94, 3) := by decide +kernel
theorem dX0_become_106 : decode cX0_become 106 = .ok (.aload_n 1, 1) := by decide +kernel
theorem dX0_become_107 : decode cX0_become 107 = .ok (.getfield 37, 3) := by decide +kernel
theorem dX0_become_110 : decode cX0_become 110 = .ok (.iconst 0, 1) := by decide +kernel
theorem dX0_become_111 : decode cX0_become 111 = .ok (.aload_n 0, 1) := by decide +kernel
theorem dX0_become_112 : decode cX0_become 112 = .ok (.getfield 37, 3) := by decide +kernel
theorem dX0_become_115 : decode cX0_become 115 = .ok (.iconst 0, 1) := by decide +kernel
theorem dX0_become_116 : decode cX0_become 116 = .ok (.bipush 24, 2) := by decide +kernel
theorem dX0_become_118 : decode cX0_become 118 = .ok (.invokestatic 94, 3) := by decide +kernel
theorem dX0_become_121 : decode cX0_become 121 = .ok (.aload_n 0, 1) := by decide +kernel
theorem dX0_become_122 : decode cX0_become 122 = .ok (.aload_n 1, 1) := by decide +kernel
theorem dX0_become_123 : decode cX0_become 123 = .ok (.getfield 40, 3) := by decide +kernel
theorem dX0_become_126 : decode cX0_become 126 = .ok (.putfield 40, 3) := by decide +kernel
theorem dX0_become_129 : decode cX0_become 129 = .ok (.aload_n 0, 1) := by decide +kernel
theorem dX0_become_130 : decode cX0_become 130 = .ok (.aload_n 1, 1) := by decide +kernel
theorem dX0_become_131 : decode cX0_become 131 = .ok (.getfield 43, 3) := by decide +kernel
theorem dX0_become_134 : decode cX0_become 134 = .ok (.putfield 43, 3) := by decide +kernel
theorem dX0_become_137 : decode cX0_become 137 = .ok (.aload_n 1, 1) := by decide +kernel
theorem dX0_become_138 : decode cX0_become 138 = .ok (.getfield 46, 3) := by decide +kernel
theorem dX0_become_141 : decode cX0_become 141 = .ok (.iconst 0, 1) := by decide +kernel
theorem dX0_become_142 : decode cX0_become 142 = .ok (.aload_n 0, 1) := by decide +kernel
theorem dX0_become_143 : decode cX0_become 143 = .ok (.getfield 46, 3) := by decide +kernel
theorem dX0_become_146 : decode cX0_become 146 = .ok (.iconst 0, 1) := by decide +kernel
theorem dX0_become_147 : decode cX0_become 147 = .ok (.bipush 8, 2) := by decide +kernel
theorem dX0_become_149 : decode cX0_become 149 = .ok (.invokestatic 94, 3) := by decide +kernel
theorem dX0_become_152 : decode cX0_become 152 = .ok (.aload_n 1, 1) := by decide +kernel
theorem dX0_become_153 : decode cX0_become 153 = .ok (.getfield 49, 3) := by decide +kernel
theorem dX0_become_156 : decode cX0_become 156 = .ok (.iconst 0, 1) := by decide +kernel
theorem dX0_become_157 : decode cX0_become 157 = .ok (.aload_n 0, 1) := by decide +kernel
theorem dX0_become_158 : decode cX0_become 158 = .ok (.getfield 49, 3) := by decide +kernel
theorem dX0_become_161 : decode cX0_become 161 = .ok (.iconst 0, 1) := by decide +kernel
theorem dX0_become_162 : decode cX0_become 162 = .ok (.bipush 8, 2) := by decide +kernel
theorem dX0_become_164 : decode cX0_become 164 = .ok (.invokestatic 94, 3) := by decide +kernel
theorem dX0_become_167 : decode cX0_become 167 = .ok (.aload_n 0, 1) := by decide +kernel
theorem dX0_become_168 : decode cX0_become 168 = .ok (.aload_n 1, 1) := by decide +kernel
theorem dX0_become_169 : decode cX0_become 169 = .ok (.getfield 52, 3) := by decide +kernel
theorem dX0_become_172 : decode cX0_become 172 = .ok (.putfield 52, 3) := by decide +kernel
theorem dX0_become_175 : decode cX0_become 175 = .ok (.aload_n 0, 1) := by decide +kernel
theorem dX0_become_176 : decode cX0_become 176 = .ok (.aload_n 1, 1) := by decide +kernel
theorem dX0_become_177 : decode cX0_become 177 = .ok (.getfield 55, 3) := by decide +kernel
theorem dX0_become_180 : decode cX0_become 180 = .ok (.putfield 55, 3) := by decide +kernel
theorem dX0_become_183 : decode cX0_become 183 = .ok (.return_, 1) := by decide +kernel
theorem dX0_changeSeats_0 : decode cX0_changeSeats 0 = .ok (.aload_n 0, 1) := by decide +kernel
theorem dX0_changeSeats_1 : decode cX0_changeSeats 1 = .ok (.getfield 22, 3) := by decide +kernel
theorem dX0_changeSeats_4 : decode cX0_changeSeats 4 = .ok (.iload_n 1, 1) := by decide +kernel
theorem dX0_changeSeats_5 : decode cX0_changeSeats 5 = .ok (.iaload, 1) := by decide +kernel
theorem dX0_changeSeats_6 : decode cX0_changeSeats 6 = .ok (.istore_n 3, 1) := by decide +kernel
theorem dX0_changeSeats_7 : decode cX0_changeSeats 7 = .ok (.aload_n 0, 1) := by decide +kernel
theorem dX0_changeSeats_8 : decode cX0_changeSeats 8 = .ok (.getfield 22, 3) := by decide +kernel
theorem dX0_changeSeats_11 : decode cX0_changeSeats 11 = .ok (.iload_n 1, 1) := by decide +kernel
theorem dX0_changeSeats_12 : decode cX0_changeSeats 12 = .ok (.aload_n 0, 1) := by decide +kernel
theorem dX0_changeSeats_13 : decode cX0_changeSeats 13 = .ok (.getfield 22, 3) := by decide +kernel
theorem dX0_changeSeats_16 : decode cX0_changeSeats 16 = .ok (.iload_n 2, 1) := by decide +kernel
theorem dX0_changeSeats_17 : decode cX0_changeSeats 17 = .ok (.iaload, 1) := by decide +kernel
theorem dX0_changeSeats_18 : decode cX0_changeSeats 18 = .ok (.iastore, 1) := by decide +kernel
theorem dX0_changeSeats_19 : decode cX0_changeSeats 19 = .ok (.aload_n 0, 1) := by decide +kernel
theorem dX0_changeSeats_20 : decode cX0_changeSeats 20 = .ok (.getfield 22, 3) := by decide +kernel
theorem dX0_changeSeats_23 : decode cX0_changeSeats 23 = .ok (.iload_n 2, 1) := by decide +kernel
theorem dX0_changeSeats_24 : decode cX0_changeSeats 24 = .ok (.iload_n 3, 1) := by decide +kernel
theorem dX0_changeSeats_25 : decode cX0_changeSeats 25 = .ok (.iastore, 1) := by decide +kernel
theorem dX0_changeSeats_26 : decode cX0_changeSeats 26 = .ok (.aload_n 0, 1) := by decide +kernel
theorem dX0_changeSeats_27 : decode cX0_changeSeats 27 = .ok (.getfield 25, 3) := by decide +kernel
theorem dX0_changeSeats_30 : decode cX0_changeSeats 30 = .ok (.aload_n 0, 1) := by decide +kernel
theorem dX0_changeSeats_31 : decode cX0_changeSeats 31 = .ok (.getfield 22, 3) := by decide +kernel
theorem dX0_changeSeats_34 : decode cX0_changeSeats 34 = .ok (.iload_n 1, 1) := by decide +kernel
theorem dX0_changeSeats_35 : decode cX0_changeSeats 35 = .ok (.iaload, 1) := by decide +kernel
theorem dX0_changeSeats_36 : decode cX0_changeSeats 36 = .ok (.iload_n 1, 1) := by decide +kernel
theorem dX0_changeSeats_37 : decode cX0_changeSeats 37 = .ok (.iastore, 1) := by decide +kernel
theorem dX0_changeSeats_38 : decode cX0_changeSeats 38 = .ok (.aload_n 0, 1) := by decide +kernel
theorem dX0_changeSeats_39 : decode cX0_changeSeats 39 = .ok (.getfield 25, 3) := by decide +kernel
theorem dX0_changeSeats_42 : decode cX0_changeSeats 42 = .ok (.aload_n 0, 1) := by decide +kernel
theorem dX0_changeSeats_43 : decode cX0_changeSeats 43 = .ok (.getfield 22, 3) := by decide +kernel
theorem dX0_changeSeats_46 : decode cX0_changeSeats 46 = .ok (.iload_n 2, 1) := by decide +kernel
theorem dX0_changeSeats_47 : decode cX0_changeSeats 47 = .ok (.iaload, 1) := by decide +kernel
theorem dX0_changeSeats_48 : decode cX0_changeSeats 48 = .ok (.iload_n 2, 1) := by decide +kernel
theorem dX0_changeSeats_49 : decode cX0_changeSeats 49 = .ok (.iastore, 1) := by decide +kernel
theorem dX0_changeSeats_50 : decode cX0_changeSeats 50 = .ok (.return_, 1) := by decide +kernel
theorem dX1_init_0 : decode cX1_init 0 = .ok (.aload_n 0, 1) := by decide +kernel
theorem dX1_init_1 : decode cX1_init 1 = .ok (.invokespecial 3, 3) := by decide +kernel
theorem dX1_init_4 : decode cX1_init 4 = .ok (.aload_n 0, 1) := by decide +kernel
theorem dX1_init_5 : decode cX1_init 5 = .ok (.iconst 0, 1) := by decide +kernel
theorem dX1_init_6 : decode cX1_init 6 = .ok (.putfield 9, 3) := by decide +kernel
theorem dX1_init_9 : decode cX1_init 9 = .ok (.return_, 1) := by decide +kernel
theorem dX1_begin_0 : decode cX1_begin 0 = .ok (.aload_n 0, 1) := by decide +kernel
theorem dX1_begin_1 : decode cX1_begin 1 = .ok (.iconst 1, 1) := by decide +kernel
theorem dX1_begin_2 : decode cX1_begin 2 = .ok (.putfield 9, 3) := by decide +kernel
theorem dX1_begin_5 : decode cX1_begin 5 = .ok (.aload_n 0, 1) := by decide +kernel
theorem dX1_begin_6 : decode cX1_begin 6 = .ok (.iconst (-1), 1) := by decide +kernel
theorem dX1_begin_7 : decode cX1_begin 7 = .ok (.putfield 15, 3) := by decide +kernel
theorem dX1_begin_10 : decode cX1_begin 10 = .ok (.aload_n 0, 1) := by decide +kernel
theorem dX1_begin_11 : decode cX1_begin 11 = .ok (.iconst (-1), 1) := by decide +kernel
theorem dX1_begin_12 : decode cX1_begin 12 = .ok (.putfield 19, 3) := by decide +kernel
theorem dX1_begin_15 : decode cX1_begin 15 = .ok (.aload_n 0, 1) := by decide +kernel
theorem dX1_begin_16 : decode cX1_begin 16 = .ok (.iconst (-1), 1) := by decide +kernel
theorem dX1_begin_17 : decode cX1_begin 17 = .ok (.putfield 22, 3) := by decide +kernel
theorem dX1_begin_20 : decode cX1_begin 20 = .ok (.return_, 1) := by decide +kernel
theorem dX1_offer_0 : decode cX1_offer 0 = .ok (.iload_n 3, 1) := by decide +kernel
theorem dX1_offer_1 : decode cX1_offer 1 = .ok (.aload_n 0, 1) := by decide +kernel
theorem dX1_offer_2 : decode cX1_offer 2 = .ok (.getfield 22, 3) := by decide +kernel
theorem dX1_offer_5 : decode cX1_offer 5 = .ok (.if_icmp .le 18, 3) := by decide +kernel
theorem dX1_offer_8 : decode cX1_offer 8 = .ok (.aload_n 0, 1) := by decide +kernel
theorem dX1_offer_9 : decode cX1_offer 9 = .ok (.iload_n 1, 1) := by decide +kernel
theorem dX1_offer_10 : decode cX1_offer 10 = .ok (.putfield 15, 3) := by decide +kernel
theorem dX1_offer_13 : decode cX1_offer 13 = .ok (.aload_n 0, 1) := by decide +kernel
theorem dX1_offer_14 : decode cX1_offer 14 = .ok (.iload_n 2, 1) := by decide +kernel
theorem dX1_offer_15 : decode cX1_offer 15 = .ok (.putfield 19, 3) := by decide +kernel
theorem dX1_offer_18 : decode cX1_offer 18 = .ok (.aload_n 0, 1) := by decide +kernel
theorem dX1_offer_19 : decode cX1_offer 19 = .ok (.iload_n 3, 1) := by decide +kernel
theorem dX1_offer_20 : decode cX1_offer 20 = .ok (.putfield 22, 3) := by decide +kernel
theorem dX1_offer_23 : decode cX1_offer 23 = .ok (.return_, 1) := by decide +kernel
theorem dX2_init_0 : decode cX2_init 0 = .ok (.aload_n 0, 1) := by decide +kernel
theorem dX2_init_1 : decode cX2_init 1 = .ok (.invokespecial 3, 3) := by decide +kernel
theorem dX2_init_4 : decode cX2_init 4 = .ok (.aload_n 0, 1) := by decide +kernel
theorem dX2_init_5 : decode cX2_init 5 = .ok (.bipush 8, 2) := by decide +kernel
theorem dX2_init_7 : decode cX2_init 7 = .ok (.newarray .int, 2) := by decide +kernel
theorem dX2_init_9 : decode cX2_init 9 = .ok (.putfield 9, 3) := by decide +kernel
theorem dX2_init_12 : decode cX2_init 12 = .ok (.aload_n 0, 1) := by decide +kernel
theorem dX2_init_13 : decode cX2_init 13 = .ok (.bipush 8, 2) := by decide +kernel
theorem dX2_init_15 : decode cX2_init 15 = .ok (.newarray .int, 2) := by decide +kernel
theorem dX2_init_17 : decode cX2_init 17 = .ok (.putfield 15, 3) := by decide +kernel
theorem dX2_init_20 : decode cX2_init 20 = .ok (.aload_n 0, 1) := by decide +kernel
theorem dX2_init_21 : decode cX2_init 21 = .ok (.iconst 0, 1) := by decide +kernel
theorem dX2_init_22 : decode cX2_init 22 = .ok (.putfield 18, 3) := by decide +kernel
theorem dX2_init_25 : decode cX2_init 25 = .ok (.return_, 1) := by decide +kernel
theorem dX2_remember_0 : decode cX2_remember 0 = .ok (.aload_n 0, 1) := by decide +kernel
theorem dX2_remember_1 : decode cX2_remember 1 = .ok (.getfield 18, 3) := by decide +kernel
theorem dX2_remember_4 : decode cX2_remember 4 = .ok (.bipush 8, 2) := by decide +kernel
theorem dX2_remember_6 : decode cX2_remember 6 = .ok (.if_icmp .lt 5, 3) := by decide +kernel
theorem dX2_remember_9 : decode cX2_remember 9 = .ok (.iconst 0, 1) := by decide +kernel
theorem dX2_remember_10 : decode cX2_remember 10 = .ok (.ireturn, 1) := by decide +kernel
theorem dX2_remember_11 : decode cX2_remember 11 = .ok (.aload_n 0, 1) := by decide +kernel
theorem dX2_remember_12 : decode cX2_remember 12 = .ok (.getfield 9, 3) := by decide +kernel
theorem dX2_remember_15 : decode cX2_remember 15 = .ok (.aload_n 0, 1) := by decide +kernel
theorem dX2_remember_16 : decode cX2_remember 16 = .ok (.getfield 18, 3) := by decide +kernel
theorem dX2_remember_19 : decode cX2_remember 19 = .ok (.iload_n 1, 1) := by decide +kernel
theorem dX2_remember_20 : decode cX2_remember 20 = .ok (.iastore, 1) := by decide +kernel
theorem dX2_remember_21 : decode cX2_remember 21 = .ok (.aload_n 0, 1) := by decide +kernel
theorem dX2_remember_22 : decode cX2_remember 22 = .ok (.getfield 15, 3) := by decide +kernel
theorem dX2_remember_25 : decode cX2_remember 25 = .ok (.aload_n 0, 1) := by decide +kernel
theorem dX2_remember_26 : decode cX2_remember 26 = .ok (.getfield 18, 3) := by decide +kernel
theorem dX2_remember_29 : decode cX2_remember 29 = .ok (.iload_n 2, 1) := by decide +kernel
theorem dX2_remember_30 : decode cX2_remember 30 = .ok (.iastore, 1) := by decide +kernel
theorem dX2_remember_31 : decode cX2_remember 31 = .ok (.aload_n 0, 1) := by decide +kernel
theorem dX2_remember_32 : decode cX2_remember 32 = .ok (.dup, 1) := by decide +kernel
theorem dX2_remember_33 : decode cX2_remember 33 = .ok (.getfield 18, 3) := by decide +kernel
theorem dX2_remember_36 : decode cX2_remember 36 = .ok (.iconst 1, 1) := by decide +kernel
theorem dX2_remember_37 : decode cX2_remember 37 = .ok (.iadd, 1) := by decide +kernel
theorem dX2_remember_38 : decode cX2_remember 38 = .ok (.putfield 18, 3) := by decide +kernel
theorem dX2_remember_41 : decode cX2_remember 41 = .ok (.iconst 1, 1) := by decide +kernel
theorem dX2_remember_42 : decode cX2_remember 42 = .ok (.ireturn, 1) := by decide +kernel
theorem dX2_fits_0 : decode cX2_fits 0 = .ok (.iconst 0, 1) := by decide +kernel
theorem dX2_fits_1 : decode cX2_fits 1 = .ok (.istore_n 3, 1) := by decide +kernel
theorem dX2_fits_2 : decode cX2_fits 2 = .ok (.iload_n 3, 1) := by decide +kernel
theorem dX2_fits_3 : decode cX2_fits 3 = .ok (.aload_n 0, 1) := by decide +kernel
theorem dX2_fits_4 : decode cX2_fits 4 = .ok (.getfield 18, 3) := by decide +kernel
theorem dX2_fits_7 : decode cX2_fits 7 = .ok (.if_icmp .ge 41, 3) := by decide +kernel
theorem dX2_fits_10 : decode cX2_fits 10 = .ok (.aload_n 0, 1) := by decide +kernel
theorem dX2_fits_11 : decode cX2_fits 11 = .ok (.getfield 9, 3) := by decide +kernel
theorem dX2_fits_14 : decode cX2_fits 14 = .ok (.iload_n 3, 1) := by decide +kernel
theorem dX2_fits_15 : decode cX2_fits 15 = .ok (.iaload, 1) := by decide +kernel
theorem dX2_fits_16 : decode cX2_fits 16 = .ok (.iload_n 2, 1) := by decide +kernel
theorem dX2_fits_17 : decode cX2_fits 17 = .ok (.if_icmp .ge 23, 3) := by decide +kernel
theorem dX2_fits_20 : decode cX2_fits 20 = .ok (.aload_n 1, 1) := by decide +kernel
theorem dX2_fits_21 : decode cX2_fits 21 = .ok (.getfield 22, 3) := by decide +kernel
theorem dX2_fits_24 : decode cX2_fits 24 = .ok (.aload_n 0, 1) := by decide +kernel
theorem dX2_fits_25 : decode cX2_fits 25 = .ok (.getfield 9, 3) := by decide +kernel
theorem dX2_fits_28 : decode cX2_fits 28 = .ok (.iload_n 3, 1) := by decide +kernel
theorem dX2_fits_29 : decode cX2_fits 29 = .ok (.iaload, 1) := by decide +kernel
theorem dX2_fits_30 : decode cX2_fits 30 = .ok (.iaload, 1) := by decide +kernel
theorem dX2_fits_31 : decode cX2_fits 31 = .ok (.aload_n 0, 1) := by decide +kernel
theorem dX2_fits_32 : decode cX2_fits 32 = .ok (.getfield 15, 3) := by decide +kernel
theorem dX2_fits_35 : decode cX2_fits 35 = .ok (.iload_n 3, 1) := by decide +kernel
theorem dX2_fits_36 : decode cX2_fits 36 = .ok (.iaload, 1) := by decide +kernel
theorem dX2_fits_37 : decode cX2_fits 37 = .ok (.if_icmp .eq 5, 3) := by decide +kernel
theorem dX2_fits_40 : decode cX2_fits 40 = .ok (.iconst 0, 1) := by decide +kernel
theorem dX2_fits_41 : decode cX2_fits 41 = .ok (.ireturn, 1) := by decide +kernel
theorem dX2_fits_42 : decode cX2_fits 42 = .ok (.iinc 3 1, 3) := by decide +kernel
theorem dX2_fits_45 : decode cX2_fits 45 = .ok (.goto (-43), 3) := by decide +kernel
theorem dX2_fits_48 : decode cX2_fits 48 = .ok (.iconst 1, 1) := by decide +kernel
theorem dX2_fits_49 : decode cX2_fits 49 = .ok (.ireturn, 1) := by decide +kernel
theorem dX3_init_0 : decode cX3_init 0 = .ok (.aload_n 0, 1) := by decide +kernel
theorem dX3_init_1 : decode cX3_init 1 = .ok (.invokespecial 3, 3) := by decide +kernel
theorem dX3_init_4 : decode cX3_init 4 = .ok (.aload_n 0, 1) := by decide +kernel
theorem dX3_init_5 : decode cX3_init 5 = .ok (.bipush 24, 2) := by decide +kernel
theorem dX3_init_7 : decode cX3_init 7 = .ok (.newarray .int, 2) := by decide +kernel
theorem dX3_init_9 : decode cX3_init 9 = .ok (.putfield 9, 3) := by decide +kernel
theorem dX3_init_12 : decode cX3_init 12 = .ok (.aload_n 0, 1) := by decide +kernel
theorem dX3_init_13 : decode cX3_init 13 = .ok (.bipush 24, 2) := by decide +kernel
theorem dX3_init_15 : decode cX3_init 15 = .ok (.newarray .int, 2) := by decide +kernel
theorem dX3_init_17 : decode cX3_init 17 = .ok (.putfield 15, 3) := by decide +kernel
theorem dX3_init_20 : decode cX3_init 20 = .ok (.aload_n 0, 1) := by decide +kernel
theorem dX3_init_21 : decode cX3_init 21 = .ok (.bipush 24, 2) := by decide +kernel
theorem dX3_init_23 : decode cX3_init 23 = .ok (.newarray .int, 2) := by decide +kernel
theorem dX3_init_25 : decode cX3_init 25 = .ok (.putfield 18, 3) := by decide +kernel
theorem dX3_init_28 : decode cX3_init 28 = .ok (.aload_n 0, 1) := by decide +kernel
theorem dX3_init_29 : decode cX3_init 29 = .ok (.bipush 16, 2) := by decide +kernel
theorem dX3_init_31 : decode cX3_init 31 = .ok (.newarray .int, 2) := by decide +kernel
theorem dX3_init_33 : decode cX3_init 33 = .ok (.putfield 21, 3) := by decide +kernel
theorem dX3_init_36 : decode cX3_init 36 = .ok (.aload_n 0, 1) := by decide +kernel
theorem dX3_init_37 : decode cX3_init 37 = .ok (.bipush 11, 2) := by decide +kernel
theorem dX3_init_39 : decode cX3_init 39 = .ok (.newarray .int, 2) := by decide +kernel
theorem dX3_init_41 : decode cX3_init 41 = .ok (.putfield 24, 3) := by decide +kernel
theorem dX3_init_44 : decode cX3_init 44 = .ok (.aload_n 0, 1) := by decide +kernel
theorem dX3_init_45 : decode cX3_init 45 = .ok (.bipush 11, 2) := by decide +kernel
theorem dX3_init_47 : decode cX3_init 47 = .ok (.newarray .int, 2) := by decide +kernel
theorem dX3_init_49 : decode cX3_init 49 = .ok (.putfield 27, 3) := by decide +kernel
theorem dX3_init_52 : decode cX3_init 52 = .ok (.aload_n 0, 1) := by decide +kernel
theorem dX3_init_53 : decode cX3_init 53 = .ok (.bipush 11, 2) := by decide +kernel
theorem dX3_init_55 : decode cX3_init 55 = .ok (.newarray .int, 2) := by decide +kernel
theorem dX3_init_57 : decode cX3_init 57 = .ok (.putfield 30, 3) := by decide +kernel
theorem dX3_init_60 : decode cX3_init 60 = .ok (.aload_n 0, 1) := by decide +kernel
theorem dX3_init_61 : decode cX3_init 61 = .ok (.bipush 24, 2) := by decide +kernel
theorem dX3_init_63 : decode cX3_init 63 = .ok (.newarray .int, 2) := by decide +kernel
theorem dX3_init_65 : decode cX3_init 65 = .ok (.putfield 33, 3) := by decide +kernel
theorem dX3_init_68 : decode cX3_init 68 = .ok (.return_, 1) := by decide +kernel
theorem dX3_play_0 : decode cX3_play 0 = .ok (.aload_n 0, 1) := by decide +kernel
theorem dX3_play_1 : decode cX3_play 1 = .ok (.aload_n 1, 1) := by decide +kernel
theorem dX3_play_2 : decode cX3_play 2 = .ok (.invokevirtual 36, 3) := by decide +kernel
theorem dX3_play_5 : decode cX3_play 5 = .ok (.aload_n 0, 1) := by decide +kernel
theorem dX3_play_6 : decode cX3_play 6 = .ok (.aload_n 1, 1) := by decide +kernel
theorem dX3_play_7 : decode cX3_play 7 = .ok (.invokevirtual 40, 3) := by decide +kernel
theorem dX3_play_10 : decode cX3_play 10 = .ok (.iconst 0, 1) := by decide +kernel
theorem dX3_play_11 : decode cX3_play 11 = .ok (.istore_n 2, 1) := by decide +kernel
theorem dX3_play_12 : decode cX3_play 12 = .ok (.iload_n 2, 1) := by decide +kernel
theorem dX3_play_13 : decode cX3_play 13 = .ok (.bipush 24, 2) := by decide +kernel
theorem dX3_play_15 : decode cX3_play 15 = .ok (.if_icmp .ge 140, 3) := by decide +kernel
theorem dX3_play_18 : decode cX3_play 18 = .ok (.aload_n 0, 1) := by decide +kernel
theorem dX3_play_19 : decode cX3_play 19 = .ok (.aload_n 0, 1) := by decide +kernel
theorem dX3_play_20 : decode cX3_play 20 = .ok (.getfield 33, 3) := by decide +kernel
theorem dX3_play_23 : decode cX3_play 23 = .ok (.iload_n 2, 1) := by decide +kernel
theorem dX3_play_24 : decode cX3_play 24 = .ok (.iaload, 1) := by decide +kernel
theorem dX3_play_25 : decode cX3_play 25 = .ok (.invokevirtual 43, 3) := by decide +kernel
theorem dX3_play_28 : decode cX3_play 28 = .ok (.aload_n 1, 1) := by decide +kernel
theorem dX3_play_29 : decode cX3_play 29 = .ok (.getfield 47, 3) := by decide +kernel
theorem dX3_play_32 : decode cX3_play 32 = .ok (.iload_n 2, 1) := by decide +kernel
theorem dX3_play_33 : decode cX3_play 33 = .ok (.iaload, 1) := by decide +kernel
theorem dX3_play_34 : decode cX3_play 34 = .ok (.istore_n 3, 1) := by decide +kernel
theorem dX3_play_35 : decode cX3_play 35 = .ok (.iconst 0, 1) := by decide +kernel
theorem dX3_play_36 : decode cX3_play 36 = .ok (.istore 4, 2) := by decide +kernel
theorem dX3_play_38 : decode cX3_play 38 = .ok (.iload 4, 2) := by decide +kernel
theorem dX3_play_40 : decode cX3_play 40 = .ok (.aload_n 1, 1) := by decide +kernel
theorem dX3_play_41 : decode cX3_play 41 = .ok (.getfield 52, 3) := by decide +kernel
theorem dX3_play_44 : decode cX3_play 44 = .ok (.if_icmp .ge 39, 3) := by decide +kernel
theorem dX3_play_47 : decode cX3_play 47 = .ok (.iload_n 3, 1) := by decide +kernel
theorem dX3_play_48 : decode cX3_play 48 = .ok (.iload 4, 2) := by decide +kernel
theorem dX3_play_50 : decode cX3_play 50 = .ok (.ishr, 1) := by decide +kernel
theorem dX3_play_51 : decode cX3_play 51 = .ok (.ifCond .eq 32, 3) := by decide +kernel
theorem dX3_play_54 : decode cX3_play 54 = .ok (.iload_n 3, 1) := by decide +kernel
theorem dX3_play_55 : decode cX3_play 55 = .ok (.iload 4, 2) := by decide +kernel
theorem dX3_play_57 : decode cX3_play 57 = .ok (.ishr, 1) := by decide +kernel
theorem dX3_play_58 : decode cX3_play 58 = .ok (.iconst 1, 1) := by decide +kernel
theorem dX3_play_59 : decode cX3_play 59 = .ok (.iand, 1) := by decide +kernel
theorem dX3_play_60 : decode cX3_play 60 = .ok (.ifCond .eq 17, 3) := by decide +kernel
theorem dX3_play_63 : decode cX3_play 63 = .ok (.aload_n 0, 1) := by decide +kernel
theorem dX3_play_64 : decode cX3_play 64 = .ok (.aload_n 1, 1) := by decide +kernel
theorem dX3_play_65 : decode cX3_play 65 = .ok (.iload 4, 2) := by decide +kernel
theorem dX3_play_67 : decode cX3_play 67 = .ok (.aload_n 1, 1) := by decide +kernel
theorem dX3_play_68 : decode cX3_play 68 = .ok (.getfield 56, 3) := by decide +kernel
theorem dX3_play_71 : decode cX3_play 71 = .ok (.iload 4, 2) := by decide +kernel
theorem dX3_play_73 : decode cX3_play 73 = .ok (.iaload, 1) := by decide +kernel
theorem dX3_play_74 : decode cX3_play 74 = .ok (.invokevirtual 59, 3) := by decide +kernel
theorem dX3_play_77 : decode cX3_play 77 = .ok (.iinc 4 1, 3) := by decide +kernel
theorem dX3_play_80 : decode cX3_play 80 = .ok (.goto (-42), 3) := by decide +kernel
theorem dX3_play_83 : decode cX3_play 83 = .ok (.aload_n 0, 1) := by decide +kernel
theorem dX3_play_84 : decode cX3_play 84 = .ok (.getfield 63, 3) := by decide +kernel
theorem dX3_play_87 : decode cX3_play 87 = .ok (.iload_n 2, 1) := by decide +kernel
theorem dX3_play_88 : decode cX3_play 88 = .ok (.ishr, 1) := by decide +kernel
theorem dX3_play_89 : decode cX3_play 89 = .ok (.iconst 1, 1) := by decide +kernel
theorem dX3_play_90 : decode cX3_play 90 = .ok (.iand, 1) := by decide +kernel
theorem dX3_play_91 : decode cX3_play 91 = .ok (.ifCond .eq 7, 3) := by decide +kernel
theorem dX3_play_94 : decode cX3_play 94 = .ok (.iconst 0, 1) := by decide +kernel
theorem dX3_play_95 : decode cX3_play 95 = .ok (.goto 24, 3) := by decide +kernel
theorem dX3_play_98 : decode cX3_play 98 = .ok (.aload_n 0, 1) := by decide +kernel
theorem dX3_play_99 : decode cX3_play 99 = .ok (.aload_n 1, 1) := by decide +kernel
theorem dX3_play_100 : decode cX3_play 100 = .ok (.aload_n 0, 1) := by decide +kernel
theorem dX3_play_101 : decode cX3_play 101 = .ok (.getfield 66, 3) := by decide +kernel
theorem dX3_play_104 : decode cX3_play 104 = .ok (.iload_n 2, 1) := by decide +kernel
theorem dX3_play_105 : decode cX3_play 105 = .ok (.ishr, 1) := by decide +kernel
theorem dX3_play_106 : decode cX3_play 106 = .ok (.iconst 1, 1) := by decide +kernel
theorem dX3_play_107 : decode cX3_play 107 = .ok (.iand, 1) := by decide +kernel
theorem dX3_play_108 : decode cX3_play 108 = .ok (.ifCond .eq 7, 3) := by decide +kernel
theorem dX3_play_111 : decode cX3_play 111 = .ok (.iconst 1, 1) := by decide +kernel
theorem dX3_play_112 : decode cX3_play 112 = .ok (.goto 4, 3) := by decide +kernel
theorem dX3_play_115 : decode cX3_play 115 = .ok (.iconst 0, 1) := by decide +kernel
theorem dX3_play_116 : decode cX3_play 116 = .ok (.invokevirtual 69, 3) := by decide +kernel
theorem dX3_play_119 : decode cX3_play 119 = .ok (.istore 4, 2) := by decide +kernel
theorem dX3_play_121 : decode cX3_play 121 = .ok (.aload_n 0, 1) := by decide +kernel
theorem dX3_play_122 : decode cX3_play 122 = .ok (.getfield 9, 3) := by decide +kernel
theorem dX3_play_125 : decode cX3_play 125 = .ok (.iload_n 2, 1) := by decide +kernel
theorem dX3_play_126 : decode cX3_play 126 = .ok (.aload_n 0, 1) := by decide +kernel
theorem dX3_play_127 : decode cX3_play 127 = .ok (.getfield 73, 3) := by decide +kernel
theorem dX3_play_130 : decode cX3_play 130 = .ok (.iastore, 1) := by decide +kernel
theorem dX3_play_131 : decode cX3_play 131 = .ok (.aload_n 0, 1) := by decide +kernel
theorem dX3_play_132 : decode cX3_play 132 = .ok (.getfield 15, 3) := by decide +kernel
theorem dX3_play_135 : decode cX3_play 135 = .ok (.iload_n 2, 1) := by decide +kernel
theorem dX3_play_136 : decode cX3_play 136 = .ok (.aload_n 0, 1) := by decide +kernel
theorem dX3_play_137 : decode cX3_play 137 = .ok (.getfield 76, 3) := by decide +kernel
theorem dX3_play_140 : decode cX3_play 140 = .ok (.iastore, 1) := by decide +kernel
theorem dX3_play_141 : decode cX3_play 141 = .ok (.aload_n 0, 1) := by decide +kernel
theorem dX3_play_142 : decode cX3_play 142 = .ok (.getfield 18, 3) := by decide +kernel
theorem dX3_play_145 : decode cX3_play 145 = .ok (.iload_n 2, 1) := by decide +kernel
theorem dX3_play_146 : decode cX3_play 146 = .ok (.iload 4, 2) := by decide +kernel
theorem dX3_play_148 : decode cX3_play 148 = .ok (.iastore, 1) := by decide +kernel
theorem dX3_play_149 : decode cX3_play 149 = .ok (.iinc 2 1, 3) := by decide +kernel
theorem dX3_play_152 : decode cX3_play 152 = .ok (.goto (-140), 3) := by decide +kernel
theorem dX3_play_155 : decode cX3_play 155 = .ok (.return_, 1) := by decide +kernel
theorem dX3_clear_0 : decode cX3_clear 0 = .ok (.aload_n 0, 1) := by decide +kernel
theorem dX3_clear_1 : decode cX3_clear 1 = .ok (.getfield 21, 3) := by decide +kernel
theorem dX3_clear_4 : decode cX3_clear 4 = .ok (.iconst 0, 1) := by decide +kernel
theorem dX3_clear_5 : decode cX3_clear 5 = .ok (.invokestatic 79, 3) := by decide +kernel
theorem dX3_clear_8 : decode cX3_clear 8 = .ok (.aload_n 0, 1) := by decide +kernel
theorem dX3_clear_9 : decode cX3_clear 9 = .ok (.getfield 24, 3) := by decide +kernel
theorem dX3_clear_12 : decode cX3_clear 12 = .ok (.iconst 0, 1) := by decide +kernel
theorem dX3_clear_13 : decode cX3_clear 13 = .ok (.invokestatic 79, 3) := by decide +kernel
theorem dX3_clear_16 : decode cX3_clear 16 = .ok (.aload_n 0, 1) := by decide +kernel
theorem dX3_clear_17 : decode cX3_clear 17 = .ok (.getfield 27, 3) := by decide +kernel
theorem dX3_clear_20 : decode cX3_clear 20 = .ok (.iconst 0, 1) := by decide +kernel
theorem dX3_clear_21 : decode cX3_clear 21 = .ok (.invokestatic 79, 3) := by decide +kernel
theorem dX3_clear_24 : decode cX3_clear 24 = .ok (.aload_n 0, 1) := by decide +kernel
theorem dX3_clear_25 : decode cX3_clear 25 = .ok (.getfield 30, 3) := by decide +kernel
theorem dX3_clear_28 : decode cX3_clear 28 = .ok (.iconst 0, 1) := by decide +kernel
theorem dX3_clear_29 : decode cX3_clear 29 = .ok (.invokestatic 79, 3) := by decide +kernel
theorem dX3_clear_32 : decode cX3_clear 32 = .ok (.aload_n 0, 1) := by decide +kernel
theorem dX3_clear_33 : decode cX3_clear 33 = .ok (.getfield 33, 3) := by decide +kernel
theorem dX3_clear_36 : decode cX3_clear 36 = .ok (.iconst 0, 1) := by decide +kernel
theorem dX3_clear_37 : decode cX3_clear 37 = .ok (.invokestatic 79, 3) := by decide +kernel
theorem dX3_clear_40 : decode cX3_clear 40 = .ok (.aload_n 0, 1) := by decide +kernel
theorem dX3_clear_41 : decode cX3_clear 41 = .ok (.iconst 0, 1) := by decide +kernel
theorem dX3_clear_42 : decode cX3_clear 42 = .ok (.putfield 85, 3) := by decide +kernel
theorem dX3_clear_45 : decode cX3_clear 45 = .ok (.aload_n 0, 1) := by decide +kernel
theorem dX3_clear_46 : decode cX3_clear 46 = .ok (.iconst 0, 1) := by decide +kernel
theorem dX3_clear_47 : decode cX3_clear 47 = .ok (.putfield 88, 3) := by decide +kernel
theorem dX3_clear_50 : decode cX3_clear 50 = .ok (.aload_n 0, 1) := by decide +kernel
theorem dX3_clear_51 : decode cX3_clear 51 = .ok (.iconst 0, 1) := by decide +kernel
theorem dX3_clear_52 : decode cX3_clear 52 = .ok (.putfield 91, 3) := by decide +kernel
theorem dX3_clear_55 : decode cX3_clear 55 = .ok (.aload_n 0, 1) := by decide +kernel
theorem dX3_clear_56 : decode cX3_clear 56 = .ok (.iconst 0, 1) := by decide +kernel
theorem dX3_clear_57 : decode cX3_clear 57 = .ok (.putfield 94, 3) := by decide +kernel
theorem dX3_clear_60 : decode cX3_clear 60 = .ok (.aload_n 0, 1) := by decide +kernel
theorem dX3_clear_61 : decode cX3_clear 61 = .ok (.iconst 0, 1) := by decide +kernel
theorem dX3_clear_62 : decode cX3_clear 62 = .ok (.putfield 97, 3) := by decide +kernel
theorem dX3_clear_65 : decode cX3_clear 65 = .ok (.aload_n 0, 1) := by decide +kernel
theorem dX3_clear_66 : decode cX3_clear 66 = .ok (.iconst 0, 1) := by decide +kernel
theorem dX3_clear_67 : decode cX3_clear 67 = .ok (.putfield 66, 3) := by decide +kernel
theorem dX3_clear_70 : decode cX3_clear 70 = .ok (.aload_n 0, 1) := by decide +kernel
theorem dX3_clear_71 : decode cX3_clear 71 = .ok (.iconst 0, 1) := by decide +kernel
theorem dX3_clear_72 : decode cX3_clear 72 = .ok (.putfield 63, 3) := by decide +kernel
theorem dX3_clear_75 : decode cX3_clear 75 = .ok (.aload_n 0, 1) := by decide +kernel
theorem dX3_clear_76 : decode cX3_clear 76 = .ok (.iconst 0, 1) := by decide +kernel
theorem dX3_clear_77 : decode cX3_clear 77 = .ok (.putfield 73, 3) := by decide +kernel
theorem dX3_clear_80 : decode cX3_clear 80 = .ok (.aload_n 0, 1) := by decide +kernel
theorem dX3_clear_81 : decode cX3_clear 81 = .ok (.aload_n 1, 1) := by decide +kernel
theorem dX3_clear_82 : decode cX3_clear 82 = .ok (.getfield 100, 3) := by decide +kernel
theorem dX3_clear_85 : decode cX3_clear 85 = .ok (.putfield 76, 3) := by decide +kernel
theorem dX3_clear_88 : decode cX3_clear 88 = .ok (.return_, 1) := by decide +kernel
theorem dX3_gatherEvents_0 : decode cX3_gatherEvents 0 = .ok (.iconst 0, 1) := by decide +kernel
theorem dX3_gatherEvents_1 : decode cX3_gatherEvents 1 = .ok (.istore_n 2, 1) := by decide +kernel
theorem dX3_gatherEvents_2 : decode cX3_gatherEvents 2 = .ok (.iload_n 2, 1) := by decide +kernel
theorem dX3_gatherEvents_3 : decode cX3_gatherEvents 3 = .ok (.aload_n 1, 1) := by decide +kernel
theorem dX3_gatherEvents_4 : decode cX3_gatherEvents 4 = .ok (.getfield 103, 3) := by decide +kernel
theorem dX3_gatherEvents_7 : decode cX3_gatherEvents 7 = .ok (.if_icmp .ge 36, 3) := by decide +kernel
theorem dX3_gatherEvents_10 : decode cX3_gatherEvents 10 = .ok (.aload_n 1, 1) := by decide +kernel
theorem dX3_gatherEvents_11 : decode cX3_gatherEvents 11 = .ok (.getfield 106, 3) := by decide +kernel
theorem dX3_gatherEvents_14 : decode cX3_gatherEvents 14 = .ok (.iload_n 2, 1) := by decide +kernel
theorem dX3_gatherEvents_15 : decode cX3_gatherEvents 15 = .ok (.ishr, 1) := by decide +kernel
theorem dX3_gatherEvents_16 : decode cX3_gatherEvents 16 = .ok (.iconst 1, 1) := by decide +kernel
theorem dX3_gatherEvents_17 : decode cX3_gatherEvents 17 = .ok (.iand, 1) := by decide +kernel
theorem dX3_gatherEvents_18 : decode cX3_gatherEvents 18 = .ok (.ifCond .ne 19, 3) := by decide +kernel
theorem dX3_gatherEvents_21 : decode cX3_gatherEvents 21 = .ok (.aload_n 0, 1) := by decide +kernel
theorem dX3_gatherEvents_22 : decode cX3_gatherEvents 22 = .ok (.aload_n 1, 1) := by decide +kernel
theorem dX3_gatherEvents_23 : decode cX3_gatherEvents 23 = .ok (.getfield 109, 3) := by decide +kernel
theorem dX3_gatherEvents_26 : decode cX3_gatherEvents 26 = .ok (.iload_n 2, 1) := by decide +kernel
theorem dX3_gatherEvents_27 : decode cX3_gatherEvents 27 = .ok (.iaload, 1) := by decide +kernel
theorem dX3_gatherEvents_28 : decode cX3_gatherEvents 28 = .ok (.aload_n 1, 1) := by decide +kernel
theorem dX3_gatherEvents_29 : decode cX3_gatherEvents 29 = .ok (.getfield 112, 3) := by decide +kernel
theorem dX3_gatherEvents_32 : decode cX3_gatherEvents 32 = .ok (.iload_n 2, 1) := by decide +kernel
theorem dX3_gatherEvents_33 : decode cX3_gatherEvents 33 = .ok (.iaload, 1) := by decide +kernel
theorem dX3_gatherEvents_34 : decode cX3_gatherEvents 34 = .ok (.invokevirtual 115, 3) := by decide +kernel
theorem dX3_gatherEvents_37 : decode cX3_gatherEvents 37 = .ok (.iinc 2 1, 3) := by decide +kernel
theorem dX3_gatherEvents_40 : decode cX3_gatherEvents 40 = .ok (.goto (-38), 3) := by decide +kernel
theorem dX3_gatherEvents_43 : decode cX3_gatherEvents 43 = .ok (.aload_n 1, 1) := by decide +kernel
theorem dX3_gatherEvents_44 : decode cX3_gatherEvents 44 = .ok (.getfield 119, 3) := by decide +kernel
theorem dX3_gatherEvents_47 : decode cX3_gatherEvents 47 = .ok (.iconst (-1), 1) := by decide +kernel
theorem dX3_gatherEvents_48 : decode cX3_gatherEvents 48 = .ok (.if_icmp .eq 12, 3) := by decide +kernel
theorem dX3_gatherEvents_51 : decode cX3_gatherEvents 51 = .ok (.aload_n 0, 1) := by decide +kernel
theorem dX3_gatherEvents_52 : decode cX3_gatherEvents 52 = .ok (.iconst 2, 1) := by decide +kernel
theorem dX3_gatherEvents_53 : decode cX3_gatherEvents 53 = .ok (.aload_n 1, 1) := by decide +kernel
theorem dX3_gatherEvents_54 : decode cX3_gatherEvents 54 = .ok (.getfield 119, 3) := by decide +kernel
theorem dX3_gatherEvents_57 : decode cX3_gatherEvents 57 = .ok (.invokevirtual 115, 3) := by decide +kernel
theorem dX3_gatherEvents_60 : decode cX3_gatherEvents 60 = .ok (.return_, 1) := by decide +kernel
theorem dX3_gather_0 : decode cX3_gather 0 = .ok (.iload_n 1, 1) := by decide +kernel
theorem dX3_gather_1 : decode cX3_gather 1 = .ok (.ifCond .ne 16, 3) := by decide +kernel
theorem dX3_gather_4 : decode cX3_gather 4 = .ok (.aload_n 0, 1) := by decide +kernel
theorem dX3_gather_5 : decode cX3_gather 5 = .ok (.getfield 33, 3) := by decide +kernel
theorem dX3_gather_8 : decode cX3_gather 8 = .ok (.iload_n 2, 1) := by decide +kernel
theorem dX3_gather_9 : decode cX3_gather 9 = .ok (.dup2, 1) := by decide +kernel
theorem dX3_gather_10 : decode cX3_gather 10 = .ok (.iaload, 1) := by decide +kernel
theorem dX3_gather_11 : decode cX3_gather 11 = .ok (.iconst 1, 1) := by decide +kernel
theorem dX3_gather_12 : decode cX3_gather 12 = .ok (.iadd, 1) := by decide +kernel
theorem dX3_gather_13 : decode cX3_gather 13 = .ok (.iastore, 1) := by decide +kernel
theorem dX3_gather_14 : decode cX3_gather 14 = .ok (.goto 35, 3) := by decide +kernel
theorem dX3_gather_17 : decode cX3_gather 17 = .ok (.iload_n 1, 1) := by decide +kernel
theorem dX3_gather_18 : decode cX3_gather 18 = .ok (.iconst 1, 1) := by decide +kernel
theorem dX3_gather_19 : decode cX3_gather 19 = .ok (.if_icmp .ne 18, 3) := by decide +kernel
theorem dX3_gather_22 : decode cX3_gather 22 = .ok (.aload_n 0, 1) := by decide +kernel
theorem dX3_gather_23 : decode cX3_gather 23 = .ok (.dup, 1) := by decide +kernel
theorem dX3_gather_24 : decode cX3_gather 24 = .ok (.getfield 66, 3) := by decide +kernel
theorem dX3_gather_27 : decode cX3_gather 27 = .ok (.iconst 1, 1) := by decide +kernel
theorem dX3_gather_28 : decode cX3_gather 28 = .ok (.iload_n 2, 1) := by decide +kernel
theorem dX3_gather_29 : decode cX3_gather 29 = .ok (.ishl, 1) := by decide +kernel
theorem dX3_gather_30 : decode cX3_gather 30 = .ok (.ior, 1) := by decide +kernel
theorem dX3_gather_31 : decode cX3_gather 31 = .ok (.putfield 66, 3) := by decide +kernel
theorem dX3_gather_34 : decode cX3_gather 34 = .ok (.goto 15, 3) := by decide +kernel
theorem dX3_gather_37 : decode cX3_gather 37 = .ok (.aload_n 0, 1) := by decide +kernel
theorem dX3_gather_38 : decode cX3_gather 38 = .ok (.dup, 1) := by decide +kernel
theorem dX3_gather_39 : decode cX3_gather 39 = .ok (.getfield 63, 3) := by decide +kernel
theorem dX3_gather_42 : decode cX3_gather 42 = .ok (.iconst 1, 1) := by decide +kernel
theorem dX3_gather_43 : decode cX3_gather 43 = .ok (.iload_n 2, 1) := by decide +kernel
theorem dX3_gather_44 : decode cX3_gather 44 = .ok (.ishl, 1) := by decide +kernel
theorem dX3_gather_45 : decode cX3_gather 45 = .ok (.ior, 1) := by decide +kernel
theorem dX3_gather_46 : decode cX3_gather 46 = .ok (.putfield 63, 3) := by decide +kernel
theorem dX3_gather_49 : decode cX3_gather 49 = .ok (.return_, 1) := by decide +kernel
theorem dX3_steal_0 : decode cX3_steal 0 = .ok (.aload_n 0, 1) := by decide +kernel
theorem dX3_steal_1 : decode cX3_steal 1 = .ok (.getfield 76, 3) := by decide +kernel
theorem dX3_steal_4 : decode cX3_steal 4 = .ok (.iconst 3, 1) := by decide +kernel
theorem dX3_steal_5 : decode cX3_steal 5 = .ok (.iload_n 1, 1) := by decide +kernel
theorem dX3_steal_6 : decode cX3_steal 6 = .ok (.imul, 1) := by decide +kernel
theorem dX3_steal_7 : decode cX3_steal 7 = .ok (.invokestatic 122, 3) := by decide +kernel
theorem dX3_steal_10 : decode cX3_steal 10 = .ok (.istore_n 2, 1) := by decide +kernel
theorem dX3_steal_11 : decode cX3_steal 11 = .ok (.aload_n 0, 1) := by decide +kernel
theorem dX3_steal_12 : decode cX3_steal 12 = .ok (.dup, 1) := by decide +kernel
theorem dX3_steal_13 : decode cX3_steal 13 = .ok (.getfield 76, 3) := by decide +kernel
theorem dX3_steal_16 : decode cX3_steal 16 = .ok (.iload_n 2, 1) := by decide +kernel
theorem dX3_steal_17 : decode cX3_steal 17 = .ok (.isub, 1) := by decide +kernel
theorem dX3_steal_18 : decode cX3_steal 18 = .ok (.putfield 76, 3) := by decide +kernel
theorem dX3_steal_21 : decode cX3_steal 21 = .ok (.aload_n 0, 1) := by decide +kernel
theorem dX3_steal_22 : decode cX3_steal 22 = .ok (.dup, 1) := by decide +kernel
theorem dX3_steal_23 : decode cX3_steal 23 = .ok (.getfield 97, 3) := by decide +kernel
theorem dX3_steal_26 : decode cX3_steal 26 = .ok (.iload_n 2, 1) := by decide +kernel
theorem dX3_steal_27 : decode cX3_steal 27 = .ok (.iadd, 1) := by decide +kernel
theorem dX3_steal_28 : decode cX3_steal 28 = .ok (.putfield 97, 3) := by decide +kernel
theorem dX3_steal_31 : decode cX3_steal 31 = .ok (.return_, 1) := by decide +kernel
theorem dX3_soundOne_0 : decode cX3_soundOne 0 = .ok (.iload_n 3, 1) := by decide +kernel
theorem dX3_soundOne_1 : decode cX3_soundOne 1 = .ok (.aload_n 1, 1) := by decide +kernel
theorem dX3_soundOne_2 : decode cX3_soundOne 2 = .ok (.getfield 128, 3) := by decide +kernel
theorem dX3_soundOne_5 : decode cX3_soundOne 5 = .ok (.if_icmp .lt 4, 3) := by decide +kernel
theorem dX3_soundOne_8 : decode cX3_soundOne 8 = .ok (.return_, 1) := by decide +kernel
theorem dX3_soundOne_9 : decode cX3_soundOne 9 = .ok (.aload_n 1, 1) := by decide +kernel
theorem dX3_soundOne_10 : decode cX3_soundOne 10 = .ok (.getfield 131, 3) := by decide +kernel
theorem dX3_soundOne_13 : decode cX3_soundOne 13 = .ok (.iload_n 3, 1) := by decide +kernel
theorem dX3_soundOne_14 : decode cX3_soundOne 14 = .ok (.iaload, 1) := by decide +kernel
theorem dX3_soundOne_15 : decode cX3_soundOne 15 = .ok (.istore 4, 2) := by decide +kernel
theorem dX3_soundOne_17 : decode cX3_soundOne 17 = .ok (.aload_n 1, 1) := by decide +kernel
theorem dX3_soundOne_18 : decode cX3_soundOne 18 = .ok (.getfield 134, 3) := by decide +kernel
theorem dX3_soundOne_21 : decode cX3_soundOne 21 = .ok (.iload_n 3, 1) := by decide +kernel
theorem dX3_soundOne_22 : decode cX3_soundOne 22 = .ok (.iaload, 1) := by decide +kernel
theorem dX3_soundOne_23 : decode cX3_soundOne 23 = .ok (.aload_n 0, 1) := by decide +kernel
theorem dX3_soundOne_24 : decode cX3_soundOne 24 = .ok (.getfield 73, 3) := by decide +kernel
theorem dX3_soundOne_27 : decode cX3_soundOne 27 = .ok (.isub, 1) := by decide +kernel
theorem dX3_soundOne_28 : decode cX3_soundOne 28 = .ok (.invokestatic 137, 3) := by decide +kernel
theorem dX3_soundOne_31 : decode cX3_soundOne 31 = .ok (.istore 5, 2) := by decide +kernel
theorem dX3_soundOne_33 : decode cX3_soundOne 33 = .ok (.iload 4, 2) := by decide +kernel
theorem dX3_soundOne_35 : decode cX3_soundOne 35 = .ok (.iconst 2, 1) := by decide +kernel
theorem dX3_soundOne_36 : decode cX3_soundOne 36 = .ok (.if_icmp .ne 7, 3) := by decide +kernel
theorem dX3_soundOne_39 : decode cX3_soundOne 39 = .ok (.iconst 1, 1) := by decide +kernel
theorem dX3_soundOne_40 : decode cX3_soundOne 40 = .ok (.goto 4, 3) := by decide +kernel
theorem dX3_soundOne_43 : decode cX3_soundOne 43 = .ok (.iconst 0, 1) := by decide +kernel
theorem dX3_soundOne_44 : decode cX3_soundOne 44 = .ok (.istore 6, 2) := by decide +kernel
theorem dX3_soundOne_46 : decode cX3_soundOne 46 = .ok (.iload 4, 2) := by decide +kernel
theorem dX3_soundOne_48 : decode cX3_soundOne 48 = .ok (.ifCond .ne 7, 3) := by decide +kernel
theorem dX3_soundOne_51 : decode cX3_soundOne 51 = .ok (.iconst 4, 1) := by decide +kernel
theorem dX3_soundOne_52 : decode cX3_soundOne 52 = .ok (.goto 14, 3) := by decide +kernel
theorem dX3_soundOne_55 : decode cX3_soundOne 55 = .ok (.iload 4, 2) := by decide +kernel
theorem dX3_soundOne_57 : decode cX3_soundOne 57 = .ok (.iconst 1, 1) := by decide +kernel
theorem dX3_soundOne_58 : decode cX3_soundOne 58 = .ok (.if_icmp .ne 7, 3) := by decide +kernel
theorem dX3_soundOne_61 : decode cX3_soundOne 61 = .ok (.iconst 2, 1) := by decide +kernel
theorem dX3_soundOne_62 : decode cX3_soundOne 62 = .ok (.goto 4, 3) := by decide +kernel
theorem dX3_soundOne_65 : decode cX3_soundOne 65 = .ok (.iconst 1, 1) := by decide +kernel
theorem dX3_soundOne_66 : decode cX3_soundOne 66 = .ok (.istore 7, 2) := by decide +kernel
theorem dX3_soundOne_68 : decode cX3_soundOne 68 = .ok (.iload 5, 2) := by decide +kernel
theorem dX3_soundOne_70 : decode cX3_soundOne 70 = .ok (.iload 6, 2) := by decide +kernel
theorem dX3_soundOne_72 : decode cX3_soundOne 72 = .ok (.if_icmp .gt 12, 3) := by decide +kernel
theorem dX3_soundOne_75 : decode cX3_soundOne 75 = .ok (.aload_n 0, 1) := by decide +kernel
theorem dX3_soundOne_76 : decode cX3_soundOne 76 = .ok (.getfield 76, 3) := by decide +kernel
theorem dX3_soundOne_79 : decode cX3_soundOne 79 = .ok (.iload 7, 2) := by decide +kernel
theorem dX3_soundOne_81 : decode cX3_soundOne 81 = .ok (.if_icmp .ge 14, 3) := by decide +kernel
theorem dX3_soundOne_84 : decode cX3_soundOne 84 = .ok (.aload_n 0, 1) := by decide +kernel
theorem dX3_soundOne_85 : decode cX3_soundOne 85 = .ok (.dup, 1) := by decide +kernel
theorem dX3_soundOne_86 : decode cX3_soundOne 86 = .ok (.getfield 91, 3) := by decide +kernel
theorem dX3_soundOne_89 : decode cX3_soundOne 89 = .ok (.iconst 1, 1) := by decide +kernel
theorem dX3_soundOne_90 : decode cX3_soundOne 90 = .ok (.iadd, 1) := by decide +kernel
theorem dX3_soundOne_91 : decode cX3_soundOne 91 = .ok (.putfield 91, 3) := by decide +kernel
theorem dX3_soundOne_94 : decode cX3_soundOne 94 = .ok (.return_, 1) := by decide +kernel
theorem dX3_soundOne_95 : decode cX3_soundOne 95 = .ok (.iload 7, 2) := by decide +kernel
theorem dX3_soundOne_97 : decode cX3_soundOne 97 = .ok (.iload 7, 2) := by decide +kernel
theorem dX3_soundOne_99 : decode cX3_soundOne 99 = .ok (.iconst 2, 1) := by decide +kernel
theorem dX3_soundOne_100 : decode cX3_soundOne 100 = .ok (.idiv, 1) := by decide +kernel
theorem dX3_soundOne_101 : decode cX3_soundOne 101 = .ok (.isub, 1) := by decide +kernel
theorem dX3_soundOne_102 : decode cX3_soundOne 102 = .ok (.istore 8, 2) := by decide +kernel
theorem dX3_soundOne_104 : decode cX3_soundOne 104 = .ok (.aload_n 0, 1) := by decide +kernel
theorem dX3_soundOne_105 : decode cX3_soundOne 105 = .ok (.dup, 1) := by decide +kernel
theorem dX3_soundOne_106 : decode cX3_soundOne 106 = .ok (.getfield 76, 3) := by decide +kernel
theorem dX3_soundOne_109 : decode cX3_soundOne 109 = .ok (.iload 8, 2) := by decide +kernel
theorem dX3_soundOne_111 : decode cX3_soundOne 111 = .ok (.isub, 1) := by decide +kernel
theorem dX3_soundOne_112 : decode cX3_soundOne 112 = .ok (.putfield 76, 3) := by decide +kernel
theorem dX3_soundOne_115 : decode cX3_soundOne 115 = .ok (.aload_n 0, 1) := by decide +kernel
theorem dX3_soundOne_116 : decode cX3_soundOne 116 = .ok (.getfield 21, 3) := by decide +kernel
theorem dX3_soundOne_119 : decode cX3_soundOne 119 = .ok (.iload_n 2, 1) := by decide +kernel
theorem dX3_soundOne_120 : decode cX3_soundOne 120 = .ok (.aload_n 0, 1) := by decide +kernel
theorem dX3_soundOne_121 : decode cX3_soundOne 121 = .ok (.getfield 76, 3) := by decide +kernel
theorem dX3_soundOne_124 : decode cX3_soundOne 124 = .ok (.bipush 10, 2) := by decide +kernel
theorem dX3_soundOne_126 : decode cX3_soundOne 126 = .ok (.if_icmp .ge 7, 3) := by decide +kernel
theorem dX3_soundOne_129 : decode cX3_soundOne 129 = .ok (.iconst 1, 1) := by decide +kernel
theorem dX3_soundOne_130 : decode cX3_soundOne 130 = .ok (.goto 4, 3) := by decide +kernel
theorem dX3_soundOne_133 : decode cX3_soundOne 133 = .ok (.iconst 2, 1) := by decide +kernel
theorem dX3_soundOne_134 : decode cX3_soundOne 134 = .ok (.iastore, 1) := by decide +kernel
theorem dX3_soundOne_135 : decode cX3_soundOne 135 = .ok (.aload_n 0, 1) := by decide +kernel
theorem dX3_soundOne_136 : decode cX3_soundOne 136 = .ok (.getfield 24, 3) := by decide +kernel
theorem dX3_soundOne_139 : decode cX3_soundOne 139 = .ok (.iload_n 3, 1) := by decide +kernel
theorem dX3_soundOne_140 : decode cX3_soundOne 140 = .ok (.dup2, 1) := by decide +kernel
theorem dX3_soundOne_141 : decode cX3_soundOne 141 = .ok (.iaload, 1) := by decide +kernel
theorem dX3_soundOne_142 : decode cX3_soundOne 142 = .ok (.iconst 1, 1) := by decide +kernel
theorem dX3_soundOne_143 : decode cX3_soundOne 143 = .ok (.iadd, 1) := by decide +kernel
theorem dX3_soundOne_144 : decode cX3_soundOne 144 = .ok (.iastore, 1) := by decide +kernel
theorem dX3_soundOne_145 : decode cX3_soundOne 145 = .ok (.aload_n 0, 1) := by decide +kernel
theorem dX3_soundOne_146 : decode cX3_soundOne 146 = .ok (.getfield 27, 3) := by decide +kernel
theorem dX3_soundOne_149 : decode cX3_soundOne 149 = .ok (.iload_n 3, 1) := by decide +kernel
theorem dX3_soundOne_150 : decode cX3_soundOne 150 = .ok (.dup2, 1) := by decide +kernel
theorem dX3_soundOne_151 : decode cX3_soundOne 151 = .ok (.iaload, 1) := by decide +kernel
theorem dX3_soundOne_152 : decode cX3_soundOne 152 = .ok (.iload 8, 2) := by decide +kernel
theorem dX3_soundOne_154 : decode cX3_soundOne 154 = .ok (.iadd, 1) := by decide +kernel
theorem dX3_soundOne_155 : decode cX3_soundOne 155 = .ok (.iastore, 1) := by decide +kernel
theorem dX3_soundOne_156 : decode cX3_soundOne 156 = .ok (.aload_n 0, 1) := by decide +kernel
theorem dX3_soundOne_157 : decode cX3_soundOne 157 = .ok (.dup, 1) := by decide +kernel
theorem dX3_soundOne_158 : decode cX3_soundOne 158 = .ok (.getfield 85, 3) := by decide +kernel
theorem dX3_soundOne_161 : decode cX3_soundOne 161 = .ok (.iconst 1, 1) := by decide +kernel
theorem dX3_soundOne_162 : decode cX3_soundOne 162 = .ok (.iadd, 1) := by decide +kernel
theorem dX3_soundOne_163 : decode cX3_soundOne 163 = .ok (.putfield 85, 3) := by decide +kernel
theorem dX3_soundOne_166 : decode cX3_soundOne 166 = .ok (.aload_n 0, 1) := by decide +kernel
theorem dX3_soundOne_167 : decode cX3_soundOne 167 = .ok (.dup, 1) := by decide +kernel
theorem dX3_soundOne_168 : decode cX3_soundOne 168 = .ok (.getfield 88, 3) := by decide +kernel
theorem dX3_soundOne_171 : decode cX3_soundOne 171 = .ok (.iconst 1, 1) := by decide +kernel
theorem dX3_soundOne_172 : decode cX3_soundOne 172 = .ok (.iload_n 2, 1) := by decide +kernel
theorem dX3_soundOne_173 : decode cX3_soundOne 173 = .ok (.ishl, 1) := by decide +kernel
theorem dX3_soundOne_174 : decode cX3_soundOne 174 = .ok (.ior, 1) := by decide +kernel
theorem dX3_soundOne_175 : decode cX3_soundOne 175 = .ok (.putfield 88, 3) := by decide +kernel
theorem dX3_soundOne_178 : decode cX3_soundOne 178 = .ok (.return_, 1) := by decide +kernel
theorem dX3_passOn_0 : decode cX3_passOn 0 = .ok (.aload_n 1, 1) := by decide +kernel
theorem dX3_passOn_1 : decode cX3_passOn 1 = .ok (.getfield 128, 3) := by decide +kernel
theorem dX3_passOn_4 : decode cX3_passOn 4 = .ok (.ifCond .ne 5, 3) := by decide +kernel
theorem dX3_passOn_7 : decode cX3_passOn 7 = .ok (.iconst 0, 1) := by decide +kernel
theorem dX3_passOn_8 : decode cX3_passOn 8 = .ok (.ireturn, 1) := by decide +kernel
theorem dX3_passOn_9 : decode cX3_passOn 9 = .ok (.aload_n 1, 1) := by decide +kernel
theorem dX3_passOn_10 : decode cX3_passOn 10 = .ok (.getfield 141, 3) := by decide +kernel
theorem dX3_passOn_13 : decode cX3_passOn 13 = .ok (.aload_n 0, 1) := by decide +kernel
theorem dX3_passOn_14 : decode cX3_passOn 14 = .ok (.getfield 73, 3) := by decide +kernel
theorem dX3_passOn_17 : decode cX3_passOn 17 = .ok (.iaload, 1) := by decide +kernel
theorem dX3_passOn_18 : decode cX3_passOn 18 = .ok (.istore_n 3, 1) := by decide +kernel
theorem dX3_passOn_19 : decode cX3_passOn 19 = .ok (.aload_n 0, 1) := by decide +kernel
theorem dX3_passOn_20 : decode cX3_passOn 20 = .ok (.getfield 73, 3) := by decide +kernel
theorem dX3_passOn_23 : decode cX3_passOn 23 = .ok (.aload_n 1, 1) := by decide +kernel
theorem dX3_passOn_24 : decode cX3_passOn 24 = .ok (.getfield 128, 3) := by decide +kernel
theorem dX3_passOn_27 : decode cX3_passOn 27 = .ok (.iconst 1, 1) := by decide +kernel
theorem dX3_passOn_28 : decode cX3_passOn 28 = .ok (.isub, 1) := by decide +kernel
theorem dX3_passOn_29 : decode cX3_passOn 29 = .ok (.if_icmp .ne 7, 3) := by decide +kernel
theorem dX3_passOn_32 : decode cX3_passOn 32 = .ok (.iconst 1, 1) := by decide +kernel
theorem dX3_passOn_33 : decode cX3_passOn 33 = .ok (.goto 4, 3) := by decide +kernel
theorem dX3_passOn_36 : decode cX3_passOn 36 = .ok (.iconst 0, 1) := by decide +kernel
theorem dX3_passOn_37 : decode cX3_passOn 37 = .ok (.istore 4, 2) := by decide +kernel
theorem dX3_passOn_39 : decode cX3_passOn 39 = .ok (.aload_n 1, 1) := by decide +kernel
theorem dX3_passOn_40 : decode cX3_passOn 40 = .ok (.getfield 144, 3) := by decide +kernel
theorem dX3_passOn_43 : decode cX3_passOn 43 = .ok (.iload_n 3, 1) := by decide +kernel
theorem dX3_passOn_44 : decode cX3_passOn 44 = .ok (.iaload, 1) := by decide +kernel
theorem dX3_passOn_45 : decode cX3_passOn 45 = .ok (.iload 4, 2) := by decide +kernel
theorem dX3_passOn_47 : decode cX3_passOn 47 = .ok (.ifCond .eq 7, 3) := by decide +kernel
theorem dX3_passOn_50 : decode cX3_passOn 50 = .ok (.iconst 2, 1) := by decide +kernel
theorem dX3_passOn_51 : decode cX3_passOn 51 = .ok (.goto 4, 3) := by decide +kernel
theorem dX3_passOn_54 : decode cX3_passOn 54 = .ok (.iconst 0, 1) := by decide +kernel
theorem dX3_passOn_55 : decode cX3_passOn 55 = .ok (.iadd, 1) := by decide +kernel
theorem dX3_passOn_56 : decode cX3_passOn 56 = .ok (.istore 5, 2) := by decide +kernel
theorem dX3_passOn_58 : decode cX3_passOn 58 = .ok (.aload_n 0, 1) := by decide +kernel
theorem dX3_passOn_59 : decode cX3_passOn 59 = .ok (.getfield 76, 3) := by decide +kernel
theorem dX3_passOn_62 : decode cX3_passOn 62 = .ok (.iload_n 2, 1) := by decide +kernel
theorem dX3_passOn_63 : decode cX3_passOn 63 = .ok (.ifCond .eq 10, 3) := by decide +kernel
theorem dX3_passOn_66 : decode cX3_passOn 66 = .ok (.iconst 2, 1) := by decide +kernel
theorem dX3_passOn_67 : decode cX3_passOn 67 = .ok (.iload 5, 2) := by decide +kernel
theorem dX3_passOn_69 : decode cX3_passOn 69 = .ok (.imul, 1) := by decide +kernel
theorem dX3_passOn_70 : decode cX3_passOn 70 = .ok (.goto 5, 3) := by decide +kernel
theorem dX3_passOn_73 : decode cX3_passOn 73 = .ok (.iload 5, 2) := by decide +kernel
theorem dX3_passOn_75 : decode cX3_passOn 75 = .ok (.invokestatic 122, 3) := by decide +kernel
theorem dX3_passOn_78 : decode cX3_passOn 78 = .ok (.istore 6, 2) := by decide +kernel
theorem dX3_passOn_80 : decode cX3_passOn 80 = .ok (.aload_n 0, 1) := by decide +kernel
theorem dX3_passOn_81 : decode cX3_passOn 81 = .ok (.dup, 1) := by decide +kernel
theorem dX3_passOn_82 : decode cX3_passOn 82 = .ok (.getfield 76, 3) := by decide +kernel
theorem dX3_passOn_85 : decode cX3_passOn 85 = .ok (.iload 6, 2) := by decide +kernel
theorem dX3_passOn_87 : decode cX3_passOn 87 = .ok (.isub, 1) := by decide +kernel
theorem dX3_passOn_88 : decode cX3_passOn 88 = .ok (.putfield 76, 3) := by decide +kernel
theorem dX3_passOn_91 : decode cX3_passOn 91 = .ok (.aload_n 0, 1) := by decide +kernel
theorem dX3_passOn_92 : decode cX3_passOn 92 = .ok (.getfield 30, 3) := by decide +kernel
theorem dX3_passOn_95 : decode cX3_passOn 95 = .ok (.iload_n 3, 1) := by decide +kernel
theorem dX3_passOn_96 : decode cX3_passOn 96 = .ok (.dup2, 1) := by decide +kernel
theorem dX3_passOn_97 : decode cX3_passOn 97 = .ok (.iaload, 1) := by decide +kernel
theorem dX3_passOn_98 : decode cX3_passOn 98 = .ok (.iload 6, 2) := by decide +kernel
theorem dX3_passOn_100 : decode cX3_passOn 100 = .ok (.iadd, 1) := by decide +kernel
theorem dX3_passOn_101 : decode cX3_passOn 101 = .ok (.iastore, 1) := by decide +kernel
theorem dX3_passOn_102 : decode cX3_passOn 102 = .ok (.aload_n 0, 1) := by decide +kernel
theorem dX3_passOn_103 : decode cX3_passOn 103 = .ok (.dup, 1) := by decide +kernel
theorem dX3_passOn_104 : decode cX3_passOn 104 = .ok (.getfield 94, 3) := by decide +kernel
theorem dX3_passOn_107 : decode cX3_passOn 107 = .ok (.iload 6, 2) := by decide +kernel
theorem dX3_passOn_109 : decode cX3_passOn 109 = .ok (.iadd, 1) := by decide +kernel
theorem dX3_passOn_110 : decode cX3_passOn 110 = .ok (.putfield 94, 3) := by decide +kernel
theorem dX3_passOn_113 : decode cX3_passOn 113 = .ok (.aload_n 0, 1) := by decide +kernel
theorem dX3_passOn_114 : decode cX3_passOn 114 = .ok (.iload 4, 2) := by decide +kernel
theorem dX3_passOn_116 : decode cX3_passOn 116 = .ok (.ifCond .eq 7, 3) := by decide +kernel
theorem dX3_passOn_119 : decode cX3_passOn 119 = .ok (.iconst 0, 1) := by decide +kernel
theorem dX3_passOn_120 : decode cX3_passOn 120 = .ok (.goto 9, 3) := by decide +kernel
theorem dX3_passOn_123 : decode cX3_passOn 123 = .ok (.aload_n 0, 1) := by decide +kernel
theorem dX3_passOn_124 : decode cX3_passOn 124 = .ok (.getfield 73, 3) := by decide +kernel
theorem dX3_passOn_127 : decode cX3_passOn 127 = .ok (.iconst 1, 1) := by decide +kernel
theorem dX3_passOn_128 : decode cX3_passOn 128 = .ok (.iadd, 1) := by decide +kernel
theorem dX3_passOn_129 : decode cX3_passOn 129 = .ok (.putfield 73, 3) := by decide +kernel
theorem dX3_passOn_132 : decode cX3_passOn 132 = .ok (.iload 6, 2) := by decide +kernel
theorem dX3_passOn_134 : decode cX3_passOn 134 = .ok (.ireturn, 1) := by decide +kernel
theorem dX4_init_0 : decode cX4_init 0 = .ok (.aload_n 0, 1) := by decide +kernel
theorem dX4_init_1 : decode cX4_init 1 = .ok (.invokespecial 3, 3) := by decide +kernel
theorem dX4_init_4 : decode cX4_init 4 = .ok (.aload_n 0, 1) := by decide +kernel
theorem dX4_init_5 : decode cX4_init 5 = .ok (.iconst 1, 1) := by decide +kernel
theorem dX4_init_6 : decode cX4_init 6 = .ok (.putfield 9, 3) := by decide +kernel
theorem dX4_init_9 : decode cX4_init 9 = .ok (.aload_n 0, 1) := by decide +kernel
theorem dX4_init_10 : decode cX4_init 10 = .ok (.iconst 0, 1) := by decide +kernel
theorem dX4_init_11 : decode cX4_init 11 = .ok (.putfield 15, 3) := by decide +kernel
theorem dX4_init_14 : decode cX4_init 14 = .ok (.aload_n 0, 1) := by decide +kernel
theorem dX4_init_15 : decode cX4_init 15 = .ok (.iconst 0, 1) := by decide +kernel
theorem dX4_init_16 : decode cX4_init 16 = .ok (.putfield 19, 3) := by decide +kernel
theorem dX4_init_19 : decode cX4_init 19 = .ok (.aload_n 0, 1) := by decide +kernel
theorem dX4_init_20 : decode cX4_init 20 = .ok (.bipush 60, 2) := by decide +kernel
theorem dX4_init_22 : decode cX4_init 22 = .ok (.newarray .int, 2) := by decide +kernel
theorem dX4_init_24 : decode cX4_init 24 = .ok (.putfield 22, 3) := by decide +kernel
theorem dX4_init_27 : decode cX4_init 27 = .ok (.return_, 1) := by decide +kernel
theorem dX4_renew_0 : decode cX4_renew 0 = .ok (.aload_n 0, 1) := by decide +kernel
theorem dX4_renew_1 : decode cX4_renew 1 = .ok (.iconst 0, 1) := by decide +kernel
theorem dX4_renew_2 : decode cX4_renew 2 = .ok (.putfield 9, 3) := by decide +kernel
theorem dX4_renew_5 : decode cX4_renew 5 = .ok (.aload_n 0, 1) := by decide +kernel
theorem dX4_renew_6 : decode cX4_renew 6 = .ok (.iload_n 1, 1) := by decide +kernel
theorem dX4_renew_7 : decode cX4_renew 7 = .ok (.putfield 15, 3) := by decide +kernel
theorem dX4_renew_10 : decode cX4_renew 10 = .ok (.aload_n 0, 1) := by decide +kernel
theorem dX4_renew_11 : decode cX4_renew 11 = .ok (.iload_n 2, 1) := by decide +kernel
theorem dX4_renew_12 : decode cX4_renew 12 = .ok (.putfield 19, 3) := by decide +kernel
theorem dX4_renew_15 : decode cX4_renew 15 = .ok (.aload_n 0, 1) := by decide +kernel
theorem dX4_renew_16 : decode cX4_renew 16 = .ok (.getfield 22, 3) := by decide +kernel
theorem dX4_renew_19 : decode cX4_renew 19 = .ok (.iconst 0, 1) := by decide +kernel
theorem dX4_renew_20 : decode cX4_renew 20 = .ok (.invokestatic 26, 3) := by decide +kernel
theorem dX4_renew_23 : decode cX4_renew 23 = .ok (.return_, 1) := by decide +kernel
theorem dX4_findingAt_0 : decode cX4_findingAt 0 = .ok (.aload_n 0, 1) := by decide +kernel
theorem dX4_findingAt_1 : decode cX4_findingAt 1 = .ok (.getfield 9, 3) := by decide +kernel
theorem dX4_findingAt_4 : decode cX4_findingAt 4 = .ok (.ifCond .eq 5, 3) := by decide +kernel
theorem dX4_findingAt_7 : decode cX4_findingAt 7 = .ok (.iconst 1, 1) := by decide +kernel
theorem dX4_findingAt_8 : decode cX4_findingAt 8 = .ok (.ireturn, 1) := by decide +kernel
theorem dX4_findingAt_9 : decode cX4_findingAt 9 = .ok (.iload_n 1, 1) := by decide +kernel
theorem dX4_findingAt_10 : decode cX4_findingAt 10 = .ok (.aload_n 0, 1) := by decide +kernel
theorem dX4_findingAt_11 : decode cX4_findingAt 11 = .ok (.getfield 15, 3) := by decide +kernel
theorem dX4_findingAt_14 : decode cX4_findingAt 14 = .ok (.if_icmp .eq 5, 3) := by decide +kernel
theorem dX4_findingAt_17 : decode cX4_findingAt 17 = .ok (.iconst 3, 1) := by decide +kernel
theorem dX4_findingAt_18 : decode cX4_findingAt 18 = .ok (.ireturn, 1) := by decide +kernel
theorem dX4_findingAt_19 : decode cX4_findingAt 19 = .ok (.iload_n 2, 1) := by decide +kernel
theorem dX4_findingAt_20 : decode cX4_findingAt 20 = .ok (.ifCond .lt 11, 3) := by decide +kernel
theorem dX4_findingAt_23 : decode cX4_findingAt 23 = .ok (.iload_n 2, 1) := by decide +kernel
theorem dX4_findingAt_24 : decode cX4_findingAt 24 = .ok (.aload_n 0, 1) := by decide +kernel
theorem dX4_findingAt_25 : decode cX4_findingAt 25 = .ok (.getfield 19, 3) := by decide +kernel
theorem dX4_findingAt_28 : decode cX4_findingAt 28 = .ok (.if_icmp .lt 7, 3) := by decide +kernel
theorem dX4_findingAt_31 : decode cX4_findingAt 31 = .ok (.iconst 2, 1) := by decide +kernel
theorem dX4_findingAt_32 : decode cX4_findingAt 32 = .ok (.goto 4, 3) := by decide +kernel
theorem dX4_findingAt_35 : decode cX4_findingAt 35 = .ok (.iconst 0, 1) := by decide +kernel
theorem dX4_findingAt_36 : decode cX4_findingAt 36 = .ok (.ireturn, 1) := by decide +kernel
theorem dX4_holds_0 : decode cX4_holds 0 = .ok (.iload_n 1, 1) := by decide +kernel
theorem dX4_holds_1 : decode cX4_holds 1 = .ok (.ifCond .lt 21, 3) := by decide +kernel
theorem dX4_holds_4 : decode cX4_holds 4 = .ok (.iload_n 2, 1) := by decide +kernel
theorem dX4_holds_5 : decode cX4_holds 5 = .ok (.ifCond .lt 17, 3) := by decide +kernel
theorem dX4_holds_8 : decode cX4_holds 8 = .ok (.iload_n 1, 1) := by decide +kernel
theorem dX4_holds_9 : decode cX4_holds 9 = .ok (.aload_n 0, 1) := by decide +kernel
theorem dX4_holds_10 : decode cX4_holds 10 = .ok (.getfield 19, 3) := by decide +kernel
theorem dX4_holds_13 : decode cX4_holds 13 = .ok (.iload_n 2, 1) := by decide +kernel
theorem dX4_holds_14 : decode cX4_holds 14 = .ok (.isub, 1) := by decide +kernel
theorem dX4_holds_15 : decode cX4_holds 15 = .ok (.if_icmp .gt 7, 3) := by decide +kernel
theorem dX4_holds_18 : decode cX4_holds 18 = .ok (.iconst 1, 1) := by decide +kernel
theorem dX4_holds_19 : decode cX4_holds 19 = .ok (.goto 4, 3) := by decide +kernel
theorem dX4_holds_22 : decode cX4_holds 22 = .ok (.iconst 0, 1) := by decide +kernel
theorem dX4_holds_23 : decode cX4_holds 23 = .ok (.ireturn, 1) := by decide +kernel
theorem dX4_put_0 : decode cX4_put 0 = .ok (.aload_n 0, 1) := by decide +kernel
theorem dX4_put_1 : decode cX4_put 1 = .ok (.getfield 15, 3) := by decide +kernel
theorem dX4_put_4 : decode cX4_put 4 = .ok (.ifCond .ne 14, 3) := by decide +kernel
theorem dX4_put_7 : decode cX4_put 7 = .ok (.aload_n 0, 1) := by decide +kernel
theorem dX4_put_8 : decode cX4_put 8 = .ok (.getfield 22, 3) := by decide +kernel
theorem dX4_put_11 : decode cX4_put 11 = .ok (.iload_n 1, 1) := by decide +kernel
theorem dX4_put_12 : decode cX4_put 12 = .ok (.iload_n 2, 1) := by decide +kernel
theorem dX4_put_13 : decode cX4_put 13 = .ok (.i2b, 1) := by decide +kernel
theorem dX4_put_14 : decode cX4_put 14 = .ok (.iastore, 1) := by decide +kernel
theorem dX4_put_15 : decode cX4_put 15 = .ok (.goto 29, 3) := by decide +kernel
theorem dX4_put_18 : decode cX4_put 18 = .ok (.aload_n 0, 1) := by decide +kernel
theorem dX4_put_19 : decode cX4_put 19 = .ok (.getfield 15, 3) := by decide +kernel
theorem dX4_put_22 : decode cX4_put 22 = .ok (.iconst 1, 1) := by decide +kernel
theorem dX4_put_23 : decode cX4_put 23 = .ok (.if_icmp .ne 14, 3) := by decide +kernel
theorem dX4_put_26 : decode cX4_put 26 = .ok (.aload_n 0, 1) := by decide +kernel
theorem dX4_put_27 : decode cX4_put 27 = .ok (.getfield 22, 3) := by decide +kernel
theorem dX4_put_30 : decode cX4_put 30 = .ok (.iload_n 1, 1) := by decide +kernel
theorem dX4_put_31 : decode cX4_put 31 = .ok (.iload_n 2, 1) := by decide +kernel
theorem dX4_put_32 : decode cX4_put 32 = .ok (.i2s, 1) := by decide +kernel
theorem dX4_put_33 : decode cX4_put 33 = .ok (.iastore, 1) := by decide +kernel
theorem dX4_put_34 : decode cX4_put 34 = .ok (.goto 10, 3) := by decide +kernel
theorem dX4_put_37 : decode cX4_put 37 = .ok (.aload_n 0, 1) := by decide +kernel
theorem dX4_put_38 : decode cX4_put 38 = .ok (.getfield 22, 3) := by decide +kernel
theorem dX4_put_41 : decode cX4_put 41 = .ok (.iload_n 1, 1) := by decide +kernel
theorem dX4_put_42 : decode cX4_put 42 = .ok (.iload_n 2, 1) := by decide +kernel
theorem dX4_put_43 : decode cX4_put 43 = .ok (.iastore, 1) := by decide +kernel
theorem dX4_put_44 : decode cX4_put 44 = .ok (.return_, 1) := by decide +kernel
theorem dX5_init_0 : decode cX5_init 0 = .ok (.aload_n 0, 1) := by decide +kernel
theorem dX5_init_1 : decode cX5_init 1 = .ok (.invokespecial 3, 3) := by decide +kernel
theorem dX5_init_4 : decode cX5_init 4 = .ok (.aload_n 0, 1) := by decide +kernel
theorem dX5_init_5 : decode cX5_init 5 = .ok (.bipush 47, 2) := by decide +kernel
theorem dX5_init_7 : decode cX5_init 7 = .ok (.newarray .int, 2) := by decide +kernel
theorem dX5_init_9 : decode cX5_init 9 = .ok (.putfield 9, 3) := by decide +kernel
theorem dX5_init_12 : decode cX5_init 12 = .ok (.aload_n 0, 1) := by decide +kernel
theorem dX5_init_13 : decode cX5_init 13 = .ok (.iconst 0, 1) := by decide +kernel
theorem dX5_init_14 : decode cX5_init 14 = .ok (.putfield 15, 3) := by decide +kernel
theorem dX5_init_17 : decode cX5_init 17 = .ok (.aload_n 0, 1) := by decide +kernel
theorem dX5_init_18 : decode cX5_init 18 = .ok (.iload_n 1, 1) := by decide +kernel
theorem dX5_init_19 : decode cX5_init 19 = .ok (.putfield 19, 3) := by decide +kernel
theorem dX5_init_22 : decode cX5_init 22 = .ok (.aload_n 0, 1) := by decide +kernel
theorem dX5_init_23 : decode cX5_init 23 = .ok (.iload_n 1, 1) := by decide +kernel
theorem dX5_init_24 : decode cX5_init 24 = .ok (.ifCond .eq 8, 3) := by decide +kernel
theorem dX5_init_27 : decode cX5_init 27 = .ok (.bipush 47, 2) := by decide +kernel
theorem dX5_init_29 : decode cX5_init 29 = .ok (.goto 5, 3) := by decide +kernel
theorem dX5_init_32 : decode cX5_init 32 = .ok (.bipush 32, 2) := by decide +kernel
theorem dX5_init_34 : decode cX5_init 34 = .ok (.putfield 23, 3) := by decide +kernel
theorem dX5_init_37 : decode cX5_init 37 = .ok (.aload_n 0, 1) := by decide +kernel
theorem dX5_init_38 : decode cX5_init 38 = .ok (.iload_n 1, 1) := by decide +kernel
theorem dX5_init_39 : decode cX5_init 39 = .ok (.ifCond .eq 8, 3) := by decide +kernel
theorem dX5_init_42 : decode cX5_init 42 = .ok (.bipush 16, 2) := by decide +kernel
theorem dX5_init_44 : decode cX5_init 44 = .ok (.goto 5, 3) := by decide +kernel
theorem dX5_init_47 : decode cX5_init 47 = .ok (.bipush 11, 2) := by decide +kernel
theorem dX5_init_49 : decode cX5_init 49 = .ok (.putfield 26, 3) := by decide +kernel
theorem dX5_init_52 : decode cX5_init 52 = .ok (.return_, 1) := by decide +kernel
theorem dX5_append_0 : decode cX5_append 0 = .ok (.aload_n 0, 1) := by decide +kernel
theorem dX5_append_1 : decode cX5_append 1 = .ok (.getfield 15, 3) := by decide +kernel
theorem dX5_append_4 : decode cX5_append 4 = .ok (.aload_n 0, 1) := by decide +kernel
theorem dX5_append_5 : decode cX5_append 5 = .ok (.getfield 23, 3) := by decide +kernel
theorem dX5_append_8 : decode cX5_append 8 = .ok (.if_icmp .lt 5, 3) := by decide +kernel
theorem dX5_append_11 : decode cX5_append 11 = .ok (.iconst 0, 1) := by decide +kernel
theorem dX5_append_12 : decode cX5_append 12 = .ok (.ireturn, 1) := by decide +kernel
theorem dX5_append_13 : decode cX5_append 13 = .ok (.aload_n 0, 1) := by decide +kernel
theorem dX5_append_14 : decode cX5_append 14 = .ok (.getfield 9, 3) := by decide +kernel
theorem dX5_append_17 : decode cX5_append 17 = .ok (.aload_n 0, 1) := by decide +kernel
theorem dX5_append_18 : decode cX5_append 18 = .ok (.getfield 15, 3) := by decide +kernel
theorem dX5_append_21 : decode cX5_append 21 = .ok (.iload_n 1, 1) := by decide +kernel
theorem dX5_append_22 : decode cX5_append 22 = .ok (.iastore, 1) := by decide +kernel
theorem dX5_append_23 : decode cX5_append 23 = .ok (.aload_n 0, 1) := by decide +kernel
theorem dX5_append_24 : decode cX5_append 24 = .ok (.dup, 1) := by decide +kernel
theorem dX5_append_25 : decode cX5_append 25 = .ok (.getfield 15, 3) := by decide +kernel
theorem dX5_append_28 : decode cX5_append 28 = .ok (.iconst 1, 1) := by decide +kernel
theorem dX5_append_29 : decode cX5_append 29 = .ok (.iadd, 1) := by decide +kernel
theorem dX5_append_30 : decode cX5_append 30 = .ok (.putfield 15, 3) := by decide +kernel
theorem dX5_append_33 : decode cX5_append 33 = .ok (.iconst 1, 1) := by decide +kernel
theorem dX5_append_34 : decode cX5_append 34 = .ok (.ireturn, 1) := by decide +kernel
theorem dX5_faultPlace_0 : decode cX5_faultPlace 0 = .ok (.iconst 0, 1) := by decide +kernel
theorem dX5_faultPlace_1 : decode cX5_faultPlace 1 = .ok (.istore_n 1, 1) := by decide +kernel
theorem dX5_faultPlace_2 : decode cX5_faultPlace 2 = .ok (.iload_n 1, 1) := by decide +kernel
theorem dX5_faultPlace_3 : decode cX5_faultPlace 3 = .ok (.aload_n 0, 1) := by decide +kernel
theorem dX5_faultPlace_4 : decode cX5_faultPlace 4 = .ok (.getfield 15, 3) := by decide +kernel
theorem dX5_faultPlace_7 : decode cX5_faultPlace 7 = .ok (.if_icmp .ge 37, 3) := by decide +kernel
theorem dX5_faultPlace_10 : decode cX5_faultPlace 10 = .ok (.iload_n 1, 1) := by decide +kernel
theorem dX5_faultPlace_11 : decode cX5_faultPlace 11 = .ok (.iconst 3, 1) := by decide +kernel
theorem dX5_faultPlace_12 : decode cX5_faultPlace 12 = .ok (.idiv, 1) := by decide +kernel
theorem dX5_faultPlace_13 : decode cX5_faultPlace 13 = .ok (.aload_n 0, 1) := by decide +kernel
theorem dX5_faultPlace_14 : decode cX5_faultPlace 14 = .ok (.getfield 26, 3) := by decide +kernel
theorem dX5_faultPlace_17 : decode cX5_faultPlace 17 = .ok (.if_icmp .ge 19, 3) := by decide +kernel
theorem dX5_faultPlace_20 : decode cX5_faultPlace 20 = .ok (.aload_n 0, 1) := by decide +kernel
theorem dX5_faultPlace_21 : decode cX5_faultPlace 21 = .ok (.aload_n 0, 1) := by decide +kernel
theorem dX5_faultPlace_22 : decode cX5_faultPlace 22 = .ok (.getfield 9, 3) := by decide +kernel
theorem dX5_faultPlace_25 : decode cX5_faultPlace 25 = .ok (.iload_n 1, 1) := by decide +kernel
theorem dX5_faultPlace_26 : decode cX5_faultPlace 26 = .ok (.iaload, 1) := by decide +kernel
theorem dX5_faultPlace_27 : decode cX5_faultPlace 27 = .ok (.iload_n 1, 1) := by decide +kernel
theorem dX5_faultPlace_28 : decode cX5_faultPlace 28 = .ok (.iconst 3, 1) := by decide +kernel
theorem dX5_faultPlace_29 : decode cX5_faultPlace 29 = .ok (.irem, 1) := by decide +kernel
theorem dX5_faultPlace_30 : decode cX5_faultPlace 30 = .ok (.invokevirtual 29, 3) := by decide +kernel
theorem dX5_faultPlace_33 : decode cX5_faultPlace 33 = .ok (.ifCond .ne 5, 3) := by decide +kernel
theorem dX5_faultPlace_36 : decode cX5_faultPlace 36 = .ok (.iload_n 1, 1) := by decide +kernel
theorem dX5_faultPlace_37 : decode cX5_faultPlace 37 = .ok (.ireturn, 1) := by decide +kernel
theorem dX5_faultPlace_38 : decode cX5_faultPlace 38 = .ok (.iinc 1 1, 3) := by decide +kernel
theorem dX5_faultPlace_41 : decode cX5_faultPlace 41 = .ok (.goto (-39), 3) := by decide +kernel
theorem dX5_faultPlace_44 : decode cX5_faultPlace 44 = .ok (.aload_n 0, 1) := by decide +kernel
theorem dX5_faultPlace_45 : decode cX5_faultPlace 45 = .ok (.getfield 15, 3) := by decide +kernel
theorem dX5_faultPlace_48 : decode cX5_faultPlace 48 = .ok (.ifCond .eq 13, 3) := by decide +kernel
theorem dX5_faultPlace_51 : decode cX5_faultPlace 51 = .ok (.aload_n 0, 1) := by decide +kernel
theorem dX5_faultPlace_52 : decode cX5_faultPlace 52 = .ok (.getfield 15, 3) := by decide +kernel
theorem dX5_faultPlace_55 : decode cX5_faultPlace 55 = .ok (.iconst 3, 1) := by decide +kernel
theorem dX5_faultPlace_56 : decode cX5_faultPlace 56 = .ok (.irem, 1) := by decide +kernel
theorem dX5_faultPlace_57 : decode cX5_faultPlace 57 = .ok (.iconst 2, 1) := by decide +kernel
theorem dX5_faultPlace_58 : decode cX5_faultPlace 58 = .ok (.if_icmp .ne 7, 3) := by decide +kernel
theorem dX5_faultPlace_61 : decode cX5_faultPlace 61 = .ok (.iconst (-1), 1) := by decide +kernel
theorem dX5_faultPlace_62 : decode cX5_faultPlace 62 = .ok (.goto 7, 3) := by decide +kernel
theorem dX5_faultPlace_65 : decode cX5_faultPlace 65 = .ok (.aload_n 0, 1) := by decide +kernel
theorem dX5_faultPlace_66 : decode cX5_faultPlace 66 = .ok (.getfield 15, 3) := by decide +kernel
theorem dX5_faultPlace_69 : decode cX5_faultPlace 69 = .ok (.ireturn, 1) := by decide +kernel
theorem dX5_things_0 : decode cX5_things 0 = .ok (.aload_n 0, 1) := by decide +kernel
theorem dX5_things_1 : decode cX5_things 1 = .ok (.invokevirtual 33, 3) := by decide +kernel
theorem dX5_things_4 : decode cX5_things 4 = .ok (.iconst (-1), 1) := by decide +kernel
theorem dX5_things_5 : decode cX5_things 5 = .ok (.if_icmp .ne 14, 3) := by decide +kernel
theorem dX5_things_8 : decode cX5_things 8 = .ok (.aload_n 0, 1) := by decide +kernel
theorem dX5_things_9 : decode cX5_things 9 = .ok (.getfield 15, 3) := by decide +kernel
theorem dX5_things_12 : decode cX5_things 12 = .ok (.iconst 1, 1) := by decide +kernel
theorem dX5_things_13 : decode cX5_things 13 = .ok (.iadd, 1) := by decide +kernel
theorem dX5_things_14 : decode cX5_things 14 = .ok (.iconst 3, 1) := by decide +kernel
theorem dX5_things_15 : decode cX5_things 15 = .ok (.idiv, 1) := by decide +kernel
theorem dX5_things_16 : decode cX5_things 16 = .ok (.goto 4, 3) := by decide +kernel
theorem dX5_things_19 : decode cX5_things 19 = .ok (.iconst 0, 1) := by decide +kernel
theorem dX5_things_20 : decode cX5_things 20 = .ok (.ireturn, 1) := by decide +kernel
theorem dX5_meaning_0 : decode cX5_meaning 0 = .ok (.aload_n 0, 1) := by decide +kernel
theorem dX5_meaning_1 : decode cX5_meaning 1 = .ok (.getfield 19, 3) := by decide +kernel
theorem dX5_meaning_4 : decode cX5_meaning 4 = .ok (.ifCond .eq 21, 3) := by decide +kernel
theorem dX5_meaning_7 : decode cX5_meaning 7 = .ok (.iload_n 1, 1) := by decide +kernel
theorem dX5_meaning_8 : decode cX5_meaning 8 = .ok (.bipush 97, 2) := by decide +kernel
theorem dX5_meaning_10 : decode cX5_meaning 10 = .ok (.iload_n 2, 1) := by decide +kernel
theorem dX5_meaning_11 : decode cX5_meaning 11 = .ok (.ifCond .ne 8, 3) := by decide +kernel
theorem dX5_meaning_14 : decode cX5_meaning 14 = .ok (.bipush 24, 2) := by decide +kernel
theorem dX5_meaning_16 : decode cX5_meaning 16 = .ok (.goto 5, 3) := by decide +kernel
theorem dX5_meaning_19 : decode cX5_meaning 19 = .ok (.bipush 11, 2) := by decide +kernel
theorem dX5_meaning_21 : decode cX5_meaning 21 = .ok (.invokestatic 37, 3) := by decide +kernel
theorem dX5_meaning_24 : decode cX5_meaning 24 = .ok (.ireturn, 1) := by decide +kernel
theorem dX5_meaning_25 : decode cX5_meaning 25 = .ok (.iload_n 2, 1) := by decide +kernel
theorem dX5_meaning_26 : decode cX5_meaning 26 = .ok (.ifCond .ne 10, 3) := by decide +kernel
theorem dX5_meaning_29 : decode cX5_meaning 29 = .ok (.iload_n 1, 1) := by decide +kernel
theorem dX5_meaning_30 : decode cX5_meaning 30 = .ok (.invokestatic 41, 3) := by decide +kernel
theorem dX5_meaning_33 : decode cX5_meaning 33 = .ok (.goto 10, 3) := by decide +kernel
theorem dX5_meaning_36 : decode cX5_meaning 36 = .ok (.iload_n 1, 1) := by decide +kernel
theorem dX5_meaning_37 : decode cX5_meaning 37 = .ok (.bipush 48, 2) := by decide +kernel
theorem dX5_meaning_39 : decode cX5_meaning 39 = .ok (.iconst 4, 1) := by decide +kernel
theorem dX5_meaning_40 : decode cX5_meaning 40 = .ok (.invokestatic 37, 3) := by decide +kernel
theorem dX5_meaning_43 : decode cX5_meaning 43 = .ok (.ireturn, 1) := by decide +kernel
theorem dX5_meaningAt_0 : decode cX5_meaningAt 0 = .ok (.iload_n 1, 1) := by decide +kernel
theorem dX5_meaningAt_1 : decode cX5_meaningAt 1 = .ok (.iconst 3, 1) := by decide +kernel
theorem dX5_meaningAt_2 : decode cX5_meaningAt 2 = .ok (.imul, 1) := by decide +kernel
theorem dX5_meaningAt_3 : decode cX5_meaningAt 3 = .ok (.iload_n 2, 1) := by decide +kernel
theorem dX5_meaningAt_4 : decode cX5_meaningAt 4 = .ok (.iadd, 1) := by decide +kernel
theorem dX5_meaningAt_5 : decode cX5_meaningAt 5 = .ok (.istore_n 3, 1) := by decide +kernel
theorem dX5_meaningAt_6 : decode cX5_meaningAt 6 = .ok (.iload_n 3, 1) := by decide +kernel
theorem dX5_meaningAt_7 : decode cX5_meaningAt 7 = .ok (.ifCond .lt 25, 3) := by decide +kernel
theorem dX5_meaningAt_10 : decode cX5_meaningAt 10 = .ok (.iload_n 3, 1) := by decide +kernel
theorem dX5_meaningAt_11 : decode cX5_meaningAt 11 = .ok (.aload_n 0, 1) := by decide +kernel
theorem dX5_meaningAt_12 : decode cX5_meaningAt 12 = .ok (.getfield 15, 3) := by decide +kernel
theorem dX5_meaningAt_15 : decode cX5_meaningAt 15 = .ok (.if_icmp .ge 17, 3) := by decide +kernel
theorem dX5_meaningAt_18 : decode cX5_meaningAt 18 = .ok (.aload_n 0, 1) := by decide +kernel
theorem dX5_meaningAt_19 : decode cX5_meaningAt 19 = .ok (.aload_n 0, 1) := by decide +kernel
theorem dX5_meaningAt_20 : decode cX5_meaningAt 20 = .ok (.getfield 9, 3) := by decide +kernel
theorem dX5_meaningAt_23 : decode cX5_meaningAt 23 = .ok (.iload_n 3, 1) := by decide +kernel
theorem dX5_meaningAt_24 : decode cX5_meaningAt 24 = .ok (.iaload, 1) := by decide +kernel
theorem dX5_meaningAt_25 : decode cX5_meaningAt 25 = .ok (.iload_n 2, 1) := by decide +kernel
theorem dX5_meaningAt_26 : decode cX5_meaningAt 26 = .ok (.invokevirtual 45, 3) := by decide +kernel
theorem dX5_meaningAt_29 : decode cX5_meaningAt 29 = .ok (.goto 4, 3) := by decide +kernel
theorem dX5_meaningAt_32 : decode cX5_meaningAt 32 = .ok (.iconst (-1), 1) := by decide +kernel
theorem dX5_meaningAt_33 : decode cX5_meaningAt 33 = .ok (.ireturn, 1) := by decide +kernel
theorem dX5_mayStand_0 : decode cX5_mayStand 0 = .ok (.iload_n 2, 1) := by decide +kernel
theorem dX5_mayStand_1 : decode cX5_mayStand 1 = .ok (.iconst 2, 1) := by decide +kernel
theorem dX5_mayStand_2 : decode cX5_mayStand 2 = .ok (.if_icmp .ne 17, 3) := by decide +kernel
theorem dX5_mayStand_5 : decode cX5_mayStand 5 = .ok (.iload_n 1, 1) := by decide +kernel
theorem dX5_mayStand_6 : decode cX5_mayStand 6 = .ok (.bipush 59, 2) := by decide +kernel
theorem dX5_mayStand_8 : decode cX5_mayStand 8 = .ok (.if_icmp .ne 7, 3) := by decide +kernel
theorem dX5_mayStand_11 : decode cX5_mayStand 11 = .ok (.iconst 1, 1) := by decide +kernel
theorem dX5_mayStand_12 : decode cX5_mayStand 12 = .ok (.goto 22, 3) := by decide +kernel
theorem dX5_mayStand_15 : decode cX5_mayStand 15 = .ok (.iconst 0, 1) := by decide +kernel
theorem dX5_mayStand_16 : decode cX5_mayStand 16 = .ok (.goto 18, 3) := by decide +kernel
theorem dX5_mayStand_19 : decode cX5_mayStand 19 = .ok (.aload_n 0, 1) := by decide +kernel
theorem dX5_mayStand_20 : decode cX5_mayStand 20 = .ok (.iload_n 1, 1) := by decide +kernel
theorem dX5_mayStand_21 : decode cX5_mayStand 21 = .ok (.iload_n 2, 1) := by decide +kernel
theorem dX5_mayStand_22 : decode cX5_mayStand 22 = .ok (.invokevirtual 45, 3) := by decide +kernel
theorem dX5_mayStand_25 : decode cX5_mayStand 25 = .ok (.iconst (-1), 1) := by decide +kernel
theorem dX5_mayStand_26 : decode cX5_mayStand 26 = .ok (.if_icmp .eq 7, 3) := by decide +kernel
theorem dX5_mayStand_29 : decode cX5_mayStand 29 = .ok (.iconst 1, 1) := by decide +kernel
theorem dX5_mayStand_30 : decode cX5_mayStand 30 = .ok (.goto 4, 3) := by decide +kernel
theorem dX5_mayStand_33 : decode cX5_mayStand 33 = .ok (.iconst 0, 1) := by decide +kernel
theorem dX5_mayStand_34 : decode cX5_mayStand 34 = .ok (.ireturn, 1) := by decide +kernel
theorem dX5_upTo_0 : decode cX5_upTo 0 = .ok (.iload_n 0, 1) := by decide +kernel
theorem dX5_upTo_1 : decode cX5_upTo 1 = .ok (.iload_n 1, 1) := by decide +kernel
theorem dX5_upTo_2 : decode cX5_upTo 2 = .ok (.if_icmp .lt 16, 3) := by decide +kernel
theorem dX5_upTo_5 : decode cX5_upTo 5 = .ok (.iload_n 0, 1) := by decide +kernel
theorem dX5_upTo_6 : decode cX5_upTo 6 = .ok (.iload_n 1, 1) := by decide +kernel
theorem dX5_upTo_7 : decode cX5_upTo 7 = .ok (.iload_n 2, 1) := by decide +kernel
theorem dX5_upTo_8 : decode cX5_upTo 8 = .ok (.iadd, 1) := by decide +kernel
theorem dX5_upTo_9 : decode cX5_upTo 9 = .ok (.if_icmp .ge 9, 3) := by decide +kernel
theorem dX5_upTo_12 : decode cX5_upTo 12 = .ok (.iload_n 0, 1) := by decide +kernel
theorem dX5_upTo_13 : decode cX5_upTo 13 = .ok (.iload_n 1, 1) := by decide +kernel
theorem dX5_upTo_14 : decode cX5_upTo 14 = .ok (.isub, 1) := by decide +kernel
theorem dX5_upTo_15 : decode cX5_upTo 15 = .ok (.goto 4, 3) := by decide +kernel
theorem dX5_upTo_18 : decode cX5_upTo 18 = .ok (.iconst (-1), 1) := by decide +kernel
theorem dX5_upTo_19 : decode cX5_upTo 19 = .ok (.ireturn, 1) := by decide +kernel
theorem dX5_sortOf_0 : decode cX5_sortOf 0 = .ok (.iload_n 0, 1) := by decide +kernel
theorem dX5_sortOf_1 : decode cX5_sortOf 1 = .ok (.lookupswitch 41 #[(99, 39), (104, 37), (116, 35)], 35) := by decide +kernel
theorem dX5_sortOf_36 : decode cX5_sortOf 36 = .ok (.iconst 0, 1) := by decide +kernel
theorem dX5_sortOf_37 : decode cX5_sortOf 37 = .ok (.ireturn, 1) := by decide +kernel
theorem dX5_sortOf_38 : decode cX5_sortOf 38 = .ok (.iconst 1, 1) := by decide +kernel
theorem dX5_sortOf_39 : decode cX5_sortOf 39 = .ok (.ireturn, 1) := by decide +kernel
theorem dX5_sortOf_40 : decode cX5_sortOf 40 = .ok (.iconst 2, 1) := by decide +kernel
theorem dX5_sortOf_41 : decode cX5_sortOf 41 = .ok (.ireturn, 1) := by decide +kernel
theorem dX5_sortOf_42 : decode cX5_sortOf 42 = .ok (.iconst (-1), 1) := by decide +kernel
theorem dX5_sortOf_43 : decode cX5_sortOf 43 = .ok (.ireturn, 1) := by decide +kernel
theorem dJ6_bitCount_0f7a4_0 : decode cJ6_bitCount_0f7a4 0 = .ok (.iload_n 0, 1) := by decide +kernel
theorem dJ6_bitCount_0f7a4_1 : decode cJ6_bitCount_0f7a4 1 = .ok (.iload_n 0, 1) := by decide +kernel
theorem dJ6_bitCount_0f7a4_2 : decode cJ6_bitCount_0f7a4 2 = .ok (.iconst 1, 1) := by decide +kernel
theorem dJ6_bitCount_0f7a4_3 : decode cJ6_bitCount_0f7a4 3 = .ok (.iushr, 1) := by decide +kernel
theorem dJ6_bitCount_0f7a4_4 : decode cJ6_bitCount_0f7a4 4 = .ok (.ldc_w 265, 3) := by decide +kernel
theorem dJ6_bitCount_0f7a4_7 : decode cJ6_bitCount_0f7a4 7 = .ok (.iand, 1) := by decide +kernel
theorem dJ6_bitCount_0f7a4_8 : decode cJ6_bitCount_0f7a4 8 = .ok (.isub, 1) := by decide +kernel
theorem dJ6_bitCount_0f7a4_9 : decode cJ6_bitCount_0f7a4 9 = .ok (.istore_n 0, 1) := by decide +kernel
theorem dJ6_bitCount_0f7a4_10 : decode cJ6_bitCount_0f7a4 10 = .ok (.iload_n 0, 1) := by decide +kernel
theorem dJ6_bitCount_0f7a4_11 : decode cJ6_bitCount_0f7a4 11 = .ok (.ldc_w 266, 3) := by decide +kernel
theorem dJ6_bitCount_0f7a4_14 : decode cJ6_bitCount_0f7a4 14 = .ok (.iand, 1) := by decide +kernel
theorem dJ6_bitCount_0f7a4_15 : decode cJ6_bitCount_0f7a4 15 = .ok (.iload_n 0, 1) := by decide +kernel
theorem dJ6_bitCount_0f7a4_16 : decode cJ6_bitCount_0f7a4 16 = .ok (.iconst 2, 1) := by decide +kernel
theorem dJ6_bitCount_0f7a4_17 : decode cJ6_bitCount_0f7a4 17 = .ok (.iushr, 1) := by decide +kernel
theorem dJ6_bitCount_0f7a4_18 : decode cJ6_bitCount_0f7a4 18 = .ok (.ldc_w 266, 3) := by decide +kernel
theorem dJ6_bitCount_0f7a4_21 : decode cJ6_bitCount_0f7a4 21 = .ok (.iand, 1) := by decide +kernel
theorem dJ6_bitCount_0f7a4_22 : decode cJ6_bitCount_0f7a4 22 = .ok (.iadd, 1) := by decide +kernel
theorem dJ6_bitCount_0f7a4_23 : decode cJ6_bitCount_0f7a4 23 = .ok (.istore_n 0, 1) := by decide +kernel
theorem dJ6_bitCount_0f7a4_24 : decode cJ6_bitCount_0f7a4 24 = .ok (.iload_n 0, 1) := by decide +kernel
theorem dJ6_bitCount_0f7a4_25 : decode cJ6_bitCount_0f7a4 25 = .ok (.iload_n 0, 1) := by decide +kernel
theorem dJ6_bitCount_0f7a4_26 : decode cJ6_bitCount_0f7a4 26 = .ok (.iconst 4, 1) := by decide +kernel
theorem dJ6_bitCount_0f7a4_27 : decode cJ6_bitCount_0f7a4 27 = .ok (.iushr, 1) := by decide +kernel
theorem dJ6_bitCount_0f7a4_28 : decode cJ6_bitCount_0f7a4 28 = .ok (.iadd, 1) := by decide +kernel
theorem dJ6_bitCount_0f7a4_29 : decode cJ6_bitCount_0f7a4 29 = .ok (.ldc_w 267, 3) := by decide +kernel
theorem dJ6_bitCount_0f7a4_32 : decode cJ6_bitCount_0f7a4 32 = .ok (.iand, 1) := by decide +kernel
theorem dJ6_bitCount_0f7a4_33 : decode cJ6_bitCount_0f7a4 33 = .ok (.istore_n 0, 1) := by decide +kernel
theorem dJ6_bitCount_0f7a4_34 : decode cJ6_bitCount_0f7a4 34 = .ok (.iload_n 0, 1) := by decide +kernel
theorem dJ6_bitCount_0f7a4_35 : decode cJ6_bitCount_0f7a4 35 = .ok (.iload_n 0, 1) := by decide +kernel
theorem dJ6_bitCount_0f7a4_36 : decode cJ6_bitCount_0f7a4 36 = .ok (.bipush 8, 2) := by decide +kernel
theorem dJ6_bitCount_0f7a4_38 : decode cJ6_bitCount_0f7a4 38 = .ok (.iushr, 1) := by decide +kernel
theorem dJ6_bitCount_0f7a4_39 : decode cJ6_bitCount_0f7a4 39 = .ok (.iadd, 1) := by decide +kernel
theorem dJ6_bitCount_0f7a4_40 : decode cJ6_bitCount_0f7a4 40 = .ok (.istore_n 0, 1) := by decide +kernel
theorem dJ6_bitCount_0f7a4_41 : decode cJ6_bitCount_0f7a4 41 = .ok (.iload_n 0, 1) := by decide +kernel
theorem dJ6_bitCount_0f7a4_42 : decode cJ6_bitCount_0f7a4 42 = .ok (.iload_n 0, 1) := by decide +kernel
theorem dJ6_bitCount_0f7a4_43 : decode cJ6_bitCount_0f7a4 43 = .ok (.bipush 16, 2) := by decide +kernel
theorem dJ6_bitCount_0f7a4_45 : decode cJ6_bitCount_0f7a4 45 = .ok (.iushr, 1) := by decide +kernel
theorem dJ6_bitCount_0f7a4_46 : decode cJ6_bitCount_0f7a4 46 = .ok (.iadd, 1) := by decide +kernel
theorem dJ6_bitCount_0f7a4_47 : decode cJ6_bitCount_0f7a4 47 = .ok (.istore_n 0, 1) := by decide +kernel
theorem dJ6_bitCount_0f7a4_48 : decode cJ6_bitCount_0f7a4 48 = .ok (.iload_n 0, 1) := by decide +kernel
theorem dJ6_bitCount_0f7a4_49 : decode cJ6_bitCount_0f7a4 49 = .ok (.bipush 63, 2) := by decide +kernel
theorem dJ6_bitCount_0f7a4_51 : decode cJ6_bitCount_0f7a4 51 = .ok (.iand, 1) := by decide +kernel
theorem dJ6_bitCount_0f7a4_52 : decode cJ6_bitCount_0f7a4 52 = .ok (.ireturn, 1) := by decide +kernel
theorem dJ7_fill_53178_0 : decode cJ7_fill_53178 0 = .ok (.iconst 0, 1) := by decide +kernel
theorem dJ7_fill_53178_1 : decode cJ7_fill_53178 1 = .ok (.istore_n 2, 1) := by decide +kernel
theorem dJ7_fill_53178_2 : decode cJ7_fill_53178 2 = .ok (.aload_n 0, 1) := by decide +kernel
theorem dJ7_fill_53178_3 : decode cJ7_fill_53178 3 = .ok (.arraylength, 1) := by decide +kernel
theorem dJ7_fill_53178_4 : decode cJ7_fill_53178 4 = .ok (.istore_n 3, 1) := by decide +kernel
theorem dJ7_fill_53178_5 : decode cJ7_fill_53178 5 = .ok (.iload_n 2, 1) := by decide +kernel
theorem dJ7_fill_53178_6 : decode cJ7_fill_53178 6 = .ok (.iload_n 3, 1) := by decide +kernel
theorem dJ7_fill_53178_7 : decode cJ7_fill_53178 7 = .ok (.if_icmp .ge 13, 3) := by decide +kernel
theorem dJ7_fill_53178_10 : decode cJ7_fill_53178 10 = .ok (.aload_n 0, 1) := by decide +kernel
theorem dJ7_fill_53178_11 : decode cJ7_fill_53178 11 = .ok (.iload_n 2, 1) := by decide +kernel
theorem dJ7_fill_53178_12 : decode cJ7_fill_53178 12 = .ok (.iload_n 1, 1) := by decide +kernel
theorem dJ7_fill_53178_13 : decode cJ7_fill_53178 13 = .ok (.iastore, 1) := by decide +kernel
theorem dJ7_fill_53178_14 : decode cJ7_fill_53178 14 = .ok (.iinc 2 1, 3) := by decide +kernel
theorem dJ7_fill_53178_17 : decode cJ7_fill_53178 17 = .ok (.goto (-12), 3) := by decide +kernel
theorem dJ7_fill_53178_20 : decode cJ7_fill_53178 20 = .ok (.return_, 1) := by decide +kernel
theorem dJ9_abs_0f7a4_0 : decode cJ9_abs_0f7a4 0 = .ok (.iload_n 0, 1) := by decide +kernel
theorem dJ9_abs_0f7a4_1 : decode cJ9_abs_0f7a4 1 = .ok (.ifCond .ge 8, 3) := by decide +kernel
theorem dJ9_abs_0f7a4_4 : decode cJ9_abs_0f7a4 4 = .ok (.iload_n 0, 1) := by decide +kernel
theorem dJ9_abs_0f7a4_5 : decode cJ9_abs_0f7a4 5 = .ok (.ineg, 1) := by decide +kernel
theorem dJ9_abs_0f7a4_6 : decode cJ9_abs_0f7a4 6 = .ok (.goto 4, 3) := by decide +kernel
theorem dJ9_abs_0f7a4_9 : decode cJ9_abs_0f7a4 9 = .ok (.iload_n 0, 1) := by decide +kernel
theorem dJ9_abs_0f7a4_10 : decode cJ9_abs_0f7a4 10 = .ok (.ireturn, 1) := by decide +kernel
theorem dJ9_max_7cf53_0 : decode cJ9_max_7cf53 0 = .ok (.iload_n 0, 1) := by decide +kernel
theorem dJ9_max_7cf53_1 : decode cJ9_max_7cf53 1 = .ok (.iload_n 1, 1) := by decide +kernel
theorem dJ9_max_7cf53_2 : decode cJ9_max_7cf53 2 = .ok (.if_icmp .lt 7, 3) := by decide +kernel
theorem dJ9_max_7cf53_5 : decode cJ9_max_7cf53 5 = .ok (.iload_n 0, 1) := by decide +kernel
theorem dJ9_max_7cf53_6 : decode cJ9_max_7cf53 6 = .ok (.goto 4, 3) := by decide +kernel
theorem dJ9_max_7cf53_9 : decode cJ9_max_7cf53 9 = .ok (.iload_n 1, 1) := by decide +kernel
theorem dJ9_max_7cf53_10 : decode cJ9_max_7cf53 10 = .ok (.ireturn, 1) := by decide +kernel
theorem dJ9_min_7cf53_0 : decode cJ9_min_7cf53 0 = .ok (.iload_n 0, 1) := by decide +kernel
theorem dJ9_min_7cf53_1 : decode cJ9_min_7cf53 1 = .ok (.iload_n 1, 1) := by decide +kernel
theorem dJ9_min_7cf53_2 : decode cJ9_min_7cf53 2 = .ok (.if_icmp .gt 7, 3) := by decide +kernel
theorem dJ9_min_7cf53_5 : decode cJ9_min_7cf53 5 = .ok (.iload_n 0, 1) := by decide +kernel
theorem dJ9_min_7cf53_6 : decode cJ9_min_7cf53 6 = .ok (.goto 4, 3) := by decide +kernel
theorem dJ9_min_7cf53_9 : decode cJ9_min_7cf53 9 = .ok (.iload_n 1, 1) := by decide +kernel
theorem dJ9_min_7cf53_10 : decode cJ9_min_7cf53 10 = .ok (.ireturn, 1) := by decide +kernel
end
section
theorem dX6_init_0 : decode cX6_init 0 = .ok (.aload_n 0, 1) := by decide +kernel
theorem dX6_init_1 : decode cX6_init 1 = .ok (.invokespecial 3, 3) := by decide +kernel
theorem dX6_init_4 : decode cX6_init 4 = .ok (.aload_n 0, 1) := by decide +kernel
theorem dX6_init_5 : decode cX6_init 5 = .ok (.new 9, 3) := by decide +kernel
theorem dX6_init_8 : decode cX6_init 8 = .ok (.dup, 1) := by decide +kernel
theorem dX6_init_9 : decode cX6_init 9 = .ok (.iconst 0, 1) := by decide +kernel
theorem dX6_init_10 : decode cX6_init 10 = .ok (.invokespecial 11, 3) := by decide +kernel
theorem dX6_init_13 : decode cX6_init 13 = .ok (.putfield 14, 3) := by decide +kernel
theorem dX6_init_16 : decode cX6_init 16 = .ok (.aload_n 0, 1) := by decide +kernel
theorem dX6_init_17 : decode cX6_init 17 = .ok (.new 9, 3) := by decide +kernel
theorem dX6_init_20 : decode cX6_init 20 = .ok (.dup, 1) := by decide +kernel
theorem dX6_init_21 : decode cX6_init 21 = .ok (.iconst 1, 1) := by decide +kernel
theorem dX6_init_22 : decode cX6_init 22 = .ok (.invokespecial 11, 3) := by decide +kernel
theorem dX6_init_25 : decode cX6_init 25 = .ok (.putfield 18, 3) := by decide +kernel
theorem dX6_init_28 : decode cX6_init 28 = .ok (.aload_n 0, 1) := by decide +kernel
theorem dX6_init_29 : decode cX6_init 29 = .ok (.new 21, 3) := by decide +kernel
theorem dX6_init_32 : decode cX6_init 32 = .ok (.dup, 1) := by decide +kernel
theorem dX6_init_33 : decode cX6_init 33 = .ok (.invokespecial 23, 3) := by decide +kernel
theorem dX6_init_36 : decode cX6_init 36 = .ok (.putfield 24, 3) := by decide +kernel
theorem dX6_init_39 : decode cX6_init 39 = .ok (.aload_n 0, 1) := by decide +kernel
theorem dX6_init_40 : decode cX6_init 40 = .ok (.new 21, 3) := by decide +kernel
theorem dX6_init_43 : decode cX6_init 43 = .ok (.dup, 1) := by decide +kernel
theorem dX6_init_44 : decode cX6_init 44 = .ok (.invokespecial 23, 3) := by decide +kernel
theorem dX6_init_47 : decode cX6_init 47 = .ok (.putfield 28, 3) := by decide +kernel
theorem dX6_init_50 : decode cX6_init 50 = .ok (.aload_n 0, 1) := by decide +kernel
theorem dX6_init_51 : decode cX6_init 51 = .ok (.new 31, 3) := by decide +kernel
theorem dX6_init_54 : decode cX6_init 54 = .ok (.dup, 1) := by decide +kernel
theorem dX6_init_55 : decode cX6_init 55 = .ok (.invokespecial 33, 3) := by decide +kernel
theorem dX6_init_58 : decode cX6_init 58 = .ok (.putfield 34, 3) := by decide +kernel
theorem dX6_init_61 : decode cX6_init 61 = .ok (.aload_n 0, 1) := by decide +kernel
theorem dX6_init_62 : decode cX6_init 62 = .ok (.new 31, 3) := by decide +kernel
theorem dX6_init_65 : decode cX6_init 65 = .ok (.dup, 1) := by decide +kernel
theorem dX6_init_66 : decode cX6_init 66 = .ok (.invokespecial 33, 3) := by decide +kernel
theorem dX6_init_69 : decode cX6_init 69 = .ok (.putfield 38, 3) := by decide +kernel
theorem dX6_init_72 : decode cX6_init 72 = .ok (.aload_n 0, 1) := by decide +kernel
theorem dX6_init_73 : decode cX6_init 73 = .ok (.new 41, 3) := by decide +kernel
theorem dX6_init_76 : decode cX6_init 76 = .ok (.dup, 1) := by decide +kernel
theorem dX6_init_77 : decode cX6_init 77 = .ok (.invokespecial 43, 3) := by decide +kernel
theorem dX6_init_80 : decode cX6_init 80 = .ok (.putfield 44, 3) := by decide +kernel
theorem dX6_init_83 : decode cX6_init 83 = .ok (.aload_n 0, 1) := by decide +kernel
theorem dX6_init_84 : decode cX6_init 84 = .ok (.new 48, 3) := by decide +kernel
theorem dX6_init_87 : decode cX6_init 87 = .ok (.dup, 1) := by decide +kernel
theorem dX6_init_88 : decode cX6_init 88 = .ok (.invokespecial 50, 3) := by decide +kernel
theorem dX6_init_91 : decode cX6_init 91 = .ok (.putfield 51, 3) := by decide +kernel
theorem dX6_init_94 : decode cX6_init 94 = .ok (.aload_n 0, 1) := by decide +kernel
theorem dX6_init_95 : decode cX6_init 95 = .ok (.new 48, 3) := by decide +kernel
theorem dX6_init_98 : decode cX6_init 98 = .ok (.dup, 1) := by decide +kernel
theorem dX6_init_99 : decode cX6_init 99 = .ok (.invokespecial 50, 3) := by decide +kernel
theorem dX6_init_102 : decode cX6_init 102 = .ok (.putfield 55, 3) := by decide +kernel
theorem dX6_init_105 : decode cX6_init 105 = .ok (.aload_n 0, 1) := by decide +kernel
theorem dX6_init_106 : decode cX6_init 106 = .ok (.new 48, 3) := by decide +kernel
theorem dX6_init_109 : decode cX6_init 109 = .ok (.dup, 1) := by decide +kernel
theorem dX6_init_110 : decode cX6_init 110 = .ok (.invokespecial 50, 3) := by decide +kernel
theorem dX6_init_113 : decode cX6_init 113 = .ok (.putfield 58, 3) := by decide +kernel
theorem dX6_init_116 : decode cX6_init 116 = .ok (.aload_n 0, 1) := by decide +kernel
theorem dX6_init_117 : decode cX6_init 117 = .ok (.new 48, 3) := by decide +kernel
theorem dX6_init_120 : decode cX6_init 120 = .ok (.dup, 1) := by decide +kernel
theorem dX6_init_121 : decode cX6_init 121 = .ok (.invokespecial 50, 3) := by decide +kernel
theorem dX6_init_124 : decode cX6_init 124 = .ok (.putfield 61, 3) := by decide +kernel
theorem dX6_init_127 : decode cX6_init 127 = .ok (.aload_n 0, 1) := by decide +kernel
theorem dX6_init_128 : decode cX6_init 128 = .ok (.sipush 256, 3) := by decide +kernel
theorem dX6_init_131 : decode cX6_init 131 = .ok (.newarray .int, 2) := by decide +kernel
theorem dX6_init_133 : decode cX6_init 133 = .ok (.putfield 64, 3) := by decide +kernel
theorem dX6_init_136 : decode cX6_init 136 = .ok (.aload_n 0, 1) := by decide +kernel
theorem dX6_init_137 : decode cX6_init 137 = .ok (.bipush 48, 2) := by decide +kernel
theorem dX6_init_139 : decode cX6_init 139 = .ok (.newarray .int, 2) := by decide +kernel
theorem dX6_init_141 : decode cX6_init 141 = .ok (.putfield 68, 3) := by decide +kernel
theorem dX6_init_144 : decode cX6_init 144 = .ok (.aload_n 0, 1) := by decide +kernel
theorem dX6_init_145 : decode cX6_init 145 = .ok (.iconst 4, 1) := by decide +kernel
theorem dX6_init_146 : decode cX6_init 146 = .ok (.anewarray 71, 3) := by decide +kernel
theorem dX6_init_149 : decode cX6_init 149 = .ok (.putfield 73, 3) := by decide +kernel
theorem dX6_init_152 : decode cX6_init 152 = .ok (.aload_n 0, 1) := by decide +kernel
theorem dX6_init_153 : decode cX6_init 153 = .ok (.iconst 0, 1) := by decide +kernel
theorem dX6_init_154 : decode cX6_init 154 = .ok (.putfield 77, 3) := by decide +kernel
theorem dX6_init_157 : decode cX6_init 157 = .ok (.aload_n 0, 1) := by decide +kernel
theorem dX6_init_158 : decode cX6_init 158 = .ok (.iconst 0, 1) := by decide +kernel
theorem dX6_init_159 : decode cX6_init 159 = .ok (.putfield 81, 3) := by decide +kernel
theorem dX6_init_162 : decode cX6_init 162 = .ok (.aload_n 0, 1) := by decide +kernel
theorem dX6_init_163 : decode cX6_init 163 = .ok (.iconst 0, 1) := by decide +kernel
theorem dX6_init_164 : decode cX6_init 164 = .ok (.putfield 84, 3) := by decide +kernel
theorem dX6_init_167 : decode cX6_init 167 = .ok (.iconst 0, 1) := by decide +kernel
theorem dX6_init_168 : decode cX6_init 168 = .ok (.istore_n 1, 1) := by decide +kernel
theorem dX6_init_169 : decode cX6_init 169 = .ok (.iload_n 1, 1) := by decide +kernel
theorem dX6_init_170 : decode cX6_init 170 = .ok (.iconst 4, 1) := by decide +kernel
theorem dX6_init_171 : decode cX6_init 171 = .ok (.if_icmp .ge 22, 3) := by decide +kernel
theorem dX6_init_174 : decode cX6_init 174 = .ok (.aload_n 0, 1) := by decide +kernel
theorem dX6_init_175 : decode cX6_init 175 = .ok (.getfield 73, 3) := by decide +kernel
theorem dX6_init_178 : decode cX6_init 178 = .ok (.iload_n 1, 1) := by decide +kernel
theorem dX6_init_179 : decode cX6_init 179 = .ok (.new 71, 3) := by decide +kernel
theorem dX6_init_182 : decode cX6_init 182 = .ok (.dup, 1) := by decide +kernel
theorem dX6_init_183 : decode cX6_init 183 = .ok (.invokespecial 88, 3) := by decide +kernel
theorem dX6_init_186 : decode cX6_init 186 = .ok (.aastore, 1) := by decide +kernel
theorem dX6_init_187 : decode cX6_init 187 = .ok (.iinc 1 1, 3) := by decide +kernel
theorem dX6_init_190 : decode cX6_init 190 = .ok (.goto (-21), 3) := by decide +kernel
theorem dX6_init_193 : decode cX6_init 193 = .ok (.return_, 1) := by decide +kernel
theorem dX6_type_0 : decode cX6_type 0 = .ok (.iload_n 1, 1) := by decide +kernel
theorem dX6_type_1 : decode cX6_type 1 = .ok (.iconst 0, 1) := by decide +kernel
theorem dX6_type_2 : decode cX6_type 2 = .ok (.iconst 1, 1) := by decide +kernel
theorem dX6_type_3 : decode cX6_type 3 = .ok (.invokestatic 89, 3) := by decide +kernel
theorem dX6_type_6 : decode cX6_type 6 = .ok (.ifCond .eq 14, 3) := by decide +kernel
theorem dX6_type_9 : decode cX6_type 9 = .ok (.iload_n 2, 1) := by decide +kernel
theorem dX6_type_10 : decode cX6_type 10 = .ok (.iconst 0, 1) := by decide +kernel
theorem dX6_type_11 : decode cX6_type 11 = .ok (.sipush 255, 3) := by decide +kernel
theorem dX6_type_14 : decode cX6_type 14 = .ok (.invokestatic 89, 3) := by decide +kernel
theorem dX6_type_17 : decode cX6_type 17 = .ok (.ifCond .ne 6, 3) := by decide +kernel
theorem dX6_type_20 : decode cX6_type 20 = .ok (.bipush (-2), 2) := by decide +kernel
theorem dX6_type_22 : decode cX6_type 22 = .ok (.ireturn, 1) := by decide +kernel
theorem dX6_type_23 : decode cX6_type 23 = .ok (.aload_n 0, 1) := by decide +kernel
theorem dX6_type_24 : decode cX6_type 24 = .ok (.iload_n 1, 1) := by decide +kernel
theorem dX6_type_25 : decode cX6_type 25 = .ok (.invokevirtual 93, 3) := by decide +kernel
theorem dX6_type_28 : decode cX6_type 28 = .ok (.astore_n 3, 1) := by decide +kernel
theorem dX6_type_29 : decode cX6_type 29 = .ok (.aload_n 3, 1) := by decide +kernel
theorem dX6_type_30 : decode cX6_type 30 = .ok (.iload_n 2, 1) := by decide +kernel
theorem dX6_type_31 : decode cX6_type 31 = .ok (.invokevirtual 97, 3) := by decide +kernel
theorem dX6_type_34 : decode cX6_type 34 = .ok (.ifCond .ne 6, 3) := by decide +kernel
theorem dX6_type_37 : decode cX6_type 37 = .ok (.bipush (-4), 2) := by decide +kernel
theorem dX6_type_39 : decode cX6_type 39 = .ok (.ireturn, 1) := by decide +kernel
theorem dX6_type_40 : decode cX6_type 40 = .ok (.aload_n 0, 1) := by decide +kernel
theorem dX6_type_41 : decode cX6_type 41 = .ok (.invokevirtual 101, 3) := by decide +kernel
theorem dX6_type_44 : decode cX6_type 44 = .ok (.aload_n 3, 1) := by decide +kernel
theorem dX6_type_45 : decode cX6_type 45 = .ok (.getfield 104, 3) := by decide +kernel
theorem dX6_type_48 : decode cX6_type 48 = .ok (.ireturn, 1) := by decide +kernel
theorem dX6_wipe_0 : decode cX6_wipe 0 = .ok (.iload_n 1, 1) := by decide +kernel
theorem dX6_wipe_1 : decode cX6_wipe 1 = .ok (.iconst 0, 1) := by decide +kernel
theorem dX6_wipe_2 : decode cX6_wipe 2 = .ok (.iconst 1, 1) := by decide +kernel
theorem dX6_wipe_3 : decode cX6_wipe 3 = .ok (.invokestatic 89, 3) := by decide +kernel
theorem dX6_wipe_6 : decode cX6_wipe 6 = .ok (.ifCond .ne 6, 3) := by decide +kernel
theorem dX6_wipe_9 : decode cX6_wipe 9 = .ok (.bipush (-2), 2) := by decide +kernel
theorem dX6_wipe_11 : decode cX6_wipe 11 = .ok (.ireturn, 1) := by decide +kernel
theorem dX6_wipe_12 : decode cX6_wipe 12 = .ok (.aload_n 0, 1) := by decide +kernel
theorem dX6_wipe_13 : decode cX6_wipe 13 = .ok (.iload_n 1, 1) := by decide +kernel
theorem dX6_wipe_14 : decode cX6_wipe 14 = .ok (.invokevirtual 93, 3) := by decide +kernel
theorem dX6_wipe_17 : decode cX6_wipe 17 = .ok (.astore_n 2, 1) := by decide +kernel
theorem dX6_wipe_18 : decode cX6_wipe 18 = .ok (.aload_n 2, 1) := by decide +kernel
theorem dX6_wipe_19 : decode cX6_wipe 19 = .ok (.getfield 104, 3) := by decide +kernel
theorem dX6_wipe_22 : decode cX6_wipe 22 = .ok (.istore_n 3, 1) := by decide +kernel
theorem dX6_wipe_23 : decode cX6_wipe 23 = .ok (.aload_n 2, 1) := by decide +kernel
theorem dX6_wipe_24 : decode cX6_wipe 24 = .ok (.iconst 0, 1) := by decide +kernel
theorem dX6_wipe_25 : decode cX6_wipe 25 = .ok (.putfield 104, 3) := by decide +kernel
theorem dX6_wipe_28 : decode cX6_wipe 28 = .ok (.aload_n 0, 1) := by decide +kernel
theorem dX6_wipe_29 : decode cX6_wipe 29 = .ok (.invokevirtual 101, 3) := by decide +kernel
theorem dX6_wipe_32 : decode cX6_wipe 32 = .ok (.iload_n 3, 1) := by decide +kernel
theorem dX6_wipe_33 : decode cX6_wipe 33 = .ok (.ireturn, 1) := by decide +kernel
theorem dX6_undo_0 : decode cX6_undo 0 = .ok (.iload_n 1, 1) := by decide +kernel
theorem dX6_undo_1 : decode cX6_undo 1 = .ok (.iconst 0, 1) := by decide +kernel
theorem dX6_undo_2 : decode cX6_undo 2 = .ok (.iconst 1, 1) := by decide +kernel
theorem dX6_undo_3 : decode cX6_undo 3 = .ok (.invokestatic 89, 3) := by decide +kernel
theorem dX6_undo_6 : decode cX6_undo 6 = .ok (.ifCond .ne 6, 3) := by decide +kernel
theorem dX6_undo_9 : decode cX6_undo 9 = .ok (.bipush (-2), 2) := by decide +kernel
theorem dX6_undo_11 : decode cX6_undo 11 = .ok (.ireturn, 1) := by decide +kernel
theorem dX6_undo_12 : decode cX6_undo 12 = .ok (.aload_n 0, 1) := by decide +kernel
theorem dX6_undo_13 : decode cX6_undo 13 = .ok (.iload_n 1, 1) := by decide +kernel
theorem dX6_undo_14 : decode cX6_undo 14 = .ok (.invokevirtual 93, 3) := by decide +kernel
theorem dX6_undo_17 : decode cX6_undo 17 = .ok (.astore_n 2, 1) := by decide +kernel
theorem dX6_undo_18 : decode cX6_undo 18 = .ok (.aload_n 2, 1) := by decide +kernel
theorem dX6_undo_19 : decode cX6_undo 19 = .ok (.getfield 104, 3) := by decide +kernel
theorem dX6_undo_22 : decode cX6_undo 22 = .ok (.ifCond .ne 6, 3) := by decide +kernel
theorem dX6_undo_25 : decode cX6_undo 25 = .ok (.bipush (-3), 2) := by decide +kernel
theorem dX6_undo_27 : decode cX6_undo 27 = .ok (.ireturn, 1) := by decide +kernel
theorem dX6_undo_28 : decode cX6_undo 28 = .ok (.aload_n 2, 1) := by decide +kernel
theorem dX6_undo_29 : decode cX6_undo 29 = .ok (.dup, 1) := by decide +kernel
theorem dX6_undo_30 : decode cX6_undo 30 = .ok (.getfield 104, 3) := by decide +kernel
theorem dX6_undo_33 : decode cX6_undo 33 = .ok (.iconst 1, 1) := by decide +kernel
theorem dX6_undo_34 : decode cX6_undo 34 = .ok (.isub, 1) := by decide +kernel
theorem dX6_undo_35 : decode cX6_undo 35 = .ok (.putfield 104, 3) := by decide +kernel
theorem dX6_undo_38 : decode cX6_undo 38 = .ok (.aload_n 0, 1) := by decide +kernel
theorem dX6_undo_39 : decode cX6_undo 39 = .ok (.invokevirtual 101, 3) := by decide +kernel
theorem dX6_undo_42 : decode cX6_undo 42 = .ok (.aload_n 2, 1) := by decide +kernel
theorem dX6_undo_43 : decode cX6_undo 43 = .ok (.getfield 104, 3) := by decide +kernel
theorem dX6_undo_46 : decode cX6_undo 46 = .ok (.ireturn, 1) := by decide +kernel
theorem dX6_fault_0 : decode cX6_fault 0 = .ok (.iload_n 1, 1) := by decide +kernel
theorem dX6_fault_1 : decode cX6_fault 1 = .ok (.iconst 0, 1) := by decide +kernel
theorem dX6_fault_2 : decode cX6_fault 2 = .ok (.iconst 1, 1) := by decide +kernel
theorem dX6_fault_3 : decode cX6_fault 3 = .ok (.invokestatic 89, 3) := by decide +kernel
theorem dX6_fault_6 : decode cX6_fault 6 = .ok (.ifCond .ne 6, 3) := by decide +kernel
theorem dX6_fault_9 : decode cX6_fault 9 = .ok (.bipush (-2), 2) := by decide +kernel
theorem dX6_fault_11 : decode cX6_fault 11 = .ok (.ireturn, 1) := by decide +kernel
theorem dX6_fault_12 : decode cX6_fault 12 = .ok (.aload_n 0, 1) := by decide +kernel
theorem dX6_fault_13 : decode cX6_fault 13 = .ok (.iload_n 1, 1) := by decide +kernel
theorem dX6_fault_14 : decode cX6_fault 14 = .ok (.invokevirtual 93, 3) := by decide +kernel
theorem dX6_fault_17 : decode cX6_fault 17 = .ok (.invokevirtual 107, 3) := by decide +kernel
theorem dX6_fault_20 : decode cX6_fault 20 = .ok (.ireturn, 1) := by decide +kernel
theorem dX6_player_0 : decode cX6_player 0 = .ok (.aload_n 0, 1) := by decide +kernel
theorem dX6_player_1 : decode cX6_player 1 = .ok (.iload_n 1, 1) := by decide +kernel
theorem dX6_player_2 : decode cX6_player 2 = .ok (.invokevirtual 111, 3) := by decide +kernel
theorem dX6_player_5 : decode cX6_player 5 = .ok (.ifCond .eq 12, 3) := by decide +kernel
theorem dX6_player_8 : decode cX6_player 8 = .ok (.iload_n 2, 1) := by decide +kernel
theorem dX6_player_9 : decode cX6_player 9 = .ok (.iconst 0, 1) := by decide +kernel
theorem dX6_player_10 : decode cX6_player 10 = .ok (.iconst 1, 1) := by decide +kernel
theorem dX6_player_11 : decode cX6_player 11 = .ok (.invokestatic 89, 3) := by decide +kernel
theorem dX6_player_14 : decode cX6_player 14 = .ok (.ifCond .ne 6, 3) := by decide +kernel
theorem dX6_player_17 : decode cX6_player 17 = .ok (.bipush (-2), 2) := by decide +kernel
theorem dX6_player_19 : decode cX6_player 19 = .ok (.ireturn, 1) := by decide +kernel
theorem dX6_player_20 : decode cX6_player 20 = .ok (.iload_n 2, 1) := by decide +kernel
theorem dX6_player_21 : decode cX6_player 21 = .ok (.ifCond .ne 15, 3) := by decide +kernel
theorem dX6_player_24 : decode cX6_player 24 = .ok (.aload_n 0, 1) := by decide +kernel
theorem dX6_player_25 : decode cX6_player 25 = .ok (.getfield 24, 3) := by decide +kernel
theorem dX6_player_28 : decode cX6_player 28 = .ok (.getfield 114, 3) := by decide +kernel
theorem dX6_player_31 : decode cX6_player 31 = .ok (.iload_n 1, 1) := by decide +kernel
theorem dX6_player_32 : decode cX6_player 32 = .ok (.iaload, 1) := by decide +kernel
theorem dX6_player_33 : decode cX6_player 33 = .ok (.goto 12, 3) := by decide +kernel
theorem dX6_player_36 : decode cX6_player 36 = .ok (.aload_n 0, 1) := by decide +kernel
theorem dX6_player_37 : decode cX6_player 37 = .ok (.getfield 24, 3) := by decide +kernel
theorem dX6_player_40 : decode cX6_player 40 = .ok (.getfield 117, 3) := by decide +kernel
theorem dX6_player_43 : decode cX6_player 43 = .ok (.iload_n 1, 1) := by decide +kernel
theorem dX6_player_44 : decode cX6_player 44 = .ok (.iaload, 1) := by decide +kernel
theorem dX6_player_45 : decode cX6_player 45 = .ok (.ireturn, 1) := by decide +kernel
theorem dX6_note_0 : decode cX6_note 0 = .ok (.iload_n 1, 1) := by decide +kernel
theorem dX6_note_1 : decode cX6_note 1 = .ok (.iconst 0, 1) := by decide +kernel
theorem dX6_note_2 : decode cX6_note 2 = .ok (.bipush 15, 2) := by decide +kernel
theorem dX6_note_4 : decode cX6_note 4 = .ok (.invokestatic 89, 3) := by decide +kernel
theorem dX6_note_7 : decode cX6_note 7 = .ok (.ifCond .eq 12, 3) := by decide +kernel
theorem dX6_note_10 : decode cX6_note 10 = .ok (.iload_n 2, 1) := by decide +kernel
theorem dX6_note_11 : decode cX6_note 11 = .ok (.iconst 0, 1) := by decide +kernel
theorem dX6_note_12 : decode cX6_note 12 = .ok (.iconst 1, 1) := by decide +kernel
theorem dX6_note_13 : decode cX6_note 13 = .ok (.invokestatic 89, 3) := by decide +kernel
theorem dX6_note_16 : decode cX6_note 16 = .ok (.ifCond .ne 6, 3) := by decide +kernel
theorem dX6_note_19 : decode cX6_note 19 = .ok (.bipush (-2), 2) := by decide +kernel
theorem dX6_note_21 : decode cX6_note 21 = .ok (.ireturn, 1) := by decide +kernel
theorem dX6_note_22 : decode cX6_note 22 = .ok (.iload_n 1, 1) := by decide +kernel
theorem dX6_note_23 : decode cX6_note 23 = .ok (.aload_n 0, 1) := by decide +kernel
theorem dX6_note_24 : decode cX6_note 24 = .ok (.getfield 24, 3) := by decide +kernel
theorem dX6_note_27 : decode cX6_note 27 = .ok (.getfield 120, 3) := by decide +kernel
theorem dX6_note_30 : decode cX6_note 30 = .ok (.if_icmp .lt 5, 3) := by decide +kernel
theorem dX6_note_33 : decode cX6_note 33 = .ok (.iconst (-1), 1) := by decide +kernel
theorem dX6_note_34 : decode cX6_note 34 = .ok (.ireturn, 1) := by decide +kernel
theorem dX6_note_35 : decode cX6_note 35 = .ok (.iload_n 2, 1) := by decide +kernel
theorem dX6_note_36 : decode cX6_note 36 = .ok (.ifCond .ne 15, 3) := by decide +kernel
theorem dX6_note_39 : decode cX6_note 39 = .ok (.aload_n 0, 1) := by decide +kernel
theorem dX6_note_40 : decode cX6_note 40 = .ok (.getfield 24, 3) := by decide +kernel
theorem dX6_note_43 : decode cX6_note 43 = .ok (.getfield 123, 3) := by decide +kernel
theorem dX6_note_46 : decode cX6_note 46 = .ok (.iload_n 1, 1) := by decide +kernel
theorem dX6_note_47 : decode cX6_note 47 = .ok (.iaload, 1) := by decide +kernel
theorem dX6_note_48 : decode cX6_note 48 = .ok (.goto 12, 3) := by decide +kernel
theorem dX6_note_51 : decode cX6_note 51 = .ok (.aload_n 0, 1) := by decide +kernel
theorem dX6_note_52 : decode cX6_note 52 = .ok (.getfield 24, 3) := by decide +kernel
theorem dX6_note_55 : decode cX6_note 55 = .ok (.getfield 126, 3) := by decide +kernel
theorem dX6_note_58 : decode cX6_note 58 = .ok (.iload_n 1, 1) := by decide +kernel
theorem dX6_note_59 : decode cX6_note 59 = .ok (.iaload, 1) := by decide +kernel
theorem dX6_note_60 : decode cX6_note 60 = .ok (.ireturn, 1) := by decide +kernel
theorem dX6_bag_0 : decode cX6_bag 0 = .ok (.iload_n 1, 1) := by decide +kernel
theorem dX6_bag_1 : decode cX6_bag 1 = .ok (.iconst 1, 1) := by decide +kernel
theorem dX6_bag_2 : decode cX6_bag 2 = .ok (.bipush 99, 2) := by decide +kernel
theorem dX6_bag_4 : decode cX6_bag 4 = .ok (.invokestatic 89, 3) := by decide +kernel
theorem dX6_bag_7 : decode cX6_bag 7 = .ok (.ifCond .ne 6, 3) := by decide +kernel
theorem dX6_bag_10 : decode cX6_bag 10 = .ok (.bipush (-2), 2) := by decide +kernel
theorem dX6_bag_12 : decode cX6_bag 12 = .ok (.ireturn, 1) := by decide +kernel
theorem dX6_bag_13 : decode cX6_bag 13 = .ok (.aload_n 0, 1) := by decide +kernel
theorem dX6_bag_14 : decode cX6_bag 14 = .ok (.getfield 24, 3) := by decide +kernel
theorem dX6_bag_17 : decode cX6_bag 17 = .ok (.getfield 129, 3) := by decide +kernel
theorem dX6_bag_20 : decode cX6_bag 20 = .ok (.istore_n 2, 1) := by decide +kernel
theorem dX6_bag_21 : decode cX6_bag 21 = .ok (.aload_n 0, 1) := by decide +kernel
theorem dX6_bag_22 : decode cX6_bag 22 = .ok (.getfield 24, 3) := by decide +kernel
theorem dX6_bag_25 : decode cX6_bag 25 = .ok (.iload_n 1, 1) := by decide +kernel
theorem dX6_bag_26 : decode cX6_bag 26 = .ok (.putfield 129, 3) := by decide +kernel
theorem dX6_bag_29 : decode cX6_bag 29 = .ok (.aload_n 0, 1) := by decide +kernel
theorem dX6_bag_30 : decode cX6_bag 30 = .ok (.invokevirtual 132, 3) := by decide +kernel
theorem dX6_bag_33 : decode cX6_bag 33 = .ok (.iload_n 2, 1) := by decide +kernel
theorem dX6_bag_34 : decode cX6_bag 34 = .ok (.ireturn, 1) := by decide +kernel
theorem dX6_event_0 : decode cX6_event 0 = .ok (.iload_n 1, 1) := by decide +kernel
theorem dX6_event_1 : decode cX6_event 1 = .ok (.iload_n 2, 1) := by decide +kernel
theorem dX6_event_2 : decode cX6_event 2 = .ok (.invokestatic 135, 3) := by decide +kernel
theorem dX6_event_5 : decode cX6_event 5 = .ok (.ifCond .ne 6, 3) := by decide +kernel
theorem dX6_event_8 : decode cX6_event 8 = .ok (.bipush (-2), 2) := by decide +kernel
theorem dX6_event_10 : decode cX6_event 10 = .ok (.ireturn, 1) := by decide +kernel
theorem dX6_event_11 : decode cX6_event 11 = .ok (.aload_n 0, 1) := by decide +kernel
theorem dX6_event_12 : decode cX6_event 12 = .ok (.getfield 24, 3) := by decide +kernel
theorem dX6_event_15 : decode cX6_event 15 = .ok (.iload_n 1, 1) := by decide +kernel
theorem dX6_event_16 : decode cX6_event 16 = .ok (.iload_n 2, 1) := by decide +kernel
theorem dX6_event_17 : decode cX6_event 17 = .ok (.invokevirtual 139, 3) := by decide +kernel
theorem dX6_event_20 : decode cX6_event 20 = .ok (.ifCond .ne 6, 3) := by decide +kernel
theorem dX6_event_23 : decode cX6_event 23 = .ok (.bipush (-4), 2) := by decide +kernel
theorem dX6_event_25 : decode cX6_event 25 = .ok (.ireturn, 1) := by decide +kernel
theorem dX6_event_26 : decode cX6_event 26 = .ok (.aload_n 0, 1) := by decide +kernel
theorem dX6_event_27 : decode cX6_event 27 = .ok (.invokevirtual 132, 3) := by decide +kernel
theorem dX6_event_30 : decode cX6_event 30 = .ok (.aload_n 0, 1) := by decide +kernel
theorem dX6_event_31 : decode cX6_event 31 = .ok (.getfield 24, 3) := by decide +kernel
theorem dX6_event_34 : decode cX6_event 34 = .ok (.getfield 142, 3) := by decide +kernel
theorem dX6_event_37 : decode cX6_event 37 = .ok (.ireturn, 1) := by decide +kernel
theorem dX6_back_0 : decode cX6_back 0 = .ok (.aload_n 0, 1) := by decide +kernel
theorem dX6_back_1 : decode cX6_back 1 = .ok (.getfield 24, 3) := by decide +kernel
theorem dX6_back_4 : decode cX6_back 4 = .ok (.getfield 142, 3) := by decide +kernel
theorem dX6_back_7 : decode cX6_back 7 = .ok (.ifCond .ne 6, 3) := by decide +kernel
theorem dX6_back_10 : decode cX6_back 10 = .ok (.bipush (-3), 2) := by decide +kernel
theorem dX6_back_12 : decode cX6_back 12 = .ok (.ireturn, 1) := by decide +kernel
theorem dX6_back_13 : decode cX6_back 13 = .ok (.aload_n 0, 1) := by decide +kernel
theorem dX6_back_14 : decode cX6_back 14 = .ok (.getfield 24, 3) := by decide +kernel
theorem dX6_back_17 : decode cX6_back 17 = .ok (.dup, 1) := by decide +kernel
theorem dX6_back_18 : decode cX6_back 18 = .ok (.getfield 142, 3) := by decide +kernel
theorem dX6_back_21 : decode cX6_back 21 = .ok (.iconst 1, 1) := by decide +kernel
theorem dX6_back_22 : decode cX6_back 22 = .ok (.isub, 1) := by decide +kernel
theorem dX6_back_23 : decode cX6_back 23 = .ok (.putfield 142, 3) := by decide +kernel
theorem dX6_back_26 : decode cX6_back 26 = .ok (.aload_n 0, 1) := by decide +kernel
theorem dX6_back_27 : decode cX6_back 27 = .ok (.invokevirtual 132, 3) := by decide +kernel
theorem dX6_back_30 : decode cX6_back 30 = .ok (.aload_n 0, 1) := by decide +kernel
theorem dX6_back_31 : decode cX6_back 31 = .ok (.getfield 24, 3) := by decide +kernel
theorem dX6_back_34 : decode cX6_back 34 = .ok (.getfield 142, 3) := by decide +kernel
theorem dX6_back_37 : decode cX6_back 37 = .ok (.ireturn, 1) := by decide +kernel
theorem dX6_read_0 : decode cX6_read 0 = .ok (.iload_n 1, 1) := by decide +kernel
theorem dX6_read_1 : decode cX6_read 1 = .ok (.iconst 0, 1) := by decide +kernel
theorem dX6_read_2 : decode cX6_read 2 = .ok (.iconst 3, 1) := by decide +kernel
theorem dX6_read_3 : decode cX6_read 3 = .ok (.invokestatic 89, 3) := by decide +kernel
theorem dX6_read_6 : decode cX6_read 6 = .ok (.ifCond .ne 6, 3) := by decide +kernel
theorem dX6_read_9 : decode cX6_read 9 = .ok (.bipush (-2), 2) := by decide +kernel
theorem dX6_read_11 : decode cX6_read 11 = .ok (.ireturn, 1) := by decide +kernel
theorem dX6_read_12 : decode cX6_read 12 = .ok (.aload_n 0, 1) := by decide +kernel
theorem dX6_read_13 : decode cX6_read 13 = .ok (.getfield 73, 3) := by decide +kernel
theorem dX6_read_16 : decode cX6_read 16 = .ok (.iload_n 1, 1) := by decide +kernel
theorem dX6_read_17 : decode cX6_read 17 = .ok (.aaload, 1) := by decide +kernel
theorem dX6_read_18 : decode cX6_read 18 = .ok (.astore_n 2, 1) := by decide +kernel
theorem dX6_read_19 : decode cX6_read 19 = .ok (.aload_n 2, 1) := by decide +kernel
theorem dX6_read_20 : decode cX6_read 20 = .ok (.getfield 145, 3) := by decide +kernel
theorem dX6_read_23 : decode cX6_read 23 = .ok (.ifCond .eq 9, 3) := by decide +kernel
theorem dX6_read_26 : decode cX6_read 26 = .ok (.aload_n 0, 1) := by decide +kernel
theorem dX6_read_27 : decode cX6_read 27 = .ok (.iconst 1, 1) := by decide +kernel
theorem dX6_read_28 : decode cX6_read 28 = .ok (.invokevirtual 148, 3) := by decide +kernel
theorem dX6_read_31 : decode cX6_read 31 = .ok (.ireturn, 1) := by decide +kernel
theorem dX6_read_32 : decode cX6_read 32 = .ok (.aload_n 0, 1) := by decide +kernel
theorem dX6_read_33 : decode cX6_read 33 = .ok (.getfield 24, 3) := by decide +kernel
theorem dX6_read_36 : decode cX6_read 36 = .ok (.getfield 142, 3) := by decide +kernel
theorem dX6_read_39 : decode cX6_read 39 = .ok (.istore_n 3, 1) := by decide +kernel
theorem dX6_read_40 : decode cX6_read 40 = .ok (.iconst 0, 1) := by decide +kernel
theorem dX6_read_41 : decode cX6_read 41 = .ok (.istore 4, 2) := by decide +kernel
theorem dX6_read_43 : decode cX6_read 43 = .ok (.iload 4, 2) := by decide +kernel
theorem dX6_read_45 : decode cX6_read 45 = .ok (.iconst 1, 1) := by decide +kernel
theorem dX6_read_46 : decode cX6_read 46 = .ok (.iadd, 1) := by decide +kernel
theorem dX6_read_47 : decode cX6_read 47 = .ok (.aload_n 2, 1) := by decide +kernel
theorem dX6_read_48 : decode cX6_read 48 = .ok (.getfield 152, 3) := by decide +kernel
theorem dX6_read_51 : decode cX6_read 51 = .ok (.if_icmp .ge 46, 3) := by decide +kernel
theorem dX6_read_54 : decode cX6_read 54 = .ok (.aload_n 2, 1) := by decide +kernel
theorem dX6_read_55 : decode cX6_read 55 = .ok (.getfield 153, 3) := by decide +kernel
theorem dX6_read_58 : decode cX6_read 58 = .ok (.iload 4, 2) := by decide +kernel
theorem dX6_read_60 : decode cX6_read 60 = .ok (.iaload, 1) := by decide +kernel
theorem dX6_read_61 : decode cX6_read 61 = .ok (.istore 5, 2) := by decide +kernel
theorem dX6_read_63 : decode cX6_read 63 = .ok (.aload_n 2, 1) := by decide +kernel
theorem dX6_read_64 : decode cX6_read 64 = .ok (.getfield 153, 3) := by decide +kernel
theorem dX6_read_67 : decode cX6_read 67 = .ok (.iload 4, 2) := by decide +kernel
theorem dX6_read_69 : decode cX6_read 69 = .ok (.iconst 1, 1) := by decide +kernel
theorem dX6_read_70 : decode cX6_read 70 = .ok (.iadd, 1) := by decide +kernel
theorem dX6_read_71 : decode cX6_read 71 = .ok (.iaload, 1) := by decide +kernel
theorem dX6_read_72 : decode cX6_read 72 = .ok (.istore 6, 2) := by decide +kernel
theorem dX6_read_74 : decode cX6_read 74 = .ok (.aload_n 0, 1) := by decide +kernel
theorem dX6_read_75 : decode cX6_read 75 = .ok (.getfield 24, 3) := by decide +kernel
theorem dX6_read_78 : decode cX6_read 78 = .ok (.iload 5, 2) := by decide +kernel
theorem dX6_read_80 : decode cX6_read 80 = .ok (.iload 6, 2) := by decide +kernel
theorem dX6_read_82 : decode cX6_read 82 = .ok (.invokevirtual 139, 3) := by decide +kernel
theorem dX6_read_85 : decode cX6_read 85 = .ok (.ifCond .ne 6, 3) := by decide +kernel
theorem dX6_read_88 : decode cX6_read 88 = .ok (.goto 9, 3) := by decide +kernel
theorem dX6_read_91 : decode cX6_read 91 = .ok (.iinc 4 2, 3) := by decide +kernel
theorem dX6_read_94 : decode cX6_read 94 = .ok (.goto (-51), 3) := by decide +kernel
theorem dX6_read_97 : decode cX6_read 97 = .ok (.aload_n 0, 1) := by decide +kernel
theorem dX6_read_98 : decode cX6_read 98 = .ok (.invokevirtual 132, 3) := by decide +kernel
theorem dX6_read_101 : decode cX6_read 101 = .ok (.aload_n 0, 1) := by decide +kernel
theorem dX6_read_102 : decode cX6_read 102 = .ok (.getfield 24, 3) := by decide +kernel
theorem dX6_read_105 : decode cX6_read 105 = .ok (.getfield 142, 3) := by decide +kernel
theorem dX6_read_108 : decode cX6_read 108 = .ok (.iload_n 3, 1) := by decide +kernel
theorem dX6_read_109 : decode cX6_read 109 = .ok (.isub, 1) := by decide +kernel
theorem dX6_read_110 : decode cX6_read 110 = .ok (.ireturn, 1) := by decide +kernel
theorem dX6_at_0 : decode cX6_at 0 = .ok (.iload_n 1, 1) := by decide +kernel
theorem dX6_at_1 : decode cX6_at 1 = .ok (.iconst 0, 1) := by decide +kernel
theorem dX6_at_2 : decode cX6_at 2 = .ok (.bipush 23, 2) := by decide +kernel
theorem dX6_at_4 : decode cX6_at 4 = .ok (.invokestatic 89, 3) := by decide +kernel
theorem dX6_at_7 : decode cX6_at 7 = .ok (.ifCond .eq 12, 3) := by decide +kernel
theorem dX6_at_10 : decode cX6_at 10 = .ok (.iload_n 2, 1) := by decide +kernel
theorem dX6_at_11 : decode cX6_at 11 = .ok (.iconst 0, 1) := by decide +kernel
theorem dX6_at_12 : decode cX6_at 12 = .ok (.iconst 2, 1) := by decide +kernel
theorem dX6_at_13 : decode cX6_at 13 = .ok (.invokestatic 89, 3) := by decide +kernel
theorem dX6_at_16 : decode cX6_at 16 = .ok (.ifCond .ne 6, 3) := by decide +kernel
theorem dX6_at_19 : decode cX6_at 19 = .ok (.bipush (-2), 2) := by decide +kernel
theorem dX6_at_21 : decode cX6_at 21 = .ok (.ireturn, 1) := by decide +kernel
theorem dX6_at_22 : decode cX6_at 22 = .ok (.aload_n 0, 1) := by decide +kernel
theorem dX6_at_23 : decode cX6_at 23 = .ok (.invokevirtual 156, 3) := by decide +kernel
theorem dX6_at_26 : decode cX6_at 26 = .ok (.astore_n 3, 1) := by decide +kernel
theorem dX6_at_27 : decode cX6_at 27 = .ok (.iload_n 2, 1) := by decide +kernel
theorem dX6_at_28 : decode cX6_at 28 = .ok (.ifCond .ne 10, 3) := by decide +kernel
theorem dX6_at_31 : decode cX6_at 31 = .ok (.aload_n 3, 1) := by decide +kernel
theorem dX6_at_32 : decode cX6_at 32 = .ok (.getfield 160, 3) := by decide +kernel
theorem dX6_at_35 : decode cX6_at 35 = .ok (.iload_n 1, 1) := by decide +kernel
theorem dX6_at_36 : decode cX6_at 36 = .ok (.iaload, 1) := by decide +kernel
theorem dX6_at_37 : decode cX6_at 37 = .ok (.ireturn, 1) := by decide +kernel
theorem dX6_at_38 : decode cX6_at 38 = .ok (.iload_n 2, 1) := by decide +kernel
theorem dX6_at_39 : decode cX6_at 39 = .ok (.iconst 1, 1) := by decide +kernel
theorem dX6_at_40 : decode cX6_at 40 = .ok (.if_icmp .ne 12, 3) := by decide +kernel
theorem dX6_at_43 : decode cX6_at 43 = .ok (.aload_n 3, 1) := by decide +kernel
theorem dX6_at_44 : decode cX6_at 44 = .ok (.getfield 163, 3) := by decide +kernel
theorem dX6_at_47 : decode cX6_at 47 = .ok (.iload_n 1, 1) := by decide +kernel
theorem dX6_at_48 : decode cX6_at 48 = .ok (.iaload, 1) := by decide +kernel
theorem dX6_at_49 : decode cX6_at 49 = .ok (.goto 9, 3) := by decide +kernel
theorem dX6_at_52 : decode cX6_at 52 = .ok (.aload_n 3, 1) := by decide +kernel
theorem dX6_at_53 : decode cX6_at 53 = .ok (.getfield 166, 3) := by decide +kernel
theorem dX6_at_56 : decode cX6_at 56 = .ok (.iload_n 1, 1) := by decide +kernel
theorem dX6_at_57 : decode cX6_at 57 = .ok (.iaload, 1) := by decide +kernel
theorem dX6_at_58 : decode cX6_at 58 = .ok (.ireturn, 1) := by decide +kernel
theorem dX6_heard_0 : decode cX6_heard 0 = .ok (.aload_n 0, 1) := by decide +kernel
theorem dX6_heard_1 : decode cX6_heard 1 = .ok (.iload_n 1, 1) := by decide +kernel
theorem dX6_heard_2 : decode cX6_heard 2 = .ok (.invokevirtual 169, 3) := by decide +kernel
theorem dX6_heard_5 : decode cX6_heard 5 = .ok (.ifCond .ne 6, 3) := by decide +kernel
theorem dX6_heard_8 : decode cX6_heard 8 = .ok (.bipush (-2), 2) := by decide +kernel
theorem dX6_heard_10 : decode cX6_heard 10 = .ok (.ireturn, 1) := by decide +kernel
theorem dX6_heard_11 : decode cX6_heard 11 = .ok (.aload_n 0, 1) := by decide +kernel
theorem dX6_heard_12 : decode cX6_heard 12 = .ok (.invokevirtual 156, 3) := by decide +kernel
theorem dX6_heard_15 : decode cX6_heard 15 = .ok (.getfield 172, 3) := by decide +kernel
theorem dX6_heard_18 : decode cX6_heard 18 = .ok (.iload_n 1, 1) := by decide +kernel
theorem dX6_heard_19 : decode cX6_heard 19 = .ok (.iaload, 1) := by decide +kernel
theorem dX6_heard_20 : decode cX6_heard 20 = .ok (.ireturn, 1) := by decide +kernel
theorem dX6_takes_0 : decode cX6_takes 0 = .ok (.aload_n 0, 1) := by decide +kernel
theorem dX6_takes_1 : decode cX6_takes 1 = .ok (.iload_n 1, 1) := by decide +kernel
theorem dX6_takes_2 : decode cX6_takes 2 = .ok (.invokevirtual 111, 3) := by decide +kernel
theorem dX6_takes_5 : decode cX6_takes 5 = .ok (.ifCond .eq 12, 3) := by decide +kernel
theorem dX6_takes_8 : decode cX6_takes 8 = .ok (.iload_n 2, 1) := by decide +kernel
theorem dX6_takes_9 : decode cX6_takes 9 = .ok (.iconst 0, 1) := by decide +kernel
theorem dX6_takes_10 : decode cX6_takes 10 = .ok (.iconst 2, 1) := by decide +kernel
theorem dX6_takes_11 : decode cX6_takes 11 = .ok (.invokestatic 89, 3) := by decide +kernel
theorem dX6_takes_14 : decode cX6_takes 14 = .ok (.ifCond .ne 6, 3) := by decide +kernel
theorem dX6_takes_17 : decode cX6_takes 17 = .ok (.bipush (-2), 2) := by decide +kernel
theorem dX6_takes_19 : decode cX6_takes 19 = .ok (.ireturn, 1) := by decide +kernel
theorem dX6_takes_20 : decode cX6_takes 20 = .ok (.aload_n 0, 1) := by decide +kernel
theorem dX6_takes_21 : decode cX6_takes 21 = .ok (.invokevirtual 156, 3) := by decide +kernel
theorem dX6_takes_24 : decode cX6_takes 24 = .ok (.astore_n 3, 1) := by decide +kernel
theorem dX6_takes_25 : decode cX6_takes 25 = .ok (.iload_n 2, 1) := by decide +kernel
theorem dX6_takes_26 : decode cX6_takes 26 = .ok (.ifCond .ne 10, 3) := by decide +kernel
theorem dX6_takes_29 : decode cX6_takes 29 = .ok (.aload_n 3, 1) := by decide +kernel
theorem dX6_takes_30 : decode cX6_takes 30 = .ok (.getfield 175, 3) := by decide +kernel
theorem dX6_takes_33 : decode cX6_takes 33 = .ok (.iload_n 1, 1) := by decide +kernel
theorem dX6_takes_34 : decode cX6_takes 34 = .ok (.iaload, 1) := by decide +kernel
theorem dX6_takes_35 : decode cX6_takes 35 = .ok (.ireturn, 1) := by decide +kernel
theorem dX6_takes_36 : decode cX6_takes 36 = .ok (.iload_n 2, 1) := by decide +kernel
theorem dX6_takes_37 : decode cX6_takes 37 = .ok (.iconst 1, 1) := by decide +kernel
theorem dX6_takes_38 : decode cX6_takes 38 = .ok (.if_icmp .ne 12, 3) := by decide +kernel
theorem dX6_takes_41 : decode cX6_takes 41 = .ok (.aload_n 3, 1) := by decide +kernel
theorem dX6_takes_42 : decode cX6_takes 42 = .ok (.getfield 178, 3) := by decide +kernel
theorem dX6_takes_45 : decode cX6_takes 45 = .ok (.iload_n 1, 1) := by decide +kernel
theorem dX6_takes_46 : decode cX6_takes 46 = .ok (.iaload, 1) := by decide +kernel
theorem dX6_takes_47 : decode cX6_takes 47 = .ok (.goto 9, 3) := by decide +kernel
theorem dX6_takes_50 : decode cX6_takes 50 = .ok (.aload_n 3, 1) := by decide +kernel
theorem dX6_takes_51 : decode cX6_takes 51 = .ok (.getfield 181, 3) := by decide +kernel
theorem dX6_takes_54 : decode cX6_takes 54 = .ok (.iload_n 1, 1) := by decide +kernel
theorem dX6_takes_55 : decode cX6_takes 55 = .ok (.iaload, 1) := by decide +kernel
theorem dX6_takes_56 : decode cX6_takes 56 = .ok (.ireturn, 1) := by decide +kernel
theorem dX6_sum_0 : decode cX6_sum 0 = .ok (.iload_n 1, 1) := by decide +kernel
theorem dX6_sum_1 : decode cX6_sum 1 = .ok (.iconst 0, 1) := by decide +kernel
theorem dX6_sum_2 : decode cX6_sum 2 = .ok (.iconst 2, 1) := by decide +kernel
theorem dX6_sum_3 : decode cX6_sum 3 = .ok (.invokestatic 89, 3) := by decide +kernel
theorem dX6_sum_6 : decode cX6_sum 6 = .ok (.ifCond .ne 6, 3) := by decide +kernel
theorem dX6_sum_9 : decode cX6_sum 9 = .ok (.bipush (-2), 2) := by decide +kernel
theorem dX6_sum_11 : decode cX6_sum 11 = .ok (.ireturn, 1) := by decide +kernel
theorem dX6_sum_12 : decode cX6_sum 12 = .ok (.aload_n 0, 1) := by decide +kernel
theorem dX6_sum_13 : decode cX6_sum 13 = .ok (.invokevirtual 156, 3) := by decide +kernel
theorem dX6_sum_16 : decode cX6_sum 16 = .ok (.astore_n 2, 1) := by decide +kernel
theorem dX6_sum_17 : decode cX6_sum 17 = .ok (.iload_n 1, 1) := by decide +kernel
theorem dX6_sum_18 : decode cX6_sum 18 = .ok (.ifCond .ne 8, 3) := by decide +kernel
theorem dX6_sum_21 : decode cX6_sum 21 = .ok (.aload_n 2, 1) := by decide +kernel
theorem dX6_sum_22 : decode cX6_sum 22 = .ok (.getfield 184, 3) := by decide +kernel
theorem dX6_sum_25 : decode cX6_sum 25 = .ok (.ireturn, 1) := by decide +kernel
theorem dX6_sum_26 : decode cX6_sum 26 = .ok (.iload_n 1, 1) := by decide +kernel
theorem dX6_sum_27 : decode cX6_sum 27 = .ok (.iconst 1, 1) := by decide +kernel
theorem dX6_sum_28 : decode cX6_sum 28 = .ok (.if_icmp .ne 10, 3) := by decide +kernel
theorem dX6_sum_31 : decode cX6_sum 31 = .ok (.aload_n 2, 1) := by decide +kernel
theorem dX6_sum_32 : decode cX6_sum 32 = .ok (.getfield 187, 3) := by decide +kernel
theorem dX6_sum_35 : decode cX6_sum 35 = .ok (.goto 7, 3) := by decide +kernel
theorem dX6_sum_38 : decode cX6_sum 38 = .ok (.aload_n 2, 1) := by decide +kernel
theorem dX6_sum_39 : decode cX6_sum 39 = .ok (.getfield 190, 3) := by decide +kernel
theorem dX6_sum_42 : decode cX6_sum 42 = .ok (.ireturn, 1) := by decide +kernel
theorem dX6_flat_0 : decode cX6_flat 0 = .ok (.aload_n 0, 1) := by decide +kernel
theorem dX6_flat_1 : decode cX6_flat 1 = .ok (.invokevirtual 156, 3) := by decide +kernel
theorem dX6_flat_4 : decode cX6_flat 4 = .ok (.astore_n 1, 1) := by decide +kernel
theorem dX6_flat_5 : decode cX6_flat 5 = .ok (.iconst 0, 1) := by decide +kernel
theorem dX6_flat_6 : decode cX6_flat 6 = .ok (.istore_n 2, 1) := by decide +kernel
theorem dX6_flat_7 : decode cX6_flat 7 = .ok (.iload_n 2, 1) := by decide +kernel
theorem dX6_flat_8 : decode cX6_flat 8 = .ok (.bipush 24, 2) := by decide +kernel
theorem dX6_flat_10 : decode cX6_flat 10 = .ok (.if_icmp .ge 20, 3) := by decide +kernel
theorem dX6_flat_13 : decode cX6_flat 13 = .ok (.aload_n 1, 1) := by decide +kernel
theorem dX6_flat_14 : decode cX6_flat 14 = .ok (.getfield 163, 3) := by decide +kernel
theorem dX6_flat_17 : decode cX6_flat 17 = .ok (.iload_n 2, 1) := by decide +kernel
theorem dX6_flat_18 : decode cX6_flat 18 = .ok (.iaload, 1) := by decide +kernel
theorem dX6_flat_19 : decode cX6_flat 19 = .ok (.ifCond .ne 5, 3) := by decide +kernel
theorem dX6_flat_22 : decode cX6_flat 22 = .ok (.iload_n 2, 1) := by decide +kernel
theorem dX6_flat_23 : decode cX6_flat 23 = .ok (.ireturn, 1) := by decide +kernel
theorem dX6_flat_24 : decode cX6_flat 24 = .ok (.iinc 2 1, 3) := by decide +kernel
theorem dX6_flat_27 : decode cX6_flat 27 = .ok (.goto (-20), 3) := by decide +kernel
theorem dX6_flat_30 : decode cX6_flat 30 = .ok (.iconst (-1), 1) := by decide +kernel
theorem dX6_flat_31 : decode cX6_flat 31 = .ok (.ireturn, 1) := by decide +kernel
theorem dX6_silent_0 : decode cX6_silent 0 = .ok (.aload_n 0, 1) := by decide +kernel
theorem dX6_silent_1 : decode cX6_silent 1 = .ok (.invokevirtual 156, 3) := by decide +kernel
theorem dX6_silent_4 : decode cX6_silent 4 = .ok (.astore_n 1, 1) := by decide +kernel
theorem dX6_silent_5 : decode cX6_silent 5 = .ok (.iconst 0, 1) := by decide +kernel
theorem dX6_silent_6 : decode cX6_silent 6 = .ok (.istore_n 2, 1) := by decide +kernel
theorem dX6_silent_7 : decode cX6_silent 7 = .ok (.iconst 0, 1) := by decide +kernel
theorem dX6_silent_8 : decode cX6_silent 8 = .ok (.istore_n 3, 1) := by decide +kernel
theorem dX6_silent_9 : decode cX6_silent 9 = .ok (.iload_n 3, 1) := by decide +kernel
theorem dX6_silent_10 : decode cX6_silent 10 = .ok (.aload_n 0, 1) := by decide +kernel
theorem dX6_silent_11 : decode cX6_silent 11 = .ok (.getfield 24, 3) := by decide +kernel
theorem dX6_silent_14 : decode cX6_silent 14 = .ok (.getfield 193, 3) := by decide +kernel
theorem dX6_silent_17 : decode cX6_silent 17 = .ok (.if_icmp .ge 24, 3) := by decide +kernel
theorem dX6_silent_20 : decode cX6_silent 20 = .ok (.aload_n 1, 1) := by decide +kernel
theorem dX6_silent_21 : decode cX6_silent 21 = .ok (.getfield 175, 3) := by decide +kernel
theorem dX6_silent_24 : decode cX6_silent 24 = .ok (.iload_n 3, 1) := by decide +kernel
theorem dX6_silent_25 : decode cX6_silent 25 = .ok (.iaload, 1) := by decide +kernel
theorem dX6_silent_26 : decode cX6_silent 26 = .ok (.ifCond .ne 9, 3) := by decide +kernel
theorem dX6_silent_29 : decode cX6_silent 29 = .ok (.iload_n 2, 1) := by decide +kernel
theorem dX6_silent_30 : decode cX6_silent 30 = .ok (.iconst 1, 1) := by decide +kernel
theorem dX6_silent_31 : decode cX6_silent 31 = .ok (.iload_n 3, 1) := by decide +kernel
theorem dX6_silent_32 : decode cX6_silent 32 = .ok (.ishl, 1) := by decide +kernel
theorem dX6_silent_33 : decode cX6_silent 33 = .ok (.ior, 1) := by decide +kernel
theorem dX6_silent_34 : decode cX6_silent 34 = .ok (.istore_n 2, 1) := by decide +kernel
theorem dX6_silent_35 : decode cX6_silent 35 = .ok (.iinc 3 1, 3) := by decide +kernel
theorem dX6_silent_38 : decode cX6_silent 38 = .ok (.goto (-29), 3) := by decide +kernel
theorem dX6_silent_41 : decode cX6_silent 41 = .ok (.iload_n 2, 1) := by decide +kernel
theorem dX6_silent_42 : decode cX6_silent 42 = .ok (.ireturn, 1) := by decide +kernel
theorem dX6_greedy_0 : decode cX6_greedy 0 = .ok (.aload_n 0, 1) := by decide +kernel
theorem dX6_greedy_1 : decode cX6_greedy 1 = .ok (.invokevirtual 156, 3) := by decide +kernel
theorem dX6_greedy_4 : decode cX6_greedy 4 = .ok (.astore_n 1, 1) := by decide +kernel
theorem dX6_greedy_5 : decode cX6_greedy 5 = .ok (.iconst (-1), 1) := by decide +kernel
theorem dX6_greedy_6 : decode cX6_greedy 6 = .ok (.istore_n 2, 1) := by decide +kernel
theorem dX6_greedy_7 : decode cX6_greedy 7 = .ok (.iconst 0, 1) := by decide +kernel
theorem dX6_greedy_8 : decode cX6_greedy 8 = .ok (.istore_n 3, 1) := by decide +kernel
theorem dX6_greedy_9 : decode cX6_greedy 9 = .ok (.iconst 0, 1) := by decide +kernel
theorem dX6_greedy_10 : decode cX6_greedy 10 = .ok (.istore 4, 2) := by decide +kernel
theorem dX6_greedy_12 : decode cX6_greedy 12 = .ok (.iload 4, 2) := by decide +kernel
theorem dX6_greedy_14 : decode cX6_greedy 14 = .ok (.aload_n 0, 1) := by decide +kernel
theorem dX6_greedy_15 : decode cX6_greedy 15 = .ok (.getfield 24, 3) := by decide +kernel
theorem dX6_greedy_18 : decode cX6_greedy 18 = .ok (.getfield 193, 3) := by decide +kernel
theorem dX6_greedy_21 : decode cX6_greedy 21 = .ok (.if_icmp .ge 31, 3) := by decide +kernel
theorem dX6_greedy_24 : decode cX6_greedy 24 = .ok (.aload_n 1, 1) := by decide +kernel
theorem dX6_greedy_25 : decode cX6_greedy 25 = .ok (.getfield 178, 3) := by decide +kernel
theorem dX6_greedy_28 : decode cX6_greedy 28 = .ok (.iload 4, 2) := by decide +kernel
theorem dX6_greedy_30 : decode cX6_greedy 30 = .ok (.iaload, 1) := by decide +kernel
theorem dX6_greedy_31 : decode cX6_greedy 31 = .ok (.iload_n 3, 1) := by decide +kernel
theorem dX6_greedy_32 : decode cX6_greedy 32 = .ok (.if_icmp .le 14, 3) := by decide +kernel
theorem dX6_greedy_35 : decode cX6_greedy 35 = .ok (.aload_n 1, 1) := by decide +kernel
theorem dX6_greedy_36 : decode cX6_greedy 36 = .ok (.getfield 178, 3) := by decide +kernel
theorem dX6_greedy_39 : decode cX6_greedy 39 = .ok (.iload 4, 2) := by decide +kernel
theorem dX6_greedy_41 : decode cX6_greedy 41 = .ok (.iaload, 1) := by decide +kernel
theorem dX6_greedy_42 : decode cX6_greedy 42 = .ok (.istore_n 3, 1) := by decide +kernel
theorem dX6_greedy_43 : decode cX6_greedy 43 = .ok (.iload 4, 2) := by decide +kernel
theorem dX6_greedy_45 : decode cX6_greedy 45 = .ok (.istore_n 2, 1) := by decide +kernel
theorem dX6_greedy_46 : decode cX6_greedy 46 = .ok (.iinc 4 1, 3) := by decide +kernel
theorem dX6_greedy_49 : decode cX6_greedy 49 = .ok (.goto (-37), 3) := by decide +kernel
theorem dX6_greedy_52 : decode cX6_greedy 52 = .ok (.iload_n 2, 1) := by decide +kernel
theorem dX6_greedy_53 : decode cX6_greedy 53 = .ok (.ireturn, 1) := by decide +kernel
theorem dX6_fill_0 : decode cX6_fill 0 = .ok (.iload_n 1, 1) := by decide +kernel
theorem dX6_fill_1 : decode cX6_fill 1 = .ok (.iconst 0, 1) := by decide +kernel
theorem dX6_fill_2 : decode cX6_fill 2 = .ok (.iconst 1, 1) := by decide +kernel
theorem dX6_fill_3 : decode cX6_fill 3 = .ok (.invokestatic 89, 3) := by decide +kernel
theorem dX6_fill_6 : decode cX6_fill 6 = .ok (.ifCond .ne 6, 3) := by decide +kernel
theorem dX6_fill_9 : decode cX6_fill 9 = .ok (.bipush (-2), 2) := by decide +kernel
theorem dX6_fill_11 : decode cX6_fill 11 = .ok (.ireturn, 1) := by decide +kernel
theorem dX6_fill_12 : decode cX6_fill 12 = .ok (.aload_n 0, 1) := by decide +kernel
theorem dX6_fill_13 : decode cX6_fill 13 = .ok (.getfield 51, 3) := by decide +kernel
theorem dX6_fill_16 : decode cX6_fill 16 = .ok (.getfield 196, 3) := by decide +kernel
theorem dX6_fill_19 : decode cX6_fill 19 = .ok (.ifCond .ne 7, 3) := by decide +kernel
theorem dX6_fill_22 : decode cX6_fill 22 = .ok (.aload_n 0, 1) := by decide +kernel
theorem dX6_fill_23 : decode cX6_fill 23 = .ok (.invokevirtual 199, 3) := by decide +kernel
theorem dX6_fill_26 : decode cX6_fill 26 = .ok (.iload_n 1, 1) := by decide +kernel
theorem dX6_fill_27 : decode cX6_fill 27 = .ok (.ifCond .ne 13, 3) := by decide +kernel
theorem dX6_fill_30 : decode cX6_fill 30 = .ok (.aload_n 0, 1) := by decide +kernel
theorem dX6_fill_31 : decode cX6_fill 31 = .ok (.getfield 51, 3) := by decide +kernel
theorem dX6_fill_34 : decode cX6_fill 34 = .ok (.getfield 202, 3) := by decide +kernel
theorem dX6_fill_37 : decode cX6_fill 37 = .ok (.goto 10, 3) := by decide +kernel
theorem dX6_fill_40 : decode cX6_fill 40 = .ok (.aload_n 0, 1) := by decide +kernel
theorem dX6_fill_41 : decode cX6_fill 41 = .ok (.getfield 51, 3) := by decide +kernel
theorem dX6_fill_44 : decode cX6_fill 44 = .ok (.getfield 205, 3) := by decide +kernel
theorem dX6_fill_47 : decode cX6_fill 47 = .ok (.ireturn, 1) := by decide +kernel
theorem dX6_swap_0 : decode cX6_swap 0 = .ok (.iload_n 1, 1) := by decide +kernel
theorem dX6_swap_1 : decode cX6_swap 1 = .ok (.iconst 0, 1) := by decide +kernel
theorem dX6_swap_2 : decode cX6_swap 2 = .ok (.iconst 2, 1) := by decide +kernel
theorem dX6_swap_3 : decode cX6_swap 3 = .ok (.invokestatic 89, 3) := by decide +kernel
theorem dX6_swap_6 : decode cX6_swap 6 = .ok (.ifCond .ne 6, 3) := by decide +kernel
theorem dX6_swap_9 : decode cX6_swap 9 = .ok (.bipush (-2), 2) := by decide +kernel
theorem dX6_swap_11 : decode cX6_swap 11 = .ok (.ireturn, 1) := by decide +kernel
theorem dX6_swap_12 : decode cX6_swap 12 = .ok (.aload_n 0, 1) := by decide +kernel
theorem dX6_swap_13 : decode cX6_swap 13 = .ok (.getfield 55, 3) := by decide +kernel
theorem dX6_swap_16 : decode cX6_swap 16 = .ok (.getfield 196, 3) := by decide +kernel
theorem dX6_swap_19 : decode cX6_swap 19 = .ok (.ifCond .ne 7, 3) := by decide +kernel
theorem dX6_swap_22 : decode cX6_swap 22 = .ok (.aload_n 0, 1) := by decide +kernel
theorem dX6_swap_23 : decode cX6_swap 23 = .ok (.invokevirtual 208, 3) := by decide +kernel
theorem dX6_swap_26 : decode cX6_swap 26 = .ok (.iload_n 1, 1) := by decide +kernel
theorem dX6_swap_27 : decode cX6_swap 27 = .ok (.ifCond .ne 11, 3) := by decide +kernel
theorem dX6_swap_30 : decode cX6_swap 30 = .ok (.aload_n 0, 1) := by decide +kernel
theorem dX6_swap_31 : decode cX6_swap 31 = .ok (.getfield 55, 3) := by decide +kernel
theorem dX6_swap_34 : decode cX6_swap 34 = .ok (.getfield 202, 3) := by decide +kernel
theorem dX6_swap_37 : decode cX6_swap 37 = .ok (.ireturn, 1) := by decide +kernel
theorem dX6_swap_38 : decode cX6_swap 38 = .ok (.iload_n 1, 1) := by decide +kernel
theorem dX6_swap_39 : decode cX6_swap 39 = .ok (.iconst 1, 1) := by decide +kernel
theorem dX6_swap_40 : decode cX6_swap 40 = .ok (.if_icmp .ne 13, 3) := by decide +kernel
theorem dX6_swap_43 : decode cX6_swap 43 = .ok (.aload_n 0, 1) := by decide +kernel
theorem dX6_swap_44 : decode cX6_swap 44 = .ok (.getfield 55, 3) := by decide +kernel
theorem dX6_swap_47 : decode cX6_swap 47 = .ok (.getfield 211, 3) := by decide +kernel
theorem dX6_swap_50 : decode cX6_swap 50 = .ok (.goto 10, 3) := by decide +kernel
theorem dX6_swap_53 : decode cX6_swap 53 = .ok (.aload_n 0, 1) := by decide +kernel
theorem dX6_swap_54 : decode cX6_swap 54 = .ok (.getfield 55, 3) := by decide +kernel
theorem dX6_swap_57 : decode cX6_swap 57 = .ok (.getfield 205, 3) := by decide +kernel
theorem dX6_swap_60 : decode cX6_swap 60 = .ok (.ireturn, 1) := by decide +kernel
theorem dX6_hold_0 : decode cX6_hold 0 = .ok (.iload_n 1, 1) := by decide +kernel
theorem dX6_hold_1 : decode cX6_hold 1 = .ok (.iconst 0, 1) := by decide +kernel
theorem dX6_hold_2 : decode cX6_hold 2 = .ok (.iconst 1, 1) := by decide +kernel
theorem dX6_hold_3 : decode cX6_hold 3 = .ok (.invokestatic 89, 3) := by decide +kernel
theorem dX6_hold_6 : decode cX6_hold 6 = .ok (.ifCond .ne 6, 3) := by decide +kernel
theorem dX6_hold_9 : decode cX6_hold 9 = .ok (.bipush (-2), 2) := by decide +kernel
theorem dX6_hold_11 : decode cX6_hold 11 = .ok (.ireturn, 1) := by decide +kernel
theorem dX6_hold_12 : decode cX6_hold 12 = .ok (.aload_n 0, 1) := by decide +kernel
theorem dX6_hold_13 : decode cX6_hold 13 = .ok (.getfield 58, 3) := by decide +kernel
theorem dX6_hold_16 : decode cX6_hold 16 = .ok (.getfield 196, 3) := by decide +kernel
theorem dX6_hold_19 : decode cX6_hold 19 = .ok (.ifCond .ne 7, 3) := by decide +kernel
theorem dX6_hold_22 : decode cX6_hold 22 = .ok (.aload_n 0, 1) := by decide +kernel
theorem dX6_hold_23 : decode cX6_hold 23 = .ok (.invokevirtual 214, 3) := by decide +kernel
theorem dX6_hold_26 : decode cX6_hold 26 = .ok (.iload_n 1, 1) := by decide +kernel
theorem dX6_hold_27 : decode cX6_hold 27 = .ok (.ifCond .ne 13, 3) := by decide +kernel
theorem dX6_hold_30 : decode cX6_hold 30 = .ok (.aload_n 0, 1) := by decide +kernel
theorem dX6_hold_31 : decode cX6_hold 31 = .ok (.getfield 58, 3) := by decide +kernel
theorem dX6_hold_34 : decode cX6_hold 34 = .ok (.getfield 202, 3) := by decide +kernel
theorem dX6_hold_37 : decode cX6_hold 37 = .ok (.goto 10, 3) := by decide +kernel
theorem dX6_hold_40 : decode cX6_hold 40 = .ok (.aload_n 0, 1) := by decide +kernel
theorem dX6_hold_41 : decode cX6_hold 41 = .ok (.getfield 58, 3) := by decide +kernel
theorem dX6_hold_44 : decode cX6_hold 44 = .ok (.getfield 205, 3) := by decide +kernel
theorem dX6_hold_47 : decode cX6_hold 47 = .ok (.ireturn, 1) := by decide +kernel
theorem dX6_spare_0 : decode cX6_spare 0 = .ok (.iload_n 1, 1) := by decide +kernel
theorem dX6_spare_1 : decode cX6_spare 1 = .ok (.iconst (-1), 1) := by decide +kernel
theorem dX6_spare_2 : decode cX6_spare 2 = .ok (.iconst 1, 1) := by decide +kernel
theorem dX6_spare_3 : decode cX6_spare 3 = .ok (.invokestatic 89, 3) := by decide +kernel
theorem dX6_spare_6 : decode cX6_spare 6 = .ok (.ifCond .ne 6, 3) := by decide +kernel
theorem dX6_spare_9 : decode cX6_spare 9 = .ok (.bipush (-2), 2) := by decide +kernel
theorem dX6_spare_11 : decode cX6_spare 11 = .ok (.ireturn, 1) := by decide +kernel
theorem dX6_spare_12 : decode cX6_spare 12 = .ok (.aload_n 0, 1) := by decide +kernel
theorem dX6_spare_13 : decode cX6_spare 13 = .ok (.getfield 61, 3) := by decide +kernel
theorem dX6_spare_16 : decode cX6_spare 16 = .ok (.getfield 196, 3) := by decide +kernel
theorem dX6_spare_19 : decode cX6_spare 19 = .ok (.ifCond .ne 7, 3) := by decide +kernel
theorem dX6_spare_22 : decode cX6_spare 22 = .ok (.aload_n 0, 1) := by decide +kernel
theorem dX6_spare_23 : decode cX6_spare 23 = .ok (.invokevirtual 217, 3) := by decide +kernel
theorem dX6_spare_26 : decode cX6_spare 26 = .ok (.iload_n 1, 1) := by decide +kernel
theorem dX6_spare_27 : decode cX6_spare 27 = .ok (.iconst (-1), 1) := by decide +kernel
theorem dX6_spare_28 : decode cX6_spare 28 = .ok (.if_icmp .ne 11, 3) := by decide +kernel
theorem dX6_spare_31 : decode cX6_spare 31 = .ok (.aload_n 0, 1) := by decide +kernel
theorem dX6_spare_32 : decode cX6_spare 32 = .ok (.getfield 61, 3) := by decide +kernel
theorem dX6_spare_35 : decode cX6_spare 35 = .ok (.getfield 205, 3) := by decide +kernel
theorem dX6_spare_38 : decode cX6_spare 38 = .ok (.ireturn, 1) := by decide +kernel
theorem dX6_spare_39 : decode cX6_spare 39 = .ok (.iload_n 1, 1) := by decide +kernel
theorem dX6_spare_40 : decode cX6_spare 40 = .ok (.ifCond .ne 13, 3) := by decide +kernel
theorem dX6_spare_43 : decode cX6_spare 43 = .ok (.aload_n 0, 1) := by decide +kernel
theorem dX6_spare_44 : decode cX6_spare 44 = .ok (.getfield 61, 3) := by decide +kernel
theorem dX6_spare_47 : decode cX6_spare 47 = .ok (.getfield 202, 3) := by decide +kernel
theorem dX6_spare_50 : decode cX6_spare 50 = .ok (.goto 10, 3) := by decide +kernel
theorem dX6_spare_53 : decode cX6_spare 53 = .ok (.aload_n 0, 1) := by decide +kernel
theorem dX6_spare_54 : decode cX6_spare 54 = .ok (.getfield 61, 3) := by decide +kernel
theorem dX6_spare_57 : decode cX6_spare 57 = .ok (.getfield 211, 3) := by decide +kernel
theorem dX6_spare_60 : decode cX6_spare 60 = .ok (.ireturn, 1) := by decide +kernel
theorem dX6_hear_0 : decode cX6_hear 0 = .ok (.iload_n 1, 1) := by decide +kernel
theorem dX6_hear_1 : decode cX6_hear 1 = .ok (.iconst 0, 1) := by decide +kernel
theorem dX6_hear_2 : decode cX6_hear 2 = .ok (.bipush 15, 2) := by decide +kernel
theorem dX6_hear_4 : decode cX6_hear 4 = .ok (.invokestatic 89, 3) := by decide +kernel
theorem dX6_hear_7 : decode cX6_hear 7 = .ok (.ifCond .eq 12, 3) := by decide +kernel
theorem dX6_hear_10 : decode cX6_hear 10 = .ok (.iload_n 2, 1) := by decide +kernel
theorem dX6_hear_11 : decode cX6_hear 11 = .ok (.iconst 0, 1) := by decide +kernel
theorem dX6_hear_12 : decode cX6_hear 12 = .ok (.iconst 2, 1) := by decide +kernel
theorem dX6_hear_13 : decode cX6_hear 13 = .ok (.invokestatic 89, 3) := by decide +kernel
theorem dX6_hear_16 : decode cX6_hear 16 = .ok (.ifCond .ne 6, 3) := by decide +kernel
theorem dX6_hear_19 : decode cX6_hear 19 = .ok (.bipush (-2), 2) := by decide +kernel
theorem dX6_hear_21 : decode cX6_hear 21 = .ok (.ireturn, 1) := by decide +kernel
theorem dX6_hear_22 : decode cX6_hear 22 = .ok (.aload_n 0, 1) := by decide +kernel
theorem dX6_hear_23 : decode cX6_hear 23 = .ok (.getfield 44, 3) := by decide +kernel
theorem dX6_hear_26 : decode cX6_hear 26 = .ok (.iload_n 1, 1) := by decide +kernel
theorem dX6_hear_27 : decode cX6_hear 27 = .ok (.iload_n 2, 1) := by decide +kernel
theorem dX6_hear_28 : decode cX6_hear 28 = .ok (.invokevirtual 220, 3) := by decide +kernel
theorem dX6_hear_31 : decode cX6_hear 31 = .ok (.ifCond .ne 6, 3) := by decide +kernel
theorem dX6_hear_34 : decode cX6_hear 34 = .ok (.bipush (-4), 2) := by decide +kernel
theorem dX6_hear_36 : decode cX6_hear 36 = .ok (.ireturn, 1) := by decide +kernel
theorem dX6_hear_37 : decode cX6_hear 37 = .ok (.aload_n 0, 1) := by decide +kernel
theorem dX6_hear_38 : decode cX6_hear 38 = .ok (.getfield 44, 3) := by decide +kernel
theorem dX6_hear_41 : decode cX6_hear 41 = .ok (.getfield 223, 3) := by decide +kernel
theorem dX6_hear_44 : decode cX6_hear 44 = .ok (.ireturn, 1) := by decide +kernel
theorem dX6_forget_0 : decode cX6_forget 0 = .ok (.aload_n 0, 1) := by decide +kernel
theorem dX6_forget_1 : decode cX6_forget 1 = .ok (.getfield 44, 3) := by decide +kernel
theorem dX6_forget_4 : decode cX6_forget 4 = .ok (.getfield 223, 3) := by decide +kernel
theorem dX6_forget_7 : decode cX6_forget 7 = .ok (.istore_n 1, 1) := by decide +kernel
theorem dX6_forget_8 : decode cX6_forget 8 = .ok (.aload_n 0, 1) := by decide +kernel
theorem dX6_forget_9 : decode cX6_forget 9 = .ok (.getfield 44, 3) := by decide +kernel
theorem dX6_forget_12 : decode cX6_forget 12 = .ok (.iconst 0, 1) := by decide +kernel
theorem dX6_forget_13 : decode cX6_forget 13 = .ok (.putfield 223, 3) := by decide +kernel
theorem dX6_forget_16 : decode cX6_forget 16 = .ok (.iload_n 1, 1) := by decide +kernel
theorem dX6_forget_17 : decode cX6_forget 17 = .ok (.ireturn, 1) := by decide +kernel
theorem dX6_never_0 : decode cX6_never 0 = .ok (.aload_n 0, 1) := by decide +kernel
theorem dX6_never_1 : decode cX6_never 1 = .ok (.getfield 28, 3) := by decide +kernel
theorem dX6_never_4 : decode cX6_never 4 = .ok (.aload_n 0, 1) := by decide +kernel
theorem dX6_never_5 : decode cX6_never 5 = .ok (.getfield 24, 3) := by decide +kernel
theorem dX6_never_8 : decode cX6_never 8 = .ok (.invokevirtual 224, 3) := by decide +kernel
theorem dX6_never_11 : decode cX6_never 11 = .ok (.iconst 0, 1) := by decide +kernel
theorem dX6_never_12 : decode cX6_never 12 = .ok (.istore_n 1, 1) := by decide +kernel
theorem dX6_never_13 : decode cX6_never 13 = .ok (.iconst 0, 1) := by decide +kernel
theorem dX6_never_14 : decode cX6_never 14 = .ok (.istore_n 2, 1) := by decide +kernel
theorem dX6_never_15 : decode cX6_never 15 = .ok (.iload_n 2, 1) := by decide +kernel
theorem dX6_never_16 : decode cX6_never 16 = .ok (.aload_n 0, 1) := by decide +kernel
theorem dX6_never_17 : decode cX6_never 17 = .ok (.getfield 24, 3) := by decide +kernel
theorem dX6_never_20 : decode cX6_never 20 = .ok (.getfield 142, 3) := by decide +kernel
theorem dX6_never_23 : decode cX6_never 23 = .ok (.if_icmp .ge 32, 3) := by decide +kernel
theorem dX6_never_26 : decode cX6_never 26 = .ok (.aload_n 0, 1) := by decide +kernel
theorem dX6_never_27 : decode cX6_never 27 = .ok (.getfield 28, 3) := by decide +kernel
theorem dX6_never_30 : decode cX6_never 30 = .ok (.iconst 1, 1) := by decide +kernel
theorem dX6_never_31 : decode cX6_never 31 = .ok (.iload_n 2, 1) := by decide +kernel
theorem dX6_never_32 : decode cX6_never 32 = .ok (.ishl, 1) := by decide +kernel
theorem dX6_never_33 : decode cX6_never 33 = .ok (.putfield 228, 3) := by decide +kernel
theorem dX6_never_36 : decode cX6_never 36 = .ok (.aload_n 0, 1) := by decide +kernel
theorem dX6_never_37 : decode cX6_never 37 = .ok (.invokevirtual 231, 3) := by decide +kernel
theorem dX6_never_40 : decode cX6_never 40 = .ok (.ifCond .eq 9, 3) := by decide +kernel
theorem dX6_never_43 : decode cX6_never 43 = .ok (.iload_n 1, 1) := by decide +kernel
theorem dX6_never_44 : decode cX6_never 44 = .ok (.iconst 1, 1) := by decide +kernel
theorem dX6_never_45 : decode cX6_never 45 = .ok (.iload_n 2, 1) := by decide +kernel
theorem dX6_never_46 : decode cX6_never 46 = .ok (.ishl, 1) := by decide +kernel
theorem dX6_never_47 : decode cX6_never 47 = .ok (.ior, 1) := by decide +kernel
theorem dX6_never_48 : decode cX6_never 48 = .ok (.istore_n 1, 1) := by decide +kernel
theorem dX6_never_49 : decode cX6_never 49 = .ok (.iinc 2 1, 3) := by decide +kernel
theorem dX6_never_52 : decode cX6_never 52 = .ok (.goto (-37), 3) := by decide +kernel
theorem dX6_never_55 : decode cX6_never 55 = .ok (.iload_n 1, 1) := by decide +kernel
theorem dX6_never_56 : decode cX6_never 56 = .ok (.ireturn, 1) := by decide +kernel
theorem dX6_was_0 : decode cX6_was 0 = .ok (.aload_n 0, 1) := by decide +kernel
theorem dX6_was_1 : decode cX6_was 1 = .ok (.iload_n 1, 1) := by decide +kernel
theorem dX6_was_2 : decode cX6_was 2 = .ok (.invokevirtual 111, 3) := by decide +kernel
theorem dX6_was_5 : decode cX6_was 5 = .ok (.ifCond .eq 12, 3) := by decide +kernel
theorem dX6_was_8 : decode cX6_was 8 = .ok (.iload_n 2, 1) := by decide +kernel
theorem dX6_was_9 : decode cX6_was 9 = .ok (.iconst 0, 1) := by decide +kernel
theorem dX6_was_10 : decode cX6_was 10 = .ok (.iconst 1, 1) := by decide +kernel
theorem dX6_was_11 : decode cX6_was 11 = .ok (.invokestatic 89, 3) := by decide +kernel
theorem dX6_was_14 : decode cX6_was 14 = .ok (.ifCond .ne 6, 3) := by decide +kernel
theorem dX6_was_17 : decode cX6_was 17 = .ok (.bipush (-2), 2) := by decide +kernel
theorem dX6_was_19 : decode cX6_was 19 = .ok (.ireturn, 1) := by decide +kernel
theorem dX6_was_20 : decode cX6_was 20 = .ok (.aload_n 0, 1) := by decide +kernel
theorem dX6_was_21 : decode cX6_was 21 = .ok (.getfield 28, 3) := by decide +kernel
theorem dX6_was_24 : decode cX6_was 24 = .ok (.aload_n 0, 1) := by decide +kernel
theorem dX6_was_25 : decode cX6_was 25 = .ok (.getfield 24, 3) := by decide +kernel
theorem dX6_was_28 : decode cX6_was 28 = .ok (.invokevirtual 224, 3) := by decide +kernel
theorem dX6_was_31 : decode cX6_was 31 = .ok (.iload_n 2, 1) := by decide +kernel
theorem dX6_was_32 : decode cX6_was 32 = .ok (.ifCond .ne 13, 3) := by decide +kernel
theorem dX6_was_35 : decode cX6_was 35 = .ok (.aload_n 0, 1) := by decide +kernel
theorem dX6_was_36 : decode cX6_was 36 = .ok (.getfield 28, 3) := by decide +kernel
theorem dX6_was_39 : decode cX6_was 39 = .ok (.getfield 117, 3) := by decide +kernel
theorem dX6_was_42 : decode cX6_was 42 = .ok (.goto 10, 3) := by decide +kernel
theorem dX6_was_45 : decode cX6_was 45 = .ok (.aload_n 0, 1) := by decide +kernel
theorem dX6_was_46 : decode cX6_was 46 = .ok (.getfield 28, 3) := by decide +kernel
theorem dX6_was_49 : decode cX6_was 49 = .ok (.getfield 114, 3) := by decide +kernel
theorem dX6_was_52 : decode cX6_was 52 = .ok (.astore_n 3, 1) := by decide +kernel
theorem dX6_was_53 : decode cX6_was 53 = .ok (.iload_n 2, 1) := by decide +kernel
theorem dX6_was_54 : decode cX6_was 54 = .ok (.ifCond .ne 7, 3) := by decide +kernel
theorem dX6_was_57 : decode cX6_was 57 = .ok (.iconst 4, 1) := by decide +kernel
theorem dX6_was_58 : decode cX6_was 58 = .ok (.goto 4, 3) := by decide +kernel
theorem dX6_was_61 : decode cX6_was 61 = .ok (.iconst 3, 1) := by decide +kernel
theorem dX6_was_62 : decode cX6_was 62 = .ok (.istore 4, 2) := by decide +kernel
theorem dX6_was_64 : decode cX6_was 64 = .ok (.iconst 0, 1) := by decide +kernel
theorem dX6_was_65 : decode cX6_was 65 = .ok (.istore 5, 2) := by decide +kernel
theorem dX6_was_67 : decode cX6_was 67 = .ok (.iconst 0, 1) := by decide +kernel
theorem dX6_was_68 : decode cX6_was 68 = .ok (.istore 6, 2) := by decide +kernel
theorem dX6_was_70 : decode cX6_was 70 = .ok (.iload 6, 2) := by decide +kernel
theorem dX6_was_72 : decode cX6_was 72 = .ok (.iload 4, 2) := by decide +kernel
theorem dX6_was_74 : decode cX6_was 74 = .ok (.if_icmp .ge 30, 3) := by decide +kernel
theorem dX6_was_77 : decode cX6_was 77 = .ok (.aload_n 3, 1) := by decide +kernel
theorem dX6_was_78 : decode cX6_was 78 = .ok (.iload_n 1, 1) := by decide +kernel
theorem dX6_was_79 : decode cX6_was 79 = .ok (.iload 6, 2) := by decide +kernel
theorem dX6_was_81 : decode cX6_was 81 = .ok (.iastore, 1) := by decide +kernel
theorem dX6_was_82 : decode cX6_was 82 = .ok (.aload_n 0, 1) := by decide +kernel
theorem dX6_was_83 : decode cX6_was 83 = .ok (.invokevirtual 231, 3) := by decide +kernel
theorem dX6_was_86 : decode cX6_was 86 = .ok (.ifCond .eq 12, 3) := by decide +kernel
theorem dX6_was_89 : decode cX6_was 89 = .ok (.iload 5, 2) := by decide +kernel
theorem dX6_was_91 : decode cX6_was 91 = .ok (.iconst 1, 1) := by decide +kernel
theorem dX6_was_92 : decode cX6_was 92 = .ok (.iload 6, 2) := by decide +kernel
theorem dX6_was_94 : decode cX6_was 94 = .ok (.ishl, 1) := by decide +kernel
theorem dX6_was_95 : decode cX6_was 95 = .ok (.ior, 1) := by decide +kernel
theorem dX6_was_96 : decode cX6_was 96 = .ok (.istore 5, 2) := by decide +kernel
theorem dX6_was_98 : decode cX6_was 98 = .ok (.iinc 6 1, 3) := by decide +kernel
theorem dX6_was_101 : decode cX6_was 101 = .ok (.goto (-31), 3) := by decide +kernel
theorem dX6_was_104 : decode cX6_was 104 = .ok (.iload 5, 2) := by decide +kernel
theorem dX6_was_106 : decode cX6_was 106 = .ok (.ireturn, 1) := by decide +kernel
theorem dX6_ask_0 : decode cX6_ask 0 = .ok (.aload_n 0, 1) := by decide +kernel
theorem dX6_ask_1 : decode cX6_ask 1 = .ok (.iload_n 1, 1) := by decide +kernel
theorem dX6_ask_2 : decode cX6_ask 2 = .ok (.invokevirtual 111, 3) := by decide +kernel
theorem dX6_ask_5 : decode cX6_ask 5 = .ok (.ifCond .ne 6, 3) := by decide +kernel
theorem dX6_ask_8 : decode cX6_ask 8 = .ok (.bipush (-2), 2) := by decide +kernel
theorem dX6_ask_10 : decode cX6_ask 10 = .ok (.ireturn, 1) := by decide +kernel
theorem dX6_ask_11 : decode cX6_ask 11 = .ok (.aload_n 0, 1) := by decide +kernel
theorem dX6_ask_12 : decode cX6_ask 12 = .ok (.iload_n 1, 1) := by decide +kernel
theorem dX6_ask_13 : decode cX6_ask 13 = .ok (.invokevirtual 235, 3) := by decide +kernel
theorem dX6_ask_16 : decode cX6_ask 16 = .ok (.iconst (-1), 1) := by decide +kernel
theorem dX6_ask_17 : decode cX6_ask 17 = .ok (.istore_n 2, 1) := by decide +kernel
theorem dX6_ask_18 : decode cX6_ask 18 = .ok (.iconst 5, 1) := by decide +kernel
theorem dX6_ask_19 : decode cX6_ask 19 = .ok (.istore_n 3, 1) := by decide +kernel
theorem dX6_ask_20 : decode cX6_ask 20 = .ok (.iconst 0, 1) := by decide +kernel
theorem dX6_ask_21 : decode cX6_ask 21 = .ok (.istore 4, 2) := by decide +kernel
theorem dX6_ask_23 : decode cX6_ask 23 = .ok (.iload 4, 2) := by decide +kernel
theorem dX6_ask_25 : decode cX6_ask 25 = .ok (.aload_n 0, 1) := by decide +kernel
theorem dX6_ask_26 : decode cX6_ask 26 = .ok (.getfield 24, 3) := by decide +kernel
theorem dX6_ask_29 : decode cX6_ask 29 = .ok (.getfield 120, 3) := by decide +kernel
theorem dX6_ask_32 : decode cX6_ask 32 = .ok (.if_icmp .ge 29, 3) := by decide +kernel
theorem dX6_ask_35 : decode cX6_ask 35 = .ok (.aload_n 0, 1) := by decide +kernel
theorem dX6_ask_36 : decode cX6_ask 36 = .ok (.iload 4, 2) := by decide +kernel
theorem dX6_ask_38 : decode cX6_ask 38 = .ok (.invokevirtual 239, 3) := by decide +kernel
theorem dX6_ask_41 : decode cX6_ask 41 = .ok (.istore 5, 2) := by decide +kernel
theorem dX6_ask_43 : decode cX6_ask 43 = .ok (.iload 5, 2) := by decide +kernel
theorem dX6_ask_45 : decode cX6_ask 45 = .ok (.iload_n 3, 1) := by decide +kernel
theorem dX6_ask_46 : decode cX6_ask 46 = .ok (.if_icmp .ge 9, 3) := by decide +kernel
theorem dX6_ask_49 : decode cX6_ask 49 = .ok (.iload 5, 2) := by decide +kernel
theorem dX6_ask_51 : decode cX6_ask 51 = .ok (.istore_n 3, 1) := by decide +kernel
theorem dX6_ask_52 : decode cX6_ask 52 = .ok (.iload 4, 2) := by decide +kernel
theorem dX6_ask_54 : decode cX6_ask 54 = .ok (.istore_n 2, 1) := by decide +kernel
theorem dX6_ask_55 : decode cX6_ask 55 = .ok (.iinc 4 1, 3) := by decide +kernel
theorem dX6_ask_58 : decode cX6_ask 58 = .ok (.goto (-35), 3) := by decide +kernel
theorem dX6_ask_61 : decode cX6_ask 61 = .ok (.iload_n 2, 1) := by decide +kernel
theorem dX6_ask_62 : decode cX6_ask 62 = .ok (.ireturn, 1) := by decide +kernel
theorem dX6_chance_0 : decode cX6_chance 0 = .ok (.iload_n 1, 1) := by decide +kernel
theorem dX6_chance_1 : decode cX6_chance 1 = .ok (.iconst 0, 1) := by decide +kernel
theorem dX6_chance_2 : decode cX6_chance 2 = .ok (.bipush 16, 2) := by decide +kernel
theorem dX6_chance_4 : decode cX6_chance 4 = .ok (.invokestatic 89, 3) := by decide +kernel
theorem dX6_chance_7 : decode cX6_chance 7 = .ok (.ifCond .eq 20, 3) := by decide +kernel
theorem dX6_chance_10 : decode cX6_chance 10 = .ok (.aload_n 0, 1) := by decide +kernel
theorem dX6_chance_11 : decode cX6_chance 11 = .ok (.iload_n 2, 1) := by decide +kernel
theorem dX6_chance_12 : decode cX6_chance 12 = .ok (.invokevirtual 169, 3) := by decide +kernel
theorem dX6_chance_15 : decode cX6_chance 15 = .ok (.ifCond .eq 12, 3) := by decide +kernel
theorem dX6_chance_18 : decode cX6_chance 18 = .ok (.iload_n 3, 1) := by decide +kernel
theorem dX6_chance_19 : decode cX6_chance 19 = .ok (.iconst 0, 1) := by decide +kernel
theorem dX6_chance_20 : decode cX6_chance 20 = .ok (.iconst 1, 1) := by decide +kernel
theorem dX6_chance_21 : decode cX6_chance 21 = .ok (.invokestatic 89, 3) := by decide +kernel
theorem dX6_chance_24 : decode cX6_chance 24 = .ok (.ifCond .ne 7, 3) := by decide +kernel
theorem dX6_chance_27 : decode cX6_chance 27 = .ok (.ldc2_w 242, 3) := by decide +kernel
theorem dX6_chance_30 : decode cX6_chance 30 = .ok (.lreturn, 1) := by decide +kernel
theorem dX6_chance_31 : decode cX6_chance 31 = .ok (.aload_n 0, 1) := by decide +kernel
theorem dX6_chance_32 : decode cX6_chance 32 = .ok (.getfield 81, 3) := by decide +kernel
theorem dX6_chance_35 : decode cX6_chance 35 = .ok (.ifCond .ne 7, 3) := by decide +kernel
theorem dX6_chance_38 : decode cX6_chance 38 = .ok (.aload_n 0, 1) := by decide +kernel
theorem dX6_chance_39 : decode cX6_chance 39 = .ok (.invokevirtual 244, 3) := by decide +kernel
theorem dX6_chance_42 : decode cX6_chance 42 = .ok (.lconst 0, 1) := by decide +kernel
theorem dX6_chance_43 : decode cX6_chance 43 = .ok (.lstore 4, 2) := by decide +kernel
theorem dX6_chance_45 : decode cX6_chance 45 = .ok (.iconst 1, 1) := by decide +kernel
theorem dX6_chance_46 : decode cX6_chance 46 = .ok (.aload_n 0, 1) := by decide +kernel
theorem dX6_chance_47 : decode cX6_chance 47 = .ok (.getfield 24, 3) := by decide +kernel
theorem dX6_chance_50 : decode cX6_chance 50 = .ok (.getfield 142, 3) := by decide +kernel
theorem dX6_chance_53 : decode cX6_chance 53 = .ok (.ishl, 1) := by decide +kernel
theorem dX6_chance_54 : decode cX6_chance 54 = .ok (.istore 6, 2) := by decide +kernel
theorem dX6_chance_56 : decode cX6_chance 56 = .ok (.iconst 0, 1) := by decide +kernel
theorem dX6_chance_57 : decode cX6_chance 57 = .ok (.istore 7, 2) := by decide +kernel
theorem dX6_chance_59 : decode cX6_chance 59 = .ok (.iload 7, 2) := by decide +kernel
theorem dX6_chance_61 : decode cX6_chance 61 = .ok (.iload 6, 2) := by decide +kernel
theorem dX6_chance_63 : decode cX6_chance 63 = .ok (.if_icmp .ge 38, 3) := by decide +kernel
theorem dX6_chance_66 : decode cX6_chance 66 = .ok (.aload_n 0, 1) := by decide +kernel
theorem dX6_chance_67 : decode cX6_chance 67 = .ok (.getfield 64, 3) := by decide +kernel
theorem dX6_chance_70 : decode cX6_chance 70 = .ok (.iload 7, 2) := by decide +kernel
theorem dX6_chance_72 : decode cX6_chance 72 = .ok (.iaload, 1) := by decide +kernel
theorem dX6_chance_73 : decode cX6_chance 73 = .ok (.iload_n 2, 1) := by decide +kernel
theorem dX6_chance_74 : decode cX6_chance 74 = .ok (.ishr, 1) := by decide +kernel
theorem dX6_chance_75 : decode cX6_chance 75 = .ok (.iconst 1, 1) := by decide +kernel
theorem dX6_chance_76 : decode cX6_chance 76 = .ok (.iand, 1) := by decide +kernel
theorem dX6_chance_77 : decode cX6_chance 77 = .ok (.ifCond .eq 18, 3) := by decide +kernel
theorem dX6_chance_80 : decode cX6_chance 80 = .ok (.lload 4, 2) := by decide +kernel
theorem dX6_chance_82 : decode cX6_chance 82 = .ok (.aload_n 0, 1) := by decide +kernel
theorem dX6_chance_83 : decode cX6_chance 83 = .ok (.iload_n 1, 1) := by decide +kernel
theorem dX6_chance_84 : decode cX6_chance 84 = .ok (.iload 7, 2) := by decide +kernel
theorem dX6_chance_86 : decode cX6_chance 86 = .ok (.invokestatic 247, 3) := by decide +kernel
theorem dX6_chance_89 : decode cX6_chance 89 = .ok (.invokevirtual 252, 3) := by decide +kernel
theorem dX6_chance_92 : decode cX6_chance 92 = .ok (.ladd, 1) := by decide +kernel
theorem dX6_chance_93 : decode cX6_chance 93 = .ok (.lstore 4, 2) := by decide +kernel
theorem dX6_chance_95 : decode cX6_chance 95 = .ok (.iinc 7 1, 3) := by decide +kernel
theorem dX6_chance_98 : decode cX6_chance 98 = .ok (.goto (-39), 3) := by decide +kernel
theorem dX6_chance_101 : decode cX6_chance 101 = .ok (.iconst 4, 1) := by decide +kernel
theorem dX6_chance_102 : decode cX6_chance 102 = .ok (.aload_n 0, 1) := by decide +kernel
theorem dX6_chance_103 : decode cX6_chance 103 = .ok (.getfield 24, 3) := by decide +kernel
theorem dX6_chance_106 : decode cX6_chance 106 = .ok (.getfield 142, 3) := by decide +kernel
theorem dX6_chance_109 : decode cX6_chance 109 = .ok (.imul, 1) := by decide +kernel
theorem dX6_chance_110 : decode cX6_chance 110 = .ok (.istore 7, 2) := by decide +kernel
theorem dX6_chance_112 : decode cX6_chance 112 = .ok (.lconst 1, 1) := by decide +kernel
theorem dX6_chance_113 : decode cX6_chance 113 = .ok (.iload 7, 2) := by decide +kernel
theorem dX6_chance_115 : decode cX6_chance 115 = .ok (.lshl, 1) := by decide +kernel
theorem dX6_chance_116 : decode cX6_chance 116 = .ok (.lstore 8, 2) := by decide +kernel
theorem dX6_chance_118 : decode cX6_chance 118 = .ok (.iconst 0, 1) := by decide +kernel
theorem dX6_chance_119 : decode cX6_chance 119 = .ok (.istore 10, 2) := by decide +kernel
theorem dX6_chance_121 : decode cX6_chance 121 = .ok (.iload 10, 2) := by decide +kernel
theorem dX6_chance_123 : decode cX6_chance 123 = .ok (.iload 7, 2) := by decide +kernel
theorem dX6_chance_125 : decode cX6_chance 125 = .ok (.if_icmp .ge 36, 3) := by decide +kernel
theorem dX6_chance_128 : decode cX6_chance 128 = .ok (.lload 4, 2) := by decide +kernel
theorem dX6_chance_130 : decode cX6_chance 130 = .ok (.ldc2_w 256, 3) := by decide +kernel
theorem dX6_chance_133 : decode cX6_chance 133 = .ok (.lrem, 1) := by decide +kernel
theorem dX6_chance_134 : decode cX6_chance 134 = .ok (.lconst 0, 1) := by decide +kernel
theorem dX6_chance_135 : decode cX6_chance 135 = .ok (.lcmp, 1) := by decide +kernel
theorem dX6_chance_136 : decode cX6_chance 136 = .ok (.ifCond .ne 25, 3) := by decide +kernel
theorem dX6_chance_139 : decode cX6_chance 139 = .ok (.lload 4, 2) := by decide +kernel
theorem dX6_chance_141 : decode cX6_chance 141 = .ok (.ldc2_w 256, 3) := by decide +kernel
theorem dX6_chance_144 : decode cX6_chance 144 = .ok (.ldiv, 1) := by decide +kernel
theorem dX6_chance_145 : decode cX6_chance 145 = .ok (.lstore 4, 2) := by decide +kernel
theorem dX6_chance_147 : decode cX6_chance 147 = .ok (.lload 8, 2) := by decide +kernel
theorem dX6_chance_149 : decode cX6_chance 149 = .ok (.ldc2_w 256, 3) := by decide +kernel
theorem dX6_chance_152 : decode cX6_chance 152 = .ok (.ldiv, 1) := by decide +kernel
theorem dX6_chance_153 : decode cX6_chance 153 = .ok (.lstore 8, 2) := by decide +kernel
theorem dX6_chance_155 : decode cX6_chance 155 = .ok (.iinc 10 1, 3) := by decide +kernel
theorem dX6_chance_158 : decode cX6_chance 158 = .ok (.goto (-37), 3) := by decide +kernel
theorem dX6_chance_161 : decode cX6_chance 161 = .ok (.iload_n 3, 1) := by decide +kernel
theorem dX6_chance_162 : decode cX6_chance 162 = .ok (.ifCond .ne 8, 3) := by decide +kernel
theorem dX6_chance_165 : decode cX6_chance 165 = .ok (.lload 4, 2) := by decide +kernel
theorem dX6_chance_167 : decode cX6_chance 167 = .ok (.goto 5, 3) := by decide +kernel
theorem dX6_chance_170 : decode cX6_chance 170 = .ok (.lload 8, 2) := by decide +kernel
theorem dX6_chance_172 : decode cX6_chance 172 = .ok (.lreturn, 1) := by decide +kernel
theorem dX6_years_0 : decode cX6_years 0 = .ok (.iload_n 2, 1) := by decide +kernel
theorem dX6_years_1 : decode cX6_years 1 = .ok (.iconst 0, 1) := by decide +kernel
theorem dX6_years_2 : decode cX6_years 2 = .ok (.bipush 16, 2) := by decide +kernel
theorem dX6_years_4 : decode cX6_years 4 = .ok (.invokestatic 89, 3) := by decide +kernel
theorem dX6_years_7 : decode cX6_years 7 = .ok (.ifCond .eq 12, 3) := by decide +kernel
theorem dX6_years_10 : decode cX6_years 10 = .ok (.iload_n 3, 1) := by decide +kernel
theorem dX6_years_11 : decode cX6_years 11 = .ok (.iconst 0, 1) := by decide +kernel
theorem dX6_years_12 : decode cX6_years 12 = .ok (.iconst 1, 1) := by decide +kernel
theorem dX6_years_13 : decode cX6_years 13 = .ok (.invokestatic 89, 3) := by decide +kernel
theorem dX6_years_16 : decode cX6_years 16 = .ok (.ifCond .ne 6, 3) := by decide +kernel
theorem dX6_years_19 : decode cX6_years 19 = .ok (.bipush (-2), 2) := by decide +kernel
theorem dX6_years_21 : decode cX6_years 21 = .ok (.ireturn, 1) := by decide +kernel
theorem dX6_years_22 : decode cX6_years 22 = .ok (.aload_n 0, 1) := by decide +kernel
theorem dX6_years_23 : decode cX6_years 23 = .ok (.getfield 28, 3) := by decide +kernel
theorem dX6_years_26 : decode cX6_years 26 = .ok (.aload_n 0, 1) := by decide +kernel
theorem dX6_years_27 : decode cX6_years 27 = .ok (.getfield 24, 3) := by decide +kernel
theorem dX6_years_30 : decode cX6_years 30 = .ok (.invokevirtual 224, 3) := by decide +kernel
theorem dX6_years_33 : decode cX6_years 33 = .ok (.aload_n 0, 1) := by decide +kernel
theorem dX6_years_34 : decode cX6_years 34 = .ok (.getfield 28, 3) := by decide +kernel
theorem dX6_years_37 : decode cX6_years 37 = .ok (.invokevirtual 258, 3) := by decide +kernel
theorem dX6_years_40 : decode cX6_years 40 = .ok (.aload_n 0, 1) := by decide +kernel
theorem dX6_years_41 : decode cX6_years 41 = .ok (.iload_n 1, 1) := by decide +kernel
theorem dX6_years_42 : decode cX6_years 42 = .ok (.iload_n 2, 1) := by decide +kernel
theorem dX6_years_43 : decode cX6_years 43 = .ok (.invokevirtual 261, 3) := by decide +kernel
theorem dX6_years_46 : decode cX6_years 46 = .ok (.aload_n 0, 1) := by decide +kernel
theorem dX6_years_47 : decode cX6_years 47 = .ok (.getfield 38, 3) := by decide +kernel
theorem dX6_years_50 : decode cX6_years 50 = .ok (.aload_n 0, 1) := by decide +kernel
theorem dX6_years_51 : decode cX6_years 51 = .ok (.getfield 28, 3) := by decide +kernel
theorem dX6_years_54 : decode cX6_years 54 = .ok (.invokevirtual 265, 3) := by decide +kernel
theorem dX6_years_57 : decode cX6_years 57 = .ok (.iload_n 3, 1) := by decide +kernel
theorem dX6_years_58 : decode cX6_years 58 = .ok (.ifCond .ne 13, 3) := by decide +kernel
theorem dX6_years_61 : decode cX6_years 61 = .ok (.aload_n 0, 1) := by decide +kernel
theorem dX6_years_62 : decode cX6_years 62 = .ok (.getfield 38, 3) := by decide +kernel
theorem dX6_years_65 : decode cX6_years 65 = .ok (.getfield 184, 3) := by decide +kernel
theorem dX6_years_68 : decode cX6_years 68 = .ok (.goto 13, 3) := by decide +kernel
theorem dX6_years_71 : decode cX6_years 71 = .ok (.aload_n 0, 1) := by decide +kernel
theorem dX6_years_72 : decode cX6_years 72 = .ok (.getfield 38, 3) := by decide +kernel
theorem dX6_years_75 : decode cX6_years 75 = .ok (.getfield 163, 3) := by decide +kernel
theorem dX6_years_78 : decode cX6_years 78 = .ok (.bipush 23, 2) := by decide +kernel
theorem dX6_years_80 : decode cX6_years 80 = .ok (.iaload, 1) := by decide +kernel
theorem dX6_years_81 : decode cX6_years 81 = .ok (.ireturn, 1) := by decide +kernel
theorem dX6_sheet_0 : decode cX6_sheet 0 = .ok (.iload_n 1, 1) := by decide +kernel
theorem dX6_sheet_1 : decode cX6_sheet 1 = .ok (.iconst 0, 1) := by decide +kernel
theorem dX6_sheet_2 : decode cX6_sheet 2 = .ok (.iconst 3, 1) := by decide +kernel
theorem dX6_sheet_3 : decode cX6_sheet 3 = .ok (.invokestatic 89, 3) := by decide +kernel
theorem dX6_sheet_6 : decode cX6_sheet 6 = .ok (.ifCond .eq 18, 3) := by decide +kernel
theorem dX6_sheet_9 : decode cX6_sheet 9 = .ok (.iload_n 2, 1) := by decide +kernel
theorem dX6_sheet_10 : decode cX6_sheet 10 = .ok (.iconst 0, 1) := by decide +kernel
theorem dX6_sheet_11 : decode cX6_sheet 11 = .ok (.iconst 2, 1) := by decide +kernel
theorem dX6_sheet_12 : decode cX6_sheet 12 = .ok (.invokestatic 89, 3) := by decide +kernel
theorem dX6_sheet_15 : decode cX6_sheet 15 = .ok (.ifCond .eq 9, 3) := by decide +kernel
theorem dX6_sheet_18 : decode cX6_sheet 18 = .ok (.iload_n 3, 1) := by decide +kernel
theorem dX6_sheet_19 : decode cX6_sheet 19 = .ok (.bipush 60, 2) := by decide +kernel
theorem dX6_sheet_21 : decode cX6_sheet 21 = .ok (.if_icmp .le 6, 3) := by decide +kernel
theorem dX6_sheet_24 : decode cX6_sheet 24 = .ok (.bipush (-2), 2) := by decide +kernel
theorem dX6_sheet_26 : decode cX6_sheet 26 = .ok (.ireturn, 1) := by decide +kernel
theorem dX6_sheet_27 : decode cX6_sheet 27 = .ok (.iload_n 3, 1) := by decide +kernel
theorem dX6_sheet_28 : decode cX6_sheet 28 = .ok (.ifCond .ge 9, 3) := by decide +kernel
theorem dX6_sheet_31 : decode cX6_sheet 31 = .ok (.aload_n 0, 1) := by decide +kernel
theorem dX6_sheet_32 : decode cX6_sheet 32 = .ok (.iconst 5, 1) := by decide +kernel
theorem dX6_sheet_33 : decode cX6_sheet 33 = .ok (.invokevirtual 148, 3) := by decide +kernel
theorem dX6_sheet_36 : decode cX6_sheet 36 = .ok (.ireturn, 1) := by decide +kernel
theorem dX6_sheet_37 : decode cX6_sheet 37 = .ok (.aload_n 0, 1) := by decide +kernel
theorem dX6_sheet_38 : decode cX6_sheet 38 = .ok (.getfield 73, 3) := by decide +kernel
theorem dX6_sheet_41 : decode cX6_sheet 41 = .ok (.iload_n 1, 1) := by decide +kernel
theorem dX6_sheet_42 : decode cX6_sheet 42 = .ok (.aaload, 1) := by decide +kernel
theorem dX6_sheet_43 : decode cX6_sheet 43 = .ok (.iload_n 2, 1) := by decide +kernel
theorem dX6_sheet_44 : decode cX6_sheet 44 = .ok (.iload_n 3, 1) := by decide +kernel
theorem dX6_sheet_45 : decode cX6_sheet 45 = .ok (.invokevirtual 268, 3) := by decide +kernel
theorem dX6_sheet_48 : decode cX6_sheet 48 = .ok (.iload_n 3, 1) := by decide +kernel
theorem dX6_sheet_49 : decode cX6_sheet 49 = .ok (.ireturn, 1) := by decide +kernel
theorem dX6_lose_0 : decode cX6_lose 0 = .ok (.iload_n 1, 1) := by decide +kernel
theorem dX6_lose_1 : decode cX6_lose 1 = .ok (.iconst 0, 1) := by decide +kernel
theorem dX6_lose_2 : decode cX6_lose 2 = .ok (.iconst 3, 1) := by decide +kernel
theorem dX6_lose_3 : decode cX6_lose 3 = .ok (.invokestatic 89, 3) := by decide +kernel
theorem dX6_lose_6 : decode cX6_lose 6 = .ok (.ifCond .ne 6, 3) := by decide +kernel
theorem dX6_lose_9 : decode cX6_lose 9 = .ok (.bipush (-2), 2) := by decide +kernel
theorem dX6_lose_11 : decode cX6_lose 11 = .ok (.ireturn, 1) := by decide +kernel
theorem dX6_lose_12 : decode cX6_lose 12 = .ok (.aload_n 0, 1) := by decide +kernel
theorem dX6_lose_13 : decode cX6_lose 13 = .ok (.getfield 73, 3) := by decide +kernel
theorem dX6_lose_16 : decode cX6_lose 16 = .ok (.iload_n 1, 1) := by decide +kernel
theorem dX6_lose_17 : decode cX6_lose 17 = .ok (.aaload, 1) := by decide +kernel
theorem dX6_lose_18 : decode cX6_lose 18 = .ok (.astore_n 2, 1) := by decide +kernel
theorem dX6_lose_19 : decode cX6_lose 19 = .ok (.aload_n 2, 1) := by decide +kernel
theorem dX6_lose_20 : decode cX6_lose 20 = .ok (.getfield 145, 3) := by decide +kernel
theorem dX6_lose_23 : decode cX6_lose 23 = .ok (.ifCond .eq 9, 3) := by decide +kernel
theorem dX6_lose_26 : decode cX6_lose 26 = .ok (.aload_n 0, 1) := by decide +kernel
theorem dX6_lose_27 : decode cX6_lose 27 = .ok (.iconst 1, 1) := by decide +kernel
theorem dX6_lose_28 : decode cX6_lose 28 = .ok (.invokevirtual 148, 3) := by decide +kernel
theorem dX6_lose_31 : decode cX6_lose 31 = .ok (.ireturn, 1) := by decide +kernel
theorem dX6_lose_32 : decode cX6_lose 32 = .ok (.aload_n 2, 1) := by decide +kernel
theorem dX6_lose_33 : decode cX6_lose 33 = .ok (.iconst 1, 1) := by decide +kernel
theorem dX6_lose_34 : decode cX6_lose 34 = .ok (.putfield 145, 3) := by decide +kernel
theorem dX6_lose_37 : decode cX6_lose 37 = .ok (.aload_n 2, 1) := by decide +kernel
theorem dX6_lose_38 : decode cX6_lose 38 = .ok (.getfield 152, 3) := by decide +kernel
theorem dX6_lose_41 : decode cX6_lose 41 = .ok (.ireturn, 1) := by decide +kernel
theorem dX6_lay_0 : decode cX6_lay 0 = .ok (.iload_n 1, 1) := by decide +kernel
theorem dX6_lay_1 : decode cX6_lay 1 = .ok (.iconst 0, 1) := by decide +kernel
theorem dX6_lay_2 : decode cX6_lay 2 = .ok (.iconst 3, 1) := by decide +kernel
theorem dX6_lay_3 : decode cX6_lay 3 = .ok (.invokestatic 89, 3) := by decide +kernel
theorem dX6_lay_6 : decode cX6_lay 6 = .ok (.ifCond .eq 12, 3) := by decide +kernel
theorem dX6_lay_9 : decode cX6_lay 9 = .ok (.iload_n 2, 1) := by decide +kernel
theorem dX6_lay_10 : decode cX6_lay 10 = .ok (.iconst 0, 1) := by decide +kernel
theorem dX6_lay_11 : decode cX6_lay 11 = .ok (.iconst 2, 1) := by decide +kernel
theorem dX6_lay_12 : decode cX6_lay 12 = .ok (.invokestatic 89, 3) := by decide +kernel
theorem dX6_lay_15 : decode cX6_lay 15 = .ok (.ifCond .ne 6, 3) := by decide +kernel
theorem dX6_lay_18 : decode cX6_lay 18 = .ok (.bipush (-2), 2) := by decide +kernel
theorem dX6_lay_20 : decode cX6_lay 20 = .ok (.ireturn, 1) := by decide +kernel
theorem dX6_lay_21 : decode cX6_lay 21 = .ok (.aload_n 0, 1) := by decide +kernel
theorem dX6_lay_22 : decode cX6_lay 22 = .ok (.getfield 73, 3) := by decide +kernel
theorem dX6_lay_25 : decode cX6_lay 25 = .ok (.iload_n 1, 1) := by decide +kernel
theorem dX6_lay_26 : decode cX6_lay 26 = .ok (.aaload, 1) := by decide +kernel
theorem dX6_lay_27 : decode cX6_lay 27 = .ok (.iload_n 2, 1) := by decide +kernel
theorem dX6_lay_28 : decode cX6_lay 28 = .ok (.iload_n 3, 1) := by decide +kernel
theorem dX6_lay_29 : decode cX6_lay 29 = .ok (.invokevirtual 271, 3) := by decide +kernel
theorem dX6_lay_32 : decode cX6_lay 32 = .ok (.istore 5, 2) := by decide +kernel
theorem dX6_lay_34 : decode cX6_lay 34 = .ok (.iload 5, 2) := by decide +kernel
theorem dX6_lay_36 : decode cX6_lay 36 = .ok (.ifCond .eq 10, 3) := by decide +kernel
theorem dX6_lay_39 : decode cX6_lay 39 = .ok (.aload_n 0, 1) := by decide +kernel
theorem dX6_lay_40 : decode cX6_lay 40 = .ok (.iload 5, 2) := by decide +kernel
theorem dX6_lay_42 : decode cX6_lay 42 = .ok (.invokevirtual 148, 3) := by decide +kernel
theorem dX6_lay_45 : decode cX6_lay 45 = .ok (.ireturn, 1) := by decide +kernel
theorem dX6_lay_46 : decode cX6_lay 46 = .ok (.aload_n 0, 1) := by decide +kernel
theorem dX6_lay_47 : decode cX6_lay 47 = .ok (.getfield 73, 3) := by decide +kernel
theorem dX6_lay_50 : decode cX6_lay 50 = .ok (.iload_n 1, 1) := by decide +kernel
theorem dX6_lay_51 : decode cX6_lay 51 = .ok (.aaload, 1) := by decide +kernel
theorem dX6_lay_52 : decode cX6_lay 52 = .ok (.iload_n 3, 1) := by decide +kernel
theorem dX6_lay_53 : decode cX6_lay 53 = .ok (.iload 4, 2) := by decide +kernel
theorem dX6_lay_55 : decode cX6_lay 55 = .ok (.invokevirtual 275, 3) := by decide +kernel
theorem dX6_lay_58 : decode cX6_lay 58 = .ok (.iconst 1, 1) := by decide +kernel
theorem dX6_lay_59 : decode cX6_lay 59 = .ok (.ireturn, 1) := by decide +kernel
theorem dX6_get_0 : decode cX6_get 0 = .ok (.iload_n 1, 1) := by decide +kernel
theorem dX6_get_1 : decode cX6_get 1 = .ok (.iconst 0, 1) := by decide +kernel
theorem dX6_get_2 : decode cX6_get 2 = .ok (.iconst 3, 1) := by decide +kernel
theorem dX6_get_3 : decode cX6_get 3 = .ok (.invokestatic 89, 3) := by decide +kernel
theorem dX6_get_6 : decode cX6_get 6 = .ok (.ifCond .eq 12, 3) := by decide +kernel
theorem dX6_get_9 : decode cX6_get 9 = .ok (.iload_n 2, 1) := by decide +kernel
theorem dX6_get_10 : decode cX6_get 10 = .ok (.iconst 0, 1) := by decide +kernel
theorem dX6_get_11 : decode cX6_get 11 = .ok (.iconst 2, 1) := by decide +kernel
theorem dX6_get_12 : decode cX6_get 12 = .ok (.invokestatic 89, 3) := by decide +kernel
theorem dX6_get_15 : decode cX6_get 15 = .ok (.ifCond .ne 7, 3) := by decide +kernel
theorem dX6_get_18 : decode cX6_get 18 = .ok (.ldc_w 278, 3) := by decide +kernel
theorem dX6_get_21 : decode cX6_get 21 = .ok (.ireturn, 1) := by decide +kernel
theorem dX6_get_22 : decode cX6_get 22 = .ok (.aload_n 0, 1) := by decide +kernel
theorem dX6_get_23 : decode cX6_get 23 = .ok (.getfield 73, 3) := by decide +kernel
theorem dX6_get_26 : decode cX6_get 26 = .ok (.iload_n 1, 1) := by decide +kernel
theorem dX6_get_27 : decode cX6_get 27 = .ok (.aaload, 1) := by decide +kernel
theorem dX6_get_28 : decode cX6_get 28 = .ok (.iload_n 2, 1) := by decide +kernel
theorem dX6_get_29 : decode cX6_get 29 = .ok (.iload_n 3, 1) := by decide +kernel
theorem dX6_get_30 : decode cX6_get 30 = .ok (.invokevirtual 271, 3) := by decide +kernel
theorem dX6_get_33 : decode cX6_get 33 = .ok (.istore 4, 2) := by decide +kernel
theorem dX6_get_35 : decode cX6_get 35 = .ok (.iload 4, 2) := by decide +kernel
theorem dX6_get_37 : decode cX6_get 37 = .ok (.ifCond .eq 13, 3) := by decide +kernel
theorem dX6_get_40 : decode cX6_get 40 = .ok (.aload_n 0, 1) := by decide +kernel
theorem dX6_get_41 : decode cX6_get 41 = .ok (.iload 4, 2) := by decide +kernel
theorem dX6_get_43 : decode cX6_get 43 = .ok (.putfield 84, 3) := by decide +kernel
theorem dX6_get_46 : decode cX6_get 46 = .ok (.ldc_w 278, 3) := by decide +kernel
theorem dX6_get_49 : decode cX6_get 49 = .ok (.ireturn, 1) := by decide +kernel
theorem dX6_get_50 : decode cX6_get 50 = .ok (.aload_n 0, 1) := by decide +kernel
theorem dX6_get_51 : decode cX6_get 51 = .ok (.getfield 73, 3) := by decide +kernel
theorem dX6_get_54 : decode cX6_get 54 = .ok (.iload_n 1, 1) := by decide +kernel
theorem dX6_get_55 : decode cX6_get 55 = .ok (.aaload, 1) := by decide +kernel
theorem dX6_get_56 : decode cX6_get 56 = .ok (.getfield 153, 3) := by decide +kernel
theorem dX6_get_59 : decode cX6_get 59 = .ok (.iload_n 3, 1) := by decide +kernel
theorem dX6_get_60 : decode cX6_get 60 = .ok (.iaload, 1) := by decide +kernel
theorem dX6_get_61 : decode cX6_get 61 = .ok (.ireturn, 1) := by decide +kernel
theorem dX6_copy_0 : decode cX6_copy 0 = .ok (.iload_n 1, 1) := by decide +kernel
theorem dX6_copy_1 : decode cX6_copy 1 = .ok (.iconst 0, 1) := by decide +kernel
theorem dX6_copy_2 : decode cX6_copy 2 = .ok (.iconst 3, 1) := by decide +kernel
theorem dX6_copy_3 : decode cX6_copy 3 = .ok (.invokestatic 89, 3) := by decide +kernel
theorem dX6_copy_6 : decode cX6_copy 6 = .ok (.ifCond .eq 12, 3) := by decide +kernel
theorem dX6_copy_9 : decode cX6_copy 9 = .ok (.iload_n 3, 1) := by decide +kernel
theorem dX6_copy_10 : decode cX6_copy 10 = .ok (.iconst 0, 1) := by decide +kernel
theorem dX6_copy_11 : decode cX6_copy 11 = .ok (.iconst 3, 1) := by decide +kernel
theorem dX6_copy_12 : decode cX6_copy 12 = .ok (.invokestatic 89, 3) := by decide +kernel
theorem dX6_copy_15 : decode cX6_copy 15 = .ok (.ifCond .ne 6, 3) := by decide +kernel
theorem dX6_copy_18 : decode cX6_copy 18 = .ok (.bipush (-2), 2) := by decide +kernel
theorem dX6_copy_20 : decode cX6_copy 20 = .ok (.ireturn, 1) := by decide +kernel
theorem dX6_copy_21 : decode cX6_copy 21 = .ok (.aload_n 0, 1) := by decide +kernel
theorem dX6_copy_22 : decode cX6_copy 22 = .ok (.getfield 73, 3) := by decide +kernel
theorem dX6_copy_25 : decode cX6_copy 25 = .ok (.iload_n 1, 1) := by decide +kernel
theorem dX6_copy_26 : decode cX6_copy 26 = .ok (.aaload, 1) := by decide +kernel
theorem dX6_copy_27 : decode cX6_copy 27 = .ok (.astore 6, 2) := by decide +kernel
theorem dX6_copy_29 : decode cX6_copy 29 = .ok (.aload_n 0, 1) := by decide +kernel
theorem dX6_copy_30 : decode cX6_copy 30 = .ok (.getfield 73, 3) := by decide +kernel
theorem dX6_copy_33 : decode cX6_copy 33 = .ok (.iload_n 3, 1) := by decide +kernel
theorem dX6_copy_34 : decode cX6_copy 34 = .ok (.aaload, 1) := by decide +kernel
theorem dX6_copy_35 : decode cX6_copy 35 = .ok (.astore 7, 2) := by decide +kernel
theorem dX6_copy_37 : decode cX6_copy 37 = .ok (.aload 6, 2) := by decide +kernel
theorem dX6_copy_39 : decode cX6_copy 39 = .ok (.getfield 145, 3) := by decide +kernel
theorem dX6_copy_42 : decode cX6_copy 42 = .ok (.ifCond .ne 11, 3) := by decide +kernel
theorem dX6_copy_45 : decode cX6_copy 45 = .ok (.aload 7, 2) := by decide +kernel
theorem dX6_copy_47 : decode cX6_copy 47 = .ok (.getfield 145, 3) := by decide +kernel
theorem dX6_copy_50 : decode cX6_copy 50 = .ok (.ifCond .eq 9, 3) := by decide +kernel
theorem dX6_copy_53 : decode cX6_copy 53 = .ok (.aload_n 0, 1) := by decide +kernel
theorem dX6_copy_54 : decode cX6_copy 54 = .ok (.iconst 1, 1) := by decide +kernel
theorem dX6_copy_55 : decode cX6_copy 55 = .ok (.invokevirtual 148, 3) := by decide +kernel
theorem dX6_copy_58 : decode cX6_copy 58 = .ok (.ireturn, 1) := by decide +kernel
theorem dX6_copy_59 : decode cX6_copy 59 = .ok (.aload 6, 2) := by decide +kernel
theorem dX6_copy_61 : decode cX6_copy 61 = .ok (.getfield 279, 3) := by decide +kernel
theorem dX6_copy_64 : decode cX6_copy 64 = .ok (.aload 7, 2) := by decide +kernel
theorem dX6_copy_66 : decode cX6_copy 66 = .ok (.getfield 279, 3) := by decide +kernel
theorem dX6_copy_69 : decode cX6_copy 69 = .ok (.if_icmp .eq 9, 3) := by decide +kernel
theorem dX6_copy_72 : decode cX6_copy 72 = .ok (.aload_n 0, 1) := by decide +kernel
theorem dX6_copy_73 : decode cX6_copy 73 = .ok (.iconst 4, 1) := by decide +kernel
theorem dX6_copy_74 : decode cX6_copy 74 = .ok (.invokevirtual 148, 3) := by decide +kernel
theorem dX6_copy_77 : decode cX6_copy 77 = .ok (.ireturn, 1) := by decide +kernel
theorem dX6_copy_78 : decode cX6_copy 78 = .ok (.aload 6, 2) := by decide +kernel
theorem dX6_copy_80 : decode cX6_copy 80 = .ok (.iload_n 2, 1) := by decide +kernel
theorem dX6_copy_81 : decode cX6_copy 81 = .ok (.iload 5, 2) := by decide +kernel
theorem dX6_copy_83 : decode cX6_copy 83 = .ok (.invokevirtual 282, 3) := by decide +kernel
theorem dX6_copy_86 : decode cX6_copy 86 = .ok (.ifCond .eq 15, 3) := by decide +kernel
theorem dX6_copy_89 : decode cX6_copy 89 = .ok (.aload 7, 2) := by decide +kernel
theorem dX6_copy_91 : decode cX6_copy 91 = .ok (.iload 4, 2) := by decide +kernel
theorem dX6_copy_93 : decode cX6_copy 93 = .ok (.iload 5, 2) := by decide +kernel
theorem dX6_copy_95 : decode cX6_copy 95 = .ok (.invokevirtual 282, 3) := by decide +kernel
theorem dX6_copy_98 : decode cX6_copy 98 = .ok (.ifCond .ne 9, 3) := by decide +kernel
theorem dX6_copy_101 : decode cX6_copy 101 = .ok (.aload_n 0, 1) := by decide +kernel
theorem dX6_copy_102 : decode cX6_copy 102 = .ok (.iconst 2, 1) := by decide +kernel
theorem dX6_copy_103 : decode cX6_copy 103 = .ok (.invokevirtual 148, 3) := by decide +kernel
theorem dX6_copy_106 : decode cX6_copy 106 = .ok (.ireturn, 1) := by decide +kernel
theorem dX6_copy_107 : decode cX6_copy 107 = .ok (.aload 6, 2) := by decide +kernel
theorem dX6_copy_109 : decode cX6_copy 109 = .ok (.getfield 153, 3) := by decide +kernel
theorem dX6_copy_112 : decode cX6_copy 112 = .ok (.iload_n 2, 1) := by decide +kernel
theorem dX6_copy_113 : decode cX6_copy 113 = .ok (.aload 7, 2) := by decide +kernel
theorem dX6_copy_115 : decode cX6_copy 115 = .ok (.getfield 153, 3) := by decide +kernel
theorem dX6_copy_118 : decode cX6_copy 118 = .ok (.iload 4, 2) := by decide +kernel
theorem dX6_copy_120 : decode cX6_copy 120 = .ok (.iload 5, 2) := by decide +kernel
theorem dX6_copy_122 : decode cX6_copy 122 = .ok (.invokestatic 285, 3) := by decide +kernel
theorem dX6_copy_125 : decode cX6_copy 125 = .ok (.iconst 1, 1) := by decide +kernel
theorem dX6_copy_126 : decode cX6_copy 126 = .ok (.ireturn, 1) := by decide +kernel
theorem dX6_write_0 : decode cX6_write 0 = .ok (.iload_n 1, 1) := by decide +kernel
theorem dX6_write_1 : decode cX6_write 1 = .ok (.iconst 0, 1) := by decide +kernel
theorem dX6_write_2 : decode cX6_write 2 = .ok (.iconst 3, 1) := by decide +kernel
theorem dX6_write_3 : decode cX6_write 3 = .ok (.invokestatic 89, 3) := by decide +kernel
theorem dX6_write_6 : decode cX6_write 6 = .ok (.ifCond .ne 6, 3) := by decide +kernel
theorem dX6_write_9 : decode cX6_write 9 = .ok (.bipush (-2), 2) := by decide +kernel
theorem dX6_write_11 : decode cX6_write 11 = .ok (.ireturn, 1) := by decide +kernel
theorem dX6_write_12 : decode cX6_write 12 = .ok (.aload_n 0, 1) := by decide +kernel
theorem dX6_write_13 : decode cX6_write 13 = .ok (.getfield 73, 3) := by decide +kernel
theorem dX6_write_16 : decode cX6_write 16 = .ok (.iload_n 1, 1) := by decide +kernel
theorem dX6_write_17 : decode cX6_write 17 = .ok (.aaload, 1) := by decide +kernel
theorem dX6_write_18 : decode cX6_write 18 = .ok (.astore_n 2, 1) := by decide +kernel
theorem dX6_write_19 : decode cX6_write 19 = .ok (.aload_n 2, 1) := by decide +kernel
theorem dX6_write_20 : decode cX6_write 20 = .ok (.getfield 145, 3) := by decide +kernel
theorem dX6_write_23 : decode cX6_write 23 = .ok (.ifCond .eq 9, 3) := by decide +kernel
theorem dX6_write_26 : decode cX6_write 26 = .ok (.aload_n 0, 1) := by decide +kernel
theorem dX6_write_27 : decode cX6_write 27 = .ok (.iconst 1, 1) := by decide +kernel
theorem dX6_write_28 : decode cX6_write 28 = .ok (.invokevirtual 148, 3) := by decide +kernel
theorem dX6_write_31 : decode cX6_write 31 = .ok (.ireturn, 1) := by decide +kernel
theorem dX6_write_32 : decode cX6_write 32 = .ok (.aload_n 0, 1) := by decide +kernel
theorem dX6_write_33 : decode cX6_write 33 = .ok (.invokevirtual 156, 3) := by decide +kernel
theorem dX6_write_36 : decode cX6_write 36 = .ok (.astore_n 3, 1) := by decide +kernel
theorem dX6_write_37 : decode cX6_write 37 = .ok (.aload_n 2, 1) := by decide +kernel
theorem dX6_write_38 : decode cX6_write 38 = .ok (.getfield 152, 3) := by decide +kernel
theorem dX6_write_41 : decode cX6_write 41 = .ok (.bipush 24, 2) := by decide +kernel
theorem dX6_write_43 : decode cX6_write 43 = .ok (.invokestatic 291, 3) := by decide +kernel
theorem dX6_write_46 : decode cX6_write 46 = .ok (.istore 4, 2) := by decide +kernel
theorem dX6_write_48 : decode cX6_write 48 = .ok (.iconst 0, 1) := by decide +kernel
theorem dX6_write_49 : decode cX6_write 49 = .ok (.istore 5, 2) := by decide +kernel
theorem dX6_write_51 : decode cX6_write 51 = .ok (.iload 5, 2) := by decide +kernel
theorem dX6_write_53 : decode cX6_write 53 = .ok (.iload 4, 2) := by decide +kernel
theorem dX6_write_55 : decode cX6_write 55 = .ok (.if_icmp .ge 22, 3) := by decide +kernel
theorem dX6_write_58 : decode cX6_write 58 = .ok (.aload_n 2, 1) := by decide +kernel
theorem dX6_write_59 : decode cX6_write 59 = .ok (.iload 5, 2) := by decide +kernel
theorem dX6_write_61 : decode cX6_write 61 = .ok (.aload_n 3, 1) := by decide +kernel
theorem dX6_write_62 : decode cX6_write 62 = .ok (.getfield 163, 3) := by decide +kernel
theorem dX6_write_65 : decode cX6_write 65 = .ok (.iload 5, 2) := by decide +kernel
theorem dX6_write_67 : decode cX6_write 67 = .ok (.iaload, 1) := by decide +kernel
theorem dX6_write_68 : decode cX6_write 68 = .ok (.invokevirtual 275, 3) := by decide +kernel
theorem dX6_write_71 : decode cX6_write 71 = .ok (.iinc 5 1, 3) := by decide +kernel
theorem dX6_write_74 : decode cX6_write 74 = .ok (.goto (-23), 3) := by decide +kernel
theorem dX6_write_77 : decode cX6_write 77 = .ok (.iload 4, 2) := by decide +kernel
theorem dX6_write_79 : decode cX6_write 79 = .ok (.ireturn, 1) := by decide +kernel
theorem dX6_count_0 : decode cX6_count 0 = .ok (.iload_n 1, 1) := by decide +kernel
theorem dX6_count_1 : decode cX6_count 1 = .ok (.tableswitch 120 0 8 #[51, 59, 67, 75, 83, 91, 99, 107, 115], 51) := by decide +kernel
theorem dX6_count_52 : decode cX6_count 52 = .ok (.aload_n 0, 1) := by decide +kernel
theorem dX6_count_53 : decode cX6_count 53 = .ok (.getfield 24, 3) := by decide +kernel
theorem dX6_count_56 : decode cX6_count 56 = .ok (.getfield 193, 3) := by decide +kernel
theorem dX6_count_59 : decode cX6_count 59 = .ok (.ireturn, 1) := by decide +kernel
theorem dX6_count_60 : decode cX6_count 60 = .ok (.aload_n 0, 1) := by decide +kernel
theorem dX6_count_61 : decode cX6_count 61 = .ok (.getfield 24, 3) := by decide +kernel
theorem dX6_count_64 : decode cX6_count 64 = .ok (.getfield 120, 3) := by decide +kernel
theorem dX6_count_67 : decode cX6_count 67 = .ok (.ireturn, 1) := by decide +kernel
theorem dX6_count_68 : decode cX6_count 68 = .ok (.aload_n 0, 1) := by decide +kernel
theorem dX6_count_69 : decode cX6_count 69 = .ok (.getfield 14, 3) := by decide +kernel
theorem dX6_count_72 : decode cX6_count 72 = .ok (.getfield 104, 3) := by decide +kernel
theorem dX6_count_75 : decode cX6_count 75 = .ok (.ireturn, 1) := by decide +kernel
theorem dX6_count_76 : decode cX6_count 76 = .ok (.aload_n 0, 1) := by decide +kernel
theorem dX6_count_77 : decode cX6_count 77 = .ok (.getfield 18, 3) := by decide +kernel
theorem dX6_count_80 : decode cX6_count 80 = .ok (.getfield 104, 3) := by decide +kernel
theorem dX6_count_83 : decode cX6_count 83 = .ok (.ireturn, 1) := by decide +kernel
theorem dX6_count_84 : decode cX6_count 84 = .ok (.aload_n 0, 1) := by decide +kernel
theorem dX6_count_85 : decode cX6_count 85 = .ok (.getfield 24, 3) := by decide +kernel
theorem dX6_count_88 : decode cX6_count 88 = .ok (.getfield 142, 3) := by decide +kernel
theorem dX6_count_91 : decode cX6_count 91 = .ok (.ireturn, 1) := by decide +kernel
theorem dX6_count_92 : decode cX6_count 92 = .ok (.aload_n 0, 1) := by decide +kernel
theorem dX6_count_93 : decode cX6_count 93 = .ok (.getfield 24, 3) := by decide +kernel
theorem dX6_count_96 : decode cX6_count 96 = .ok (.getfield 129, 3) := by decide +kernel
theorem dX6_count_99 : decode cX6_count 99 = .ok (.ireturn, 1) := by decide +kernel
theorem dX6_count_100 : decode cX6_count 100 = .ok (.aload_n 0, 1) := by decide +kernel
theorem dX6_count_101 : decode cX6_count 101 = .ok (.invokevirtual 156, 3) := by decide +kernel
theorem dX6_count_104 : decode cX6_count 104 = .ok (.getfield 184, 3) := by decide +kernel
theorem dX6_count_107 : decode cX6_count 107 = .ok (.ireturn, 1) := by decide +kernel
theorem dX6_count_108 : decode cX6_count 108 = .ok (.aload_n 0, 1) := by decide +kernel
theorem dX6_count_109 : decode cX6_count 109 = .ok (.getfield 44, 3) := by decide +kernel
theorem dX6_count_112 : decode cX6_count 112 = .ok (.getfield 223, 3) := by decide +kernel
theorem dX6_count_115 : decode cX6_count 115 = .ok (.ireturn, 1) := by decide +kernel
theorem dX6_count_116 : decode cX6_count 116 = .ok (.aload_n 0, 1) := by decide +kernel
theorem dX6_count_117 : decode cX6_count 117 = .ok (.getfield 84, 3) := by decide +kernel
theorem dX6_count_120 : decode cX6_count 120 = .ok (.ireturn, 1) := by decide +kernel
theorem dX6_count_121 : decode cX6_count 121 = .ok (.bipush (-2), 2) := by decide +kernel
theorem dX6_count_123 : decode cX6_count 123 = .ok (.ireturn, 1) := by decide +kernel
theorem dX6_digest_0 : decode cX6_digest 0 = .ok (.ldc2_w 296, 3) := by decide +kernel
theorem dX6_digest_3 : decode cX6_digest 3 = .ok (.lstore_n 1, 1) := by decide +kernel
theorem dX6_digest_4 : decode cX6_digest 4 = .ok (.iconst 0, 1) := by decide +kernel
theorem dX6_digest_5 : decode cX6_digest 5 = .ok (.istore_n 3, 1) := by decide +kernel
theorem dX6_digest_6 : decode cX6_digest 6 = .ok (.iload_n 3, 1) := by decide +kernel
theorem dX6_digest_7 : decode cX6_digest 7 = .ok (.bipush 7, 2) := by decide +kernel
theorem dX6_digest_9 : decode cX6_digest 9 = .ok (.if_icmp .gt 20, 3) := by decide +kernel
theorem dX6_digest_12 : decode cX6_digest 12 = .ok (.lload_n 1, 1) := by decide +kernel
theorem dX6_digest_13 : decode cX6_digest 13 = .ok (.aload_n 0, 1) := by decide +kernel
theorem dX6_digest_14 : decode cX6_digest 14 = .ok (.iload_n 3, 1) := by decide +kernel
theorem dX6_digest_15 : decode cX6_digest 15 = .ok (.invokevirtual 298, 3) := by decide +kernel
theorem dX6_digest_18 : decode cX6_digest 18 = .ok (.i2l, 1) := by decide +kernel
theorem dX6_digest_19 : decode cX6_digest 19 = .ok (.invokestatic 301, 3) := by decide +kernel
theorem dX6_digest_22 : decode cX6_digest 22 = .ok (.lstore_n 1, 1) := by decide +kernel
theorem dX6_digest_23 : decode cX6_digest 23 = .ok (.iinc 3 1, 3) := by decide +kernel
theorem dX6_digest_26 : decode cX6_digest 26 = .ok (.goto (-20), 3) := by decide +kernel
theorem dX6_digest_29 : decode cX6_digest 29 = .ok (.lload_n 1, 1) := by decide +kernel
theorem dX6_digest_30 : decode cX6_digest 30 = .ok (.aload_n 0, 1) := by decide +kernel
theorem dX6_digest_31 : decode cX6_digest 31 = .ok (.iconst 0, 1) := by decide +kernel
theorem dX6_digest_32 : decode cX6_digest 32 = .ok (.invokevirtual 305, 3) := by decide +kernel
theorem dX6_digest_35 : decode cX6_digest 35 = .ok (.i2l, 1) := by decide +kernel
theorem dX6_digest_36 : decode cX6_digest 36 = .ok (.invokestatic 301, 3) := by decide +kernel
theorem dX6_digest_39 : decode cX6_digest 39 = .ok (.aload_n 0, 1) := by decide +kernel
theorem dX6_digest_40 : decode cX6_digest 40 = .ok (.iconst 1, 1) := by decide +kernel
theorem dX6_digest_41 : decode cX6_digest 41 = .ok (.invokevirtual 305, 3) := by decide +kernel
theorem dX6_digest_44 : decode cX6_digest 44 = .ok (.i2l, 1) := by decide +kernel
theorem dX6_digest_45 : decode cX6_digest 45 = .ok (.invokestatic 301, 3) := by decide +kernel
theorem dX6_digest_48 : decode cX6_digest 48 = .ok (.lstore_n 1, 1) := by decide +kernel
theorem dX6_digest_49 : decode cX6_digest 49 = .ok (.iconst 0, 1) := by decide +kernel
theorem dX6_digest_50 : decode cX6_digest 50 = .ok (.istore_n 3, 1) := by decide +kernel
theorem dX6_digest_51 : decode cX6_digest 51 = .ok (.iload_n 3, 1) := by decide +kernel
theorem dX6_digest_52 : decode cX6_digest 52 = .ok (.bipush 24, 2) := by decide +kernel
theorem dX6_digest_54 : decode cX6_digest 54 = .ok (.if_icmp .ge 41, 3) := by decide +kernel
theorem dX6_digest_57 : decode cX6_digest 57 = .ok (.lload_n 1, 1) := by decide +kernel
theorem dX6_digest_58 : decode cX6_digest 58 = .ok (.aload_n 0, 1) := by decide +kernel
theorem dX6_digest_59 : decode cX6_digest 59 = .ok (.iload_n 3, 1) := by decide +kernel
theorem dX6_digest_60 : decode cX6_digest 60 = .ok (.iconst 0, 1) := by decide +kernel
theorem dX6_digest_61 : decode cX6_digest 61 = .ok (.invokevirtual 308, 3) := by decide +kernel
theorem dX6_digest_64 : decode cX6_digest 64 = .ok (.i2l, 1) := by decide +kernel
theorem dX6_digest_65 : decode cX6_digest 65 = .ok (.invokestatic 301, 3) := by decide +kernel
theorem dX6_digest_68 : decode cX6_digest 68 = .ok (.aload_n 0, 1) := by decide +kernel
theorem dX6_digest_69 : decode cX6_digest 69 = .ok (.iload_n 3, 1) := by decide +kernel
theorem dX6_digest_70 : decode cX6_digest 70 = .ok (.iconst 1, 1) := by decide +kernel
theorem dX6_digest_71 : decode cX6_digest 71 = .ok (.invokevirtual 308, 3) := by decide +kernel
theorem dX6_digest_74 : decode cX6_digest 74 = .ok (.i2l, 1) := by decide +kernel
theorem dX6_digest_75 : decode cX6_digest 75 = .ok (.invokestatic 301, 3) := by decide +kernel
theorem dX6_digest_78 : decode cX6_digest 78 = .ok (.aload_n 0, 1) := by decide +kernel
theorem dX6_digest_79 : decode cX6_digest 79 = .ok (.iload_n 3, 1) := by decide +kernel
theorem dX6_digest_80 : decode cX6_digest 80 = .ok (.iconst 2, 1) := by decide +kernel
theorem dX6_digest_81 : decode cX6_digest 81 = .ok (.invokevirtual 308, 3) := by decide +kernel
theorem dX6_digest_84 : decode cX6_digest 84 = .ok (.i2l, 1) := by decide +kernel
theorem dX6_digest_85 : decode cX6_digest 85 = .ok (.invokestatic 301, 3) := by decide +kernel
theorem dX6_digest_88 : decode cX6_digest 88 = .ok (.lstore_n 1, 1) := by decide +kernel
theorem dX6_digest_89 : decode cX6_digest 89 = .ok (.iinc 3 1, 3) := by decide +kernel
theorem dX6_digest_92 : decode cX6_digest 92 = .ok (.goto (-41), 3) := by decide +kernel
theorem dX6_digest_95 : decode cX6_digest 95 = .ok (.aload_n 0, 1) := by decide +kernel
theorem dX6_digest_96 : decode cX6_digest 96 = .ok (.aload_n 0, 1) := by decide +kernel
theorem dX6_digest_97 : decode cX6_digest 97 = .ok (.lload_n 1, 1) := by decide +kernel
theorem dX6_digest_98 : decode cX6_digest 98 = .ok (.invokevirtual 311, 3) := by decide +kernel
theorem dX6_digest_101 : decode cX6_digest 101 = .ok (.invokevirtual 315, 3) := by decide +kernel
theorem dX6_digest_104 : decode cX6_digest 104 = .ok (.lstore_n 1, 1) := by decide +kernel
theorem dX6_digest_105 : decode cX6_digest 105 = .ok (.lload_n 1, 1) := by decide +kernel
theorem dX6_digest_106 : decode cX6_digest 106 = .ok (.aload_n 0, 1) := by decide +kernel
theorem dX6_digest_107 : decode cX6_digest 107 = .ok (.iconst 0, 1) := by decide +kernel
theorem dX6_digest_108 : decode cX6_digest 108 = .ok (.invokevirtual 318, 3) := by decide +kernel
theorem dX6_digest_111 : decode cX6_digest 111 = .ok (.i2l, 1) := by decide +kernel
theorem dX6_digest_112 : decode cX6_digest 112 = .ok (.invokestatic 301, 3) := by decide +kernel
theorem dX6_digest_115 : decode cX6_digest 115 = .ok (.aload_n 0, 1) := by decide +kernel
theorem dX6_digest_116 : decode cX6_digest 116 = .ok (.iconst 1, 1) := by decide +kernel
theorem dX6_digest_117 : decode cX6_digest 117 = .ok (.invokevirtual 318, 3) := by decide +kernel
theorem dX6_digest_120 : decode cX6_digest 120 = .ok (.i2l, 1) := by decide +kernel
theorem dX6_digest_121 : decode cX6_digest 121 = .ok (.invokestatic 301, 3) := by decide +kernel
theorem dX6_digest_124 : decode cX6_digest 124 = .ok (.aload_n 0, 1) := by decide +kernel
theorem dX6_digest_125 : decode cX6_digest 125 = .ok (.iconst 2, 1) := by decide +kernel
theorem dX6_digest_126 : decode cX6_digest 126 = .ok (.invokevirtual 318, 3) := by decide +kernel
theorem dX6_digest_129 : decode cX6_digest 129 = .ok (.i2l, 1) := by decide +kernel
theorem dX6_digest_130 : decode cX6_digest 130 = .ok (.invokestatic 301, 3) := by decide +kernel
theorem dX6_digest_133 : decode cX6_digest 133 = .ok (.lstore_n 1, 1) := by decide +kernel
theorem dX6_digest_134 : decode cX6_digest 134 = .ok (.lload_n 1, 1) := by decide +kernel
theorem dX6_digest_135 : decode cX6_digest 135 = .ok (.aload_n 0, 1) := by decide +kernel
theorem dX6_digest_136 : decode cX6_digest 136 = .ok (.invokevirtual 321, 3) := by decide +kernel
theorem dX6_digest_139 : decode cX6_digest 139 = .ok (.i2l, 1) := by decide +kernel
theorem dX6_digest_140 : decode cX6_digest 140 = .ok (.invokestatic 301, 3) := by decide +kernel
theorem dX6_digest_143 : decode cX6_digest 143 = .ok (.aload_n 0, 1) := by decide +kernel
theorem dX6_digest_144 : decode cX6_digest 144 = .ok (.invokevirtual 324, 3) := by decide +kernel
theorem dX6_digest_147 : decode cX6_digest 147 = .ok (.i2l, 1) := by decide +kernel
theorem dX6_digest_148 : decode cX6_digest 148 = .ok (.invokestatic 301, 3) := by decide +kernel
theorem dX6_digest_151 : decode cX6_digest 151 = .ok (.aload_n 0, 1) := by decide +kernel
theorem dX6_digest_152 : decode cX6_digest 152 = .ok (.invokevirtual 327, 3) := by decide +kernel
theorem dX6_digest_155 : decode cX6_digest 155 = .ok (.i2l, 1) := by decide +kernel
theorem dX6_digest_156 : decode cX6_digest 156 = .ok (.invokestatic 301, 3) := by decide +kernel
theorem dX6_digest_159 : decode cX6_digest 159 = .ok (.lstore_n 1, 1) := by decide +kernel
theorem dX6_digest_160 : decode cX6_digest 160 = .ok (.lload_n 1, 1) := by decide +kernel
theorem dX6_digest_161 : decode cX6_digest 161 = .ok (.aload_n 0, 1) := by decide +kernel
theorem dX6_digest_162 : decode cX6_digest 162 = .ok (.iconst 0, 1) := by decide +kernel
theorem dX6_digest_163 : decode cX6_digest 163 = .ok (.invokevirtual 330, 3) := by decide +kernel
theorem dX6_digest_166 : decode cX6_digest 166 = .ok (.i2l, 1) := by decide +kernel
theorem dX6_digest_167 : decode cX6_digest 167 = .ok (.invokestatic 301, 3) := by decide +kernel
theorem dX6_digest_170 : decode cX6_digest 170 = .ok (.aload_n 0, 1) := by decide +kernel
theorem dX6_digest_171 : decode cX6_digest 171 = .ok (.iconst 1, 1) := by decide +kernel
theorem dX6_digest_172 : decode cX6_digest 172 = .ok (.invokevirtual 330, 3) := by decide +kernel
theorem dX6_digest_175 : decode cX6_digest 175 = .ok (.i2l, 1) := by decide +kernel
theorem dX6_digest_176 : decode cX6_digest 176 = .ok (.invokestatic 301, 3) := by decide +kernel
theorem dX6_digest_179 : decode cX6_digest 179 = .ok (.lstore_n 1, 1) := by decide +kernel
theorem dX6_digest_180 : decode cX6_digest 180 = .ok (.lload_n 1, 1) := by decide +kernel
theorem dX6_digest_181 : decode cX6_digest 181 = .ok (.aload_n 0, 1) := by decide +kernel
theorem dX6_digest_182 : decode cX6_digest 182 = .ok (.iconst 0, 1) := by decide +kernel
theorem dX6_digest_183 : decode cX6_digest 183 = .ok (.invokevirtual 333, 3) := by decide +kernel
theorem dX6_digest_186 : decode cX6_digest 186 = .ok (.i2l, 1) := by decide +kernel
theorem dX6_digest_187 : decode cX6_digest 187 = .ok (.invokestatic 301, 3) := by decide +kernel
theorem dX6_digest_190 : decode cX6_digest 190 = .ok (.aload_n 0, 1) := by decide +kernel
theorem dX6_digest_191 : decode cX6_digest 191 = .ok (.iconst 1, 1) := by decide +kernel
theorem dX6_digest_192 : decode cX6_digest 192 = .ok (.invokevirtual 333, 3) := by decide +kernel
theorem dX6_digest_195 : decode cX6_digest 195 = .ok (.i2l, 1) := by decide +kernel
theorem dX6_digest_196 : decode cX6_digest 196 = .ok (.invokestatic 301, 3) := by decide +kernel
theorem dX6_digest_199 : decode cX6_digest 199 = .ok (.aload_n 0, 1) := by decide +kernel
theorem dX6_digest_200 : decode cX6_digest 200 = .ok (.iconst 2, 1) := by decide +kernel
theorem dX6_digest_201 : decode cX6_digest 201 = .ok (.invokevirtual 333, 3) := by decide +kernel
theorem dX6_digest_204 : decode cX6_digest 204 = .ok (.i2l, 1) := by decide +kernel
theorem dX6_digest_205 : decode cX6_digest 205 = .ok (.invokestatic 301, 3) := by decide +kernel
theorem dX6_digest_208 : decode cX6_digest 208 = .ok (.lstore_n 1, 1) := by decide +kernel
theorem dX6_digest_209 : decode cX6_digest 209 = .ok (.lload_n 1, 1) := by decide +kernel
theorem dX6_digest_210 : decode cX6_digest 210 = .ok (.aload_n 0, 1) := by decide +kernel
theorem dX6_digest_211 : decode cX6_digest 211 = .ok (.iconst 0, 1) := by decide +kernel
theorem dX6_digest_212 : decode cX6_digest 212 = .ok (.invokevirtual 336, 3) := by decide +kernel
theorem dX6_digest_215 : decode cX6_digest 215 = .ok (.i2l, 1) := by decide +kernel
theorem dX6_digest_216 : decode cX6_digest 216 = .ok (.invokestatic 301, 3) := by decide +kernel
theorem dX6_digest_219 : decode cX6_digest 219 = .ok (.aload_n 0, 1) := by decide +kernel
theorem dX6_digest_220 : decode cX6_digest 220 = .ok (.iconst 1, 1) := by decide +kernel
theorem dX6_digest_221 : decode cX6_digest 221 = .ok (.invokevirtual 336, 3) := by decide +kernel
theorem dX6_digest_224 : decode cX6_digest 224 = .ok (.i2l, 1) := by decide +kernel
theorem dX6_digest_225 : decode cX6_digest 225 = .ok (.invokestatic 301, 3) := by decide +kernel
theorem dX6_digest_228 : decode cX6_digest 228 = .ok (.lstore_n 1, 1) := by decide +kernel
theorem dX6_digest_229 : decode cX6_digest 229 = .ok (.lload_n 1, 1) := by decide +kernel
theorem dX6_digest_230 : decode cX6_digest 230 = .ok (.aload_n 0, 1) := by decide +kernel
theorem dX6_digest_231 : decode cX6_digest 231 = .ok (.iconst (-1), 1) := by decide +kernel
theorem dX6_digest_232 : decode cX6_digest 232 = .ok (.invokevirtual 339, 3) := by decide +kernel
theorem dX6_digest_235 : decode cX6_digest 235 = .ok (.i2l, 1) := by decide +kernel
theorem dX6_digest_236 : decode cX6_digest 236 = .ok (.invokestatic 301, 3) := by decide +kernel
theorem dX6_digest_239 : decode cX6_digest 239 = .ok (.aload_n 0, 1) := by decide +kernel
theorem dX6_digest_240 : decode cX6_digest 240 = .ok (.iconst 0, 1) := by decide +kernel
theorem dX6_digest_241 : decode cX6_digest 241 = .ok (.invokevirtual 339, 3) := by decide +kernel
theorem dX6_digest_244 : decode cX6_digest 244 = .ok (.i2l, 1) := by decide +kernel
theorem dX6_digest_245 : decode cX6_digest 245 = .ok (.invokestatic 301, 3) := by decide +kernel
theorem dX6_digest_248 : decode cX6_digest 248 = .ok (.lstore_n 1, 1) := by decide +kernel
theorem dX6_digest_249 : decode cX6_digest 249 = .ok (.lload_n 1, 1) := by decide +kernel
theorem dX6_digest_250 : decode cX6_digest 250 = .ok (.aload_n 0, 1) := by decide +kernel
theorem dX6_digest_251 : decode cX6_digest 251 = .ok (.invokevirtual 342, 3) := by decide +kernel
theorem dX6_digest_254 : decode cX6_digest 254 = .ok (.i2l, 1) := by decide +kernel
theorem dX6_digest_255 : decode cX6_digest 255 = .ok (.invokestatic 301, 3) := by decide +kernel
theorem dX6_digest_258 : decode cX6_digest 258 = .ok (.lstore_n 1, 1) := by decide +kernel
theorem dX6_digest_259 : decode cX6_digest 259 = .ok (.lload_n 1, 1) := by decide +kernel
theorem dX6_digest_260 : decode cX6_digest 260 = .ok (.aload_n 0, 1) := by decide +kernel
theorem dX6_digest_261 : decode cX6_digest 261 = .ok (.bipush 7, 2) := by decide +kernel
theorem dX6_digest_263 : decode cX6_digest 263 = .ok (.bipush 12, 2) := by decide +kernel
theorem dX6_digest_265 : decode cX6_digest 265 = .ok (.iconst 0, 1) := by decide +kernel
theorem dX6_digest_266 : decode cX6_digest 266 = .ok (.invokevirtual 345, 3) := by decide +kernel
theorem dX6_digest_269 : decode cX6_digest 269 = .ok (.i2l, 1) := by decide +kernel
theorem dX6_digest_270 : decode cX6_digest 270 = .ok (.invokestatic 301, 3) := by decide +kernel
theorem dX6_digest_273 : decode cX6_digest 273 = .ok (.aload_n 0, 1) := by decide +kernel
theorem dX6_digest_274 : decode cX6_digest 274 = .ok (.bipush 7, 2) := by decide +kernel
theorem dX6_digest_276 : decode cX6_digest 276 = .ok (.bipush 12, 2) := by decide +kernel
theorem dX6_digest_278 : decode cX6_digest 278 = .ok (.iconst 1, 1) := by decide +kernel
theorem dX6_digest_279 : decode cX6_digest 279 = .ok (.invokevirtual 345, 3) := by decide +kernel
theorem dX6_digest_282 : decode cX6_digest 282 = .ok (.i2l, 1) := by decide +kernel
theorem dX6_digest_283 : decode cX6_digest 283 = .ok (.invokestatic 301, 3) := by decide +kernel
theorem dX6_digest_286 : decode cX6_digest 286 = .ok (.lreturn, 1) := by decide +kernel
theorem dX6_mixNotes_0 : decode cX6_mixNotes 0 = .ok (.lload_n 1, 1) := by decide +kernel
theorem dX6_mixNotes_1 : decode cX6_mixNotes 1 = .ok (.lstore_n 3, 1) := by decide +kernel
theorem dX6_mixNotes_2 : decode cX6_mixNotes 2 = .ok (.iconst 0, 1) := by decide +kernel
theorem dX6_mixNotes_3 : decode cX6_mixNotes 3 = .ok (.istore 5, 2) := by decide +kernel
theorem dX6_mixNotes_5 : decode cX6_mixNotes 5 = .ok (.iload 5, 2) := by decide +kernel
theorem dX6_mixNotes_7 : decode cX6_mixNotes 7 = .ok (.bipush 16, 2) := by decide +kernel
theorem dX6_mixNotes_9 : decode cX6_mixNotes 9 = .ok (.if_icmp .ge 33, 3) := by decide +kernel
theorem dX6_mixNotes_12 : decode cX6_mixNotes 12 = .ok (.lload_n 3, 1) := by decide +kernel
theorem dX6_mixNotes_13 : decode cX6_mixNotes 13 = .ok (.aload_n 0, 1) := by decide +kernel
theorem dX6_mixNotes_14 : decode cX6_mixNotes 14 = .ok (.iload 5, 2) := by decide +kernel
theorem dX6_mixNotes_16 : decode cX6_mixNotes 16 = .ok (.iconst 0, 1) := by decide +kernel
theorem dX6_mixNotes_17 : decode cX6_mixNotes 17 = .ok (.invokevirtual 349, 3) := by decide +kernel
theorem dX6_mixNotes_20 : decode cX6_mixNotes 20 = .ok (.i2l, 1) := by decide +kernel
theorem dX6_mixNotes_21 : decode cX6_mixNotes 21 = .ok (.invokestatic 301, 3) := by decide +kernel
theorem dX6_mixNotes_24 : decode cX6_mixNotes 24 = .ok (.aload_n 0, 1) := by decide +kernel
theorem dX6_mixNotes_25 : decode cX6_mixNotes 25 = .ok (.iload 5, 2) := by decide +kernel
theorem dX6_mixNotes_27 : decode cX6_mixNotes 27 = .ok (.iconst 1, 1) := by decide +kernel
theorem dX6_mixNotes_28 : decode cX6_mixNotes 28 = .ok (.invokevirtual 349, 3) := by decide +kernel
theorem dX6_mixNotes_31 : decode cX6_mixNotes 31 = .ok (.i2l, 1) := by decide +kernel
theorem dX6_mixNotes_32 : decode cX6_mixNotes 32 = .ok (.invokestatic 301, 3) := by decide +kernel
theorem dX6_mixNotes_35 : decode cX6_mixNotes 35 = .ok (.lstore_n 3, 1) := by decide +kernel
theorem dX6_mixNotes_36 : decode cX6_mixNotes 36 = .ok (.iinc 5 1, 3) := by decide +kernel
theorem dX6_mixNotes_39 : decode cX6_mixNotes 39 = .ok (.goto (-34), 3) := by decide +kernel
theorem dX6_mixNotes_42 : decode cX6_mixNotes 42 = .ok (.iconst 0, 1) := by decide +kernel
theorem dX6_mixNotes_43 : decode cX6_mixNotes 43 = .ok (.istore 5, 2) := by decide +kernel
theorem dX6_mixNotes_45 : decode cX6_mixNotes 45 = .ok (.iload 5, 2) := by decide +kernel
theorem dX6_mixNotes_47 : decode cX6_mixNotes 47 = .ok (.aload_n 0, 1) := by decide +kernel
theorem dX6_mixNotes_48 : decode cX6_mixNotes 48 = .ok (.getfield 24, 3) := by decide +kernel
theorem dX6_mixNotes_51 : decode cX6_mixNotes 51 = .ok (.getfield 120, 3) := by decide +kernel
theorem dX6_mixNotes_54 : decode cX6_mixNotes 54 = .ok (.if_icmp .ge 43, 3) := by decide +kernel
theorem dX6_mixNotes_57 : decode cX6_mixNotes 57 = .ok (.lload_n 3, 1) := by decide +kernel
theorem dX6_mixNotes_58 : decode cX6_mixNotes 58 = .ok (.aload_n 0, 1) := by decide +kernel
theorem dX6_mixNotes_59 : decode cX6_mixNotes 59 = .ok (.iload 5, 2) := by decide +kernel
theorem dX6_mixNotes_61 : decode cX6_mixNotes 61 = .ok (.invokevirtual 352, 3) := by decide +kernel
theorem dX6_mixNotes_64 : decode cX6_mixNotes 64 = .ok (.i2l, 1) := by decide +kernel
theorem dX6_mixNotes_65 : decode cX6_mixNotes 65 = .ok (.invokestatic 301, 3) := by decide +kernel
theorem dX6_mixNotes_68 : decode cX6_mixNotes 68 = .ok (.aload_n 0, 1) := by decide +kernel
theorem dX6_mixNotes_69 : decode cX6_mixNotes 69 = .ok (.iconst 5, 1) := by decide +kernel
theorem dX6_mixNotes_70 : decode cX6_mixNotes 70 = .ok (.iload 5, 2) := by decide +kernel
theorem dX6_mixNotes_72 : decode cX6_mixNotes 72 = .ok (.iconst 0, 1) := by decide +kernel
theorem dX6_mixNotes_73 : decode cX6_mixNotes 73 = .ok (.invokevirtual 355, 3) := by decide +kernel
theorem dX6_mixNotes_76 : decode cX6_mixNotes 76 = .ok (.invokestatic 301, 3) := by decide +kernel
theorem dX6_mixNotes_79 : decode cX6_mixNotes 79 = .ok (.aload_n 0, 1) := by decide +kernel
theorem dX6_mixNotes_80 : decode cX6_mixNotes 80 = .ok (.iconst 5, 1) := by decide +kernel
theorem dX6_mixNotes_81 : decode cX6_mixNotes 81 = .ok (.iload 5, 2) := by decide +kernel
theorem dX6_mixNotes_83 : decode cX6_mixNotes 83 = .ok (.iconst 1, 1) := by decide +kernel
theorem dX6_mixNotes_84 : decode cX6_mixNotes 84 = .ok (.invokevirtual 355, 3) := by decide +kernel
theorem dX6_mixNotes_87 : decode cX6_mixNotes 87 = .ok (.invokestatic 301, 3) := by decide +kernel
theorem dX6_mixNotes_90 : decode cX6_mixNotes 90 = .ok (.lstore_n 3, 1) := by decide +kernel
theorem dX6_mixNotes_91 : decode cX6_mixNotes 91 = .ok (.iinc 5 1, 3) := by decide +kernel
theorem dX6_mixNotes_94 : decode cX6_mixNotes 94 = .ok (.goto (-49), 3) := by decide +kernel
theorem dX6_mixNotes_97 : decode cX6_mixNotes 97 = .ok (.lload_n 3, 1) := by decide +kernel
theorem dX6_mixNotes_98 : decode cX6_mixNotes 98 = .ok (.lreturn, 1) := by decide +kernel
theorem dX6_mixPlayers_0 : decode cX6_mixPlayers 0 = .ok (.lload_n 1, 1) := by decide +kernel
theorem dX6_mixPlayers_1 : decode cX6_mixPlayers 1 = .ok (.lstore_n 3, 1) := by decide +kernel
theorem dX6_mixPlayers_2 : decode cX6_mixPlayers 2 = .ok (.iconst 0, 1) := by decide +kernel
theorem dX6_mixPlayers_3 : decode cX6_mixPlayers 3 = .ok (.istore 5, 2) := by decide +kernel
theorem dX6_mixPlayers_5 : decode cX6_mixPlayers 5 = .ok (.iload 5, 2) := by decide +kernel
theorem dX6_mixPlayers_7 : decode cX6_mixPlayers 7 = .ok (.aload_n 0, 1) := by decide +kernel
theorem dX6_mixPlayers_8 : decode cX6_mixPlayers 8 = .ok (.getfield 24, 3) := by decide +kernel
theorem dX6_mixPlayers_11 : decode cX6_mixPlayers 11 = .ok (.getfield 193, 3) := by decide +kernel
theorem dX6_mixPlayers_14 : decode cX6_mixPlayers 14 = .ok (.if_icmp .ge 102, 3) := by decide +kernel
theorem dX6_mixPlayers_17 : decode cX6_mixPlayers 17 = .ok (.lload_n 3, 1) := by decide +kernel
theorem dX6_mixPlayers_18 : decode cX6_mixPlayers 18 = .ok (.aload_n 0, 1) := by decide +kernel
theorem dX6_mixPlayers_19 : decode cX6_mixPlayers 19 = .ok (.iload 5, 2) := by decide +kernel
theorem dX6_mixPlayers_21 : decode cX6_mixPlayers 21 = .ok (.iconst 0, 1) := by decide +kernel
theorem dX6_mixPlayers_22 : decode cX6_mixPlayers 22 = .ok (.invokevirtual 359, 3) := by decide +kernel
theorem dX6_mixPlayers_25 : decode cX6_mixPlayers 25 = .ok (.i2l, 1) := by decide +kernel
theorem dX6_mixPlayers_26 : decode cX6_mixPlayers 26 = .ok (.invokestatic 301, 3) := by decide +kernel
theorem dX6_mixPlayers_29 : decode cX6_mixPlayers 29 = .ok (.aload_n 0, 1) := by decide +kernel
theorem dX6_mixPlayers_30 : decode cX6_mixPlayers 30 = .ok (.iload 5, 2) := by decide +kernel
theorem dX6_mixPlayers_32 : decode cX6_mixPlayers 32 = .ok (.iconst 1, 1) := by decide +kernel
theorem dX6_mixPlayers_33 : decode cX6_mixPlayers 33 = .ok (.invokevirtual 359, 3) := by decide +kernel
theorem dX6_mixPlayers_36 : decode cX6_mixPlayers 36 = .ok (.i2l, 1) := by decide +kernel
theorem dX6_mixPlayers_37 : decode cX6_mixPlayers 37 = .ok (.invokestatic 301, 3) := by decide +kernel
theorem dX6_mixPlayers_40 : decode cX6_mixPlayers 40 = .ok (.lstore_n 3, 1) := by decide +kernel
theorem dX6_mixPlayers_41 : decode cX6_mixPlayers 41 = .ok (.lload_n 3, 1) := by decide +kernel
theorem dX6_mixPlayers_42 : decode cX6_mixPlayers 42 = .ok (.aload_n 0, 1) := by decide +kernel
theorem dX6_mixPlayers_43 : decode cX6_mixPlayers 43 = .ok (.iload 5, 2) := by decide +kernel
theorem dX6_mixPlayers_45 : decode cX6_mixPlayers 45 = .ok (.iconst 0, 1) := by decide +kernel
theorem dX6_mixPlayers_46 : decode cX6_mixPlayers 46 = .ok (.invokevirtual 362, 3) := by decide +kernel
theorem dX6_mixPlayers_49 : decode cX6_mixPlayers 49 = .ok (.i2l, 1) := by decide +kernel
theorem dX6_mixPlayers_50 : decode cX6_mixPlayers 50 = .ok (.invokestatic 301, 3) := by decide +kernel
theorem dX6_mixPlayers_53 : decode cX6_mixPlayers 53 = .ok (.aload_n 0, 1) := by decide +kernel
theorem dX6_mixPlayers_54 : decode cX6_mixPlayers 54 = .ok (.iload 5, 2) := by decide +kernel
theorem dX6_mixPlayers_56 : decode cX6_mixPlayers 56 = .ok (.iconst 1, 1) := by decide +kernel
theorem dX6_mixPlayers_57 : decode cX6_mixPlayers 57 = .ok (.invokevirtual 362, 3) := by decide +kernel
theorem dX6_mixPlayers_60 : decode cX6_mixPlayers 60 = .ok (.i2l, 1) := by decide +kernel
theorem dX6_mixPlayers_61 : decode cX6_mixPlayers 61 = .ok (.invokestatic 301, 3) := by decide +kernel
theorem dX6_mixPlayers_64 : decode cX6_mixPlayers 64 = .ok (.aload_n 0, 1) := by decide +kernel
theorem dX6_mixPlayers_65 : decode cX6_mixPlayers 65 = .ok (.iload 5, 2) := by decide +kernel
theorem dX6_mixPlayers_67 : decode cX6_mixPlayers 67 = .ok (.iconst 2, 1) := by decide +kernel
theorem dX6_mixPlayers_68 : decode cX6_mixPlayers 68 = .ok (.invokevirtual 362, 3) := by decide +kernel
theorem dX6_mixPlayers_71 : decode cX6_mixPlayers 71 = .ok (.i2l, 1) := by decide +kernel
theorem dX6_mixPlayers_72 : decode cX6_mixPlayers 72 = .ok (.invokestatic 301, 3) := by decide +kernel
theorem dX6_mixPlayers_75 : decode cX6_mixPlayers 75 = .ok (.lstore_n 3, 1) := by decide +kernel
theorem dX6_mixPlayers_76 : decode cX6_mixPlayers 76 = .ok (.lload_n 3, 1) := by decide +kernel
theorem dX6_mixPlayers_77 : decode cX6_mixPlayers 77 = .ok (.aload_n 0, 1) := by decide +kernel
theorem dX6_mixPlayers_78 : decode cX6_mixPlayers 78 = .ok (.iload 5, 2) := by decide +kernel
theorem dX6_mixPlayers_80 : decode cX6_mixPlayers 80 = .ok (.iconst 0, 1) := by decide +kernel
theorem dX6_mixPlayers_81 : decode cX6_mixPlayers 81 = .ok (.invokevirtual 365, 3) := by decide +kernel
theorem dX6_mixPlayers_84 : decode cX6_mixPlayers 84 = .ok (.i2l, 1) := by decide +kernel
theorem dX6_mixPlayers_85 : decode cX6_mixPlayers 85 = .ok (.invokestatic 301, 3) := by decide +kernel
theorem dX6_mixPlayers_88 : decode cX6_mixPlayers 88 = .ok (.aload_n 0, 1) := by decide +kernel
theorem dX6_mixPlayers_89 : decode cX6_mixPlayers 89 = .ok (.iload 5, 2) := by decide +kernel
theorem dX6_mixPlayers_91 : decode cX6_mixPlayers 91 = .ok (.iconst 1, 1) := by decide +kernel
theorem dX6_mixPlayers_92 : decode cX6_mixPlayers 92 = .ok (.invokevirtual 365, 3) := by decide +kernel
theorem dX6_mixPlayers_95 : decode cX6_mixPlayers 95 = .ok (.i2l, 1) := by decide +kernel
theorem dX6_mixPlayers_96 : decode cX6_mixPlayers 96 = .ok (.invokestatic 301, 3) := by decide +kernel
theorem dX6_mixPlayers_99 : decode cX6_mixPlayers 99 = .ok (.aload_n 0, 1) := by decide +kernel
theorem dX6_mixPlayers_100 : decode cX6_mixPlayers 100 = .ok (.iload 5, 2) := by decide +kernel
theorem dX6_mixPlayers_102 : decode cX6_mixPlayers 102 = .ok (.invokevirtual 368, 3) := by decide +kernel
theorem dX6_mixPlayers_105 : decode cX6_mixPlayers 105 = .ok (.i2l, 1) := by decide +kernel
theorem dX6_mixPlayers_106 : decode cX6_mixPlayers 106 = .ok (.invokestatic 301, 3) := by decide +kernel
theorem dX6_mixPlayers_109 : decode cX6_mixPlayers 109 = .ok (.lstore_n 3, 1) := by decide +kernel
theorem dX6_mixPlayers_110 : decode cX6_mixPlayers 110 = .ok (.iinc 5 1, 3) := by decide +kernel
theorem dX6_mixPlayers_113 : decode cX6_mixPlayers 113 = .ok (.goto (-108), 3) := by decide +kernel
theorem dX6_mixPlayers_116 : decode cX6_mixPlayers 116 = .ok (.lload_n 3, 1) := by decide +kernel
theorem dX6_mixPlayers_117 : decode cX6_mixPlayers 117 = .ok (.lreturn, 1) := by decide +kernel
theorem dX6_mix_0 : decode cX6_mix 0 = .ok (.ldc2_w 371, 3) := by decide +kernel
theorem dX6_mix_3 : decode cX6_mix 3 = .ok (.lload_n 0, 1) := by decide +kernel
theorem dX6_mix_4 : decode cX6_mix 4 = .ok (.lmul, 1) := by decide +kernel
theorem dX6_mix_5 : decode cX6_mix 5 = .ok (.lload_n 2, 1) := by decide +kernel
theorem dX6_mix_6 : decode cX6_mix 6 = .ok (.ladd, 1) := by decide +kernel
theorem dX6_mix_7 : decode cX6_mix 7 = .ok (.lreturn, 1) := by decide +kernel
theorem dX6_within_0 : decode cX6_within 0 = .ok (.iload_n 0, 1) := by decide +kernel
theorem dX6_within_1 : decode cX6_within 1 = .ok (.iload_n 1, 1) := by decide +kernel
theorem dX6_within_2 : decode cX6_within 2 = .ok (.if_icmp .lt 12, 3) := by decide +kernel
theorem dX6_within_5 : decode cX6_within 5 = .ok (.iload_n 0, 1) := by decide +kernel
theorem dX6_within_6 : decode cX6_within 6 = .ok (.iload_n 2, 1) := by decide +kernel
theorem dX6_within_7 : decode cX6_within 7 = .ok (.if_icmp .gt 7, 3) := by decide +kernel
theorem dX6_within_10 : decode cX6_within 10 = .ok (.iconst 1, 1) := by decide +kernel
theorem dX6_within_11 : decode cX6_within 11 = .ok (.goto 4, 3) := by decide +kernel
theorem dX6_within_14 : decode cX6_within 14 = .ok (.iconst 0, 1) := by decide +kernel
theorem dX6_within_15 : decode cX6_within 15 = .ok (.ireturn, 1) := by decide +kernel
theorem dX6_isEvent_0 : decode cX6_isEvent 0 = .ok (.iload_n 0, 1) := by decide +kernel
theorem dX6_isEvent_1 : decode cX6_isEvent 1 = .ok (.iconst 0, 1) := by decide +kernel
theorem dX6_isEvent_2 : decode cX6_isEvent 2 = .ok (.iconst 2, 1) := by decide +kernel
theorem dX6_isEvent_3 : decode cX6_isEvent 3 = .ok (.invokestatic 89, 3) := by decide +kernel
theorem dX6_isEvent_6 : decode cX6_isEvent 6 = .ok (.ifCond .eq 17, 3) := by decide +kernel
theorem dX6_isEvent_9 : decode cX6_isEvent 9 = .ok (.iload_n 1, 1) := by decide +kernel
theorem dX6_isEvent_10 : decode cX6_isEvent 10 = .ok (.iconst 0, 1) := by decide +kernel
theorem dX6_isEvent_11 : decode cX6_isEvent 11 = .ok (.bipush 23, 2) := by decide +kernel
theorem dX6_isEvent_13 : decode cX6_isEvent 13 = .ok (.invokestatic 89, 3) := by decide +kernel
theorem dX6_isEvent_16 : decode cX6_isEvent 16 = .ok (.ifCond .eq 7, 3) := by decide +kernel
theorem dX6_isEvent_19 : decode cX6_isEvent 19 = .ok (.iconst 1, 1) := by decide +kernel
theorem dX6_isEvent_20 : decode cX6_isEvent 20 = .ok (.goto 4, 3) := by decide +kernel
theorem dX6_isEvent_23 : decode cX6_isEvent 23 = .ok (.iconst 0, 1) := by decide +kernel
theorem dX6_isEvent_24 : decode cX6_isEvent 24 = .ok (.ireturn, 1) := by decide +kernel
theorem dX6_isPlayer_0 : decode cX6_isPlayer 0 = .ok (.iload_n 1, 1) := by decide +kernel
theorem dX6_isPlayer_1 : decode cX6_isPlayer 1 = .ok (.iconst 0, 1) := by decide +kernel
theorem dX6_isPlayer_2 : decode cX6_isPlayer 2 = .ok (.aload_n 0, 1) := by decide +kernel
theorem dX6_isPlayer_3 : decode cX6_isPlayer 3 = .ok (.getfield 24, 3) := by decide +kernel
theorem dX6_isPlayer_6 : decode cX6_isPlayer 6 = .ok (.getfield 193, 3) := by decide +kernel
theorem dX6_isPlayer_9 : decode cX6_isPlayer 9 = .ok (.iconst 1, 1) := by decide +kernel
theorem dX6_isPlayer_10 : decode cX6_isPlayer 10 = .ok (.isub, 1) := by decide +kernel
theorem dX6_isPlayer_11 : decode cX6_isPlayer 11 = .ok (.invokestatic 89, 3) := by decide +kernel
theorem dX6_isPlayer_14 : decode cX6_isPlayer 14 = .ok (.ireturn, 1) := by decide +kernel
theorem dX6_isNote_0 : decode cX6_isNote 0 = .ok (.iload_n 1, 1) := by decide +kernel
theorem dX6_isNote_1 : decode cX6_isNote 1 = .ok (.iconst 0, 1) := by decide +kernel
theorem dX6_isNote_2 : decode cX6_isNote 2 = .ok (.aload_n 0, 1) := by decide +kernel
theorem dX6_isNote_3 : decode cX6_isNote 3 = .ok (.getfield 24, 3) := by decide +kernel
theorem dX6_isNote_6 : decode cX6_isNote 6 = .ok (.getfield 120, 3) := by decide +kernel
theorem dX6_isNote_9 : decode cX6_isNote 9 = .ok (.iconst 1, 1) := by decide +kernel
theorem dX6_isNote_10 : decode cX6_isNote 10 = .ok (.isub, 1) := by decide +kernel
theorem dX6_isNote_11 : decode cX6_isNote 11 = .ok (.invokestatic 89, 3) := by decide +kernel
theorem dX6_isNote_14 : decode cX6_isNote 14 = .ok (.ireturn, 1) := by decide +kernel
theorem dX6_textOf_0 : decode cX6_textOf 0 = .ok (.iload_n 1, 1) := by decide +kernel
theorem dX6_textOf_1 : decode cX6_textOf 1 = .ok (.ifCond .ne 10, 3) := by decide +kernel
theorem dX6_textOf_4 : decode cX6_textOf 4 = .ok (.aload_n 0, 1) := by decide +kernel
theorem dX6_textOf_5 : decode cX6_textOf 5 = .ok (.getfield 14, 3) := by decide +kernel
theorem dX6_textOf_8 : decode cX6_textOf 8 = .ok (.goto 7, 3) := by decide +kernel
theorem dX6_textOf_11 : decode cX6_textOf 11 = .ok (.aload_n 0, 1) := by decide +kernel
theorem dX6_textOf_12 : decode cX6_textOf 12 = .ok (.getfield 18, 3) := by decide +kernel
theorem dX6_textOf_15 : decode cX6_textOf 15 = .ok (.areturn, 1) := by decide +kernel
theorem dX6_found_0 : decode cX6_found 0 = .ok (.aload_n 0, 1) := by decide +kernel
theorem dX6_found_1 : decode cX6_found 1 = .ok (.iload_n 1, 1) := by decide +kernel
theorem dX6_found_2 : decode cX6_found 2 = .ok (.putfield 84, 3) := by decide +kernel
theorem dX6_found_5 : decode cX6_found 5 = .ok (.bipush (-10), 2) := by decide +kernel
theorem dX6_found_7 : decode cX6_found 7 = .ok (.iload_n 1, 1) := by decide +kernel
theorem dX6_found_8 : decode cX6_found 8 = .ok (.isub, 1) := by decide +kernel
theorem dX6_found_9 : decode cX6_found 9 = .ok (.ireturn, 1) := by decide +kernel
theorem dX6_takeTexts_0 : decode cX6_takeTexts 0 = .ok (.aload_n 0, 1) := by decide +kernel
theorem dX6_takeTexts_1 : decode cX6_takeTexts 1 = .ok (.getfield 24, 3) := by decide +kernel
theorem dX6_takeTexts_4 : decode cX6_takeTexts 4 = .ok (.aload_n 0, 1) := by decide +kernel
theorem dX6_takeTexts_5 : decode cX6_takeTexts 5 = .ok (.getfield 14, 3) := by decide +kernel
theorem dX6_takeTexts_8 : decode cX6_takeTexts 8 = .ok (.invokevirtual 373, 3) := by decide +kernel
theorem dX6_takeTexts_11 : decode cX6_takeTexts 11 = .ok (.aload_n 0, 1) := by decide +kernel
theorem dX6_takeTexts_12 : decode cX6_takeTexts 12 = .ok (.getfield 24, 3) := by decide +kernel
theorem dX6_takeTexts_15 : decode cX6_takeTexts 15 = .ok (.aload_n 0, 1) := by decide +kernel
theorem dX6_takeTexts_16 : decode cX6_takeTexts 16 = .ok (.getfield 18, 3) := by decide +kernel
theorem dX6_takeTexts_19 : decode cX6_takeTexts 19 = .ok (.invokevirtual 377, 3) := by decide +kernel
theorem dX6_takeTexts_22 : decode cX6_takeTexts 22 = .ok (.aload_n 0, 1) := by decide +kernel
theorem dX6_takeTexts_23 : decode cX6_takeTexts 23 = .ok (.invokevirtual 132, 3) := by decide +kernel
theorem dX6_takeTexts_26 : decode cX6_takeTexts 26 = .ok (.return_, 1) := by decide +kernel
theorem dX6_unlearn_0 : decode cX6_unlearn 0 = .ok (.aload_n 0, 1) := by decide +kernel
theorem dX6_unlearn_1 : decode cX6_unlearn 1 = .ok (.iconst 0, 1) := by decide +kernel
theorem dX6_unlearn_2 : decode cX6_unlearn 2 = .ok (.putfield 77, 3) := by decide +kernel
theorem dX6_unlearn_5 : decode cX6_unlearn 5 = .ok (.aload_n 0, 1) := by decide +kernel
theorem dX6_unlearn_6 : decode cX6_unlearn 6 = .ok (.iconst 0, 1) := by decide +kernel
theorem dX6_unlearn_7 : decode cX6_unlearn 7 = .ok (.putfield 81, 3) := by decide +kernel
theorem dX6_unlearn_10 : decode cX6_unlearn 10 = .ok (.aload_n 0, 1) := by decide +kernel
theorem dX6_unlearn_11 : decode cX6_unlearn 11 = .ok (.getfield 51, 3) := by decide +kernel
theorem dX6_unlearn_14 : decode cX6_unlearn 14 = .ok (.iconst 0, 1) := by decide +kernel
theorem dX6_unlearn_15 : decode cX6_unlearn 15 = .ok (.putfield 196, 3) := by decide +kernel
theorem dX6_unlearn_18 : decode cX6_unlearn 18 = .ok (.aload_n 0, 1) := by decide +kernel
theorem dX6_unlearn_19 : decode cX6_unlearn 19 = .ok (.getfield 55, 3) := by decide +kernel
theorem dX6_unlearn_22 : decode cX6_unlearn 22 = .ok (.iconst 0, 1) := by decide +kernel
theorem dX6_unlearn_23 : decode cX6_unlearn 23 = .ok (.putfield 196, 3) := by decide +kernel
theorem dX6_unlearn_26 : decode cX6_unlearn 26 = .ok (.aload_n 0, 1) := by decide +kernel
theorem dX6_unlearn_27 : decode cX6_unlearn 27 = .ok (.getfield 58, 3) := by decide +kernel
theorem dX6_unlearn_30 : decode cX6_unlearn 30 = .ok (.iconst 0, 1) := by decide +kernel
theorem dX6_unlearn_31 : decode cX6_unlearn 31 = .ok (.putfield 196, 3) := by decide +kernel
theorem dX6_unlearn_34 : decode cX6_unlearn 34 = .ok (.aload_n 0, 1) := by decide +kernel
theorem dX6_unlearn_35 : decode cX6_unlearn 35 = .ok (.getfield 61, 3) := by decide +kernel
theorem dX6_unlearn_38 : decode cX6_unlearn 38 = .ok (.iconst 0, 1) := by decide +kernel
theorem dX6_unlearn_39 : decode cX6_unlearn 39 = .ok (.putfield 196, 3) := by decide +kernel
theorem dX6_unlearn_42 : decode cX6_unlearn 42 = .ok (.return_, 1) := by decide +kernel
theorem dX6_runAsTold_0 : decode cX6_runAsTold 0 = .ok (.aload_n 0, 1) := by decide +kernel
theorem dX6_runAsTold_1 : decode cX6_runAsTold 1 = .ok (.getfield 77, 3) := by decide +kernel
theorem dX6_runAsTold_4 : decode cX6_runAsTold 4 = .ok (.ifCond .ne 19, 3) := by decide +kernel
theorem dX6_runAsTold_7 : decode cX6_runAsTold 7 = .ok (.aload_n 0, 1) := by decide +kernel
theorem dX6_runAsTold_8 : decode cX6_runAsTold 8 = .ok (.getfield 34, 3) := by decide +kernel
theorem dX6_runAsTold_11 : decode cX6_runAsTold 11 = .ok (.aload_n 0, 1) := by decide +kernel
theorem dX6_runAsTold_12 : decode cX6_runAsTold 12 = .ok (.getfield 24, 3) := by decide +kernel
theorem dX6_runAsTold_15 : decode cX6_runAsTold 15 = .ok (.invokevirtual 265, 3) := by decide +kernel
theorem dX6_runAsTold_18 : decode cX6_runAsTold 18 = .ok (.aload_n 0, 1) := by decide +kernel
theorem dX6_runAsTold_19 : decode cX6_runAsTold 19 = .ok (.iconst 1, 1) := by decide +kernel
theorem dX6_runAsTold_20 : decode cX6_runAsTold 20 = .ok (.putfield 77, 3) := by decide +kernel
theorem dX6_runAsTold_23 : decode cX6_runAsTold 23 = .ok (.aload_n 0, 1) := by decide +kernel
theorem dX6_runAsTold_24 : decode cX6_runAsTold 24 = .ok (.getfield 34, 3) := by decide +kernel
theorem dX6_runAsTold_27 : decode cX6_runAsTold 27 = .ok (.areturn, 1) := by decide +kernel
theorem dX6_triedSounds_0 : decode cX6_triedSounds 0 = .ok (.aload_n 0, 1) := by decide +kernel
theorem dX6_triedSounds_1 : decode cX6_triedSounds 1 = .ok (.getfield 38, 3) := by decide +kernel
theorem dX6_triedSounds_4 : decode cX6_triedSounds 4 = .ok (.aload_n 0, 1) := by decide +kernel
theorem dX6_triedSounds_5 : decode cX6_triedSounds 5 = .ok (.getfield 28, 3) := by decide +kernel
theorem dX6_triedSounds_8 : decode cX6_triedSounds 8 = .ok (.invokevirtual 265, 3) := by decide +kernel
theorem dX6_triedSounds_11 : decode cX6_triedSounds 11 = .ok (.aload_n 0, 1) := by decide +kernel
theorem dX6_triedSounds_12 : decode cX6_triedSounds 12 = .ok (.getfield 38, 3) := by decide +kernel
theorem dX6_triedSounds_15 : decode cX6_triedSounds 15 = .ok (.getfield 184, 3) := by decide +kernel
theorem dX6_triedSounds_18 : decode cX6_triedSounds 18 = .ok (.ireturn, 1) := by decide +kernel
theorem dX6_triedFits_0 : decode cX6_triedFits 0 = .ok (.aload_n 0, 1) := by decide +kernel
theorem dX6_triedFits_1 : decode cX6_triedFits 1 = .ok (.getfield 38, 3) := by decide +kernel
theorem dX6_triedFits_4 : decode cX6_triedFits 4 = .ok (.aload_n 0, 1) := by decide +kernel
theorem dX6_triedFits_5 : decode cX6_triedFits 5 = .ok (.getfield 28, 3) := by decide +kernel
theorem dX6_triedFits_8 : decode cX6_triedFits 8 = .ok (.invokevirtual 265, 3) := by decide +kernel
theorem dX6_triedFits_11 : decode cX6_triedFits 11 = .ok (.aload_n 0, 1) := by decide +kernel
theorem dX6_triedFits_12 : decode cX6_triedFits 12 = .ok (.getfield 44, 3) := by decide +kernel
theorem dX6_triedFits_15 : decode cX6_triedFits 15 = .ok (.aload_n 0, 1) := by decide +kernel
theorem dX6_triedFits_16 : decode cX6_triedFits 16 = .ok (.getfield 38, 3) := by decide +kernel
theorem dX6_triedFits_19 : decode cX6_triedFits 19 = .ok (.aload_n 0, 1) := by decide +kernel
theorem dX6_triedFits_20 : decode cX6_triedFits 20 = .ok (.getfield 28, 3) := by decide +kernel
theorem dX6_triedFits_23 : decode cX6_triedFits 23 = .ok (.getfield 120, 3) := by decide +kernel
theorem dX6_triedFits_26 : decode cX6_triedFits 26 = .ok (.invokevirtual 380, 3) := by decide +kernel
theorem dX6_triedFits_29 : decode cX6_triedFits 29 = .ok (.ireturn, 1) := by decide +kernel
theorem dX6_searchFill_0 : decode cX6_searchFill 0 = .ok (.aload_n 0, 1) := by decide +kernel
theorem dX6_searchFill_1 : decode cX6_searchFill 1 = .ok (.getfield 28, 3) := by decide +kernel
theorem dX6_searchFill_4 : decode cX6_searchFill 4 = .ok (.aload_n 0, 1) := by decide +kernel
theorem dX6_searchFill_5 : decode cX6_searchFill 5 = .ok (.getfield 24, 3) := by decide +kernel
theorem dX6_searchFill_8 : decode cX6_searchFill 8 = .ok (.invokevirtual 224, 3) := by decide +kernel
theorem dX6_searchFill_11 : decode cX6_searchFill 11 = .ok (.aload_n 0, 1) := by decide +kernel
theorem dX6_searchFill_12 : decode cX6_searchFill 12 = .ok (.getfield 51, 3) := by decide +kernel
theorem dX6_searchFill_15 : decode cX6_searchFill 15 = .ok (.invokevirtual 384, 3) := by decide +kernel
theorem dX6_searchFill_18 : decode cX6_searchFill 18 = .ok (.iconst 1, 1) := by decide +kernel
theorem dX6_searchFill_19 : decode cX6_searchFill 19 = .ok (.istore_n 1, 1) := by decide +kernel
theorem dX6_searchFill_20 : decode cX6_searchFill 20 = .ok (.iload_n 1, 1) := by decide +kernel
theorem dX6_searchFill_21 : decode cX6_searchFill 21 = .ok (.bipush 99, 2) := by decide +kernel
theorem dX6_searchFill_23 : decode cX6_searchFill 23 = .ok (.if_icmp .gt 30, 3) := by decide +kernel
theorem dX6_searchFill_26 : decode cX6_searchFill 26 = .ok (.aload_n 0, 1) := by decide +kernel
theorem dX6_searchFill_27 : decode cX6_searchFill 27 = .ok (.getfield 28, 3) := by decide +kernel
theorem dX6_searchFill_30 : decode cX6_searchFill 30 = .ok (.iload_n 1, 1) := by decide +kernel
theorem dX6_searchFill_31 : decode cX6_searchFill 31 = .ok (.putfield 129, 3) := by decide +kernel
theorem dX6_searchFill_34 : decode cX6_searchFill 34 = .ok (.aload_n 0, 1) := by decide +kernel
theorem dX6_searchFill_35 : decode cX6_searchFill 35 = .ok (.getfield 51, 3) := by decide +kernel
theorem dX6_searchFill_38 : decode cX6_searchFill 38 = .ok (.iload_n 1, 1) := by decide +kernel
theorem dX6_searchFill_39 : decode cX6_searchFill 39 = .ok (.iconst (-1), 1) := by decide +kernel
theorem dX6_searchFill_40 : decode cX6_searchFill 40 = .ok (.aload_n 0, 1) := by decide +kernel
theorem dX6_searchFill_41 : decode cX6_searchFill 41 = .ok (.invokevirtual 387, 3) := by decide +kernel
theorem dX6_searchFill_44 : decode cX6_searchFill 44 = .ok (.invokevirtual 390, 3) := by decide +kernel
theorem dX6_searchFill_47 : decode cX6_searchFill 47 = .ok (.iinc 1 1, 3) := by decide +kernel
theorem dX6_searchFill_50 : decode cX6_searchFill 50 = .ok (.goto (-30), 3) := by decide +kernel
theorem dX6_searchFill_53 : decode cX6_searchFill 53 = .ok (.return_, 1) := by decide +kernel
theorem dX6_searchSwap_0 : decode cX6_searchSwap 0 = .ok (.aload_n 0, 1) := by decide +kernel
theorem dX6_searchSwap_1 : decode cX6_searchSwap 1 = .ok (.getfield 28, 3) := by decide +kernel
theorem dX6_searchSwap_4 : decode cX6_searchSwap 4 = .ok (.aload_n 0, 1) := by decide +kernel
theorem dX6_searchSwap_5 : decode cX6_searchSwap 5 = .ok (.getfield 24, 3) := by decide +kernel
theorem dX6_searchSwap_8 : decode cX6_searchSwap 8 = .ok (.invokevirtual 224, 3) := by decide +kernel
theorem dX6_searchSwap_11 : decode cX6_searchSwap 11 = .ok (.aload_n 0, 1) := by decide +kernel
theorem dX6_searchSwap_12 : decode cX6_searchSwap 12 = .ok (.getfield 55, 3) := by decide +kernel
theorem dX6_searchSwap_15 : decode cX6_searchSwap 15 = .ok (.invokevirtual 384, 3) := by decide +kernel
theorem dX6_searchSwap_18 : decode cX6_searchSwap 18 = .ok (.iconst 0, 1) := by decide +kernel
theorem dX6_searchSwap_19 : decode cX6_searchSwap 19 = .ok (.istore_n 1, 1) := by decide +kernel
theorem dX6_searchSwap_20 : decode cX6_searchSwap 20 = .ok (.iload_n 1, 1) := by decide +kernel
theorem dX6_searchSwap_21 : decode cX6_searchSwap 21 = .ok (.aload_n 0, 1) := by decide +kernel
theorem dX6_searchSwap_22 : decode cX6_searchSwap 22 = .ok (.getfield 24, 3) := by decide +kernel
theorem dX6_searchSwap_25 : decode cX6_searchSwap 25 = .ok (.getfield 193, 3) := by decide +kernel
theorem dX6_searchSwap_28 : decode cX6_searchSwap 28 = .ok (.if_icmp .ge 61, 3) := by decide +kernel
theorem dX6_searchSwap_31 : decode cX6_searchSwap 31 = .ok (.iload_n 1, 1) := by decide +kernel
theorem dX6_searchSwap_32 : decode cX6_searchSwap 32 = .ok (.iconst 1, 1) := by decide +kernel
theorem dX6_searchSwap_33 : decode cX6_searchSwap 33 = .ok (.iadd, 1) := by decide +kernel
theorem dX6_searchSwap_34 : decode cX6_searchSwap 34 = .ok (.istore_n 2, 1) := by decide +kernel
theorem dX6_searchSwap_35 : decode cX6_searchSwap 35 = .ok (.iload_n 2, 1) := by decide +kernel
theorem dX6_searchSwap_36 : decode cX6_searchSwap 36 = .ok (.aload_n 0, 1) := by decide +kernel
theorem dX6_searchSwap_37 : decode cX6_searchSwap 37 = .ok (.getfield 24, 3) := by decide +kernel
theorem dX6_searchSwap_40 : decode cX6_searchSwap 40 = .ok (.getfield 193, 3) := by decide +kernel
theorem dX6_searchSwap_43 : decode cX6_searchSwap 43 = .ok (.if_icmp .ge 40, 3) := by decide +kernel
theorem dX6_searchSwap_46 : decode cX6_searchSwap 46 = .ok (.aload_n 0, 1) := by decide +kernel
theorem dX6_searchSwap_47 : decode cX6_searchSwap 47 = .ok (.getfield 28, 3) := by decide +kernel
theorem dX6_searchSwap_50 : decode cX6_searchSwap 50 = .ok (.iload_n 1, 1) := by decide +kernel
theorem dX6_searchSwap_51 : decode cX6_searchSwap 51 = .ok (.iload_n 2, 1) := by decide +kernel
theorem dX6_searchSwap_52 : decode cX6_searchSwap 52 = .ok (.invokevirtual 394, 3) := by decide +kernel
theorem dX6_searchSwap_55 : decode cX6_searchSwap 55 = .ok (.aload_n 0, 1) := by decide +kernel
theorem dX6_searchSwap_56 : decode cX6_searchSwap 56 = .ok (.getfield 55, 3) := by decide +kernel
theorem dX6_searchSwap_59 : decode cX6_searchSwap 59 = .ok (.iload_n 1, 1) := by decide +kernel
theorem dX6_searchSwap_60 : decode cX6_searchSwap 60 = .ok (.iload_n 2, 1) := by decide +kernel
theorem dX6_searchSwap_61 : decode cX6_searchSwap 61 = .ok (.aload_n 0, 1) := by decide +kernel
theorem dX6_searchSwap_62 : decode cX6_searchSwap 62 = .ok (.invokevirtual 387, 3) := by decide +kernel
theorem dX6_searchSwap_65 : decode cX6_searchSwap 65 = .ok (.invokevirtual 390, 3) := by decide +kernel
theorem dX6_searchSwap_68 : decode cX6_searchSwap 68 = .ok (.aload_n 0, 1) := by decide +kernel
theorem dX6_searchSwap_69 : decode cX6_searchSwap 69 = .ok (.getfield 28, 3) := by decide +kernel
theorem dX6_searchSwap_72 : decode cX6_searchSwap 72 = .ok (.iload_n 1, 1) := by decide +kernel
theorem dX6_searchSwap_73 : decode cX6_searchSwap 73 = .ok (.iload_n 2, 1) := by decide +kernel
theorem dX6_searchSwap_74 : decode cX6_searchSwap 74 = .ok (.invokevirtual 394, 3) := by decide +kernel
theorem dX6_searchSwap_77 : decode cX6_searchSwap 77 = .ok (.iinc 2 1, 3) := by decide +kernel
theorem dX6_searchSwap_80 : decode cX6_searchSwap 80 = .ok (.goto (-45), 3) := by decide +kernel
theorem dX6_searchSwap_83 : decode cX6_searchSwap 83 = .ok (.iinc 1 1, 3) := by decide +kernel
theorem dX6_searchSwap_86 : decode cX6_searchSwap 86 = .ok (.goto (-66), 3) := by decide +kernel
theorem dX6_searchSwap_89 : decode cX6_searchSwap 89 = .ok (.return_, 1) := by decide +kernel
theorem dX6_searchHold_0 : decode cX6_searchHold 0 = .ok (.aload_n 0, 1) := by decide +kernel
theorem dX6_searchHold_1 : decode cX6_searchHold 1 = .ok (.getfield 28, 3) := by decide +kernel
theorem dX6_searchHold_4 : decode cX6_searchHold 4 = .ok (.aload_n 0, 1) := by decide +kernel
theorem dX6_searchHold_5 : decode cX6_searchHold 5 = .ok (.getfield 24, 3) := by decide +kernel
theorem dX6_searchHold_8 : decode cX6_searchHold 8 = .ok (.invokevirtual 224, 3) := by decide +kernel
theorem dX6_searchHold_11 : decode cX6_searchHold 11 = .ok (.aload_n 0, 1) := by decide +kernel
theorem dX6_searchHold_12 : decode cX6_searchHold 12 = .ok (.getfield 58, 3) := by decide +kernel
theorem dX6_searchHold_15 : decode cX6_searchHold 15 = .ok (.invokevirtual 384, 3) := by decide +kernel
theorem dX6_searchHold_18 : decode cX6_searchHold 18 = .ok (.iconst 0, 1) := by decide +kernel
theorem dX6_searchHold_19 : decode cX6_searchHold 19 = .ok (.istore_n 1, 1) := by decide +kernel
theorem dX6_searchHold_20 : decode cX6_searchHold 20 = .ok (.iload_n 1, 1) := by decide +kernel
theorem dX6_searchHold_21 : decode cX6_searchHold 21 = .ok (.bipush 24, 2) := by decide +kernel
theorem dX6_searchHold_23 : decode cX6_searchHold 23 = .ok (.if_icmp .ge 30, 3) := by decide +kernel
theorem dX6_searchHold_26 : decode cX6_searchHold 26 = .ok (.aload_n 0, 1) := by decide +kernel
theorem dX6_searchHold_27 : decode cX6_searchHold 27 = .ok (.getfield 28, 3) := by decide +kernel
theorem dX6_searchHold_30 : decode cX6_searchHold 30 = .ok (.iload_n 1, 1) := by decide +kernel
theorem dX6_searchHold_31 : decode cX6_searchHold 31 = .ok (.putfield 397, 3) := by decide +kernel
theorem dX6_searchHold_34 : decode cX6_searchHold 34 = .ok (.aload_n 0, 1) := by decide +kernel
theorem dX6_searchHold_35 : decode cX6_searchHold 35 = .ok (.getfield 58, 3) := by decide +kernel
theorem dX6_searchHold_38 : decode cX6_searchHold 38 = .ok (.iload_n 1, 1) := by decide +kernel
theorem dX6_searchHold_39 : decode cX6_searchHold 39 = .ok (.iconst (-1), 1) := by decide +kernel
theorem dX6_searchHold_40 : decode cX6_searchHold 40 = .ok (.aload_n 0, 1) := by decide +kernel
theorem dX6_searchHold_41 : decode cX6_searchHold 41 = .ok (.invokevirtual 387, 3) := by decide +kernel
theorem dX6_searchHold_44 : decode cX6_searchHold 44 = .ok (.invokevirtual 390, 3) := by decide +kernel
theorem dX6_searchHold_47 : decode cX6_searchHold 47 = .ok (.iinc 1 1, 3) := by decide +kernel
theorem dX6_searchHold_50 : decode cX6_searchHold 50 = .ok (.goto (-30), 3) := by decide +kernel
theorem dX6_searchHold_53 : decode cX6_searchHold 53 = .ok (.return_, 1) := by decide +kernel
theorem dX6_searchSpare_0 : decode cX6_searchSpare 0 = .ok (.aload_n 0, 1) := by decide +kernel
theorem dX6_searchSpare_1 : decode cX6_searchSpare 1 = .ok (.getfield 28, 3) := by decide +kernel
theorem dX6_searchSpare_4 : decode cX6_searchSpare 4 = .ok (.aload_n 0, 1) := by decide +kernel
theorem dX6_searchSpare_5 : decode cX6_searchSpare 5 = .ok (.getfield 24, 3) := by decide +kernel
theorem dX6_searchSpare_8 : decode cX6_searchSpare 8 = .ok (.invokevirtual 224, 3) := by decide +kernel
theorem dX6_searchSpare_11 : decode cX6_searchSpare 11 = .ok (.aload_n 0, 1) := by decide +kernel
theorem dX6_searchSpare_12 : decode cX6_searchSpare 12 = .ok (.getfield 61, 3) := by decide +kernel
theorem dX6_searchSpare_15 : decode cX6_searchSpare 15 = .ok (.invokevirtual 384, 3) := by decide +kernel
theorem dX6_searchSpare_18 : decode cX6_searchSpare 18 = .ok (.aload_n 0, 1) := by decide +kernel
theorem dX6_searchSpare_19 : decode cX6_searchSpare 19 = .ok (.iconst 0, 1) := by decide +kernel
theorem dX6_searchSpare_20 : decode cX6_searchSpare 20 = .ok (.invokevirtual 400, 3) := by decide +kernel
theorem dX6_searchSpare_23 : decode cX6_searchSpare 23 = .ok (.ifCond .eq 14, 3) := by decide +kernel
theorem dX6_searchSpare_26 : decode cX6_searchSpare 26 = .ok (.aload_n 0, 1) := by decide +kernel
theorem dX6_searchSpare_27 : decode cX6_searchSpare 27 = .ok (.getfield 61, 3) := by decide +kernel
theorem dX6_searchSpare_30 : decode cX6_searchSpare 30 = .ok (.iconst (-1), 1) := by decide +kernel
theorem dX6_searchSpare_31 : decode cX6_searchSpare 31 = .ok (.iconst (-1), 1) := by decide +kernel
theorem dX6_searchSpare_32 : decode cX6_searchSpare 32 = .ok (.iconst 0, 1) := by decide +kernel
theorem dX6_searchSpare_33 : decode cX6_searchSpare 33 = .ok (.invokevirtual 390, 3) := by decide +kernel
theorem dX6_searchSpare_36 : decode cX6_searchSpare 36 = .ok (.return_, 1) := by decide +kernel
theorem dX6_searchSpare_37 : decode cX6_searchSpare 37 = .ok (.iconst 0, 1) := by decide +kernel
theorem dX6_searchSpare_38 : decode cX6_searchSpare 38 = .ok (.istore_n 1, 1) := by decide +kernel
theorem dX6_searchSpare_39 : decode cX6_searchSpare 39 = .ok (.iload_n 1, 1) := by decide +kernel
theorem dX6_searchSpare_40 : decode cX6_searchSpare 40 = .ok (.aload_n 0, 1) := by decide +kernel
theorem dX6_searchSpare_41 : decode cX6_searchSpare 41 = .ok (.getfield 24, 3) := by decide +kernel
theorem dX6_searchSpare_44 : decode cX6_searchSpare 44 = .ok (.getfield 142, 3) := by decide +kernel
theorem dX6_searchSpare_47 : decode cX6_searchSpare 47 = .ok (.if_icmp .ge 30, 3) := by decide +kernel
theorem dX6_searchSpare_50 : decode cX6_searchSpare 50 = .ok (.aload_n 0, 1) := by decide +kernel
theorem dX6_searchSpare_51 : decode cX6_searchSpare 51 = .ok (.iconst 1, 1) := by decide +kernel
theorem dX6_searchSpare_52 : decode cX6_searchSpare 52 = .ok (.iload_n 1, 1) := by decide +kernel
theorem dX6_searchSpare_53 : decode cX6_searchSpare 53 = .ok (.ishl, 1) := by decide +kernel
theorem dX6_searchSpare_54 : decode cX6_searchSpare 54 = .ok (.invokevirtual 400, 3) := by decide +kernel
theorem dX6_searchSpare_57 : decode cX6_searchSpare 57 = .ok (.ifCond .eq 14, 3) := by decide +kernel
theorem dX6_searchSpare_60 : decode cX6_searchSpare 60 = .ok (.aload_n 0, 1) := by decide +kernel
theorem dX6_searchSpare_61 : decode cX6_searchSpare 61 = .ok (.getfield 61, 3) := by decide +kernel
theorem dX6_searchSpare_64 : decode cX6_searchSpare 64 = .ok (.iload_n 1, 1) := by decide +kernel
theorem dX6_searchSpare_65 : decode cX6_searchSpare 65 = .ok (.iconst (-1), 1) := by decide +kernel
theorem dX6_searchSpare_66 : decode cX6_searchSpare 66 = .ok (.iconst 1, 1) := by decide +kernel
theorem dX6_searchSpare_67 : decode cX6_searchSpare 67 = .ok (.invokevirtual 390, 3) := by decide +kernel
theorem dX6_searchSpare_70 : decode cX6_searchSpare 70 = .ok (.return_, 1) := by decide +kernel
theorem dX6_searchSpare_71 : decode cX6_searchSpare 71 = .ok (.iinc 1 1, 3) := by decide +kernel
theorem dX6_searchSpare_74 : decode cX6_searchSpare 74 = .ok (.goto (-35), 3) := by decide +kernel
theorem dX6_searchSpare_77 : decode cX6_searchSpare 77 = .ok (.iconst 0, 1) := by decide +kernel
theorem dX6_searchSpare_78 : decode cX6_searchSpare 78 = .ok (.istore_n 1, 1) := by decide +kernel
theorem dX6_searchSpare_79 : decode cX6_searchSpare 79 = .ok (.iload_n 1, 1) := by decide +kernel
theorem dX6_searchSpare_80 : decode cX6_searchSpare 80 = .ok (.aload_n 0, 1) := by decide +kernel
theorem dX6_searchSpare_81 : decode cX6_searchSpare 81 = .ok (.getfield 24, 3) := by decide +kernel
theorem dX6_searchSpare_84 : decode cX6_searchSpare 84 = .ok (.getfield 142, 3) := by decide +kernel
theorem dX6_searchSpare_87 : decode cX6_searchSpare 87 = .ok (.if_icmp .ge 55, 3) := by decide +kernel
theorem dX6_searchSpare_90 : decode cX6_searchSpare 90 = .ok (.iload_n 1, 1) := by decide +kernel
theorem dX6_searchSpare_91 : decode cX6_searchSpare 91 = .ok (.iconst 1, 1) := by decide +kernel
theorem dX6_searchSpare_92 : decode cX6_searchSpare 92 = .ok (.iadd, 1) := by decide +kernel
theorem dX6_searchSpare_93 : decode cX6_searchSpare 93 = .ok (.istore_n 2, 1) := by decide +kernel
theorem dX6_searchSpare_94 : decode cX6_searchSpare 94 = .ok (.iload_n 2, 1) := by decide +kernel
theorem dX6_searchSpare_95 : decode cX6_searchSpare 95 = .ok (.aload_n 0, 1) := by decide +kernel
theorem dX6_searchSpare_96 : decode cX6_searchSpare 96 = .ok (.getfield 24, 3) := by decide +kernel
theorem dX6_searchSpare_99 : decode cX6_searchSpare 99 = .ok (.getfield 142, 3) := by decide +kernel
theorem dX6_searchSpare_102 : decode cX6_searchSpare 102 = .ok (.if_icmp .ge 34, 3) := by decide +kernel
theorem dX6_searchSpare_105 : decode cX6_searchSpare 105 = .ok (.aload_n 0, 1) := by decide +kernel
theorem dX6_searchSpare_106 : decode cX6_searchSpare 106 = .ok (.iconst 1, 1) := by decide +kernel
theorem dX6_searchSpare_107 : decode cX6_searchSpare 107 = .ok (.iload_n 1, 1) := by decide +kernel
theorem dX6_searchSpare_108 : decode cX6_searchSpare 108 = .ok (.ishl, 1) := by decide +kernel
theorem dX6_searchSpare_109 : decode cX6_searchSpare 109 = .ok (.iconst 1, 1) := by decide +kernel
theorem dX6_searchSpare_110 : decode cX6_searchSpare 110 = .ok (.iload_n 2, 1) := by decide +kernel
theorem dX6_searchSpare_111 : decode cX6_searchSpare 111 = .ok (.ishl, 1) := by decide +kernel
theorem dX6_searchSpare_112 : decode cX6_searchSpare 112 = .ok (.ior, 1) := by decide +kernel
theorem dX6_searchSpare_113 : decode cX6_searchSpare 113 = .ok (.invokevirtual 400, 3) := by decide +kernel
theorem dX6_searchSpare_116 : decode cX6_searchSpare 116 = .ok (.ifCond .eq 14, 3) := by decide +kernel
theorem dX6_searchSpare_119 : decode cX6_searchSpare 119 = .ok (.aload_n 0, 1) := by decide +kernel
theorem dX6_searchSpare_120 : decode cX6_searchSpare 120 = .ok (.getfield 61, 3) := by decide +kernel
theorem dX6_searchSpare_123 : decode cX6_searchSpare 123 = .ok (.iload_n 1, 1) := by decide +kernel
theorem dX6_searchSpare_124 : decode cX6_searchSpare 124 = .ok (.iload_n 2, 1) := by decide +kernel
theorem dX6_searchSpare_125 : decode cX6_searchSpare 125 = .ok (.iconst 2, 1) := by decide +kernel
theorem dX6_searchSpare_126 : decode cX6_searchSpare 126 = .ok (.invokevirtual 390, 3) := by decide +kernel
theorem dX6_searchSpare_129 : decode cX6_searchSpare 129 = .ok (.return_, 1) := by decide +kernel
theorem dX6_searchSpare_130 : decode cX6_searchSpare 130 = .ok (.iinc 2 1, 3) := by decide +kernel
theorem dX6_searchSpare_133 : decode cX6_searchSpare 133 = .ok (.goto (-39), 3) := by decide +kernel
theorem dX6_searchSpare_136 : decode cX6_searchSpare 136 = .ok (.iinc 1 1, 3) := by decide +kernel
theorem dX6_searchSpare_139 : decode cX6_searchSpare 139 = .ok (.goto (-60), 3) := by decide +kernel
theorem dX6_searchSpare_142 : decode cX6_searchSpare 142 = .ok (.return_, 1) := by decide +kernel
theorem dX6_noneMissedWithout_0 : decode cX6_noneMissedWithout 0 = .ok (.aload_n 0, 1) := by decide +kernel
theorem dX6_noneMissedWithout_1 : decode cX6_noneMissedWithout 1 = .ok (.getfield 28, 3) := by decide +kernel
theorem dX6_noneMissedWithout_4 : decode cX6_noneMissedWithout 4 = .ok (.iload_n 1, 1) := by decide +kernel
theorem dX6_noneMissedWithout_5 : decode cX6_noneMissedWithout 5 = .ok (.putfield 228, 3) := by decide +kernel
theorem dX6_noneMissedWithout_8 : decode cX6_noneMissedWithout 8 = .ok (.aload_n 0, 1) := by decide +kernel
theorem dX6_noneMissedWithout_9 : decode cX6_noneMissedWithout 9 = .ok (.getfield 38, 3) := by decide +kernel
theorem dX6_noneMissedWithout_12 : decode cX6_noneMissedWithout 12 = .ok (.aload_n 0, 1) := by decide +kernel
theorem dX6_noneMissedWithout_13 : decode cX6_noneMissedWithout 13 = .ok (.getfield 28, 3) := by decide +kernel
theorem dX6_noneMissedWithout_16 : decode cX6_noneMissedWithout 16 = .ok (.invokevirtual 265, 3) := by decide +kernel
theorem dX6_noneMissedWithout_19 : decode cX6_noneMissedWithout 19 = .ok (.aload_n 0, 1) := by decide +kernel
theorem dX6_noneMissedWithout_20 : decode cX6_noneMissedWithout 20 = .ok (.getfield 38, 3) := by decide +kernel
theorem dX6_noneMissedWithout_23 : decode cX6_noneMissedWithout 23 = .ok (.getfield 403, 3) := by decide +kernel
theorem dX6_noneMissedWithout_26 : decode cX6_noneMissedWithout 26 = .ok (.ifCond .ne 7, 3) := by decide +kernel
theorem dX6_noneMissedWithout_29 : decode cX6_noneMissedWithout 29 = .ok (.iconst 1, 1) := by decide +kernel
theorem dX6_noneMissedWithout_30 : decode cX6_noneMissedWithout 30 = .ok (.goto 4, 3) := by decide +kernel
theorem dX6_noneMissedWithout_33 : decode cX6_noneMissedWithout 33 = .ok (.iconst 0, 1) := by decide +kernel
theorem dX6_noneMissedWithout_34 : decode cX6_noneMissedWithout 34 = .ok (.ireturn, 1) := by decide +kernel
theorem dX6_learnSubsets_0 : decode cX6_learnSubsets 0 = .ok (.aload_n 0, 1) := by decide +kernel
theorem dX6_learnSubsets_1 : decode cX6_learnSubsets 1 = .ok (.getfield 28, 3) := by decide +kernel
theorem dX6_learnSubsets_4 : decode cX6_learnSubsets 4 = .ok (.aload_n 0, 1) := by decide +kernel
theorem dX6_learnSubsets_5 : decode cX6_learnSubsets 5 = .ok (.getfield 24, 3) := by decide +kernel
theorem dX6_learnSubsets_8 : decode cX6_learnSubsets 8 = .ok (.invokevirtual 224, 3) := by decide +kernel
theorem dX6_learnSubsets_11 : decode cX6_learnSubsets 11 = .ok (.iconst 1, 1) := by decide +kernel
theorem dX6_learnSubsets_12 : decode cX6_learnSubsets 12 = .ok (.aload_n 0, 1) := by decide +kernel
theorem dX6_learnSubsets_13 : decode cX6_learnSubsets 13 = .ok (.getfield 24, 3) := by decide +kernel
theorem dX6_learnSubsets_16 : decode cX6_learnSubsets 16 = .ok (.getfield 142, 3) := by decide +kernel
theorem dX6_learnSubsets_19 : decode cX6_learnSubsets 19 = .ok (.ishl, 1) := by decide +kernel
theorem dX6_learnSubsets_20 : decode cX6_learnSubsets 20 = .ok (.istore_n 1, 1) := by decide +kernel
theorem dX6_learnSubsets_21 : decode cX6_learnSubsets 21 = .ok (.iconst 0, 1) := by decide +kernel
theorem dX6_learnSubsets_22 : decode cX6_learnSubsets 22 = .ok (.istore_n 2, 1) := by decide +kernel
theorem dX6_learnSubsets_23 : decode cX6_learnSubsets 23 = .ok (.iload_n 2, 1) := by decide +kernel
theorem dX6_learnSubsets_24 : decode cX6_learnSubsets 24 = .ok (.iload_n 1, 1) := by decide +kernel
theorem dX6_learnSubsets_25 : decode cX6_learnSubsets 25 = .ok (.if_icmp .ge 41, 3) := by decide +kernel
theorem dX6_learnSubsets_28 : decode cX6_learnSubsets 28 = .ok (.aload_n 0, 1) := by decide +kernel
theorem dX6_learnSubsets_29 : decode cX6_learnSubsets 29 = .ok (.getfield 28, 3) := by decide +kernel
theorem dX6_learnSubsets_32 : decode cX6_learnSubsets 32 = .ok (.iload_n 2, 1) := by decide +kernel
theorem dX6_learnSubsets_33 : decode cX6_learnSubsets 33 = .ok (.putfield 228, 3) := by decide +kernel
theorem dX6_learnSubsets_36 : decode cX6_learnSubsets 36 = .ok (.aload_n 0, 1) := by decide +kernel
theorem dX6_learnSubsets_37 : decode cX6_learnSubsets 37 = .ok (.getfield 38, 3) := by decide +kernel
theorem dX6_learnSubsets_40 : decode cX6_learnSubsets 40 = .ok (.aload_n 0, 1) := by decide +kernel
theorem dX6_learnSubsets_41 : decode cX6_learnSubsets 41 = .ok (.getfield 28, 3) := by decide +kernel
theorem dX6_learnSubsets_44 : decode cX6_learnSubsets 44 = .ok (.invokevirtual 265, 3) := by decide +kernel
theorem dX6_learnSubsets_47 : decode cX6_learnSubsets 47 = .ok (.aload_n 0, 1) := by decide +kernel
theorem dX6_learnSubsets_48 : decode cX6_learnSubsets 48 = .ok (.getfield 64, 3) := by decide +kernel
theorem dX6_learnSubsets_51 : decode cX6_learnSubsets 51 = .ok (.iload_n 2, 1) := by decide +kernel
theorem dX6_learnSubsets_52 : decode cX6_learnSubsets 52 = .ok (.aload_n 0, 1) := by decide +kernel
theorem dX6_learnSubsets_53 : decode cX6_learnSubsets 53 = .ok (.getfield 38, 3) := by decide +kernel
theorem dX6_learnSubsets_56 : decode cX6_learnSubsets 56 = .ok (.getfield 406, 3) := by decide +kernel
theorem dX6_learnSubsets_59 : decode cX6_learnSubsets 59 = .ok (.iastore, 1) := by decide +kernel
theorem dX6_learnSubsets_60 : decode cX6_learnSubsets 60 = .ok (.iinc 2 1, 3) := by decide +kernel
theorem dX6_learnSubsets_63 : decode cX6_learnSubsets 63 = .ok (.goto (-40), 3) := by decide +kernel
theorem dX6_learnSubsets_66 : decode cX6_learnSubsets 66 = .ok (.aload_n 0, 1) := by decide +kernel
theorem dX6_learnSubsets_67 : decode cX6_learnSubsets 67 = .ok (.iconst 1, 1) := by decide +kernel
theorem dX6_learnSubsets_68 : decode cX6_learnSubsets 68 = .ok (.putfield 81, 3) := by decide +kernel
theorem dX6_learnSubsets_71 : decode cX6_learnSubsets 71 = .ok (.return_, 1) := by decide +kernel
theorem dX6_weight_0 : decode cX6_weight 0 = .ok (.lconst 1, 1) := by decide +kernel
theorem dX6_weight_1 : decode cX6_weight 1 = .ok (.lstore_n 3, 1) := by decide +kernel
theorem dX6_weight_2 : decode cX6_weight 2 = .ok (.iconst 0, 1) := by decide +kernel
theorem dX6_weight_3 : decode cX6_weight 3 = .ok (.istore 5, 2) := by decide +kernel
theorem dX6_weight_5 : decode cX6_weight 5 = .ok (.iload 5, 2) := by decide +kernel
theorem dX6_weight_7 : decode cX6_weight 7 = .ok (.aload_n 0, 1) := by decide +kernel
theorem dX6_weight_8 : decode cX6_weight 8 = .ok (.getfield 24, 3) := by decide +kernel
theorem dX6_weight_11 : decode cX6_weight 11 = .ok (.getfield 142, 3) := by decide +kernel
theorem dX6_weight_14 : decode cX6_weight 14 = .ok (.if_icmp .ge 28, 3) := by decide +kernel
theorem dX6_weight_17 : decode cX6_weight 17 = .ok (.lload_n 3, 1) := by decide +kernel
theorem dX6_weight_18 : decode cX6_weight 18 = .ok (.iload 5, 2) := by decide +kernel
theorem dX6_weight_20 : decode cX6_weight 20 = .ok (.iload_n 2, 1) := by decide +kernel
theorem dX6_weight_21 : decode cX6_weight 21 = .ok (.if_icmp .ge 11, 3) := by decide +kernel
theorem dX6_weight_24 : decode cX6_weight 24 = .ok (.bipush 16, 2) := by decide +kernel
theorem dX6_weight_26 : decode cX6_weight 26 = .ok (.iload_n 1, 1) := by decide +kernel
theorem dX6_weight_27 : decode cX6_weight 27 = .ok (.isub, 1) := by decide +kernel
theorem dX6_weight_28 : decode cX6_weight 28 = .ok (.i2l, 1) := by decide +kernel
theorem dX6_weight_29 : decode cX6_weight 29 = .ok (.goto 5, 3) := by decide +kernel
theorem dX6_weight_32 : decode cX6_weight 32 = .ok (.iload_n 1, 1) := by decide +kernel
theorem dX6_weight_33 : decode cX6_weight 33 = .ok (.i2l, 1) := by decide +kernel
theorem dX6_weight_34 : decode cX6_weight 34 = .ok (.lmul, 1) := by decide +kernel
theorem dX6_weight_35 : decode cX6_weight 35 = .ok (.lstore_n 3, 1) := by decide +kernel
theorem dX6_weight_36 : decode cX6_weight 36 = .ok (.iinc 5 1, 3) := by decide +kernel
theorem dX6_weight_39 : decode cX6_weight 39 = .ok (.goto (-34), 3) := by decide +kernel
theorem dX6_weight_42 : decode cX6_weight 42 = .ok (.lload_n 3, 1) := by decide +kernel
theorem dX6_weight_43 : decode cX6_weight 43 = .ok (.lreturn, 1) := by decide +kernel
theorem dX6_countAlike_0 : decode cX6_countAlike 0 = .ok (.aload_n 0, 1) := by decide +kernel
theorem dX6_countAlike_1 : decode cX6_countAlike 1 = .ok (.getfield 68, 3) := by decide +kernel
theorem dX6_countAlike_4 : decode cX6_countAlike 4 = .ok (.iconst 0, 1) := by decide +kernel
theorem dX6_countAlike_5 : decode cX6_countAlike 5 = .ok (.invokestatic 409, 3) := by decide +kernel
theorem dX6_countAlike_8 : decode cX6_countAlike 8 = .ok (.aload_n 0, 1) := by decide +kernel
theorem dX6_countAlike_9 : decode cX6_countAlike 9 = .ok (.getfield 28, 3) := by decide +kernel
theorem dX6_countAlike_12 : decode cX6_countAlike 12 = .ok (.aload_n 0, 1) := by decide +kernel
theorem dX6_countAlike_13 : decode cX6_countAlike 13 = .ok (.getfield 24, 3) := by decide +kernel
theorem dX6_countAlike_16 : decode cX6_countAlike 16 = .ok (.invokevirtual 224, 3) := by decide +kernel
theorem dX6_countAlike_19 : decode cX6_countAlike 19 = .ok (.iconst 0, 1) := by decide +kernel
theorem dX6_countAlike_20 : decode cX6_countAlike 20 = .ok (.istore_n 2, 1) := by decide +kernel
theorem dX6_countAlike_21 : decode cX6_countAlike 21 = .ok (.iload_n 2, 1) := by decide +kernel
theorem dX6_countAlike_22 : decode cX6_countAlike 22 = .ok (.iconst 4, 1) := by decide +kernel
theorem dX6_countAlike_23 : decode cX6_countAlike 23 = .ok (.if_icmp .ge 67, 3) := by decide +kernel
theorem dX6_countAlike_26 : decode cX6_countAlike 26 = .ok (.aload_n 0, 1) := by decide +kernel
theorem dX6_countAlike_27 : decode cX6_countAlike 27 = .ok (.getfield 28, 3) := by decide +kernel
theorem dX6_countAlike_30 : decode cX6_countAlike 30 = .ok (.getfield 117, 3) := by decide +kernel
theorem dX6_countAlike_33 : decode cX6_countAlike 33 = .ok (.iload_n 1, 1) := by decide +kernel
theorem dX6_countAlike_34 : decode cX6_countAlike 34 = .ok (.iload_n 2, 1) := by decide +kernel
theorem dX6_countAlike_35 : decode cX6_countAlike 35 = .ok (.iastore, 1) := by decide +kernel
theorem dX6_countAlike_36 : decode cX6_countAlike 36 = .ok (.aload_n 0, 1) := by decide +kernel
theorem dX6_countAlike_37 : decode cX6_countAlike 37 = .ok (.invokevirtual 231, 3) := by decide +kernel
theorem dX6_countAlike_40 : decode cX6_countAlike 40 = .ok (.ifCond .eq 44, 3) := by decide +kernel
theorem dX6_countAlike_43 : decode cX6_countAlike 43 = .ok (.iconst 0, 1) := by decide +kernel
theorem dX6_countAlike_44 : decode cX6_countAlike 44 = .ok (.istore_n 3, 1) := by decide +kernel
theorem dX6_countAlike_45 : decode cX6_countAlike 45 = .ok (.iload_n 3, 1) := by decide +kernel
theorem dX6_countAlike_46 : decode cX6_countAlike 46 = .ok (.aload_n 0, 1) := by decide +kernel
theorem dX6_countAlike_47 : decode cX6_countAlike 47 = .ok (.getfield 28, 3) := by decide +kernel
theorem dX6_countAlike_50 : decode cX6_countAlike 50 = .ok (.getfield 120, 3) := by decide +kernel
theorem dX6_countAlike_53 : decode cX6_countAlike 53 = .ok (.if_icmp .ge 31, 3) := by decide +kernel
theorem dX6_countAlike_56 : decode cX6_countAlike 56 = .ok (.aload_n 0, 1) := by decide +kernel
theorem dX6_countAlike_57 : decode cX6_countAlike 57 = .ok (.getfield 68, 3) := by decide +kernel
theorem dX6_countAlike_60 : decode cX6_countAlike 60 = .ok (.iload_n 3, 1) := by decide +kernel
theorem dX6_countAlike_61 : decode cX6_countAlike 61 = .ok (.iconst 3, 1) := by decide +kernel
theorem dX6_countAlike_62 : decode cX6_countAlike 62 = .ok (.imul, 1) := by decide +kernel
theorem dX6_countAlike_63 : decode cX6_countAlike 63 = .ok (.aload_n 0, 1) := by decide +kernel
theorem dX6_countAlike_64 : decode cX6_countAlike 64 = .ok (.getfield 38, 3) := by decide +kernel
theorem dX6_countAlike_67 : decode cX6_countAlike 67 = .ok (.getfield 172, 3) := by decide +kernel
theorem dX6_countAlike_70 : decode cX6_countAlike 70 = .ok (.iload_n 3, 1) := by decide +kernel
theorem dX6_countAlike_71 : decode cX6_countAlike 71 = .ok (.iaload, 1) := by decide +kernel
theorem dX6_countAlike_72 : decode cX6_countAlike 72 = .ok (.iadd, 1) := by decide +kernel
theorem dX6_countAlike_73 : decode cX6_countAlike 73 = .ok (.dup2, 1) := by decide +kernel
theorem dX6_countAlike_74 : decode cX6_countAlike 74 = .ok (.iaload, 1) := by decide +kernel
theorem dX6_countAlike_75 : decode cX6_countAlike 75 = .ok (.iconst 1, 1) := by decide +kernel
theorem dX6_countAlike_76 : decode cX6_countAlike 76 = .ok (.iadd, 1) := by decide +kernel
theorem dX6_countAlike_77 : decode cX6_countAlike 77 = .ok (.iastore, 1) := by decide +kernel
theorem dX6_countAlike_78 : decode cX6_countAlike 78 = .ok (.iinc 3 1, 3) := by decide +kernel
theorem dX6_countAlike_81 : decode cX6_countAlike 81 = .ok (.goto (-36), 3) := by decide +kernel
theorem dX6_countAlike_84 : decode cX6_countAlike 84 = .ok (.iinc 2 1, 3) := by decide +kernel
theorem dX6_countAlike_87 : decode cX6_countAlike 87 = .ok (.goto (-66), 3) := by decide +kernel
theorem dX6_countAlike_90 : decode cX6_countAlike 90 = .ok (.return_, 1) := by decide +kernel
theorem dX6_mostAlike_0 : decode cX6_mostAlike 0 = .ok (.iconst 0, 1) := by decide +kernel
theorem dX6_mostAlike_1 : decode cX6_mostAlike 1 = .ok (.istore_n 2, 1) := by decide +kernel
theorem dX6_mostAlike_2 : decode cX6_mostAlike 2 = .ok (.iconst 0, 1) := by decide +kernel
theorem dX6_mostAlike_3 : decode cX6_mostAlike 3 = .ok (.istore_n 3, 1) := by decide +kernel
theorem dX6_mostAlike_4 : decode cX6_mostAlike 4 = .ok (.iload_n 3, 1) := by decide +kernel
theorem dX6_mostAlike_5 : decode cX6_mostAlike 5 = .ok (.iconst 3, 1) := by decide +kernel
theorem dX6_mostAlike_6 : decode cX6_mostAlike 6 = .ok (.if_icmp .ge 24, 3) := by decide +kernel
theorem dX6_mostAlike_9 : decode cX6_mostAlike 9 = .ok (.iload_n 2, 1) := by decide +kernel
theorem dX6_mostAlike_10 : decode cX6_mostAlike 10 = .ok (.aload_n 0, 1) := by decide +kernel
theorem dX6_mostAlike_11 : decode cX6_mostAlike 11 = .ok (.getfield 68, 3) := by decide +kernel
theorem dX6_mostAlike_14 : decode cX6_mostAlike 14 = .ok (.iload_n 1, 1) := by decide +kernel
theorem dX6_mostAlike_15 : decode cX6_mostAlike 15 = .ok (.iconst 3, 1) := by decide +kernel
theorem dX6_mostAlike_16 : decode cX6_mostAlike 16 = .ok (.imul, 1) := by decide +kernel
theorem dX6_mostAlike_17 : decode cX6_mostAlike 17 = .ok (.iload_n 3, 1) := by decide +kernel
theorem dX6_mostAlike_18 : decode cX6_mostAlike 18 = .ok (.iadd, 1) := by decide +kernel
theorem dX6_mostAlike_19 : decode cX6_mostAlike 19 = .ok (.iaload, 1) := by decide +kernel
theorem dX6_mostAlike_20 : decode cX6_mostAlike 20 = .ok (.invokestatic 414, 3) := by decide +kernel
theorem dX6_mostAlike_23 : decode cX6_mostAlike 23 = .ok (.istore_n 2, 1) := by decide +kernel
theorem dX6_mostAlike_24 : decode cX6_mostAlike 24 = .ok (.iinc 3 1, 3) := by decide +kernel
theorem dX6_mostAlike_27 : decode cX6_mostAlike 27 = .ok (.goto (-23), 3) := by decide +kernel
theorem dX6_mostAlike_30 : decode cX6_mostAlike 30 = .ok (.iload_n 2, 1) := by decide +kernel
theorem dX6_mostAlike_31 : decode cX6_mostAlike 31 = .ok (.ireturn, 1) := by decide +kernel
theorem dX6_drawNotes_0 : decode cX6_drawNotes 0 = .ok (.aload_n 0, 1) := by decide +kernel
theorem dX6_drawNotes_1 : decode cX6_drawNotes 1 = .ok (.getfield 24, 3) := by decide +kernel
theorem dX6_drawNotes_4 : decode cX6_drawNotes 4 = .ok (.getfield 193, 3) := by decide +kernel
theorem dX6_drawNotes_7 : decode cX6_drawNotes 7 = .ok (.ifCond .ne 4, 3) := by decide +kernel
theorem dX6_drawNotes_10 : decode cX6_drawNotes 10 = .ok (.return_, 1) := by decide +kernel
theorem dX6_drawNotes_11 : decode cX6_drawNotes 11 = .ok (.iload_n 1, 1) := by decide +kernel
theorem dX6_drawNotes_12 : decode cX6_drawNotes 12 = .ok (.istore_n 3, 1) := by decide +kernel
theorem dX6_drawNotes_13 : decode cX6_drawNotes 13 = .ok (.iconst 0, 1) := by decide +kernel
theorem dX6_drawNotes_14 : decode cX6_drawNotes 14 = .ok (.istore 4, 2) := by decide +kernel
theorem dX6_drawNotes_16 : decode cX6_drawNotes 16 = .ok (.iload 4, 2) := by decide +kernel
theorem dX6_drawNotes_18 : decode cX6_drawNotes 18 = .ok (.iload_n 2, 1) := by decide +kernel
theorem dX6_drawNotes_19 : decode cX6_drawNotes 19 = .ok (.if_icmp .ge 49, 3) := by decide +kernel
theorem dX6_drawNotes_22 : decode cX6_drawNotes 22 = .ok (.iload_n 3, 1) := by decide +kernel
theorem dX6_drawNotes_23 : decode cX6_drawNotes 23 = .ok (.invokestatic 417, 3) := by decide +kernel
theorem dX6_drawNotes_26 : decode cX6_drawNotes 26 = .ok (.istore_n 3, 1) := by decide +kernel
theorem dX6_drawNotes_27 : decode cX6_drawNotes 27 = .ok (.iload_n 3, 1) := by decide +kernel
theorem dX6_drawNotes_28 : decode cX6_drawNotes 28 = .ok (.bipush 16, 2) := by decide +kernel
theorem dX6_drawNotes_30 : decode cX6_drawNotes 30 = .ok (.iushr, 1) := by decide +kernel
theorem dX6_drawNotes_31 : decode cX6_drawNotes 31 = .ok (.bipush 24, 2) := by decide +kernel
theorem dX6_drawNotes_33 : decode cX6_drawNotes 33 = .ok (.irem, 1) := by decide +kernel
theorem dX6_drawNotes_34 : decode cX6_drawNotes 34 = .ok (.istore 5, 2) := by decide +kernel
theorem dX6_drawNotes_36 : decode cX6_drawNotes 36 = .ok (.iload_n 3, 1) := by decide +kernel
theorem dX6_drawNotes_37 : decode cX6_drawNotes 37 = .ok (.invokestatic 417, 3) := by decide +kernel
theorem dX6_drawNotes_40 : decode cX6_drawNotes 40 = .ok (.istore_n 3, 1) := by decide +kernel
theorem dX6_drawNotes_41 : decode cX6_drawNotes 41 = .ok (.aload_n 0, 1) := by decide +kernel
theorem dX6_drawNotes_42 : decode cX6_drawNotes 42 = .ok (.getfield 28, 3) := by decide +kernel
theorem dX6_drawNotes_45 : decode cX6_drawNotes 45 = .ok (.iload 5, 2) := by decide +kernel
theorem dX6_drawNotes_47 : decode cX6_drawNotes 47 = .ok (.iload_n 3, 1) := by decide +kernel
theorem dX6_drawNotes_48 : decode cX6_drawNotes 48 = .ok (.bipush 16, 2) := by decide +kernel
theorem dX6_drawNotes_50 : decode cX6_drawNotes 50 = .ok (.iushr, 1) := by decide +kernel
theorem dX6_drawNotes_51 : decode cX6_drawNotes 51 = .ok (.aload_n 0, 1) := by decide +kernel
theorem dX6_drawNotes_52 : decode cX6_drawNotes 52 = .ok (.getfield 24, 3) := by decide +kernel
theorem dX6_drawNotes_55 : decode cX6_drawNotes 55 = .ok (.getfield 193, 3) := by decide +kernel
theorem dX6_drawNotes_58 : decode cX6_drawNotes 58 = .ok (.irem, 1) := by decide +kernel
theorem dX6_drawNotes_59 : decode cX6_drawNotes 59 = .ok (.invokevirtual 420, 3) := by decide +kernel
theorem dX6_drawNotes_62 : decode cX6_drawNotes 62 = .ok (.iinc 4 1, 3) := by decide +kernel
theorem dX6_drawNotes_65 : decode cX6_drawNotes 65 = .ok (.goto (-49), 3) := by decide +kernel
theorem dX6_drawNotes_68 : decode cX6_drawNotes 68 = .ok (.return_, 1) := by decide +kernel
theorem dX6_nextSeed_0 : decode cX6_nextSeed 0 = .ok (.ldc_w 423, 3) := by decide +kernel
theorem dX6_nextSeed_3 : decode cX6_nextSeed 3 = .ok (.iload_n 0, 1) := by decide +kernel
theorem dX6_nextSeed_4 : decode cX6_nextSeed 4 = .ok (.imul, 1) := by decide +kernel
theorem dX6_nextSeed_5 : decode cX6_nextSeed 5 = .ok (.sipush 12345, 3) := by decide +kernel
theorem dX6_nextSeed_8 : decode cX6_nextSeed 8 = .ok (.iadd, 1) := by decide +kernel
theorem dX6_nextSeed_9 : decode cX6_nextSeed 9 = .ok (.ireturn, 1) := by decide +kernel
end
section
theorem dX7_init_0 : decode cX7_init 0 = .ok (.aload_n 0, 1) := by decide +kernel
theorem dX7_init_1 : decode cX7_init 1 = .ok (.invokespecial 1, 3) := by decide +kernel
theorem dX7_init_4 : decode cX7_init 4 = .ok (.aload_n 0, 1) := by decide +kernel
theorem dX7_init_5 : decode cX7_init 5 = .ok (.iconst 4, 1) := by decide +kernel
theorem dX7_init_6 : decode cX7_init 6 = .ok (.newarray .int, 2) := by decide +kernel
theorem dX7_init_8 : decode cX7_init 8 = .ok (.putfield 7, 3) := by decide +kernel
theorem dX7_init_11 : decode cX7_init 11 = .ok (.aload_n 0, 1) := by decide +kernel
theorem dX7_init_12 : decode cX7_init 12 = .ok (.iconst 4, 1) := by decide +kernel
theorem dX7_init_13 : decode cX7_init 13 = .ok (.newarray .int, 2) := by decide +kernel
theorem dX7_init_15 : decode cX7_init 15 = .ok (.putfield 13, 3) := by decide +kernel
theorem dX7_init_18 : decode cX7_init 18 = .ok (.aload_n 0, 1) := by decide +kernel
theorem dX7_init_19 : decode cX7_init 19 = .ok (.sipush 240, 3) := by decide +kernel
theorem dX7_init_22 : decode cX7_init 22 = .ok (.newarray .int, 2) := by decide +kernel
theorem dX7_init_24 : decode cX7_init 24 = .ok (.putfield 16, 3) := by decide +kernel
theorem dX7_init_27 : decode cX7_init 27 = .ok (.aload_n 0, 1) := by decide +kernel
theorem dX7_init_28 : decode cX7_init 28 = .ok (.bipush 60, 2) := by decide +kernel
theorem dX7_init_30 : decode cX7_init 30 = .ok (.newarray .int, 2) := by decide +kernel
theorem dX7_init_32 : decode cX7_init 32 = .ok (.putfield 19, 3) := by decide +kernel
theorem dX7_init_35 : decode cX7_init 35 = .ok (.aload_n 0, 1) := by decide +kernel
theorem dX7_init_36 : decode cX7_init 36 = .ok (.bipush 96, 2) := by decide +kernel
theorem dX7_init_38 : decode cX7_init 38 = .ok (.newarray .int, 2) := by decide +kernel
theorem dX7_init_40 : decode cX7_init 40 = .ok (.putfield 22, 3) := by decide +kernel
theorem dX7_init_43 : decode cX7_init 43 = .ok (.aload_n 0, 1) := by decide +kernel
theorem dX7_init_44 : decode cX7_init 44 = .ok (.iconst 2, 1) := by decide +kernel
theorem dX7_init_45 : decode cX7_init 45 = .ok (.newarray .int, 2) := by decide +kernel
theorem dX7_init_47 : decode cX7_init 47 = .ok (.putfield 25, 3) := by decide +kernel
theorem dX7_init_50 : decode cX7_init 50 = .ok (.aload_n 0, 1) := by decide +kernel
theorem dX7_init_51 : decode cX7_init 51 = .ok (.bipush 22, 2) := by decide +kernel
theorem dX7_init_53 : decode cX7_init 53 = .ok (.newarray .int, 2) := by decide +kernel
theorem dX7_init_55 : decode cX7_init 55 = .ok (.putfield 28, 3) := by decide +kernel
theorem dX7_init_58 : decode cX7_init 58 = .ok (.aload_n 0, 1) := by decide +kernel
theorem dX7_init_59 : decode cX7_init 59 = .ok (.bipush 32, 2) := by decide +kernel
theorem dX7_init_61 : decode cX7_init 61 = .ok (.newarray .int, 2) := by decide +kernel
theorem dX7_init_63 : decode cX7_init 63 = .ok (.putfield 31, 3) := by decide +kernel
theorem dX7_init_66 : decode cX7_init 66 = .ok (.aload_n 0, 1) := by decide +kernel
theorem dX7_init_67 : decode cX7_init 67 = .ok (.bipush 16, 2) := by decide +kernel
theorem dX7_init_69 : decode cX7_init 69 = .ok (.newarray .int, 2) := by decide +kernel
theorem dX7_init_71 : decode cX7_init 71 = .ok (.putfield 34, 3) := by decide +kernel
theorem dX7_init_74 : decode cX7_init 74 = .ok (.aload_n 0, 1) := by decide +kernel
theorem dX7_init_75 : decode cX7_init 75 = .ok (.bipush 24, 2) := by decide +kernel
theorem dX7_init_77 : decode cX7_init 77 = .ok (.newarray .int, 2) := by decide +kernel
theorem dX7_init_79 : decode cX7_init 79 = .ok (.putfield 37, 3) := by decide +kernel
theorem dX7_init_82 : decode cX7_init 82 = .ok (.aload_n 0, 1) := by decide +kernel
theorem dX7_init_83 : decode cX7_init 83 = .ok (.bipush 24, 2) := by decide +kernel
theorem dX7_init_85 : decode cX7_init 85 = .ok (.newarray .int, 2) := by decide +kernel
theorem dX7_init_87 : decode cX7_init 87 = .ok (.putfield 40, 3) := by decide +kernel
theorem dX7_init_90 : decode cX7_init 90 = .ok (.aload_n 0, 1) := by decide +kernel
theorem dX7_init_91 : decode cX7_init 91 = .ok (.bipush 24, 2) := by decide +kernel
theorem dX7_init_93 : decode cX7_init 93 = .ok (.newarray .int, 2) := by decide +kernel
theorem dX7_init_95 : decode cX7_init 95 = .ok (.putfield 43, 3) := by decide +kernel
theorem dX7_init_98 : decode cX7_init 98 = .ok (.aload_n 0, 1) := by decide +kernel
theorem dX7_init_99 : decode cX7_init 99 = .ok (.bipush 16, 2) := by decide +kernel
theorem dX7_init_101 : decode cX7_init 101 = .ok (.newarray .int, 2) := by decide +kernel
theorem dX7_init_103 : decode cX7_init 103 = .ok (.putfield 46, 3) := by decide +kernel
theorem dX7_init_106 : decode cX7_init 106 = .ok (.aload_n 0, 1) := by decide +kernel
theorem dX7_init_107 : decode cX7_init 107 = .ok (.bipush 11, 2) := by decide +kernel
theorem dX7_init_109 : decode cX7_init 109 = .ok (.newarray .int, 2) := by decide +kernel
theorem dX7_init_111 : decode cX7_init 111 = .ok (.putfield 49, 3) := by decide +kernel
theorem dX7_init_114 : decode cX7_init 114 = .ok (.aload_n 0, 1) := by decide +kernel
theorem dX7_init_115 : decode cX7_init 115 = .ok (.bipush 11, 2) := by decide +kernel
theorem dX7_init_117 : decode cX7_init 117 = .ok (.newarray .int, 2) := by decide +kernel
theorem dX7_init_119 : decode cX7_init 119 = .ok (.putfield 52, 3) := by decide +kernel
theorem dX7_init_122 : decode cX7_init 122 = .ok (.aload_n 0, 1) := by decide +kernel
theorem dX7_init_123 : decode cX7_init 123 = .ok (.bipush 11, 2) := by decide +kernel
theorem dX7_init_125 : decode cX7_init 125 = .ok (.newarray .int, 2) := by decide +kernel
theorem dX7_init_127 : decode cX7_init 127 = .ok (.putfield 55, 3) := by decide +kernel
theorem dX7_init_130 : decode cX7_init 130 = .ok (.aload_n 0, 1) := by decide +kernel
theorem dX7_init_131 : decode cX7_init 131 = .ok (.bipush 11, 2) := by decide +kernel
theorem dX7_init_133 : decode cX7_init 133 = .ok (.newarray .int, 2) := by decide +kernel
theorem dX7_init_135 : decode cX7_init 135 = .ok (.putfield 58, 3) := by decide +kernel
theorem dX7_init_138 : decode cX7_init 138 = .ok (.aload_n 0, 1) := by decide +kernel
theorem dX7_init_139 : decode cX7_init 139 = .ok (.bipush 16, 2) := by decide +kernel
theorem dX7_init_141 : decode cX7_init 141 = .ok (.newarray .int, 2) := by decide +kernel
theorem dX7_init_143 : decode cX7_init 143 = .ok (.putfield 61, 3) := by decide +kernel
theorem dX7_init_146 : decode cX7_init 146 = .ok (.aload_n 0, 1) := by decide +kernel
theorem dX7_init_147 : decode cX7_init 147 = .ok (.bipush 64, 2) := by decide +kernel
theorem dX7_init_149 : decode cX7_init 149 = .ok (.newarray .int, 2) := by decide +kernel
theorem dX7_init_151 : decode cX7_init 151 = .ok (.putfield 64, 3) := by decide +kernel
theorem dX7_init_154 : decode cX7_init 154 = .ok (.iconst 0, 1) := by decide +kernel
theorem dX7_init_155 : decode cX7_init 155 = .ok (.istore_n 1, 1) := by decide +kernel
theorem dX7_init_156 : decode cX7_init 156 = .ok (.iload_n 1, 1) := by decide +kernel
theorem dX7_init_157 : decode cX7_init 157 = .ok (.iconst 4, 1) := by decide +kernel
theorem dX7_init_158 : decode cX7_init 158 = .ok (.if_icmp .ge 16, 3) := by decide +kernel
theorem dX7_init_161 : decode cX7_init 161 = .ok (.aload_n 0, 1) := by decide +kernel
theorem dX7_init_162 : decode cX7_init 162 = .ok (.getfield 7, 3) := by decide +kernel
theorem dX7_init_165 : decode cX7_init 165 = .ok (.iload_n 1, 1) := by decide +kernel
theorem dX7_init_166 : decode cX7_init 166 = .ok (.iconst (-1), 1) := by decide +kernel
theorem dX7_init_167 : decode cX7_init 167 = .ok (.iastore, 1) := by decide +kernel
theorem dX7_init_168 : decode cX7_init 168 = .ok (.iinc 1 1, 3) := by decide +kernel
theorem dX7_init_171 : decode cX7_init 171 = .ok (.goto (-15), 3) := by decide +kernel
theorem dX7_init_174 : decode cX7_init 174 = .ok (.aload_n 0, 1) := by decide +kernel
theorem dX7_init_175 : decode cX7_init 175 = .ok (.bipush 40, 2) := by decide +kernel
theorem dX7_init_177 : decode cX7_init 177 = .ok (.putfield 67, 3) := by decide +kernel
theorem dX7_init_180 : decode cX7_init 180 = .ok (.aload_n 0, 1) := by decide +kernel
theorem dX7_init_181 : decode cX7_init 181 = .ok (.iconst (-1), 1) := by decide +kernel
theorem dX7_init_182 : decode cX7_init 182 = .ok (.putfield 71, 3) := by decide +kernel
theorem dX7_init_185 : decode cX7_init 185 = .ok (.return_, 1) := by decide +kernel
theorem dX7_in_0 : decode cX7_in 0 = .ok (.lload_n 0, 1) := by decide +kernel
theorem dX7_in_1 : decode cX7_in 1 = .ok (.lload_n 2, 1) := by decide +kernel
theorem dX7_in_2 : decode cX7_in 2 = .ok (.lcmp, 1) := by decide +kernel
theorem dX7_in_3 : decode cX7_in 3 = .ok (.ifCond .lt 14, 3) := by decide +kernel
theorem dX7_in_6 : decode cX7_in 6 = .ok (.lload_n 0, 1) := by decide +kernel
theorem dX7_in_7 : decode cX7_in 7 = .ok (.lload 4, 2) := by decide +kernel
theorem dX7_in_9 : decode cX7_in 9 = .ok (.lcmp, 1) := by decide +kernel
theorem dX7_in_10 : decode cX7_in 10 = .ok (.ifCond .gt 7, 3) := by decide +kernel
theorem dX7_in_13 : decode cX7_in 13 = .ok (.iconst 1, 1) := by decide +kernel
theorem dX7_in_14 : decode cX7_in 14 = .ok (.goto 4, 3) := by decide +kernel
theorem dX7_in_17 : decode cX7_in 17 = .ok (.iconst 0, 1) := by decide +kernel
theorem dX7_in_18 : decode cX7_in 18 = .ok (.ireturn, 1) := by decide +kernel
theorem dX7_no_0 : decode cX7_no 0 = .ok (.ldc2_w 74, 3) := by decide +kernel
theorem dX7_no_3 : decode cX7_no 3 = .ok (.iload_n 0, 1) := by decide +kernel
theorem dX7_no_4 : decode cX7_no 4 = .ok (.i2l, 1) := by decide +kernel
theorem dX7_no_5 : decode cX7_no 5 = .ok (.lsub, 1) := by decide +kernel
theorem dX7_no_6 : decode cX7_no 6 = .ok (.lreturn, 1) := by decide +kernel
theorem dX7_isTwo_0 : decode cX7_isTwo 0 = .ok (.iload_n 0, 1) := by decide +kernel
theorem dX7_isTwo_1 : decode cX7_isTwo 1 = .ok (.i2l, 1) := by decide +kernel
theorem dX7_isTwo_2 : decode cX7_isTwo 2 = .ok (.lconst 0, 1) := by decide +kernel
theorem dX7_isTwo_3 : decode cX7_isTwo 3 = .ok (.lconst 1, 1) := by decide +kernel
theorem dX7_isTwo_4 : decode cX7_isTwo 4 = .ok (.invokestatic 76, 3) := by decide +kernel
theorem dX7_isTwo_7 : decode cX7_isTwo 7 = .ok (.ireturn, 1) := by decide +kernel
theorem dX7_isIn_0 : decode cX7_isIn 0 = .ok (.iload_n 0, 1) := by decide +kernel
theorem dX7_isIn_1 : decode cX7_isIn 1 = .ok (.iload_n 1, 1) := by decide +kernel
theorem dX7_isIn_2 : decode cX7_isIn 2 = .ok (.ishr, 1) := by decide +kernel
theorem dX7_isIn_3 : decode cX7_isIn 3 = .ok (.iconst 1, 1) := by decide +kernel
theorem dX7_isIn_4 : decode cX7_isIn 4 = .ok (.iand, 1) := by decide +kernel
theorem dX7_isIn_5 : decode cX7_isIn 5 = .ok (.iconst 1, 1) := by decide +kernel
theorem dX7_isIn_6 : decode cX7_isIn 6 = .ok (.if_icmp .ne 7, 3) := by decide +kernel
theorem dX7_isIn_9 : decode cX7_isIn 9 = .ok (.iconst 1, 1) := by decide +kernel
theorem dX7_isIn_10 : decode cX7_isIn 10 = .ok (.goto 4, 3) := by decide +kernel
theorem dX7_isIn_13 : decode cX7_isIn 13 = .ok (.iconst 0, 1) := by decide +kernel
theorem dX7_isIn_14 : decode cX7_isIn 14 = .ok (.ireturn, 1) := by decide +kernel
theorem dX7_lesser_0 : decode cX7_lesser 0 = .ok (.iload_n 0, 1) := by decide +kernel
theorem dX7_lesser_1 : decode cX7_lesser 1 = .ok (.iload_n 1, 1) := by decide +kernel
theorem dX7_lesser_2 : decode cX7_lesser 2 = .ok (.if_icmp .ge 7, 3) := by decide +kernel
theorem dX7_lesser_5 : decode cX7_lesser 5 = .ok (.iload_n 0, 1) := by decide +kernel
theorem dX7_lesser_6 : decode cX7_lesser 6 = .ok (.goto 4, 3) := by decide +kernel
theorem dX7_lesser_9 : decode cX7_lesser 9 = .ok (.iload_n 1, 1) := by decide +kernel
theorem dX7_lesser_10 : decode cX7_lesser 10 = .ok (.ireturn, 1) := by decide +kernel
theorem dX7_greater_0 : decode cX7_greater 0 = .ok (.iload_n 0, 1) := by decide +kernel
theorem dX7_greater_1 : decode cX7_greater 1 = .ok (.iload_n 1, 1) := by decide +kernel
theorem dX7_greater_2 : decode cX7_greater 2 = .ok (.if_icmp .le 7, 3) := by decide +kernel
theorem dX7_greater_5 : decode cX7_greater 5 = .ok (.iload_n 0, 1) := by decide +kernel
theorem dX7_greater_6 : decode cX7_greater 6 = .ok (.goto 4, 3) := by decide +kernel
theorem dX7_greater_9 : decode cX7_greater 9 = .ok (.iload_n 1, 1) := by decide +kernel
theorem dX7_greater_10 : decode cX7_greater 10 = .ok (.ireturn, 1) := by decide +kernel
theorem dX7_apart_0 : decode cX7_apart 0 = .ok (.iload_n 0, 1) := by decide +kernel
theorem dX7_apart_1 : decode cX7_apart 1 = .ok (.iload_n 1, 1) := by decide +kernel
theorem dX7_apart_2 : decode cX7_apart 2 = .ok (.if_icmp .le 9, 3) := by decide +kernel
theorem dX7_apart_5 : decode cX7_apart 5 = .ok (.iload_n 0, 1) := by decide +kernel
theorem dX7_apart_6 : decode cX7_apart 6 = .ok (.iload_n 1, 1) := by decide +kernel
theorem dX7_apart_7 : decode cX7_apart 7 = .ok (.isub, 1) := by decide +kernel
theorem dX7_apart_8 : decode cX7_apart 8 = .ok (.goto 6, 3) := by decide +kernel
theorem dX7_apart_11 : decode cX7_apart 11 = .ok (.iload_n 1, 1) := by decide +kernel
theorem dX7_apart_12 : decode cX7_apart 12 = .ok (.iload_n 0, 1) := by decide +kernel
theorem dX7_apart_13 : decode cX7_apart 13 = .ok (.isub, 1) := by decide +kernel
theorem dX7_apart_14 : decode cX7_apart 14 = .ok (.ireturn, 1) := by decide +kernel
theorem dX7_part_0 : decode cX7_part 0 = .ok (.lload_n 0, 1) := by decide +kernel
theorem dX7_part_1 : decode cX7_part 1 = .ok (.lstore 5, 2) := by decide +kernel
theorem dX7_part_3 : decode cX7_part 3 = .ok (.lload_n 2, 1) := by decide +kernel
theorem dX7_part_4 : decode cX7_part 4 = .ok (.lstore 7, 2) := by decide +kernel
theorem dX7_part_6 : decode cX7_part 6 = .ok (.lload 7, 2) := by decide +kernel
theorem dX7_part_8 : decode cX7_part 8 = .ok (.lconst 0, 1) := by decide +kernel
theorem dX7_part_9 : decode cX7_part 9 = .ok (.lcmp, 1) := by decide +kernel
theorem dX7_part_10 : decode cX7_part 10 = .ok (.ifCond .eq 21, 3) := by decide +kernel
theorem dX7_part_13 : decode cX7_part 13 = .ok (.lload 5, 2) := by decide +kernel
theorem dX7_part_15 : decode cX7_part 15 = .ok (.lload 7, 2) := by decide +kernel
theorem dX7_part_17 : decode cX7_part 17 = .ok (.lrem, 1) := by decide +kernel
theorem dX7_part_18 : decode cX7_part 18 = .ok (.lstore 9, 2) := by decide +kernel
theorem dX7_part_20 : decode cX7_part 20 = .ok (.lload 7, 2) := by decide +kernel
theorem dX7_part_22 : decode cX7_part 22 = .ok (.lstore 5, 2) := by decide +kernel
theorem dX7_part_24 : decode cX7_part 24 = .ok (.lload 9, 2) := by decide +kernel
theorem dX7_part_26 : decode cX7_part 26 = .ok (.lstore 7, 2) := by decide +kernel
theorem dX7_part_28 : decode cX7_part 28 = .ok (.goto (-22), 3) := by decide +kernel
theorem dX7_part_31 : decode cX7_part 31 = .ok (.iload 4, 2) := by decide +kernel
theorem dX7_part_33 : decode cX7_part 33 = .ok (.ifCond .ne 7, 3) := by decide +kernel
theorem dX7_part_36 : decode cX7_part 36 = .ok (.lload_n 0, 1) := by decide +kernel
theorem dX7_part_37 : decode cX7_part 37 = .ok (.goto 4, 3) := by decide +kernel
theorem dX7_part_40 : decode cX7_part 40 = .ok (.lload_n 2, 1) := by decide +kernel
theorem dX7_part_41 : decode cX7_part 41 = .ok (.lload 5, 2) := by decide +kernel
theorem dX7_part_43 : decode cX7_part 43 = .ok (.ldiv, 1) := by decide +kernel
theorem dX7_part_44 : decode cX7_part 44 = .ok (.lreturn, 1) := by decide +kernel
theorem dX7_finds_0 : decode cX7_finds 0 = .ok (.aload_n 0, 1) := by decide +kernel
theorem dX7_finds_1 : decode cX7_finds 1 = .ok (.iload_n 1, 1) := by decide +kernel
theorem dX7_finds_2 : decode cX7_finds 2 = .ok (.putfield 80, 3) := by decide +kernel
theorem dX7_finds_5 : decode cX7_finds 5 = .ok (.bipush (-10), 2) := by decide +kernel
theorem dX7_finds_7 : decode cX7_finds 7 = .ok (.iload_n 1, 1) := by decide +kernel
theorem dX7_finds_8 : decode cX7_finds 8 = .ok (.isub, 1) := by decide +kernel
theorem dX7_finds_9 : decode cX7_finds 9 = .ok (.ireturn, 1) := by decide +kernel
theorem dX7_isSheet_0 : decode cX7_isSheet 0 = .ok (.iload_n 0, 1) := by decide +kernel
theorem dX7_isSheet_1 : decode cX7_isSheet 1 = .ok (.i2l, 1) := by decide +kernel
theorem dX7_isSheet_2 : decode cX7_isSheet 2 = .ok (.lconst 0, 1) := by decide +kernel
theorem dX7_isSheet_3 : decode cX7_isSheet 3 = .ok (.ldc2_w 83, 3) := by decide +kernel
theorem dX7_isSheet_6 : decode cX7_isSheet 6 = .ok (.invokestatic 76, 3) := by decide +kernel
theorem dX7_isSheet_9 : decode cX7_isSheet 9 = .ok (.ireturn, 1) := by decide +kernel
theorem dX7_sheet_0 : decode cX7_sheet 0 = .ok (.iload_n 1, 1) := by decide +kernel
theorem dX7_sheet_1 : decode cX7_sheet 1 = .ok (.invokestatic 85, 3) := by decide +kernel
theorem dX7_sheet_4 : decode cX7_sheet 4 = .ok (.ifCond .eq 21, 3) := by decide +kernel
theorem dX7_sheet_7 : decode cX7_sheet 7 = .ok (.iload_n 2, 1) := by decide +kernel
theorem dX7_sheet_8 : decode cX7_sheet 8 = .ok (.i2l, 1) := by decide +kernel
theorem dX7_sheet_9 : decode cX7_sheet 9 = .ok (.lconst 0, 1) := by decide +kernel
theorem dX7_sheet_10 : decode cX7_sheet 10 = .ok (.ldc2_w 89, 3) := by decide +kernel
theorem dX7_sheet_13 : decode cX7_sheet 13 = .ok (.invokestatic 76, 3) := by decide +kernel
theorem dX7_sheet_16 : decode cX7_sheet 16 = .ok (.ifCond .eq 9, 3) := by decide +kernel
theorem dX7_sheet_19 : decode cX7_sheet 19 = .ok (.iload_n 3, 1) := by decide +kernel
theorem dX7_sheet_20 : decode cX7_sheet 20 = .ok (.bipush 60, 2) := by decide +kernel
theorem dX7_sheet_22 : decode cX7_sheet 22 = .ok (.if_icmp .le 6, 3) := by decide +kernel
theorem dX7_sheet_25 : decode cX7_sheet 25 = .ok (.bipush (-2), 2) := by decide +kernel
theorem dX7_sheet_27 : decode cX7_sheet 27 = .ok (.ireturn, 1) := by decide +kernel
theorem dX7_sheet_28 : decode cX7_sheet 28 = .ok (.iload_n 3, 1) := by decide +kernel
theorem dX7_sheet_29 : decode cX7_sheet 29 = .ok (.ifCond .ge 9, 3) := by decide +kernel
theorem dX7_sheet_32 : decode cX7_sheet 32 = .ok (.aload_n 0, 1) := by decide +kernel
theorem dX7_sheet_33 : decode cX7_sheet 33 = .ok (.iconst 5, 1) := by decide +kernel
theorem dX7_sheet_34 : decode cX7_sheet 34 = .ok (.invokevirtual 91, 3) := by decide +kernel
theorem dX7_sheet_37 : decode cX7_sheet 37 = .ok (.ireturn, 1) := by decide +kernel
theorem dX7_sheet_38 : decode cX7_sheet 38 = .ok (.aload_n 0, 1) := by decide +kernel
theorem dX7_sheet_39 : decode cX7_sheet 39 = .ok (.getfield 7, 3) := by decide +kernel
theorem dX7_sheet_42 : decode cX7_sheet 42 = .ok (.iload_n 1, 1) := by decide +kernel
theorem dX7_sheet_43 : decode cX7_sheet 43 = .ok (.iload_n 2, 1) := by decide +kernel
theorem dX7_sheet_44 : decode cX7_sheet 44 = .ok (.iastore, 1) := by decide +kernel
theorem dX7_sheet_45 : decode cX7_sheet 45 = .ok (.aload_n 0, 1) := by decide +kernel
theorem dX7_sheet_46 : decode cX7_sheet 46 = .ok (.getfield 13, 3) := by decide +kernel
theorem dX7_sheet_49 : decode cX7_sheet 49 = .ok (.iload_n 1, 1) := by decide +kernel
theorem dX7_sheet_50 : decode cX7_sheet 50 = .ok (.iload_n 3, 1) := by decide +kernel
theorem dX7_sheet_51 : decode cX7_sheet 51 = .ok (.iastore, 1) := by decide +kernel
theorem dX7_sheet_52 : decode cX7_sheet 52 = .ok (.iconst 0, 1) := by decide +kernel
theorem dX7_sheet_53 : decode cX7_sheet 53 = .ok (.istore 4, 2) := by decide +kernel
theorem dX7_sheet_55 : decode cX7_sheet 55 = .ok (.iload 4, 2) := by decide +kernel
theorem dX7_sheet_57 : decode cX7_sheet 57 = .ok (.iload_n 3, 1) := by decide +kernel
theorem dX7_sheet_58 : decode cX7_sheet 58 = .ok (.if_icmp .ge 22, 3) := by decide +kernel
theorem dX7_sheet_61 : decode cX7_sheet 61 = .ok (.aload_n 0, 1) := by decide +kernel
theorem dX7_sheet_62 : decode cX7_sheet 62 = .ok (.getfield 16, 3) := by decide +kernel
theorem dX7_sheet_65 : decode cX7_sheet 65 = .ok (.bipush 60, 2) := by decide +kernel
theorem dX7_sheet_67 : decode cX7_sheet 67 = .ok (.iload_n 1, 1) := by decide +kernel
theorem dX7_sheet_68 : decode cX7_sheet 68 = .ok (.imul, 1) := by decide +kernel
theorem dX7_sheet_69 : decode cX7_sheet 69 = .ok (.iload 4, 2) := by decide +kernel
theorem dX7_sheet_71 : decode cX7_sheet 71 = .ok (.iadd, 1) := by decide +kernel
theorem dX7_sheet_72 : decode cX7_sheet 72 = .ok (.iconst 0, 1) := by decide +kernel
theorem dX7_sheet_73 : decode cX7_sheet 73 = .ok (.iastore, 1) := by decide +kernel
theorem dX7_sheet_74 : decode cX7_sheet 74 = .ok (.iinc 4 1, 3) := by decide +kernel
theorem dX7_sheet_77 : decode cX7_sheet 77 = .ok (.goto (-22), 3) := by decide +kernel
theorem dX7_sheet_80 : decode cX7_sheet 80 = .ok (.iload_n 3, 1) := by decide +kernel
theorem dX7_sheet_81 : decode cX7_sheet 81 = .ok (.ireturn, 1) := by decide +kernel
theorem dX7_lose_0 : decode cX7_lose 0 = .ok (.iload_n 1, 1) := by decide +kernel
theorem dX7_lose_1 : decode cX7_lose 1 = .ok (.invokestatic 85, 3) := by decide +kernel
theorem dX7_lose_4 : decode cX7_lose 4 = .ok (.ifCond .ne 6, 3) := by decide +kernel
theorem dX7_lose_7 : decode cX7_lose 7 = .ok (.bipush (-2), 2) := by decide +kernel
theorem dX7_lose_9 : decode cX7_lose 9 = .ok (.ireturn, 1) := by decide +kernel
theorem dX7_lose_10 : decode cX7_lose 10 = .ok (.aload_n 0, 1) := by decide +kernel
theorem dX7_lose_11 : decode cX7_lose 11 = .ok (.getfield 7, 3) := by decide +kernel
theorem dX7_lose_14 : decode cX7_lose 14 = .ok (.iload_n 1, 1) := by decide +kernel
theorem dX7_lose_15 : decode cX7_lose 15 = .ok (.iaload, 1) := by decide +kernel
theorem dX7_lose_16 : decode cX7_lose 16 = .ok (.ifCond .ge 9, 3) := by decide +kernel
theorem dX7_lose_19 : decode cX7_lose 19 = .ok (.aload_n 0, 1) := by decide +kernel
theorem dX7_lose_20 : decode cX7_lose 20 = .ok (.iconst 1, 1) := by decide +kernel
theorem dX7_lose_21 : decode cX7_lose 21 = .ok (.invokevirtual 91, 3) := by decide +kernel
theorem dX7_lose_24 : decode cX7_lose 24 = .ok (.ireturn, 1) := by decide +kernel
theorem dX7_lose_25 : decode cX7_lose 25 = .ok (.aload_n 0, 1) := by decide +kernel
theorem dX7_lose_26 : decode cX7_lose 26 = .ok (.getfield 7, 3) := by decide +kernel
theorem dX7_lose_29 : decode cX7_lose 29 = .ok (.iload_n 1, 1) := by decide +kernel
theorem dX7_lose_30 : decode cX7_lose 30 = .ok (.iconst (-1), 1) := by decide +kernel
theorem dX7_lose_31 : decode cX7_lose 31 = .ok (.iastore, 1) := by decide +kernel
theorem dX7_lose_32 : decode cX7_lose 32 = .ok (.aload_n 0, 1) := by decide +kernel
theorem dX7_lose_33 : decode cX7_lose 33 = .ok (.getfield 13, 3) := by decide +kernel
theorem dX7_lose_36 : decode cX7_lose 36 = .ok (.iload_n 1, 1) := by decide +kernel
theorem dX7_lose_37 : decode cX7_lose 37 = .ok (.iaload, 1) := by decide +kernel
theorem dX7_lose_38 : decode cX7_lose 38 = .ok (.ireturn, 1) := by decide +kernel
theorem dX7_lacks_0 : decode cX7_lacks 0 = .ok (.aload_n 0, 1) := by decide +kernel
theorem dX7_lacks_1 : decode cX7_lacks 1 = .ok (.getfield 7, 3) := by decide +kernel
theorem dX7_lacks_4 : decode cX7_lacks 4 = .ok (.iload_n 1, 1) := by decide +kernel
theorem dX7_lacks_5 : decode cX7_lacks 5 = .ok (.iaload, 1) := by decide +kernel
theorem dX7_lacks_6 : decode cX7_lacks 6 = .ok (.ifCond .ge 9, 3) := by decide +kernel
theorem dX7_lacks_9 : decode cX7_lacks 9 = .ok (.aload_n 0, 1) := by decide +kernel
theorem dX7_lacks_10 : decode cX7_lacks 10 = .ok (.iconst 1, 1) := by decide +kernel
theorem dX7_lacks_11 : decode cX7_lacks 11 = .ok (.invokevirtual 91, 3) := by decide +kernel
theorem dX7_lacks_14 : decode cX7_lacks 14 = .ok (.ireturn, 1) := by decide +kernel
theorem dX7_lacks_15 : decode cX7_lacks 15 = .ok (.aload_n 0, 1) := by decide +kernel
theorem dX7_lacks_16 : decode cX7_lacks 16 = .ok (.getfield 7, 3) := by decide +kernel
theorem dX7_lacks_19 : decode cX7_lacks 19 = .ok (.iload_n 1, 1) := by decide +kernel
theorem dX7_lacks_20 : decode cX7_lacks 20 = .ok (.iaload, 1) := by decide +kernel
theorem dX7_lacks_21 : decode cX7_lacks 21 = .ok (.iload_n 2, 1) := by decide +kernel
theorem dX7_lacks_22 : decode cX7_lacks 22 = .ok (.if_icmp .eq 9, 3) := by decide +kernel
theorem dX7_lacks_25 : decode cX7_lacks 25 = .ok (.aload_n 0, 1) := by decide +kernel
theorem dX7_lacks_26 : decode cX7_lacks 26 = .ok (.iconst 3, 1) := by decide +kernel
theorem dX7_lacks_27 : decode cX7_lacks 27 = .ok (.invokevirtual 91, 3) := by decide +kernel
theorem dX7_lacks_30 : decode cX7_lacks 30 = .ok (.ireturn, 1) := by decide +kernel
theorem dX7_lacks_31 : decode cX7_lacks 31 = .ok (.iload_n 3, 1) := by decide +kernel
theorem dX7_lacks_32 : decode cX7_lacks 32 = .ok (.i2l, 1) := by decide +kernel
theorem dX7_lacks_33 : decode cX7_lacks 33 = .ok (.lconst 0, 1) := by decide +kernel
theorem dX7_lacks_34 : decode cX7_lacks 34 = .ok (.aload_n 0, 1) := by decide +kernel
theorem dX7_lacks_35 : decode cX7_lacks 35 = .ok (.getfield 13, 3) := by decide +kernel
theorem dX7_lacks_38 : decode cX7_lacks 38 = .ok (.iload_n 1, 1) := by decide +kernel
theorem dX7_lacks_39 : decode cX7_lacks 39 = .ok (.iaload, 1) := by decide +kernel
theorem dX7_lacks_40 : decode cX7_lacks 40 = .ok (.iconst 1, 1) := by decide +kernel
theorem dX7_lacks_41 : decode cX7_lacks 41 = .ok (.isub, 1) := by decide +kernel
theorem dX7_lacks_42 : decode cX7_lacks 42 = .ok (.i2l, 1) := by decide +kernel
theorem dX7_lacks_43 : decode cX7_lacks 43 = .ok (.invokestatic 76, 3) := by decide +kernel
theorem dX7_lacks_46 : decode cX7_lacks 46 = .ok (.ifCond .eq 7, 3) := by decide +kernel
theorem dX7_lacks_49 : decode cX7_lacks 49 = .ok (.iconst 0, 1) := by decide +kernel
theorem dX7_lacks_50 : decode cX7_lacks 50 = .ok (.goto 8, 3) := by decide +kernel
theorem dX7_lacks_53 : decode cX7_lacks 53 = .ok (.aload_n 0, 1) := by decide +kernel
theorem dX7_lacks_54 : decode cX7_lacks 54 = .ok (.iconst 2, 1) := by decide +kernel
theorem dX7_lacks_55 : decode cX7_lacks 55 = .ok (.invokevirtual 91, 3) := by decide +kernel
theorem dX7_lacks_58 : decode cX7_lacks 58 = .ok (.ireturn, 1) := by decide +kernel
theorem dX7_cut_0 : decode cX7_cut 0 = .ok (.iload_n 0, 1) := by decide +kernel
theorem dX7_cut_1 : decode cX7_cut 1 = .ok (.ifCond .ne 8, 3) := by decide +kernel
theorem dX7_cut_4 : decode cX7_cut 4 = .ok (.iload_n 1, 1) := by decide +kernel
theorem dX7_cut_5 : decode cX7_cut 5 = .ok (.i2b, 1) := by decide +kernel
theorem dX7_cut_6 : decode cX7_cut 6 = .ok (.goto 14, 3) := by decide +kernel
theorem dX7_cut_9 : decode cX7_cut 9 = .ok (.iload_n 0, 1) := by decide +kernel
theorem dX7_cut_10 : decode cX7_cut 10 = .ok (.iconst 1, 1) := by decide +kernel
theorem dX7_cut_11 : decode cX7_cut 11 = .ok (.if_icmp .ne 8, 3) := by decide +kernel
theorem dX7_cut_14 : decode cX7_cut 14 = .ok (.iload_n 1, 1) := by decide +kernel
theorem dX7_cut_15 : decode cX7_cut 15 = .ok (.i2s, 1) := by decide +kernel
theorem dX7_cut_16 : decode cX7_cut 16 = .ok (.goto 4, 3) := by decide +kernel
theorem dX7_cut_19 : decode cX7_cut 19 = .ok (.iload_n 1, 1) := by decide +kernel
theorem dX7_cut_20 : decode cX7_cut 20 = .ok (.ireturn, 1) := by decide +kernel
theorem dX7_lay_0 : decode cX7_lay 0 = .ok (.iload_n 1, 1) := by decide +kernel
theorem dX7_lay_1 : decode cX7_lay 1 = .ok (.invokestatic 85, 3) := by decide +kernel
theorem dX7_lay_4 : decode cX7_lay 4 = .ok (.ifCond .eq 15, 3) := by decide +kernel
theorem dX7_lay_7 : decode cX7_lay 7 = .ok (.iload_n 2, 1) := by decide +kernel
theorem dX7_lay_8 : decode cX7_lay 8 = .ok (.i2l, 1) := by decide +kernel
theorem dX7_lay_9 : decode cX7_lay 9 = .ok (.lconst 0, 1) := by decide +kernel
theorem dX7_lay_10 : decode cX7_lay 10 = .ok (.ldc2_w 89, 3) := by decide +kernel
theorem dX7_lay_13 : decode cX7_lay 13 = .ok (.invokestatic 76, 3) := by decide +kernel
theorem dX7_lay_16 : decode cX7_lay 16 = .ok (.ifCond .ne 6, 3) := by decide +kernel
theorem dX7_lay_19 : decode cX7_lay 19 = .ok (.bipush (-2), 2) := by decide +kernel
theorem dX7_lay_21 : decode cX7_lay 21 = .ok (.ireturn, 1) := by decide +kernel
theorem dX7_lay_22 : decode cX7_lay 22 = .ok (.aload_n 0, 1) := by decide +kernel
theorem dX7_lay_23 : decode cX7_lay 23 = .ok (.iload_n 1, 1) := by decide +kernel
theorem dX7_lay_24 : decode cX7_lay 24 = .ok (.iload_n 2, 1) := by decide +kernel
theorem dX7_lay_25 : decode cX7_lay 25 = .ok (.iload_n 3, 1) := by decide +kernel
theorem dX7_lay_26 : decode cX7_lay 26 = .ok (.invokevirtual 95, 3) := by decide +kernel
theorem dX7_lay_29 : decode cX7_lay 29 = .ok (.istore 5, 2) := by decide +kernel
theorem dX7_lay_31 : decode cX7_lay 31 = .ok (.iload 5, 2) := by decide +kernel
theorem dX7_lay_33 : decode cX7_lay 33 = .ok (.ifCond .eq 6, 3) := by decide +kernel
theorem dX7_lay_36 : decode cX7_lay 36 = .ok (.iload 5, 2) := by decide +kernel
theorem dX7_lay_38 : decode cX7_lay 38 = .ok (.ireturn, 1) := by decide +kernel
theorem dX7_lay_39 : decode cX7_lay 39 = .ok (.aload_n 0, 1) := by decide +kernel
theorem dX7_lay_40 : decode cX7_lay 40 = .ok (.getfield 16, 3) := by decide +kernel
theorem dX7_lay_43 : decode cX7_lay 43 = .ok (.bipush 60, 2) := by decide +kernel
theorem dX7_lay_45 : decode cX7_lay 45 = .ok (.iload_n 1, 1) := by decide +kernel
theorem dX7_lay_46 : decode cX7_lay 46 = .ok (.imul, 1) := by decide +kernel
theorem dX7_lay_47 : decode cX7_lay 47 = .ok (.iload_n 3, 1) := by decide +kernel
theorem dX7_lay_48 : decode cX7_lay 48 = .ok (.iadd, 1) := by decide +kernel
theorem dX7_lay_49 : decode cX7_lay 49 = .ok (.iload_n 2, 1) := by decide +kernel
theorem dX7_lay_50 : decode cX7_lay 50 = .ok (.iload 4, 2) := by decide +kernel
theorem dX7_lay_52 : decode cX7_lay 52 = .ok (.invokestatic 99, 3) := by decide +kernel
theorem dX7_lay_55 : decode cX7_lay 55 = .ok (.iastore, 1) := by decide +kernel
theorem dX7_lay_56 : decode cX7_lay 56 = .ok (.iconst 1, 1) := by decide +kernel
theorem dX7_lay_57 : decode cX7_lay 57 = .ok (.ireturn, 1) := by decide +kernel
theorem dX7_get_0 : decode cX7_get 0 = .ok (.iload_n 1, 1) := by decide +kernel
theorem dX7_get_1 : decode cX7_get 1 = .ok (.invokestatic 85, 3) := by decide +kernel
theorem dX7_get_4 : decode cX7_get 4 = .ok (.ifCond .eq 25, 3) := by decide +kernel
theorem dX7_get_7 : decode cX7_get 7 = .ok (.iload_n 2, 1) := by decide +kernel
theorem dX7_get_8 : decode cX7_get 8 = .ok (.i2l, 1) := by decide +kernel
theorem dX7_get_9 : decode cX7_get 9 = .ok (.lconst 0, 1) := by decide +kernel
theorem dX7_get_10 : decode cX7_get 10 = .ok (.ldc2_w 89, 3) := by decide +kernel
theorem dX7_get_13 : decode cX7_get 13 = .ok (.invokestatic 76, 3) := by decide +kernel
theorem dX7_get_16 : decode cX7_get 16 = .ok (.ifCond .eq 13, 3) := by decide +kernel
theorem dX7_get_19 : decode cX7_get 19 = .ok (.aload_n 0, 1) := by decide +kernel
theorem dX7_get_20 : decode cX7_get 20 = .ok (.iload_n 1, 1) := by decide +kernel
theorem dX7_get_21 : decode cX7_get 21 = .ok (.iload_n 2, 1) := by decide +kernel
theorem dX7_get_22 : decode cX7_get 22 = .ok (.iload_n 3, 1) := by decide +kernel
theorem dX7_get_23 : decode cX7_get 23 = .ok (.invokevirtual 95, 3) := by decide +kernel
theorem dX7_get_26 : decode cX7_get 26 = .ok (.ifCond .eq 6, 3) := by decide +kernel
theorem dX7_get_29 : decode cX7_get 29 = .ok (.ldc 103, 2) := by decide +kernel
theorem dX7_get_31 : decode cX7_get 31 = .ok (.ireturn, 1) := by decide +kernel
theorem dX7_get_32 : decode cX7_get 32 = .ok (.aload_n 0, 1) := by decide +kernel
theorem dX7_get_33 : decode cX7_get 33 = .ok (.getfield 16, 3) := by decide +kernel
theorem dX7_get_36 : decode cX7_get 36 = .ok (.bipush 60, 2) := by decide +kernel
theorem dX7_get_38 : decode cX7_get 38 = .ok (.iload_n 1, 1) := by decide +kernel
theorem dX7_get_39 : decode cX7_get 39 = .ok (.imul, 1) := by decide +kernel
theorem dX7_get_40 : decode cX7_get 40 = .ok (.iload_n 3, 1) := by decide +kernel
theorem dX7_get_41 : decode cX7_get 41 = .ok (.iadd, 1) := by decide +kernel
theorem dX7_get_42 : decode cX7_get 42 = .ok (.iaload, 1) := by decide +kernel
theorem dX7_get_43 : decode cX7_get 43 = .ok (.ireturn, 1) := by decide +kernel
theorem dX7_copy_0 : decode cX7_copy 0 = .ok (.iload_n 1, 1) := by decide +kernel
theorem dX7_copy_1 : decode cX7_copy 1 = .ok (.invokestatic 85, 3) := by decide +kernel
theorem dX7_copy_4 : decode cX7_copy 4 = .ok (.ifCond .eq 10, 3) := by decide +kernel
theorem dX7_copy_7 : decode cX7_copy 7 = .ok (.iload_n 3, 1) := by decide +kernel
theorem dX7_copy_8 : decode cX7_copy 8 = .ok (.invokestatic 85, 3) := by decide +kernel
theorem dX7_copy_11 : decode cX7_copy 11 = .ok (.ifCond .ne 6, 3) := by decide +kernel
theorem dX7_copy_14 : decode cX7_copy 14 = .ok (.bipush (-2), 2) := by decide +kernel
theorem dX7_copy_16 : decode cX7_copy 16 = .ok (.ireturn, 1) := by decide +kernel
theorem dX7_copy_17 : decode cX7_copy 17 = .ok (.aload_n 0, 1) := by decide +kernel
theorem dX7_copy_18 : decode cX7_copy 18 = .ok (.getfield 7, 3) := by decide +kernel
theorem dX7_copy_21 : decode cX7_copy 21 = .ok (.iload_n 1, 1) := by decide +kernel
theorem dX7_copy_22 : decode cX7_copy 22 = .ok (.iaload, 1) := by decide +kernel
theorem dX7_copy_23 : decode cX7_copy 23 = .ok (.ifCond .lt 12, 3) := by decide +kernel
theorem dX7_copy_26 : decode cX7_copy 26 = .ok (.aload_n 0, 1) := by decide +kernel
theorem dX7_copy_27 : decode cX7_copy 27 = .ok (.getfield 7, 3) := by decide +kernel
theorem dX7_copy_30 : decode cX7_copy 30 = .ok (.iload_n 3, 1) := by decide +kernel
theorem dX7_copy_31 : decode cX7_copy 31 = .ok (.iaload, 1) := by decide +kernel
theorem dX7_copy_32 : decode cX7_copy 32 = .ok (.ifCond .ge 9, 3) := by decide +kernel
theorem dX7_copy_35 : decode cX7_copy 35 = .ok (.aload_n 0, 1) := by decide +kernel
theorem dX7_copy_36 : decode cX7_copy 36 = .ok (.iconst 1, 1) := by decide +kernel
theorem dX7_copy_37 : decode cX7_copy 37 = .ok (.invokevirtual 91, 3) := by decide +kernel
theorem dX7_copy_40 : decode cX7_copy 40 = .ok (.ireturn, 1) := by decide +kernel
theorem dX7_copy_41 : decode cX7_copy 41 = .ok (.aload_n 0, 1) := by decide +kernel
theorem dX7_copy_42 : decode cX7_copy 42 = .ok (.getfield 7, 3) := by decide +kernel
theorem dX7_copy_45 : decode cX7_copy 45 = .ok (.iload_n 1, 1) := by decide +kernel
theorem dX7_copy_46 : decode cX7_copy 46 = .ok (.iaload, 1) := by decide +kernel
theorem dX7_copy_47 : decode cX7_copy 47 = .ok (.aload_n 0, 1) := by decide +kernel
theorem dX7_copy_48 : decode cX7_copy 48 = .ok (.getfield 7, 3) := by decide +kernel
theorem dX7_copy_51 : decode cX7_copy 51 = .ok (.iload_n 3, 1) := by decide +kernel
theorem dX7_copy_52 : decode cX7_copy 52 = .ok (.iaload, 1) := by decide +kernel
theorem dX7_copy_53 : decode cX7_copy 53 = .ok (.if_icmp .eq 9, 3) := by decide +kernel
theorem dX7_copy_56 : decode cX7_copy 56 = .ok (.aload_n 0, 1) := by decide +kernel
theorem dX7_copy_57 : decode cX7_copy 57 = .ok (.iconst 4, 1) := by decide +kernel
theorem dX7_copy_58 : decode cX7_copy 58 = .ok (.invokevirtual 91, 3) := by decide +kernel
theorem dX7_copy_61 : decode cX7_copy 61 = .ok (.ireturn, 1) := by decide +kernel
theorem dX7_copy_62 : decode cX7_copy 62 = .ok (.iload_n 2, 1) := by decide +kernel
theorem dX7_copy_63 : decode cX7_copy 63 = .ok (.ifCond .lt 48, 3) := by decide +kernel
theorem dX7_copy_66 : decode cX7_copy 66 = .ok (.iload 4, 2) := by decide +kernel
theorem dX7_copy_68 : decode cX7_copy 68 = .ok (.ifCond .lt 43, 3) := by decide +kernel
theorem dX7_copy_71 : decode cX7_copy 71 = .ok (.iload 5, 2) := by decide +kernel
theorem dX7_copy_73 : decode cX7_copy 73 = .ok (.ifCond .lt 38, 3) := by decide +kernel
theorem dX7_copy_76 : decode cX7_copy 76 = .ok (.iload_n 2, 1) := by decide +kernel
theorem dX7_copy_77 : decode cX7_copy 77 = .ok (.i2l, 1) := by decide +kernel
theorem dX7_copy_78 : decode cX7_copy 78 = .ok (.iload 5, 2) := by decide +kernel
theorem dX7_copy_80 : decode cX7_copy 80 = .ok (.i2l, 1) := by decide +kernel
theorem dX7_copy_81 : decode cX7_copy 81 = .ok (.ladd, 1) := by decide +kernel
theorem dX7_copy_82 : decode cX7_copy 82 = .ok (.aload_n 0, 1) := by decide +kernel
theorem dX7_copy_83 : decode cX7_copy 83 = .ok (.getfield 13, 3) := by decide +kernel
theorem dX7_copy_86 : decode cX7_copy 86 = .ok (.iload_n 1, 1) := by decide +kernel
theorem dX7_copy_87 : decode cX7_copy 87 = .ok (.iaload, 1) := by decide +kernel
theorem dX7_copy_88 : decode cX7_copy 88 = .ok (.i2l, 1) := by decide +kernel
theorem dX7_copy_89 : decode cX7_copy 89 = .ok (.lcmp, 1) := by decide +kernel
theorem dX7_copy_90 : decode cX7_copy 90 = .ok (.ifCond .gt 21, 3) := by decide +kernel
theorem dX7_copy_93 : decode cX7_copy 93 = .ok (.iload 4, 2) := by decide +kernel
theorem dX7_copy_95 : decode cX7_copy 95 = .ok (.i2l, 1) := by decide +kernel
theorem dX7_copy_96 : decode cX7_copy 96 = .ok (.iload 5, 2) := by decide +kernel
theorem dX7_copy_98 : decode cX7_copy 98 = .ok (.i2l, 1) := by decide +kernel
theorem dX7_copy_99 : decode cX7_copy 99 = .ok (.ladd, 1) := by decide +kernel
theorem dX7_copy_100 : decode cX7_copy 100 = .ok (.aload_n 0, 1) := by decide +kernel
theorem dX7_copy_101 : decode cX7_copy 101 = .ok (.getfield 13, 3) := by decide +kernel
theorem dX7_copy_104 : decode cX7_copy 104 = .ok (.iload_n 3, 1) := by decide +kernel
theorem dX7_copy_105 : decode cX7_copy 105 = .ok (.iaload, 1) := by decide +kernel
theorem dX7_copy_106 : decode cX7_copy 106 = .ok (.i2l, 1) := by decide +kernel
theorem dX7_copy_107 : decode cX7_copy 107 = .ok (.lcmp, 1) := by decide +kernel
theorem dX7_copy_108 : decode cX7_copy 108 = .ok (.ifCond .le 9, 3) := by decide +kernel
theorem dX7_copy_111 : decode cX7_copy 111 = .ok (.aload_n 0, 1) := by decide +kernel
theorem dX7_copy_112 : decode cX7_copy 112 = .ok (.iconst 2, 1) := by decide +kernel
theorem dX7_copy_113 : decode cX7_copy 113 = .ok (.invokevirtual 91, 3) := by decide +kernel
theorem dX7_copy_116 : decode cX7_copy 116 = .ok (.ireturn, 1) := by decide +kernel
theorem dX7_copy_117 : decode cX7_copy 117 = .ok (.iconst 0, 1) := by decide +kernel
theorem dX7_copy_118 : decode cX7_copy 118 = .ok (.istore 6, 2) := by decide +kernel
theorem dX7_copy_120 : decode cX7_copy 120 = .ok (.iload 6, 2) := by decide +kernel
theorem dX7_copy_122 : decode cX7_copy 122 = .ok (.iload 5, 2) := by decide +kernel
theorem dX7_copy_124 : decode cX7_copy 124 = .ok (.if_icmp .ge 30, 3) := by decide +kernel
theorem dX7_copy_127 : decode cX7_copy 127 = .ok (.aload_n 0, 1) := by decide +kernel
theorem dX7_copy_128 : decode cX7_copy 128 = .ok (.getfield 19, 3) := by decide +kernel
theorem dX7_copy_131 : decode cX7_copy 131 = .ok (.iload 6, 2) := by decide +kernel
theorem dX7_copy_133 : decode cX7_copy 133 = .ok (.aload_n 0, 1) := by decide +kernel
theorem dX7_copy_134 : decode cX7_copy 134 = .ok (.getfield 16, 3) := by decide +kernel
theorem dX7_copy_137 : decode cX7_copy 137 = .ok (.bipush 60, 2) := by decide +kernel
theorem dX7_copy_139 : decode cX7_copy 139 = .ok (.iload_n 1, 1) := by decide +kernel
theorem dX7_copy_140 : decode cX7_copy 140 = .ok (.imul, 1) := by decide +kernel
theorem dX7_copy_141 : decode cX7_copy 141 = .ok (.iload_n 2, 1) := by decide +kernel
theorem dX7_copy_142 : decode cX7_copy 142 = .ok (.iadd, 1) := by decide +kernel
theorem dX7_copy_143 : decode cX7_copy 143 = .ok (.iload 6, 2) := by decide +kernel
theorem dX7_copy_145 : decode cX7_copy 145 = .ok (.iadd, 1) := by decide +kernel
theorem dX7_copy_146 : decode cX7_copy 146 = .ok (.iaload, 1) := by decide +kernel
theorem dX7_copy_147 : decode cX7_copy 147 = .ok (.iastore, 1) := by decide +kernel
theorem dX7_copy_148 : decode cX7_copy 148 = .ok (.iinc 6 1, 3) := by decide +kernel
theorem dX7_copy_151 : decode cX7_copy 151 = .ok (.goto (-31), 3) := by decide +kernel
theorem dX7_copy_154 : decode cX7_copy 154 = .ok (.iconst 0, 1) := by decide +kernel
theorem dX7_copy_155 : decode cX7_copy 155 = .ok (.istore 6, 2) := by decide +kernel
theorem dX7_copy_157 : decode cX7_copy 157 = .ok (.iload 6, 2) := by decide +kernel
theorem dX7_copy_159 : decode cX7_copy 159 = .ok (.iload 5, 2) := by decide +kernel
theorem dX7_copy_161 : decode cX7_copy 161 = .ok (.if_icmp .ge 31, 3) := by decide +kernel
theorem dX7_copy_164 : decode cX7_copy 164 = .ok (.aload_n 0, 1) := by decide +kernel
theorem dX7_copy_165 : decode cX7_copy 165 = .ok (.getfield 16, 3) := by decide +kernel
theorem dX7_copy_168 : decode cX7_copy 168 = .ok (.bipush 60, 2) := by decide +kernel
theorem dX7_copy_170 : decode cX7_copy 170 = .ok (.iload_n 3, 1) := by decide +kernel
theorem dX7_copy_171 : decode cX7_copy 171 = .ok (.imul, 1) := by decide +kernel
theorem dX7_copy_172 : decode cX7_copy 172 = .ok (.iload 4, 2) := by decide +kernel
theorem dX7_copy_174 : decode cX7_copy 174 = .ok (.iadd, 1) := by decide +kernel
theorem dX7_copy_175 : decode cX7_copy 175 = .ok (.iload 6, 2) := by decide +kernel
theorem dX7_copy_177 : decode cX7_copy 177 = .ok (.iadd, 1) := by decide +kernel
theorem dX7_copy_178 : decode cX7_copy 178 = .ok (.aload_n 0, 1) := by decide +kernel
theorem dX7_copy_179 : decode cX7_copy 179 = .ok (.getfield 19, 3) := by decide +kernel
theorem dX7_copy_182 : decode cX7_copy 182 = .ok (.iload 6, 2) := by decide +kernel
theorem dX7_copy_184 : decode cX7_copy 184 = .ok (.iaload, 1) := by decide +kernel
theorem dX7_copy_185 : decode cX7_copy 185 = .ok (.iastore, 1) := by decide +kernel
theorem dX7_copy_186 : decode cX7_copy 186 = .ok (.iinc 6 1, 3) := by decide +kernel
theorem dX7_copy_189 : decode cX7_copy 189 = .ok (.goto (-32), 3) := by decide +kernel
theorem dX7_copy_192 : decode cX7_copy 192 = .ok (.iconst 1, 1) := by decide +kernel
theorem dX7_copy_193 : decode cX7_copy 193 = .ok (.ireturn, 1) := by decide +kernel
theorem dX7_type_0 : decode cX7_type 0 = .ok (.iload_n 1, 1) := by decide +kernel
theorem dX7_type_1 : decode cX7_type 1 = .ok (.invokestatic 104, 3) := by decide +kernel
theorem dX7_type_4 : decode cX7_type 4 = .ok (.ifCond .eq 15, 3) := by decide +kernel
theorem dX7_type_7 : decode cX7_type 7 = .ok (.iload_n 2, 1) := by decide +kernel
theorem dX7_type_8 : decode cX7_type 8 = .ok (.i2l, 1) := by decide +kernel
theorem dX7_type_9 : decode cX7_type 9 = .ok (.lconst 0, 1) := by decide +kernel
theorem dX7_type_10 : decode cX7_type 10 = .ok (.ldc2_w 107, 3) := by decide +kernel
theorem dX7_type_13 : decode cX7_type 13 = .ok (.invokestatic 76, 3) := by decide +kernel
theorem dX7_type_16 : decode cX7_type 16 = .ok (.ifCond .ne 6, 3) := by decide +kernel
theorem dX7_type_19 : decode cX7_type 19 = .ok (.bipush (-2), 2) := by decide +kernel
theorem dX7_type_21 : decode cX7_type 21 = .ok (.ireturn, 1) := by decide +kernel
theorem dX7_type_22 : decode cX7_type 22 = .ok (.aload_n 0, 1) := by decide +kernel
theorem dX7_type_23 : decode cX7_type 23 = .ok (.getfield 25, 3) := by decide +kernel
theorem dX7_type_26 : decode cX7_type 26 = .ok (.iload_n 1, 1) := by decide +kernel
theorem dX7_type_27 : decode cX7_type 27 = .ok (.iaload, 1) := by decide +kernel
theorem dX7_type_28 : decode cX7_type 28 = .ok (.iload_n 1, 1) := by decide +kernel
theorem dX7_type_29 : decode cX7_type 29 = .ok (.ifCond .ne 8, 3) := by decide +kernel
theorem dX7_type_32 : decode cX7_type 32 = .ok (.bipush 32, 2) := by decide +kernel
theorem dX7_type_34 : decode cX7_type 34 = .ok (.goto 5, 3) := by decide +kernel
theorem dX7_type_37 : decode cX7_type 37 = .ok (.bipush 47, 2) := by decide +kernel
theorem dX7_type_39 : decode cX7_type 39 = .ok (.if_icmp .ne 6, 3) := by decide +kernel
theorem dX7_type_42 : decode cX7_type 42 = .ok (.bipush (-4), 2) := by decide +kernel
theorem dX7_type_44 : decode cX7_type 44 = .ok (.ireturn, 1) := by decide +kernel
theorem dX7_type_45 : decode cX7_type 45 = .ok (.aload_n 0, 1) := by decide +kernel
theorem dX7_type_46 : decode cX7_type 46 = .ok (.getfield 22, 3) := by decide +kernel
theorem dX7_type_49 : decode cX7_type 49 = .ok (.bipush 48, 2) := by decide +kernel
theorem dX7_type_51 : decode cX7_type 51 = .ok (.iload_n 1, 1) := by decide +kernel
theorem dX7_type_52 : decode cX7_type 52 = .ok (.imul, 1) := by decide +kernel
theorem dX7_type_53 : decode cX7_type 53 = .ok (.aload_n 0, 1) := by decide +kernel
theorem dX7_type_54 : decode cX7_type 54 = .ok (.getfield 25, 3) := by decide +kernel
theorem dX7_type_57 : decode cX7_type 57 = .ok (.iload_n 1, 1) := by decide +kernel
theorem dX7_type_58 : decode cX7_type 58 = .ok (.iaload, 1) := by decide +kernel
theorem dX7_type_59 : decode cX7_type 59 = .ok (.iadd, 1) := by decide +kernel
theorem dX7_type_60 : decode cX7_type 60 = .ok (.iload_n 2, 1) := by decide +kernel
theorem dX7_type_61 : decode cX7_type 61 = .ok (.iastore, 1) := by decide +kernel
theorem dX7_type_62 : decode cX7_type 62 = .ok (.aload_n 0, 1) := by decide +kernel
theorem dX7_type_63 : decode cX7_type 63 = .ok (.getfield 25, 3) := by decide +kernel
theorem dX7_type_66 : decode cX7_type 66 = .ok (.iload_n 1, 1) := by decide +kernel
theorem dX7_type_67 : decode cX7_type 67 = .ok (.dup2, 1) := by decide +kernel
theorem dX7_type_68 : decode cX7_type 68 = .ok (.iaload, 1) := by decide +kernel
theorem dX7_type_69 : decode cX7_type 69 = .ok (.iconst 1, 1) := by decide +kernel
theorem dX7_type_70 : decode cX7_type 70 = .ok (.iadd, 1) := by decide +kernel
theorem dX7_type_71 : decode cX7_type 71 = .ok (.iastore, 1) := by decide +kernel
theorem dX7_type_72 : decode cX7_type 72 = .ok (.aload_n 0, 1) := by decide +kernel
theorem dX7_type_73 : decode cX7_type 73 = .ok (.getfield 25, 3) := by decide +kernel
theorem dX7_type_76 : decode cX7_type 76 = .ok (.iload_n 1, 1) := by decide +kernel
theorem dX7_type_77 : decode cX7_type 77 = .ok (.iaload, 1) := by decide +kernel
theorem dX7_type_78 : decode cX7_type 78 = .ok (.ireturn, 1) := by decide +kernel
theorem dX7_wipe_0 : decode cX7_wipe 0 = .ok (.iload_n 1, 1) := by decide +kernel
theorem dX7_wipe_1 : decode cX7_wipe 1 = .ok (.invokestatic 104, 3) := by decide +kernel
theorem dX7_wipe_4 : decode cX7_wipe 4 = .ok (.ifCond .ne 6, 3) := by decide +kernel
theorem dX7_wipe_7 : decode cX7_wipe 7 = .ok (.bipush (-2), 2) := by decide +kernel
theorem dX7_wipe_9 : decode cX7_wipe 9 = .ok (.ireturn, 1) := by decide +kernel
theorem dX7_wipe_10 : decode cX7_wipe 10 = .ok (.aload_n 0, 1) := by decide +kernel
theorem dX7_wipe_11 : decode cX7_wipe 11 = .ok (.getfield 25, 3) := by decide +kernel
theorem dX7_wipe_14 : decode cX7_wipe 14 = .ok (.iload_n 1, 1) := by decide +kernel
theorem dX7_wipe_15 : decode cX7_wipe 15 = .ok (.iaload, 1) := by decide +kernel
theorem dX7_wipe_16 : decode cX7_wipe 16 = .ok (.istore_n 2, 1) := by decide +kernel
theorem dX7_wipe_17 : decode cX7_wipe 17 = .ok (.aload_n 0, 1) := by decide +kernel
theorem dX7_wipe_18 : decode cX7_wipe 18 = .ok (.getfield 25, 3) := by decide +kernel
theorem dX7_wipe_21 : decode cX7_wipe 21 = .ok (.iload_n 1, 1) := by decide +kernel
theorem dX7_wipe_22 : decode cX7_wipe 22 = .ok (.iconst 0, 1) := by decide +kernel
theorem dX7_wipe_23 : decode cX7_wipe 23 = .ok (.iastore, 1) := by decide +kernel
theorem dX7_wipe_24 : decode cX7_wipe 24 = .ok (.iload_n 2, 1) := by decide +kernel
theorem dX7_wipe_25 : decode cX7_wipe 25 = .ok (.ireturn, 1) := by decide +kernel
theorem dX7_undo_0 : decode cX7_undo 0 = .ok (.iload_n 1, 1) := by decide +kernel
theorem dX7_undo_1 : decode cX7_undo 1 = .ok (.invokestatic 104, 3) := by decide +kernel
theorem dX7_undo_4 : decode cX7_undo 4 = .ok (.ifCond .ne 6, 3) := by decide +kernel
theorem dX7_undo_7 : decode cX7_undo 7 = .ok (.bipush (-2), 2) := by decide +kernel
theorem dX7_undo_9 : decode cX7_undo 9 = .ok (.ireturn, 1) := by decide +kernel
theorem dX7_undo_10 : decode cX7_undo 10 = .ok (.aload_n 0, 1) := by decide +kernel
theorem dX7_undo_11 : decode cX7_undo 11 = .ok (.getfield 25, 3) := by decide +kernel
theorem dX7_undo_14 : decode cX7_undo 14 = .ok (.iload_n 1, 1) := by decide +kernel
theorem dX7_undo_15 : decode cX7_undo 15 = .ok (.iaload, 1) := by decide +kernel
theorem dX7_undo_16 : decode cX7_undo 16 = .ok (.ifCond .ne 6, 3) := by decide +kernel
theorem dX7_undo_19 : decode cX7_undo 19 = .ok (.bipush (-3), 2) := by decide +kernel
theorem dX7_undo_21 : decode cX7_undo 21 = .ok (.ireturn, 1) := by decide +kernel
theorem dX7_undo_22 : decode cX7_undo 22 = .ok (.aload_n 0, 1) := by decide +kernel
theorem dX7_undo_23 : decode cX7_undo 23 = .ok (.getfield 25, 3) := by decide +kernel
theorem dX7_undo_26 : decode cX7_undo 26 = .ok (.iload_n 1, 1) := by decide +kernel
theorem dX7_undo_27 : decode cX7_undo 27 = .ok (.dup2, 1) := by decide +kernel
theorem dX7_undo_28 : decode cX7_undo 28 = .ok (.iaload, 1) := by decide +kernel
theorem dX7_undo_29 : decode cX7_undo 29 = .ok (.iconst 1, 1) := by decide +kernel
theorem dX7_undo_30 : decode cX7_undo 30 = .ok (.isub, 1) := by decide +kernel
theorem dX7_undo_31 : decode cX7_undo 31 = .ok (.iastore, 1) := by decide +kernel
theorem dX7_undo_32 : decode cX7_undo 32 = .ok (.aload_n 0, 1) := by decide +kernel
theorem dX7_undo_33 : decode cX7_undo 33 = .ok (.getfield 25, 3) := by decide +kernel
theorem dX7_undo_36 : decode cX7_undo 36 = .ok (.iload_n 1, 1) := by decide +kernel
theorem dX7_undo_37 : decode cX7_undo 37 = .ok (.iaload, 1) := by decide +kernel
theorem dX7_undo_38 : decode cX7_undo 38 = .ok (.ireturn, 1) := by decide +kernel
theorem dX7_playerOf_0 : decode cX7_playerOf 0 = .ok (.iload_n 0, 1) := by decide +kernel
theorem dX7_playerOf_1 : decode cX7_playerOf 1 = .ok (.ifCond .ne 36, 3) := by decide +kernel
theorem dX7_playerOf_4 : decode cX7_playerOf 4 = .ok (.iload_n 1, 1) := by decide +kernel
theorem dX7_playerOf_5 : decode cX7_playerOf 5 = .ok (.bipush 116, 2) := by decide +kernel
theorem dX7_playerOf_7 : decode cX7_playerOf 7 = .ok (.if_icmp .ne 7, 3) := by decide +kernel
theorem dX7_playerOf_10 : decode cX7_playerOf 10 = .ok (.iconst 0, 1) := by decide +kernel
theorem dX7_playerOf_11 : decode cX7_playerOf 11 = .ok (.goto 25, 3) := by decide +kernel
theorem dX7_playerOf_14 : decode cX7_playerOf 14 = .ok (.iload_n 1, 1) := by decide +kernel
theorem dX7_playerOf_15 : decode cX7_playerOf 15 = .ok (.bipush 104, 2) := by decide +kernel
theorem dX7_playerOf_17 : decode cX7_playerOf 17 = .ok (.if_icmp .ne 7, 3) := by decide +kernel
theorem dX7_playerOf_20 : decode cX7_playerOf 20 = .ok (.iconst 1, 1) := by decide +kernel
theorem dX7_playerOf_21 : decode cX7_playerOf 21 = .ok (.goto 15, 3) := by decide +kernel
theorem dX7_playerOf_24 : decode cX7_playerOf 24 = .ok (.iload_n 1, 1) := by decide +kernel
theorem dX7_playerOf_25 : decode cX7_playerOf 25 = .ok (.bipush 99, 2) := by decide +kernel
theorem dX7_playerOf_27 : decode cX7_playerOf 27 = .ok (.if_icmp .ne 7, 3) := by decide +kernel
theorem dX7_playerOf_30 : decode cX7_playerOf 30 = .ok (.iconst 2, 1) := by decide +kernel
theorem dX7_playerOf_31 : decode cX7_playerOf 31 = .ok (.goto 5, 3) := by decide +kernel
theorem dX7_playerOf_34 : decode cX7_playerOf 34 = .ok (.bipush (-9), 2) := by decide +kernel
theorem dX7_playerOf_36 : decode cX7_playerOf 36 = .ok (.ireturn, 1) := by decide +kernel
theorem dX7_playerOf_37 : decode cX7_playerOf 37 = .ok (.iload_n 0, 1) := by decide +kernel
theorem dX7_playerOf_38 : decode cX7_playerOf 38 = .ok (.iconst 1, 1) := by decide +kernel
theorem dX7_playerOf_39 : decode cX7_playerOf 39 = .ok (.if_icmp .ne 29, 3) := by decide +kernel
theorem dX7_playerOf_42 : decode cX7_playerOf 42 = .ok (.iload_n 1, 1) := by decide +kernel
theorem dX7_playerOf_43 : decode cX7_playerOf 43 = .ok (.i2l, 1) := by decide +kernel
theorem dX7_playerOf_44 : decode cX7_playerOf 44 = .ok (.ldc2_w 109, 3) := by decide +kernel
theorem dX7_playerOf_47 : decode cX7_playerOf 47 = .ok (.ldc2_w 111, 3) := by decide +kernel
theorem dX7_playerOf_50 : decode cX7_playerOf 50 = .ok (.invokestatic 76, 3) := by decide +kernel
theorem dX7_playerOf_53 : decode cX7_playerOf 53 = .ok (.ifCond .eq 10, 3) := by decide +kernel
theorem dX7_playerOf_56 : decode cX7_playerOf 56 = .ok (.iload_n 1, 1) := by decide +kernel
theorem dX7_playerOf_57 : decode cX7_playerOf 57 = .ok (.bipush 48, 2) := by decide +kernel
theorem dX7_playerOf_59 : decode cX7_playerOf 59 = .ok (.isub, 1) := by decide +kernel
theorem dX7_playerOf_60 : decode cX7_playerOf 60 = .ok (.goto 20, 3) := by decide +kernel
theorem dX7_playerOf_63 : decode cX7_playerOf 63 = .ok (.bipush (-9), 2) := by decide +kernel
theorem dX7_playerOf_65 : decode cX7_playerOf 65 = .ok (.goto 15, 3) := by decide +kernel
theorem dX7_playerOf_68 : decode cX7_playerOf 68 = .ok (.iload_n 1, 1) := by decide +kernel
theorem dX7_playerOf_69 : decode cX7_playerOf 69 = .ok (.bipush 59, 2) := by decide +kernel
theorem dX7_playerOf_71 : decode cX7_playerOf 71 = .ok (.if_icmp .ne 7, 3) := by decide +kernel
theorem dX7_playerOf_74 : decode cX7_playerOf 74 = .ok (.iconst 0, 1) := by decide +kernel
theorem dX7_playerOf_75 : decode cX7_playerOf 75 = .ok (.goto 5, 3) := by decide +kernel
theorem dX7_playerOf_78 : decode cX7_playerOf 78 = .ok (.bipush (-9), 2) := by decide +kernel
theorem dX7_playerOf_80 : decode cX7_playerOf 80 = .ok (.ireturn, 1) := by decide +kernel
theorem dX7_readsPlayers_0 : decode cX7_readsPlayers 0 = .ok (.aload_n 0, 1) := by decide +kernel
theorem dX7_readsPlayers_1 : decode cX7_readsPlayers 1 = .ok (.iconst 0, 1) := by decide +kernel
theorem dX7_readsPlayers_2 : decode cX7_readsPlayers 2 = .ok (.putfield 113, 3) := by decide +kernel
theorem dX7_readsPlayers_5 : decode cX7_readsPlayers 5 = .ok (.aload_n 0, 1) := by decide +kernel
theorem dX7_readsPlayers_6 : decode cX7_readsPlayers 6 = .ok (.getfield 25, 3) := by decide +kernel
theorem dX7_readsPlayers_9 : decode cX7_readsPlayers 9 = .ok (.iconst 0, 1) := by decide +kernel
theorem dX7_readsPlayers_10 : decode cX7_readsPlayers 10 = .ok (.iaload, 1) := by decide +kernel
theorem dX7_readsPlayers_11 : decode cX7_readsPlayers 11 = .ok (.istore_n 1, 1) := by decide +kernel
theorem dX7_readsPlayers_12 : decode cX7_readsPlayers 12 = .ok (.iconst 0, 1) := by decide +kernel
theorem dX7_readsPlayers_13 : decode cX7_readsPlayers 13 = .ok (.istore_n 2, 1) := by decide +kernel
theorem dX7_readsPlayers_14 : decode cX7_readsPlayers 14 = .ok (.iload_n 2, 1) := by decide +kernel
theorem dX7_readsPlayers_15 : decode cX7_readsPlayers 15 = .ok (.iload_n 1, 1) := by decide +kernel
theorem dX7_readsPlayers_16 : decode cX7_readsPlayers 16 = .ok (.if_icmp .ge 77, 3) := by decide +kernel
theorem dX7_readsPlayers_19 : decode cX7_readsPlayers 19 = .ok (.iload_n 2, 1) := by decide +kernel
theorem dX7_readsPlayers_20 : decode cX7_readsPlayers 20 = .ok (.iconst 3, 1) := by decide +kernel
theorem dX7_readsPlayers_21 : decode cX7_readsPlayers 21 = .ok (.irem, 1) := by decide +kernel
theorem dX7_readsPlayers_22 : decode cX7_readsPlayers 22 = .ok (.istore_n 3, 1) := by decide +kernel
theorem dX7_readsPlayers_23 : decode cX7_readsPlayers 23 = .ok (.iload_n 3, 1) := by decide +kernel
theorem dX7_readsPlayers_24 : decode cX7_readsPlayers 24 = .ok (.aload_n 0, 1) := by decide +kernel
theorem dX7_readsPlayers_25 : decode cX7_readsPlayers 25 = .ok (.getfield 22, 3) := by decide +kernel
theorem dX7_readsPlayers_28 : decode cX7_readsPlayers 28 = .ok (.iload_n 2, 1) := by decide +kernel
theorem dX7_readsPlayers_29 : decode cX7_readsPlayers 29 = .ok (.iaload, 1) := by decide +kernel
theorem dX7_readsPlayers_30 : decode cX7_readsPlayers 30 = .ok (.invokestatic 116, 3) := by decide +kernel
theorem dX7_readsPlayers_33 : decode cX7_readsPlayers 33 = .ok (.istore 4, 2) := by decide +kernel
theorem dX7_readsPlayers_35 : decode cX7_readsPlayers 35 = .ok (.iload 4, 2) := by decide +kernel
theorem dX7_readsPlayers_37 : decode cX7_readsPlayers 37 = .ok (.bipush (-9), 2) := by decide +kernel
theorem dX7_readsPlayers_39 : decode cX7_readsPlayers 39 = .ok (.if_icmp .ne 10, 3) := by decide +kernel
theorem dX7_readsPlayers_42 : decode cX7_readsPlayers 42 = .ok (.aload_n 0, 1) := by decide +kernel
theorem dX7_readsPlayers_43 : decode cX7_readsPlayers 43 = .ok (.iconst 0, 1) := by decide +kernel
theorem dX7_readsPlayers_44 : decode cX7_readsPlayers 44 = .ok (.putfield 113, 3) := by decide +kernel
theorem dX7_readsPlayers_47 : decode cX7_readsPlayers 47 = .ok (.iload_n 2, 1) := by decide +kernel
theorem dX7_readsPlayers_48 : decode cX7_readsPlayers 48 = .ok (.ireturn, 1) := by decide +kernel
theorem dX7_readsPlayers_49 : decode cX7_readsPlayers 49 = .ok (.iload_n 3, 1) := by decide +kernel
theorem dX7_readsPlayers_50 : decode cX7_readsPlayers 50 = .ok (.iconst 2, 1) := by decide +kernel
theorem dX7_readsPlayers_51 : decode cX7_readsPlayers 51 = .ok (.if_icmp .ge 17, 3) := by decide +kernel
theorem dX7_readsPlayers_54 : decode cX7_readsPlayers 54 = .ok (.aload_n 0, 1) := by decide +kernel
theorem dX7_readsPlayers_55 : decode cX7_readsPlayers 55 = .ok (.getfield 28, 3) := by decide +kernel
theorem dX7_readsPlayers_58 : decode cX7_readsPlayers 58 = .ok (.iconst 2, 1) := by decide +kernel
theorem dX7_readsPlayers_59 : decode cX7_readsPlayers 59 = .ok (.iload_n 2, 1) := by decide +kernel
theorem dX7_readsPlayers_60 : decode cX7_readsPlayers 60 = .ok (.iconst 3, 1) := by decide +kernel
theorem dX7_readsPlayers_61 : decode cX7_readsPlayers 61 = .ok (.idiv, 1) := by decide +kernel
theorem dX7_readsPlayers_62 : decode cX7_readsPlayers 62 = .ok (.imul, 1) := by decide +kernel
theorem dX7_readsPlayers_63 : decode cX7_readsPlayers 63 = .ok (.iload_n 3, 1) := by decide +kernel
theorem dX7_readsPlayers_64 : decode cX7_readsPlayers 64 = .ok (.iadd, 1) := by decide +kernel
theorem dX7_readsPlayers_65 : decode cX7_readsPlayers 65 = .ok (.iload 4, 2) := by decide +kernel
theorem dX7_readsPlayers_67 : decode cX7_readsPlayers 67 = .ok (.iastore, 1) := by decide +kernel
theorem dX7_readsPlayers_68 : decode cX7_readsPlayers 68 = .ok (.aload_n 0, 1) := by decide +kernel
theorem dX7_readsPlayers_69 : decode cX7_readsPlayers 69 = .ok (.dup, 1) := by decide +kernel
theorem dX7_readsPlayers_70 : decode cX7_readsPlayers 70 = .ok (.getfield 113, 3) := by decide +kernel
theorem dX7_readsPlayers_73 : decode cX7_readsPlayers 73 = .ok (.iload_n 3, 1) := by decide +kernel
theorem dX7_readsPlayers_74 : decode cX7_readsPlayers 74 = .ok (.iconst 1, 1) := by decide +kernel
theorem dX7_readsPlayers_75 : decode cX7_readsPlayers 75 = .ok (.if_icmp .ne 7, 3) := by decide +kernel
theorem dX7_readsPlayers_78 : decode cX7_readsPlayers 78 = .ok (.iconst 1, 1) := by decide +kernel
theorem dX7_readsPlayers_79 : decode cX7_readsPlayers 79 = .ok (.goto 4, 3) := by decide +kernel
theorem dX7_readsPlayers_82 : decode cX7_readsPlayers 82 = .ok (.iconst 0, 1) := by decide +kernel
theorem dX7_readsPlayers_83 : decode cX7_readsPlayers 83 = .ok (.iadd, 1) := by decide +kernel
theorem dX7_readsPlayers_84 : decode cX7_readsPlayers 84 = .ok (.putfield 113, 3) := by decide +kernel
theorem dX7_readsPlayers_87 : decode cX7_readsPlayers 87 = .ok (.iinc 2 1, 3) := by decide +kernel
theorem dX7_readsPlayers_90 : decode cX7_readsPlayers 90 = .ok (.goto (-76), 3) := by decide +kernel
theorem dX7_readsPlayers_93 : decode cX7_readsPlayers 93 = .ok (.iload_n 1, 1) := by decide +kernel
theorem dX7_readsPlayers_94 : decode cX7_readsPlayers 94 = .ok (.ifCond .le 17, 3) := by decide +kernel
theorem dX7_readsPlayers_97 : decode cX7_readsPlayers 97 = .ok (.iload_n 1, 1) := by decide +kernel
theorem dX7_readsPlayers_98 : decode cX7_readsPlayers 98 = .ok (.iconst 3, 1) := by decide +kernel
theorem dX7_readsPlayers_99 : decode cX7_readsPlayers 99 = .ok (.irem, 1) := by decide +kernel
theorem dX7_readsPlayers_100 : decode cX7_readsPlayers 100 = .ok (.iconst 2, 1) := by decide +kernel
theorem dX7_readsPlayers_101 : decode cX7_readsPlayers 101 = .ok (.if_icmp .eq 10, 3) := by decide +kernel
theorem dX7_readsPlayers_104 : decode cX7_readsPlayers 104 = .ok (.aload_n 0, 1) := by decide +kernel
theorem dX7_readsPlayers_105 : decode cX7_readsPlayers 105 = .ok (.iconst 0, 1) := by decide +kernel
theorem dX7_readsPlayers_106 : decode cX7_readsPlayers 106 = .ok (.putfield 113, 3) := by decide +kernel
theorem dX7_readsPlayers_109 : decode cX7_readsPlayers 109 = .ok (.iload_n 1, 1) := by decide +kernel
theorem dX7_readsPlayers_110 : decode cX7_readsPlayers 110 = .ok (.ireturn, 1) := by decide +kernel
theorem dX7_readsPlayers_111 : decode cX7_readsPlayers 111 = .ok (.iconst (-1), 1) := by decide +kernel
theorem dX7_readsPlayers_112 : decode cX7_readsPlayers 112 = .ok (.ireturn, 1) := by decide +kernel
theorem dX7_letterOf_0 : decode cX7_letterOf 0 = .ok (.iload_n 0, 1) := by decide +kernel
theorem dX7_letterOf_1 : decode cX7_letterOf 1 = .ok (.i2l, 1) := by decide +kernel
theorem dX7_letterOf_2 : decode cX7_letterOf 2 = .ok (.ldc2_w 119, 3) := by decide +kernel
theorem dX7_letterOf_5 : decode cX7_letterOf 5 = .ok (.iload_n 1, 1) := by decide +kernel
theorem dX7_letterOf_6 : decode cX7_letterOf 6 = .ok (.i2l, 1) := by decide +kernel
theorem dX7_letterOf_7 : decode cX7_letterOf 7 = .ok (.invokestatic 76, 3) := by decide +kernel
theorem dX7_letterOf_10 : decode cX7_letterOf 10 = .ok (.ifCond .eq 10, 3) := by decide +kernel
theorem dX7_letterOf_13 : decode cX7_letterOf 13 = .ok (.iload_n 0, 1) := by decide +kernel
theorem dX7_letterOf_14 : decode cX7_letterOf 14 = .ok (.bipush 97, 2) := by decide +kernel
theorem dX7_letterOf_16 : decode cX7_letterOf 16 = .ok (.isub, 1) := by decide +kernel
theorem dX7_letterOf_17 : decode cX7_letterOf 17 = .ok (.goto 5, 3) := by decide +kernel
theorem dX7_letterOf_20 : decode cX7_letterOf 20 = .ok (.bipush (-9), 2) := by decide +kernel
theorem dX7_letterOf_22 : decode cX7_letterOf 22 = .ok (.ireturn, 1) := by decide +kernel
theorem dX7_noteOf_0 : decode cX7_noteOf 0 = .ok (.iload_n 0, 1) := by decide +kernel
theorem dX7_noteOf_1 : decode cX7_noteOf 1 = .ok (.ifCond .ne 12, 3) := by decide +kernel
theorem dX7_noteOf_4 : decode cX7_noteOf 4 = .ok (.iload_n 1, 1) := by decide +kernel
theorem dX7_noteOf_5 : decode cX7_noteOf 5 = .ok (.bipush 120, 2) := by decide +kernel
theorem dX7_noteOf_7 : decode cX7_noteOf 7 = .ok (.invokestatic 121, 3) := by decide +kernel
theorem dX7_noteOf_10 : decode cX7_noteOf 10 = .ok (.goto 29, 3) := by decide +kernel
theorem dX7_noteOf_13 : decode cX7_noteOf 13 = .ok (.iload_n 0, 1) := by decide +kernel
theorem dX7_noteOf_14 : decode cX7_noteOf 14 = .ok (.iconst 1, 1) := by decide +kernel
theorem dX7_noteOf_15 : decode cX7_noteOf 15 = .ok (.if_icmp .ne 12, 3) := by decide +kernel
theorem dX7_noteOf_18 : decode cX7_noteOf 18 = .ok (.iload_n 1, 1) := by decide +kernel
theorem dX7_noteOf_19 : decode cX7_noteOf 19 = .ok (.bipush 107, 2) := by decide +kernel
theorem dX7_noteOf_21 : decode cX7_noteOf 21 = .ok (.invokestatic 121, 3) := by decide +kernel
theorem dX7_noteOf_24 : decode cX7_noteOf 24 = .ok (.goto 15, 3) := by decide +kernel
theorem dX7_noteOf_27 : decode cX7_noteOf 27 = .ok (.iload_n 1, 1) := by decide +kernel
theorem dX7_noteOf_28 : decode cX7_noteOf 28 = .ok (.bipush 59, 2) := by decide +kernel
theorem dX7_noteOf_30 : decode cX7_noteOf 30 = .ok (.if_icmp .ne 7, 3) := by decide +kernel
theorem dX7_noteOf_33 : decode cX7_noteOf 33 = .ok (.iconst 0, 1) := by decide +kernel
theorem dX7_noteOf_34 : decode cX7_noteOf 34 = .ok (.goto 5, 3) := by decide +kernel
theorem dX7_noteOf_37 : decode cX7_noteOf 37 = .ok (.bipush (-9), 2) := by decide +kernel
theorem dX7_noteOf_39 : decode cX7_noteOf 39 = .ok (.ireturn, 1) := by decide +kernel
theorem dX7_readsNotes_0 : decode cX7_readsNotes 0 = .ok (.aload_n 0, 1) := by decide +kernel
theorem dX7_readsNotes_1 : decode cX7_readsNotes 1 = .ok (.iconst 0, 1) := by decide +kernel
theorem dX7_readsNotes_2 : decode cX7_readsNotes 2 = .ok (.putfield 124, 3) := by decide +kernel
theorem dX7_readsNotes_5 : decode cX7_readsNotes 5 = .ok (.aload_n 0, 1) := by decide +kernel
theorem dX7_readsNotes_6 : decode cX7_readsNotes 6 = .ok (.getfield 25, 3) := by decide +kernel
theorem dX7_readsNotes_9 : decode cX7_readsNotes 9 = .ok (.iconst 1, 1) := by decide +kernel
theorem dX7_readsNotes_10 : decode cX7_readsNotes 10 = .ok (.iaload, 1) := by decide +kernel
theorem dX7_readsNotes_11 : decode cX7_readsNotes 11 = .ok (.istore_n 1, 1) := by decide +kernel
theorem dX7_readsNotes_12 : decode cX7_readsNotes 12 = .ok (.iconst 0, 1) := by decide +kernel
theorem dX7_readsNotes_13 : decode cX7_readsNotes 13 = .ok (.istore_n 2, 1) := by decide +kernel
theorem dX7_readsNotes_14 : decode cX7_readsNotes 14 = .ok (.iload_n 2, 1) := by decide +kernel
theorem dX7_readsNotes_15 : decode cX7_readsNotes 15 = .ok (.iload_n 1, 1) := by decide +kernel
theorem dX7_readsNotes_16 : decode cX7_readsNotes 16 = .ok (.if_icmp .ge 80, 3) := by decide +kernel
theorem dX7_readsNotes_19 : decode cX7_readsNotes 19 = .ok (.iload_n 2, 1) := by decide +kernel
theorem dX7_readsNotes_20 : decode cX7_readsNotes 20 = .ok (.iconst 3, 1) := by decide +kernel
theorem dX7_readsNotes_21 : decode cX7_readsNotes 21 = .ok (.irem, 1) := by decide +kernel
theorem dX7_readsNotes_22 : decode cX7_readsNotes 22 = .ok (.istore_n 3, 1) := by decide +kernel
theorem dX7_readsNotes_23 : decode cX7_readsNotes 23 = .ok (.iload_n 3, 1) := by decide +kernel
theorem dX7_readsNotes_24 : decode cX7_readsNotes 24 = .ok (.aload_n 0, 1) := by decide +kernel
theorem dX7_readsNotes_25 : decode cX7_readsNotes 25 = .ok (.getfield 22, 3) := by decide +kernel
theorem dX7_readsNotes_28 : decode cX7_readsNotes 28 = .ok (.bipush 48, 2) := by decide +kernel
theorem dX7_readsNotes_30 : decode cX7_readsNotes 30 = .ok (.iload_n 2, 1) := by decide +kernel
theorem dX7_readsNotes_31 : decode cX7_readsNotes 31 = .ok (.iadd, 1) := by decide +kernel
theorem dX7_readsNotes_32 : decode cX7_readsNotes 32 = .ok (.iaload, 1) := by decide +kernel
theorem dX7_readsNotes_33 : decode cX7_readsNotes 33 = .ok (.invokestatic 127, 3) := by decide +kernel
theorem dX7_readsNotes_36 : decode cX7_readsNotes 36 = .ok (.istore 4, 2) := by decide +kernel
theorem dX7_readsNotes_38 : decode cX7_readsNotes 38 = .ok (.iload 4, 2) := by decide +kernel
theorem dX7_readsNotes_40 : decode cX7_readsNotes 40 = .ok (.bipush (-9), 2) := by decide +kernel
theorem dX7_readsNotes_42 : decode cX7_readsNotes 42 = .ok (.if_icmp .ne 10, 3) := by decide +kernel
theorem dX7_readsNotes_45 : decode cX7_readsNotes 45 = .ok (.aload_n 0, 1) := by decide +kernel
theorem dX7_readsNotes_46 : decode cX7_readsNotes 46 = .ok (.iconst 0, 1) := by decide +kernel
theorem dX7_readsNotes_47 : decode cX7_readsNotes 47 = .ok (.putfield 124, 3) := by decide +kernel
theorem dX7_readsNotes_50 : decode cX7_readsNotes 50 = .ok (.iload_n 2, 1) := by decide +kernel
theorem dX7_readsNotes_51 : decode cX7_readsNotes 51 = .ok (.ireturn, 1) := by decide +kernel
theorem dX7_readsNotes_52 : decode cX7_readsNotes 52 = .ok (.iload_n 3, 1) := by decide +kernel
theorem dX7_readsNotes_53 : decode cX7_readsNotes 53 = .ok (.iconst 2, 1) := by decide +kernel
theorem dX7_readsNotes_54 : decode cX7_readsNotes 54 = .ok (.if_icmp .ge 17, 3) := by decide +kernel
theorem dX7_readsNotes_57 : decode cX7_readsNotes 57 = .ok (.aload_n 0, 1) := by decide +kernel
theorem dX7_readsNotes_58 : decode cX7_readsNotes 58 = .ok (.getfield 31, 3) := by decide +kernel
theorem dX7_readsNotes_61 : decode cX7_readsNotes 61 = .ok (.iconst 2, 1) := by decide +kernel
theorem dX7_readsNotes_62 : decode cX7_readsNotes 62 = .ok (.iload_n 2, 1) := by decide +kernel
theorem dX7_readsNotes_63 : decode cX7_readsNotes 63 = .ok (.iconst 3, 1) := by decide +kernel
theorem dX7_readsNotes_64 : decode cX7_readsNotes 64 = .ok (.idiv, 1) := by decide +kernel
theorem dX7_readsNotes_65 : decode cX7_readsNotes 65 = .ok (.imul, 1) := by decide +kernel
theorem dX7_readsNotes_66 : decode cX7_readsNotes 66 = .ok (.iload_n 3, 1) := by decide +kernel
theorem dX7_readsNotes_67 : decode cX7_readsNotes 67 = .ok (.iadd, 1) := by decide +kernel
theorem dX7_readsNotes_68 : decode cX7_readsNotes 68 = .ok (.iload 4, 2) := by decide +kernel
theorem dX7_readsNotes_70 : decode cX7_readsNotes 70 = .ok (.iastore, 1) := by decide +kernel
theorem dX7_readsNotes_71 : decode cX7_readsNotes 71 = .ok (.aload_n 0, 1) := by decide +kernel
theorem dX7_readsNotes_72 : decode cX7_readsNotes 72 = .ok (.dup, 1) := by decide +kernel
theorem dX7_readsNotes_73 : decode cX7_readsNotes 73 = .ok (.getfield 124, 3) := by decide +kernel
theorem dX7_readsNotes_76 : decode cX7_readsNotes 76 = .ok (.iload_n 3, 1) := by decide +kernel
theorem dX7_readsNotes_77 : decode cX7_readsNotes 77 = .ok (.iconst 1, 1) := by decide +kernel
theorem dX7_readsNotes_78 : decode cX7_readsNotes 78 = .ok (.if_icmp .ne 7, 3) := by decide +kernel
theorem dX7_readsNotes_81 : decode cX7_readsNotes 81 = .ok (.iconst 1, 1) := by decide +kernel
theorem dX7_readsNotes_82 : decode cX7_readsNotes 82 = .ok (.goto 4, 3) := by decide +kernel
theorem dX7_readsNotes_85 : decode cX7_readsNotes 85 = .ok (.iconst 0, 1) := by decide +kernel
theorem dX7_readsNotes_86 : decode cX7_readsNotes 86 = .ok (.iadd, 1) := by decide +kernel
theorem dX7_readsNotes_87 : decode cX7_readsNotes 87 = .ok (.putfield 124, 3) := by decide +kernel
theorem dX7_readsNotes_90 : decode cX7_readsNotes 90 = .ok (.iinc 2 1, 3) := by decide +kernel
theorem dX7_readsNotes_93 : decode cX7_readsNotes 93 = .ok (.goto (-79), 3) := by decide +kernel
theorem dX7_readsNotes_96 : decode cX7_readsNotes 96 = .ok (.iload_n 1, 1) := by decide +kernel
theorem dX7_readsNotes_97 : decode cX7_readsNotes 97 = .ok (.ifCond .le 17, 3) := by decide +kernel
theorem dX7_readsNotes_100 : decode cX7_readsNotes 100 = .ok (.iload_n 1, 1) := by decide +kernel
theorem dX7_readsNotes_101 : decode cX7_readsNotes 101 = .ok (.iconst 3, 1) := by decide +kernel
theorem dX7_readsNotes_102 : decode cX7_readsNotes 102 = .ok (.irem, 1) := by decide +kernel
theorem dX7_readsNotes_103 : decode cX7_readsNotes 103 = .ok (.iconst 2, 1) := by decide +kernel
theorem dX7_readsNotes_104 : decode cX7_readsNotes 104 = .ok (.if_icmp .eq 10, 3) := by decide +kernel
theorem dX7_readsNotes_107 : decode cX7_readsNotes 107 = .ok (.aload_n 0, 1) := by decide +kernel
theorem dX7_readsNotes_108 : decode cX7_readsNotes 108 = .ok (.iconst 0, 1) := by decide +kernel
theorem dX7_readsNotes_109 : decode cX7_readsNotes 109 = .ok (.putfield 124, 3) := by decide +kernel
theorem dX7_readsNotes_112 : decode cX7_readsNotes 112 = .ok (.iload_n 1, 1) := by decide +kernel
theorem dX7_readsNotes_113 : decode cX7_readsNotes 113 = .ok (.ireturn, 1) := by decide +kernel
theorem dX7_readsNotes_114 : decode cX7_readsNotes 114 = .ok (.iconst (-1), 1) := by decide +kernel
theorem dX7_readsNotes_115 : decode cX7_readsNotes 115 = .ok (.ireturn, 1) := by decide +kernel
theorem dX7_readsText_0 : decode cX7_readsText 0 = .ok (.iload_n 1, 1) := by decide +kernel
theorem dX7_readsText_1 : decode cX7_readsText 1 = .ok (.ifCond .ne 10, 3) := by decide +kernel
theorem dX7_readsText_4 : decode cX7_readsText 4 = .ok (.aload_n 0, 1) := by decide +kernel
theorem dX7_readsText_5 : decode cX7_readsText 5 = .ok (.invokevirtual 130, 3) := by decide +kernel
theorem dX7_readsText_8 : decode cX7_readsText 8 = .ok (.goto 7, 3) := by decide +kernel
theorem dX7_readsText_11 : decode cX7_readsText 11 = .ok (.aload_n 0, 1) := by decide +kernel
theorem dX7_readsText_12 : decode cX7_readsText 12 = .ok (.invokevirtual 134, 3) := by decide +kernel
theorem dX7_readsText_15 : decode cX7_readsText 15 = .ok (.ireturn, 1) := by decide +kernel
theorem dX7_fault_0 : decode cX7_fault 0 = .ok (.iload_n 1, 1) := by decide +kernel
theorem dX7_fault_1 : decode cX7_fault 1 = .ok (.invokestatic 104, 3) := by decide +kernel
theorem dX7_fault_4 : decode cX7_fault 4 = .ok (.ifCond .eq 11, 3) := by decide +kernel
theorem dX7_fault_7 : decode cX7_fault 7 = .ok (.aload_n 0, 1) := by decide +kernel
theorem dX7_fault_8 : decode cX7_fault 8 = .ok (.iload_n 1, 1) := by decide +kernel
theorem dX7_fault_9 : decode cX7_fault 9 = .ok (.invokevirtual 137, 3) := by decide +kernel
theorem dX7_fault_12 : decode cX7_fault 12 = .ok (.goto 5, 3) := by decide +kernel
theorem dX7_fault_15 : decode cX7_fault 15 = .ok (.bipush (-2), 2) := by decide +kernel
theorem dX7_fault_17 : decode cX7_fault 17 = .ok (.ireturn, 1) := by decide +kernel
theorem dX7_isPlayer_0 : decode cX7_isPlayer 0 = .ok (.iload_n 1, 1) := by decide +kernel
theorem dX7_isPlayer_1 : decode cX7_isPlayer 1 = .ok (.i2l, 1) := by decide +kernel
theorem dX7_isPlayer_2 : decode cX7_isPlayer 2 = .ok (.lconst 0, 1) := by decide +kernel
theorem dX7_isPlayer_3 : decode cX7_isPlayer 3 = .ok (.aload_n 0, 1) := by decide +kernel
theorem dX7_isPlayer_4 : decode cX7_isPlayer 4 = .ok (.getfield 113, 3) := by decide +kernel
theorem dX7_isPlayer_7 : decode cX7_isPlayer 7 = .ok (.iconst 1, 1) := by decide +kernel
theorem dX7_isPlayer_8 : decode cX7_isPlayer 8 = .ok (.isub, 1) := by decide +kernel
theorem dX7_isPlayer_9 : decode cX7_isPlayer 9 = .ok (.i2l, 1) := by decide +kernel
theorem dX7_isPlayer_10 : decode cX7_isPlayer 10 = .ok (.invokestatic 76, 3) := by decide +kernel
theorem dX7_isPlayer_13 : decode cX7_isPlayer 13 = .ok (.ireturn, 1) := by decide +kernel
theorem dX7_isNote_0 : decode cX7_isNote 0 = .ok (.iload_n 1, 1) := by decide +kernel
theorem dX7_isNote_1 : decode cX7_isNote 1 = .ok (.i2l, 1) := by decide +kernel
theorem dX7_isNote_2 : decode cX7_isNote 2 = .ok (.lconst 0, 1) := by decide +kernel
theorem dX7_isNote_3 : decode cX7_isNote 3 = .ok (.aload_n 0, 1) := by decide +kernel
theorem dX7_isNote_4 : decode cX7_isNote 4 = .ok (.getfield 124, 3) := by decide +kernel
theorem dX7_isNote_7 : decode cX7_isNote 7 = .ok (.iconst 1, 1) := by decide +kernel
theorem dX7_isNote_8 : decode cX7_isNote 8 = .ok (.isub, 1) := by decide +kernel
theorem dX7_isNote_9 : decode cX7_isNote 9 = .ok (.i2l, 1) := by decide +kernel
theorem dX7_isNote_10 : decode cX7_isNote 10 = .ok (.invokestatic 76, 3) := by decide +kernel
theorem dX7_isNote_13 : decode cX7_isNote 13 = .ok (.ireturn, 1) := by decide +kernel
theorem dX7_isBeat_0 : decode cX7_isBeat 0 = .ok (.iload_n 0, 1) := by decide +kernel
theorem dX7_isBeat_1 : decode cX7_isBeat 1 = .ok (.i2l, 1) := by decide +kernel
theorem dX7_isBeat_2 : decode cX7_isBeat 2 = .ok (.lconst 0, 1) := by decide +kernel
theorem dX7_isBeat_3 : decode cX7_isBeat 3 = .ok (.ldc2_w 140, 3) := by decide +kernel
theorem dX7_isBeat_6 : decode cX7_isBeat 6 = .ok (.invokestatic 76, 3) := by decide +kernel
theorem dX7_isBeat_9 : decode cX7_isBeat 9 = .ok (.ireturn, 1) := by decide +kernel
theorem dX7_player_0 : decode cX7_player 0 = .ok (.aload_n 0, 1) := by decide +kernel
theorem dX7_player_1 : decode cX7_player 1 = .ok (.invokevirtual 130, 3) := by decide +kernel
theorem dX7_player_4 : decode cX7_player 4 = .ok (.pop, 1) := by decide +kernel
theorem dX7_player_5 : decode cX7_player 5 = .ok (.aload_n 0, 1) := by decide +kernel
theorem dX7_player_6 : decode cX7_player 6 = .ok (.iload_n 1, 1) := by decide +kernel
theorem dX7_player_7 : decode cX7_player 7 = .ok (.invokevirtual 142, 3) := by decide +kernel
theorem dX7_player_10 : decode cX7_player 10 = .ok (.ifCond .eq 23, 3) := by decide +kernel
theorem dX7_player_13 : decode cX7_player 13 = .ok (.iload_n 2, 1) := by decide +kernel
theorem dX7_player_14 : decode cX7_player 14 = .ok (.invokestatic 104, 3) := by decide +kernel
theorem dX7_player_17 : decode cX7_player 17 = .ok (.ifCond .eq 16, 3) := by decide +kernel
theorem dX7_player_20 : decode cX7_player 20 = .ok (.aload_n 0, 1) := by decide +kernel
theorem dX7_player_21 : decode cX7_player 21 = .ok (.getfield 28, 3) := by decide +kernel
theorem dX7_player_24 : decode cX7_player 24 = .ok (.iconst 2, 1) := by decide +kernel
theorem dX7_player_25 : decode cX7_player 25 = .ok (.iload_n 1, 1) := by decide +kernel
theorem dX7_player_26 : decode cX7_player 26 = .ok (.imul, 1) := by decide +kernel
theorem dX7_player_27 : decode cX7_player 27 = .ok (.iload_n 2, 1) := by decide +kernel
theorem dX7_player_28 : decode cX7_player 28 = .ok (.iadd, 1) := by decide +kernel
theorem dX7_player_29 : decode cX7_player 29 = .ok (.iaload, 1) := by decide +kernel
theorem dX7_player_30 : decode cX7_player 30 = .ok (.goto 5, 3) := by decide +kernel
theorem dX7_player_33 : decode cX7_player 33 = .ok (.bipush (-2), 2) := by decide +kernel
theorem dX7_player_35 : decode cX7_player 35 = .ok (.ireturn, 1) := by decide +kernel
theorem dX7_noteBy_0 : decode cX7_noteBy 0 = .ok (.iload_n 1, 1) := by decide +kernel
theorem dX7_noteBy_1 : decode cX7_noteBy 1 = .ok (.aload_n 0, 1) := by decide +kernel
theorem dX7_noteBy_2 : decode cX7_noteBy 2 = .ok (.getfield 124, 3) := by decide +kernel
theorem dX7_noteBy_5 : decode cX7_noteBy 5 = .ok (.if_icmp .ge 16, 3) := by decide +kernel
theorem dX7_noteBy_8 : decode cX7_noteBy 8 = .ok (.aload_n 0, 1) := by decide +kernel
theorem dX7_noteBy_9 : decode cX7_noteBy 9 = .ok (.getfield 31, 3) := by decide +kernel
theorem dX7_noteBy_12 : decode cX7_noteBy 12 = .ok (.iconst 2, 1) := by decide +kernel
theorem dX7_noteBy_13 : decode cX7_noteBy 13 = .ok (.iload_n 1, 1) := by decide +kernel
theorem dX7_noteBy_14 : decode cX7_noteBy 14 = .ok (.imul, 1) := by decide +kernel
theorem dX7_noteBy_15 : decode cX7_noteBy 15 = .ok (.iload_n 2, 1) := by decide +kernel
theorem dX7_noteBy_16 : decode cX7_noteBy 16 = .ok (.iadd, 1) := by decide +kernel
theorem dX7_noteBy_17 : decode cX7_noteBy 17 = .ok (.iaload, 1) := by decide +kernel
theorem dX7_noteBy_18 : decode cX7_noteBy 18 = .ok (.goto 4, 3) := by decide +kernel
theorem dX7_noteBy_21 : decode cX7_noteBy 21 = .ok (.iconst (-1), 1) := by decide +kernel
theorem dX7_noteBy_22 : decode cX7_noteBy 22 = .ok (.ireturn, 1) := by decide +kernel
theorem dX7_note_0 : decode cX7_note 0 = .ok (.aload_n 0, 1) := by decide +kernel
theorem dX7_note_1 : decode cX7_note 1 = .ok (.invokevirtual 134, 3) := by decide +kernel
theorem dX7_note_4 : decode cX7_note 4 = .ok (.pop, 1) := by decide +kernel
theorem dX7_note_5 : decode cX7_note 5 = .ok (.iload_n 1, 1) := by decide +kernel
theorem dX7_note_6 : decode cX7_note 6 = .ok (.i2l, 1) := by decide +kernel
theorem dX7_note_7 : decode cX7_note 7 = .ok (.lconst 0, 1) := by decide +kernel
theorem dX7_note_8 : decode cX7_note 8 = .ok (.ldc2_w 145, 3) := by decide +kernel
theorem dX7_note_11 : decode cX7_note 11 = .ok (.invokestatic 76, 3) := by decide +kernel
theorem dX7_note_14 : decode cX7_note 14 = .ok (.ifCond .eq 19, 3) := by decide +kernel
theorem dX7_note_17 : decode cX7_note 17 = .ok (.iload_n 2, 1) := by decide +kernel
theorem dX7_note_18 : decode cX7_note 18 = .ok (.invokestatic 104, 3) := by decide +kernel
theorem dX7_note_21 : decode cX7_note 21 = .ok (.ifCond .eq 12, 3) := by decide +kernel
theorem dX7_note_24 : decode cX7_note 24 = .ok (.aload_n 0, 1) := by decide +kernel
theorem dX7_note_25 : decode cX7_note 25 = .ok (.iload_n 1, 1) := by decide +kernel
theorem dX7_note_26 : decode cX7_note 26 = .ok (.iload_n 2, 1) := by decide +kernel
theorem dX7_note_27 : decode cX7_note 27 = .ok (.invokevirtual 147, 3) := by decide +kernel
theorem dX7_note_30 : decode cX7_note 30 = .ok (.goto 5, 3) := by decide +kernel
theorem dX7_note_33 : decode cX7_note 33 = .ok (.bipush (-2), 2) := by decide +kernel
theorem dX7_note_35 : decode cX7_note 35 = .ok (.ireturn, 1) := by decide +kernel
theorem dX7_bag_0 : decode cX7_bag 0 = .ok (.iload_n 1, 1) := by decide +kernel
theorem dX7_bag_1 : decode cX7_bag 1 = .ok (.i2l, 1) := by decide +kernel
theorem dX7_bag_2 : decode cX7_bag 2 = .ok (.lconst 1, 1) := by decide +kernel
theorem dX7_bag_3 : decode cX7_bag 3 = .ok (.ldc2_w 150, 3) := by decide +kernel
theorem dX7_bag_6 : decode cX7_bag 6 = .ok (.invokestatic 76, 3) := by decide +kernel
theorem dX7_bag_9 : decode cX7_bag 9 = .ok (.ifCond .ne 6, 3) := by decide +kernel
theorem dX7_bag_12 : decode cX7_bag 12 = .ok (.bipush (-2), 2) := by decide +kernel
theorem dX7_bag_14 : decode cX7_bag 14 = .ok (.ireturn, 1) := by decide +kernel
theorem dX7_bag_15 : decode cX7_bag 15 = .ok (.aload_n 0, 1) := by decide +kernel
theorem dX7_bag_16 : decode cX7_bag 16 = .ok (.getfield 67, 3) := by decide +kernel
theorem dX7_bag_19 : decode cX7_bag 19 = .ok (.istore_n 2, 1) := by decide +kernel
theorem dX7_bag_20 : decode cX7_bag 20 = .ok (.aload_n 0, 1) := by decide +kernel
theorem dX7_bag_21 : decode cX7_bag 21 = .ok (.iload_n 1, 1) := by decide +kernel
theorem dX7_bag_22 : decode cX7_bag 22 = .ok (.putfield 67, 3) := by decide +kernel
theorem dX7_bag_25 : decode cX7_bag 25 = .ok (.iload_n 2, 1) := by decide +kernel
theorem dX7_bag_26 : decode cX7_bag 26 = .ok (.ireturn, 1) := by decide +kernel
theorem dX7_event_0 : decode cX7_event 0 = .ok (.iload_n 1, 1) := by decide +kernel
theorem dX7_event_1 : decode cX7_event 1 = .ok (.i2l, 1) := by decide +kernel
theorem dX7_event_2 : decode cX7_event 2 = .ok (.lconst 0, 1) := by decide +kernel
theorem dX7_event_3 : decode cX7_event 3 = .ok (.ldc2_w 89, 3) := by decide +kernel
theorem dX7_event_6 : decode cX7_event 6 = .ok (.invokestatic 76, 3) := by decide +kernel
theorem dX7_event_9 : decode cX7_event 9 = .ok (.ifCond .eq 10, 3) := by decide +kernel
theorem dX7_event_12 : decode cX7_event 12 = .ok (.iload_n 2, 1) := by decide +kernel
theorem dX7_event_13 : decode cX7_event 13 = .ok (.invokestatic 152, 3) := by decide +kernel
theorem dX7_event_16 : decode cX7_event 16 = .ok (.ifCond .ne 6, 3) := by decide +kernel
theorem dX7_event_19 : decode cX7_event 19 = .ok (.bipush (-2), 2) := by decide +kernel
theorem dX7_event_21 : decode cX7_event 21 = .ok (.ireturn, 1) := by decide +kernel
theorem dX7_event_22 : decode cX7_event 22 = .ok (.aload_n 0, 1) := by decide +kernel
theorem dX7_event_23 : decode cX7_event 23 = .ok (.getfield 155, 3) := by decide +kernel
theorem dX7_event_26 : decode cX7_event 26 = .ok (.bipush 8, 2) := by decide +kernel
theorem dX7_event_28 : decode cX7_event 28 = .ok (.if_icmp .ne 6, 3) := by decide +kernel
theorem dX7_event_31 : decode cX7_event 31 = .ok (.bipush (-4), 2) := by decide +kernel
theorem dX7_event_33 : decode cX7_event 33 = .ok (.ireturn, 1) := by decide +kernel
theorem dX7_event_34 : decode cX7_event 34 = .ok (.aload_n 0, 1) := by decide +kernel
theorem dX7_event_35 : decode cX7_event 35 = .ok (.getfield 34, 3) := by decide +kernel
theorem dX7_event_38 : decode cX7_event 38 = .ok (.iconst 2, 1) := by decide +kernel
theorem dX7_event_39 : decode cX7_event 39 = .ok (.aload_n 0, 1) := by decide +kernel
theorem dX7_event_40 : decode cX7_event 40 = .ok (.getfield 155, 3) := by decide +kernel
theorem dX7_event_43 : decode cX7_event 43 = .ok (.imul, 1) := by decide +kernel
theorem dX7_event_44 : decode cX7_event 44 = .ok (.iload_n 1, 1) := by decide +kernel
theorem dX7_event_45 : decode cX7_event 45 = .ok (.iastore, 1) := by decide +kernel
theorem dX7_event_46 : decode cX7_event 46 = .ok (.aload_n 0, 1) := by decide +kernel
theorem dX7_event_47 : decode cX7_event 47 = .ok (.getfield 34, 3) := by decide +kernel
theorem dX7_event_50 : decode cX7_event 50 = .ok (.iconst 2, 1) := by decide +kernel
theorem dX7_event_51 : decode cX7_event 51 = .ok (.aload_n 0, 1) := by decide +kernel
theorem dX7_event_52 : decode cX7_event 52 = .ok (.getfield 155, 3) := by decide +kernel
theorem dX7_event_55 : decode cX7_event 55 = .ok (.imul, 1) := by decide +kernel
theorem dX7_event_56 : decode cX7_event 56 = .ok (.iconst 1, 1) := by decide +kernel
theorem dX7_event_57 : decode cX7_event 57 = .ok (.iadd, 1) := by decide +kernel
theorem dX7_event_58 : decode cX7_event 58 = .ok (.iload_n 2, 1) := by decide +kernel
theorem dX7_event_59 : decode cX7_event 59 = .ok (.iastore, 1) := by decide +kernel
theorem dX7_event_60 : decode cX7_event 60 = .ok (.aload_n 0, 1) := by decide +kernel
theorem dX7_event_61 : decode cX7_event 61 = .ok (.dup, 1) := by decide +kernel
theorem dX7_event_62 : decode cX7_event 62 = .ok (.getfield 155, 3) := by decide +kernel
theorem dX7_event_65 : decode cX7_event 65 = .ok (.iconst 1, 1) := by decide +kernel
theorem dX7_event_66 : decode cX7_event 66 = .ok (.iadd, 1) := by decide +kernel
theorem dX7_event_67 : decode cX7_event 67 = .ok (.putfield 155, 3) := by decide +kernel
theorem dX7_event_70 : decode cX7_event 70 = .ok (.aload_n 0, 1) := by decide +kernel
theorem dX7_event_71 : decode cX7_event 71 = .ok (.getfield 155, 3) := by decide +kernel
theorem dX7_event_74 : decode cX7_event 74 = .ok (.ireturn, 1) := by decide +kernel
theorem dX7_back_0 : decode cX7_back 0 = .ok (.aload_n 0, 1) := by decide +kernel
theorem dX7_back_1 : decode cX7_back 1 = .ok (.getfield 155, 3) := by decide +kernel
theorem dX7_back_4 : decode cX7_back 4 = .ok (.ifCond .ne 6, 3) := by decide +kernel
theorem dX7_back_7 : decode cX7_back 7 = .ok (.bipush (-3), 2) := by decide +kernel
theorem dX7_back_9 : decode cX7_back 9 = .ok (.ireturn, 1) := by decide +kernel
theorem dX7_back_10 : decode cX7_back 10 = .ok (.aload_n 0, 1) := by decide +kernel
theorem dX7_back_11 : decode cX7_back 11 = .ok (.dup, 1) := by decide +kernel
theorem dX7_back_12 : decode cX7_back 12 = .ok (.getfield 155, 3) := by decide +kernel
theorem dX7_back_15 : decode cX7_back 15 = .ok (.iconst 1, 1) := by decide +kernel
theorem dX7_back_16 : decode cX7_back 16 = .ok (.isub, 1) := by decide +kernel
theorem dX7_back_17 : decode cX7_back 17 = .ok (.putfield 155, 3) := by decide +kernel
theorem dX7_back_20 : decode cX7_back 20 = .ok (.aload_n 0, 1) := by decide +kernel
theorem dX7_back_21 : decode cX7_back 21 = .ok (.getfield 155, 3) := by decide +kernel
theorem dX7_back_24 : decode cX7_back 24 = .ok (.ireturn, 1) := by decide +kernel
theorem dX7_read_0 : decode cX7_read 0 = .ok (.iload_n 1, 1) := by decide +kernel
theorem dX7_read_1 : decode cX7_read 1 = .ok (.invokestatic 85, 3) := by decide +kernel
theorem dX7_read_4 : decode cX7_read 4 = .ok (.ifCond .ne 6, 3) := by decide +kernel
theorem dX7_read_7 : decode cX7_read 7 = .ok (.bipush (-2), 2) := by decide +kernel
theorem dX7_read_9 : decode cX7_read 9 = .ok (.ireturn, 1) := by decide +kernel
theorem dX7_read_10 : decode cX7_read 10 = .ok (.aload_n 0, 1) := by decide +kernel
theorem dX7_read_11 : decode cX7_read 11 = .ok (.getfield 7, 3) := by decide +kernel
theorem dX7_read_14 : decode cX7_read 14 = .ok (.iload_n 1, 1) := by decide +kernel
theorem dX7_read_15 : decode cX7_read 15 = .ok (.iaload, 1) := by decide +kernel
theorem dX7_read_16 : decode cX7_read 16 = .ok (.ifCond .ge 9, 3) := by decide +kernel
theorem dX7_read_19 : decode cX7_read 19 = .ok (.aload_n 0, 1) := by decide +kernel
theorem dX7_read_20 : decode cX7_read 20 = .ok (.iconst 1, 1) := by decide +kernel
theorem dX7_read_21 : decode cX7_read 21 = .ok (.invokevirtual 91, 3) := by decide +kernel
theorem dX7_read_24 : decode cX7_read 24 = .ok (.ireturn, 1) := by decide +kernel
theorem dX7_read_25 : decode cX7_read 25 = .ok (.iconst 0, 1) := by decide +kernel
theorem dX7_read_26 : decode cX7_read 26 = .ok (.istore_n 2, 1) := by decide +kernel
theorem dX7_read_27 : decode cX7_read 27 = .ok (.iconst 1, 1) := by decide +kernel
theorem dX7_read_28 : decode cX7_read 28 = .ok (.istore_n 3, 1) := by decide +kernel
theorem dX7_read_29 : decode cX7_read 29 = .ok (.iload_n 3, 1) := by decide +kernel
theorem dX7_read_30 : decode cX7_read 30 = .ok (.ifCond .eq 73, 3) := by decide +kernel
theorem dX7_read_33 : decode cX7_read 33 = .ok (.iconst 2, 1) := by decide +kernel
theorem dX7_read_34 : decode cX7_read 34 = .ok (.iload_n 2, 1) := by decide +kernel
theorem dX7_read_35 : decode cX7_read 35 = .ok (.imul, 1) := by decide +kernel
theorem dX7_read_36 : decode cX7_read 36 = .ok (.iconst 2, 1) := by decide +kernel
theorem dX7_read_37 : decode cX7_read 37 = .ok (.iadd, 1) := by decide +kernel
theorem dX7_read_38 : decode cX7_read 38 = .ok (.aload_n 0, 1) := by decide +kernel
theorem dX7_read_39 : decode cX7_read 39 = .ok (.getfield 13, 3) := by decide +kernel
theorem dX7_read_42 : decode cX7_read 42 = .ok (.iload_n 1, 1) := by decide +kernel
theorem dX7_read_43 : decode cX7_read 43 = .ok (.iaload, 1) := by decide +kernel
theorem dX7_read_44 : decode cX7_read 44 = .ok (.if_icmp .gt 59, 3) := by decide +kernel
theorem dX7_read_47 : decode cX7_read 47 = .ok (.aload_n 0, 1) := by decide +kernel
theorem dX7_read_48 : decode cX7_read 48 = .ok (.aload_n 0, 1) := by decide +kernel
theorem dX7_read_49 : decode cX7_read 49 = .ok (.getfield 16, 3) := by decide +kernel
theorem dX7_read_52 : decode cX7_read 52 = .ok (.bipush 60, 2) := by decide +kernel
theorem dX7_read_54 : decode cX7_read 54 = .ok (.iload_n 1, 1) := by decide +kernel
theorem dX7_read_55 : decode cX7_read 55 = .ok (.imul, 1) := by decide +kernel
theorem dX7_read_56 : decode cX7_read 56 = .ok (.iconst 2, 1) := by decide +kernel
theorem dX7_read_57 : decode cX7_read 57 = .ok (.iload_n 2, 1) := by decide +kernel
theorem dX7_read_58 : decode cX7_read 58 = .ok (.imul, 1) := by decide +kernel
theorem dX7_read_59 : decode cX7_read 59 = .ok (.iadd, 1) := by decide +kernel
theorem dX7_read_60 : decode cX7_read 60 = .ok (.iaload, 1) := by decide +kernel
theorem dX7_read_61 : decode cX7_read 61 = .ok (.aload_n 0, 1) := by decide +kernel
theorem dX7_read_62 : decode cX7_read 62 = .ok (.getfield 16, 3) := by decide +kernel
theorem dX7_read_65 : decode cX7_read 65 = .ok (.bipush 60, 2) := by decide +kernel
theorem dX7_read_67 : decode cX7_read 67 = .ok (.iload_n 1, 1) := by decide +kernel
theorem dX7_read_68 : decode cX7_read 68 = .ok (.imul, 1) := by decide +kernel
theorem dX7_read_69 : decode cX7_read 69 = .ok (.iconst 2, 1) := by decide +kernel
theorem dX7_read_70 : decode cX7_read 70 = .ok (.iload_n 2, 1) := by decide +kernel
theorem dX7_read_71 : decode cX7_read 71 = .ok (.imul, 1) := by decide +kernel
theorem dX7_read_72 : decode cX7_read 72 = .ok (.iadd, 1) := by decide +kernel
theorem dX7_read_73 : decode cX7_read 73 = .ok (.iconst 1, 1) := by decide +kernel
theorem dX7_read_74 : decode cX7_read 74 = .ok (.iadd, 1) := by decide +kernel
theorem dX7_read_75 : decode cX7_read 75 = .ok (.iaload, 1) := by decide +kernel
theorem dX7_read_76 : decode cX7_read 76 = .ok (.invokevirtual 158, 3) := by decide +kernel
theorem dX7_read_79 : decode cX7_read 79 = .ok (.ifCond .lt 7, 3) := by decide +kernel
theorem dX7_read_82 : decode cX7_read 82 = .ok (.iconst 1, 1) := by decide +kernel
theorem dX7_read_83 : decode cX7_read 83 = .ok (.goto 4, 3) := by decide +kernel
theorem dX7_read_86 : decode cX7_read 86 = .ok (.iconst 0, 1) := by decide +kernel
theorem dX7_read_87 : decode cX7_read 87 = .ok (.istore_n 3, 1) := by decide +kernel
theorem dX7_read_88 : decode cX7_read 88 = .ok (.iload_n 2, 1) := by decide +kernel
theorem dX7_read_89 : decode cX7_read 89 = .ok (.iload_n 3, 1) := by decide +kernel
theorem dX7_read_90 : decode cX7_read 90 = .ok (.ifCond .eq 7, 3) := by decide +kernel
theorem dX7_read_93 : decode cX7_read 93 = .ok (.iconst 1, 1) := by decide +kernel
theorem dX7_read_94 : decode cX7_read 94 = .ok (.goto 4, 3) := by decide +kernel
theorem dX7_read_97 : decode cX7_read 97 = .ok (.iconst 0, 1) := by decide +kernel
theorem dX7_read_98 : decode cX7_read 98 = .ok (.iadd, 1) := by decide +kernel
theorem dX7_read_99 : decode cX7_read 99 = .ok (.istore_n 2, 1) := by decide +kernel
theorem dX7_read_100 : decode cX7_read 100 = .ok (.goto (-71), 3) := by decide +kernel
theorem dX7_read_103 : decode cX7_read 103 = .ok (.iload_n 2, 1) := by decide +kernel
theorem dX7_read_104 : decode cX7_read 104 = .ok (.ireturn, 1) := by decide +kernel
theorem dX7_many_0 : decode cX7_many 0 = .ok (.iconst 0, 1) := by decide +kernel
theorem dX7_many_1 : decode cX7_many 1 = .ok (.istore_n 3, 1) := by decide +kernel
theorem dX7_many_2 : decode cX7_many 2 = .ok (.iconst 0, 1) := by decide +kernel
theorem dX7_many_3 : decode cX7_many 3 = .ok (.istore 4, 2) := by decide +kernel
theorem dX7_many_5 : decode cX7_many 5 = .ok (.iload 4, 2) := by decide +kernel
theorem dX7_many_7 : decode cX7_many 7 = .ok (.aload_n 0, 1) := by decide +kernel
theorem dX7_many_8 : decode cX7_many 8 = .ok (.getfield 155, 3) := by decide +kernel
theorem dX7_many_11 : decode cX7_many 11 = .ok (.if_icmp .ge 57, 3) := by decide +kernel
theorem dX7_many_14 : decode cX7_many 14 = .ok (.iload_n 3, 1) := by decide +kernel
theorem dX7_many_15 : decode cX7_many 15 = .ok (.aload_n 0, 1) := by decide +kernel
theorem dX7_many_16 : decode cX7_many 16 = .ok (.getfield 34, 3) := by decide +kernel
theorem dX7_many_19 : decode cX7_many 19 = .ok (.iconst 2, 1) := by decide +kernel
theorem dX7_many_20 : decode cX7_many 20 = .ok (.iload 4, 2) := by decide +kernel
theorem dX7_many_22 : decode cX7_many 22 = .ok (.imul, 1) := by decide +kernel
theorem dX7_many_23 : decode cX7_many 23 = .ok (.iaload, 1) := by decide +kernel
theorem dX7_many_24 : decode cX7_many 24 = .ok (.iload_n 1, 1) := by decide +kernel
theorem dX7_many_25 : decode cX7_many 25 = .ok (.if_icmp .ne 34, 3) := by decide +kernel
theorem dX7_many_28 : decode cX7_many 28 = .ok (.aload_n 0, 1) := by decide +kernel
theorem dX7_many_29 : decode cX7_many 29 = .ok (.getfield 34, 3) := by decide +kernel
theorem dX7_many_32 : decode cX7_many 32 = .ok (.iconst 2, 1) := by decide +kernel
theorem dX7_many_33 : decode cX7_many 33 = .ok (.iload 4, 2) := by decide +kernel
theorem dX7_many_35 : decode cX7_many 35 = .ok (.imul, 1) := by decide +kernel
theorem dX7_many_36 : decode cX7_many 36 = .ok (.iconst 1, 1) := by decide +kernel
theorem dX7_many_37 : decode cX7_many 37 = .ok (.iadd, 1) := by decide +kernel
theorem dX7_many_38 : decode cX7_many 38 = .ok (.iaload, 1) := by decide +kernel
theorem dX7_many_39 : decode cX7_many 39 = .ok (.iload_n 2, 1) := by decide +kernel
theorem dX7_many_40 : decode cX7_many 40 = .ok (.if_icmp .ne 19, 3) := by decide +kernel
theorem dX7_many_43 : decode cX7_many 43 = .ok (.aload_n 0, 1) := by decide +kernel
theorem dX7_many_44 : decode cX7_many 44 = .ok (.getfield 160, 3) := by decide +kernel
theorem dX7_many_47 : decode cX7_many 47 = .ok (.iload 4, 2) := by decide +kernel
theorem dX7_many_49 : decode cX7_many 49 = .ok (.invokestatic 163, 3) := by decide +kernel
theorem dX7_many_52 : decode cX7_many 52 = .ok (.ifCond .ne 7, 3) := by decide +kernel
theorem dX7_many_55 : decode cX7_many 55 = .ok (.iconst 1, 1) := by decide +kernel
theorem dX7_many_56 : decode cX7_many 56 = .ok (.goto 4, 3) := by decide +kernel
theorem dX7_many_59 : decode cX7_many 59 = .ok (.iconst 0, 1) := by decide +kernel
theorem dX7_many_60 : decode cX7_many 60 = .ok (.iadd, 1) := by decide +kernel
theorem dX7_many_61 : decode cX7_many 61 = .ok (.istore_n 3, 1) := by decide +kernel
theorem dX7_many_62 : decode cX7_many 62 = .ok (.iinc 4 1, 3) := by decide +kernel
theorem dX7_many_65 : decode cX7_many 65 = .ok (.goto (-60), 3) := by decide +kernel
theorem dX7_many_68 : decode cX7_many 68 = .ok (.iload_n 3, 1) := by decide +kernel
theorem dX7_many_69 : decode cX7_many 69 = .ok (.ireturn, 1) := by decide +kernel
theorem dX7_whoIn_0 : decode cX7_whoIn 0 = .ok (.iconst (-1), 1) := by decide +kernel
theorem dX7_whoIn_1 : decode cX7_whoIn 1 = .ok (.istore_n 2, 1) := by decide +kernel
theorem dX7_whoIn_2 : decode cX7_whoIn 2 = .ok (.iconst 0, 1) := by decide +kernel
theorem dX7_whoIn_3 : decode cX7_whoIn 3 = .ok (.istore_n 3, 1) := by decide +kernel
theorem dX7_whoIn_4 : decode cX7_whoIn 4 = .ok (.iload_n 3, 1) := by decide +kernel
theorem dX7_whoIn_5 : decode cX7_whoIn 5 = .ok (.aload_n 0, 1) := by decide +kernel
theorem dX7_whoIn_6 : decode cX7_whoIn 6 = .ok (.getfield 113, 3) := by decide +kernel
theorem dX7_whoIn_9 : decode cX7_whoIn 9 = .ok (.if_icmp .ge 25, 3) := by decide +kernel
theorem dX7_whoIn_12 : decode cX7_whoIn 12 = .ok (.aload_n 0, 1) := by decide +kernel
theorem dX7_whoIn_13 : decode cX7_whoIn 13 = .ok (.getfield 58, 3) := by decide +kernel
theorem dX7_whoIn_16 : decode cX7_whoIn 16 = .ok (.iload_n 3, 1) := by decide +kernel
theorem dX7_whoIn_17 : decode cX7_whoIn 17 = .ok (.iaload, 1) := by decide +kernel
theorem dX7_whoIn_18 : decode cX7_whoIn 18 = .ok (.iload_n 1, 1) := by decide +kernel
theorem dX7_whoIn_19 : decode cX7_whoIn 19 = .ok (.if_icmp .ne 7, 3) := by decide +kernel
theorem dX7_whoIn_22 : decode cX7_whoIn 22 = .ok (.iload_n 3, 1) := by decide +kernel
theorem dX7_whoIn_23 : decode cX7_whoIn 23 = .ok (.goto 4, 3) := by decide +kernel
theorem dX7_whoIn_26 : decode cX7_whoIn 26 = .ok (.iload_n 2, 1) := by decide +kernel
theorem dX7_whoIn_27 : decode cX7_whoIn 27 = .ok (.istore_n 2, 1) := by decide +kernel
theorem dX7_whoIn_28 : decode cX7_whoIn 28 = .ok (.iinc 3 1, 3) := by decide +kernel
theorem dX7_whoIn_31 : decode cX7_whoIn 31 = .ok (.goto (-27), 3) := by decide +kernel
theorem dX7_whoIn_34 : decode cX7_whoIn 34 = .ok (.iload_n 2, 1) := by decide +kernel
theorem dX7_whoIn_35 : decode cX7_whoIn 35 = .ok (.ireturn, 1) := by decide +kernel
theorem dX7_blows_0 : decode cX7_blows 0 = .ok (.aload_n 0, 1) := by decide +kernel
theorem dX7_blows_1 : decode cX7_blows 1 = .ok (.getfield 31, 3) := by decide +kernel
theorem dX7_blows_4 : decode cX7_blows 4 = .ok (.iconst 2, 1) := by decide +kernel
theorem dX7_blows_5 : decode cX7_blows 5 = .ok (.iload_n 1, 1) := by decide +kernel
theorem dX7_blows_6 : decode cX7_blows 6 = .ok (.imul, 1) := by decide +kernel
theorem dX7_blows_7 : decode cX7_blows 7 = .ok (.iconst 1, 1) := by decide +kernel
theorem dX7_blows_8 : decode cX7_blows 8 = .ok (.iadd, 1) := by decide +kernel
theorem dX7_blows_9 : decode cX7_blows 9 = .ok (.iaload, 1) := by decide +kernel
theorem dX7_blows_10 : decode cX7_blows 10 = .ok (.istore_n 2, 1) := by decide +kernel
theorem dX7_blows_11 : decode cX7_blows 11 = .ok (.aload_n 0, 1) := by decide +kernel
theorem dX7_blows_12 : decode cX7_blows 12 = .ok (.getfield 46, 3) := by decide +kernel
theorem dX7_blows_15 : decode cX7_blows 15 = .ok (.iload_n 1, 1) := by decide +kernel
theorem dX7_blows_16 : decode cX7_blows 16 = .ok (.iconst 0, 1) := by decide +kernel
theorem dX7_blows_17 : decode cX7_blows 17 = .ok (.iastore, 1) := by decide +kernel
theorem dX7_blows_18 : decode cX7_blows 18 = .ok (.aload_n 0, 1) := by decide +kernel
theorem dX7_blows_19 : decode cX7_blows 19 = .ok (.iload_n 2, 1) := by decide +kernel
theorem dX7_blows_20 : decode cX7_blows 20 = .ok (.invokevirtual 142, 3) := by decide +kernel
theorem dX7_blows_23 : decode cX7_blows 23 = .ok (.ifCond .ne 4, 3) := by decide +kernel
theorem dX7_blows_26 : decode cX7_blows 26 = .ok (.return_, 1) := by decide +kernel
theorem dX7_blows_27 : decode cX7_blows 27 = .ok (.aload_n 0, 1) := by decide +kernel
theorem dX7_blows_28 : decode cX7_blows 28 = .ok (.getfield 28, 3) := by decide +kernel
theorem dX7_blows_31 : decode cX7_blows 31 = .ok (.iconst 2, 1) := by decide +kernel
theorem dX7_blows_32 : decode cX7_blows 32 = .ok (.iload_n 2, 1) := by decide +kernel
theorem dX7_blows_33 : decode cX7_blows 33 = .ok (.imul, 1) := by decide +kernel
theorem dX7_blows_34 : decode cX7_blows 34 = .ok (.iaload, 1) := by decide +kernel
theorem dX7_blows_35 : decode cX7_blows 35 = .ok (.istore_n 3, 1) := by decide +kernel
theorem dX7_blows_36 : decode cX7_blows 36 = .ok (.iload_n 3, 1) := by decide +kernel
theorem dX7_blows_37 : decode cX7_blows 37 = .ok (.ifCond .ne 7, 3) := by decide +kernel
theorem dX7_blows_40 : decode cX7_blows 40 = .ok (.iconst 4, 1) := by decide +kernel
theorem dX7_blows_41 : decode cX7_blows 41 = .ok (.goto 13, 3) := by decide +kernel
theorem dX7_blows_44 : decode cX7_blows 44 = .ok (.iload_n 3, 1) := by decide +kernel
theorem dX7_blows_45 : decode cX7_blows 45 = .ok (.iconst 1, 1) := by decide +kernel
theorem dX7_blows_46 : decode cX7_blows 46 = .ok (.if_icmp .ne 7, 3) := by decide +kernel
theorem dX7_blows_49 : decode cX7_blows 49 = .ok (.iconst 2, 1) := by decide +kernel
theorem dX7_blows_50 : decode cX7_blows 50 = .ok (.goto 4, 3) := by decide +kernel
theorem dX7_blows_53 : decode cX7_blows 53 = .ok (.iconst 1, 1) := by decide +kernel
theorem dX7_blows_54 : decode cX7_blows 54 = .ok (.istore 4, 2) := by decide +kernel
theorem dX7_blows_56 : decode cX7_blows 56 = .ok (.aload_n 0, 1) := by decide +kernel
theorem dX7_blows_57 : decode cX7_blows 57 = .ok (.getfield 58, 3) := by decide +kernel
theorem dX7_blows_60 : decode cX7_blows 60 = .ok (.iload_n 2, 1) := by decide +kernel
theorem dX7_blows_61 : decode cX7_blows 61 = .ok (.iaload, 1) := by decide +kernel
theorem dX7_blows_62 : decode cX7_blows 62 = .ok (.aload_n 0, 1) := by decide +kernel
theorem dX7_blows_63 : decode cX7_blows 63 = .ok (.getfield 167, 3) := by decide +kernel
theorem dX7_blows_66 : decode cX7_blows 66 = .ok (.if_icmp .eq 25, 3) := by decide +kernel
theorem dX7_blows_69 : decode cX7_blows 69 = .ok (.iload_n 3, 1) := by decide +kernel
theorem dX7_blows_70 : decode cX7_blows 70 = .ok (.iconst 2, 1) := by decide +kernel
theorem dX7_blows_71 : decode cX7_blows 71 = .ok (.if_icmp .ne 24, 3) := by decide +kernel
theorem dX7_blows_74 : decode cX7_blows 74 = .ok (.aload_n 0, 1) := by decide +kernel
theorem dX7_blows_75 : decode cX7_blows 75 = .ok (.getfield 58, 3) := by decide +kernel
theorem dX7_blows_78 : decode cX7_blows 78 = .ok (.iload_n 2, 1) := by decide +kernel
theorem dX7_blows_79 : decode cX7_blows 79 = .ok (.iaload, 1) := by decide +kernel
theorem dX7_blows_80 : decode cX7_blows 80 = .ok (.aload_n 0, 1) := by decide +kernel
theorem dX7_blows_81 : decode cX7_blows 81 = .ok (.getfield 167, 3) := by decide +kernel
theorem dX7_blows_84 : decode cX7_blows 84 = .ok (.invokestatic 170, 3) := by decide +kernel
theorem dX7_blows_87 : decode cX7_blows 87 = .ok (.iconst 1, 1) := by decide +kernel
theorem dX7_blows_88 : decode cX7_blows 88 = .ok (.if_icmp .ne 7, 3) := by decide +kernel
theorem dX7_blows_91 : decode cX7_blows 91 = .ok (.iconst 1, 1) := by decide +kernel
theorem dX7_blows_92 : decode cX7_blows 92 = .ok (.goto 4, 3) := by decide +kernel
theorem dX7_blows_95 : decode cX7_blows 95 = .ok (.iconst 0, 1) := by decide +kernel
theorem dX7_blows_96 : decode cX7_blows 96 = .ok (.istore 5, 2) := by decide +kernel
theorem dX7_blows_98 : decode cX7_blows 98 = .ok (.iload 5, 2) := by decide +kernel
theorem dX7_blows_100 : decode cX7_blows 100 = .ok (.ifCond .eq 73, 3) := by decide +kernel
theorem dX7_blows_103 : decode cX7_blows 103 = .ok (.aload_n 0, 1) := by decide +kernel
theorem dX7_blows_104 : decode cX7_blows 104 = .ok (.getfield 173, 3) := by decide +kernel
theorem dX7_blows_107 : decode cX7_blows 107 = .ok (.iload 4, 2) := by decide +kernel
theorem dX7_blows_109 : decode cX7_blows 109 = .ok (.if_icmp .lt 64, 3) := by decide +kernel
theorem dX7_blows_112 : decode cX7_blows 112 = .ok (.iload 4, 2) := by decide +kernel
theorem dX7_blows_114 : decode cX7_blows 114 = .ok (.iload 4, 2) := by decide +kernel
theorem dX7_blows_116 : decode cX7_blows 116 = .ok (.iconst 2, 1) := by decide +kernel
theorem dX7_blows_117 : decode cX7_blows 117 = .ok (.idiv, 1) := by decide +kernel
theorem dX7_blows_118 : decode cX7_blows 118 = .ok (.isub, 1) := by decide +kernel
theorem dX7_blows_119 : decode cX7_blows 119 = .ok (.istore 6, 2) := by decide +kernel
theorem dX7_blows_121 : decode cX7_blows 121 = .ok (.aload_n 0, 1) := by decide +kernel
theorem dX7_blows_122 : decode cX7_blows 122 = .ok (.dup, 1) := by decide +kernel
theorem dX7_blows_123 : decode cX7_blows 123 = .ok (.getfield 173, 3) := by decide +kernel
theorem dX7_blows_126 : decode cX7_blows 126 = .ok (.iload 6, 2) := by decide +kernel
theorem dX7_blows_128 : decode cX7_blows 128 = .ok (.isub, 1) := by decide +kernel
theorem dX7_blows_129 : decode cX7_blows 129 = .ok (.putfield 173, 3) := by decide +kernel
theorem dX7_blows_132 : decode cX7_blows 132 = .ok (.aload_n 0, 1) := by decide +kernel
theorem dX7_blows_133 : decode cX7_blows 133 = .ok (.getfield 52, 3) := by decide +kernel
theorem dX7_blows_136 : decode cX7_blows 136 = .ok (.iload_n 2, 1) := by decide +kernel
theorem dX7_blows_137 : decode cX7_blows 137 = .ok (.dup2, 1) := by decide +kernel
theorem dX7_blows_138 : decode cX7_blows 138 = .ok (.iaload, 1) := by decide +kernel
theorem dX7_blows_139 : decode cX7_blows 139 = .ok (.iload 6, 2) := by decide +kernel
theorem dX7_blows_141 : decode cX7_blows 141 = .ok (.iadd, 1) := by decide +kernel
theorem dX7_blows_142 : decode cX7_blows 142 = .ok (.iastore, 1) := by decide +kernel
theorem dX7_blows_143 : decode cX7_blows 143 = .ok (.aload_n 0, 1) := by decide +kernel
theorem dX7_blows_144 : decode cX7_blows 144 = .ok (.getfield 49, 3) := by decide +kernel
theorem dX7_blows_147 : decode cX7_blows 147 = .ok (.iload_n 2, 1) := by decide +kernel
theorem dX7_blows_148 : decode cX7_blows 148 = .ok (.dup2, 1) := by decide +kernel
theorem dX7_blows_149 : decode cX7_blows 149 = .ok (.iaload, 1) := by decide +kernel
theorem dX7_blows_150 : decode cX7_blows 150 = .ok (.iconst 1, 1) := by decide +kernel
theorem dX7_blows_151 : decode cX7_blows 151 = .ok (.iadd, 1) := by decide +kernel
theorem dX7_blows_152 : decode cX7_blows 152 = .ok (.iastore, 1) := by decide +kernel
theorem dX7_blows_153 : decode cX7_blows 153 = .ok (.aload_n 0, 1) := by decide +kernel
theorem dX7_blows_154 : decode cX7_blows 154 = .ok (.getfield 46, 3) := by decide +kernel
theorem dX7_blows_157 : decode cX7_blows 157 = .ok (.iload_n 1, 1) := by decide +kernel
theorem dX7_blows_158 : decode cX7_blows 158 = .ok (.aload_n 0, 1) := by decide +kernel
theorem dX7_blows_159 : decode cX7_blows 159 = .ok (.getfield 173, 3) := by decide +kernel
theorem dX7_blows_162 : decode cX7_blows 162 = .ok (.bipush 10, 2) := by decide +kernel
theorem dX7_blows_164 : decode cX7_blows 164 = .ok (.if_icmp .ge 7, 3) := by decide +kernel
theorem dX7_blows_167 : decode cX7_blows 167 = .ok (.iconst 1, 1) := by decide +kernel
theorem dX7_blows_168 : decode cX7_blows 168 = .ok (.goto 4, 3) := by decide +kernel
theorem dX7_blows_171 : decode cX7_blows 171 = .ok (.iconst 2, 1) := by decide +kernel
theorem dX7_blows_172 : decode cX7_blows 172 = .ok (.iastore, 1) := by decide +kernel
theorem dX7_blows_173 : decode cX7_blows 173 = .ok (.return_, 1) := by decide +kernel
theorem dX7_passes_0 : decode cX7_passes 0 = .ok (.iconst 3, 1) := by decide +kernel
theorem dX7_passes_1 : decode cX7_passes 1 = .ok (.aload_n 0, 1) := by decide +kernel
theorem dX7_passes_2 : decode cX7_passes 2 = .ok (.iconst 0, 1) := by decide +kernel
theorem dX7_passes_3 : decode cX7_passes 3 = .ok (.iload_n 1, 1) := by decide +kernel
theorem dX7_passes_4 : decode cX7_passes 4 = .ok (.invokevirtual 176, 3) := by decide +kernel
theorem dX7_passes_7 : decode cX7_passes 7 = .ok (.imul, 1) := by decide +kernel
theorem dX7_passes_8 : decode cX7_passes 8 = .ok (.aload_n 0, 1) := by decide +kernel
theorem dX7_passes_9 : decode cX7_passes 9 = .ok (.getfield 173, 3) := by decide +kernel
theorem dX7_passes_12 : decode cX7_passes 12 = .ok (.invokestatic 179, 3) := by decide +kernel
theorem dX7_passes_15 : decode cX7_passes 15 = .ok (.istore_n 2, 1) := by decide +kernel
theorem dX7_passes_16 : decode cX7_passes 16 = .ok (.aload_n 0, 1) := by decide +kernel
theorem dX7_passes_17 : decode cX7_passes 17 = .ok (.dup, 1) := by decide +kernel
theorem dX7_passes_18 : decode cX7_passes 18 = .ok (.getfield 173, 3) := by decide +kernel
theorem dX7_passes_21 : decode cX7_passes 21 = .ok (.iload_n 2, 1) := by decide +kernel
theorem dX7_passes_22 : decode cX7_passes 22 = .ok (.isub, 1) := by decide +kernel
theorem dX7_passes_23 : decode cX7_passes 23 = .ok (.putfield 173, 3) := by decide +kernel
theorem dX7_passes_26 : decode cX7_passes 26 = .ok (.aload_n 0, 1) := by decide +kernel
theorem dX7_passes_27 : decode cX7_passes 27 = .ok (.dup, 1) := by decide +kernel
theorem dX7_passes_28 : decode cX7_passes 28 = .ok (.getfield 182, 3) := by decide +kernel
theorem dX7_passes_31 : decode cX7_passes 31 = .ok (.iload_n 2, 1) := by decide +kernel
theorem dX7_passes_32 : decode cX7_passes 32 = .ok (.iadd, 1) := by decide +kernel
theorem dX7_passes_33 : decode cX7_passes 33 = .ok (.putfield 182, 3) := by decide +kernel
theorem dX7_passes_36 : decode cX7_passes 36 = .ok (.iconst 0, 1) := by decide +kernel
theorem dX7_passes_37 : decode cX7_passes 37 = .ok (.istore_n 3, 1) := by decide +kernel
theorem dX7_passes_38 : decode cX7_passes 38 = .ok (.iload_n 3, 1) := by decide +kernel
theorem dX7_passes_39 : decode cX7_passes 39 = .ok (.aload_n 0, 1) := by decide +kernel
theorem dX7_passes_40 : decode cX7_passes 40 = .ok (.getfield 124, 3) := by decide +kernel
theorem dX7_passes_43 : decode cX7_passes 43 = .ok (.if_icmp .ge 26, 3) := by decide +kernel
theorem dX7_passes_46 : decode cX7_passes 46 = .ok (.aload_n 0, 1) := by decide +kernel
theorem dX7_passes_47 : decode cX7_passes 47 = .ok (.getfield 31, 3) := by decide +kernel
theorem dX7_passes_50 : decode cX7_passes 50 = .ok (.iconst 2, 1) := by decide +kernel
theorem dX7_passes_51 : decode cX7_passes 51 = .ok (.iload_n 3, 1) := by decide +kernel
theorem dX7_passes_52 : decode cX7_passes 52 = .ok (.imul, 1) := by decide +kernel
theorem dX7_passes_53 : decode cX7_passes 53 = .ok (.iaload, 1) := by decide +kernel
theorem dX7_passes_54 : decode cX7_passes 54 = .ok (.iload_n 1, 1) := by decide +kernel
theorem dX7_passes_55 : decode cX7_passes 55 = .ok (.if_icmp .ne 8, 3) := by decide +kernel
theorem dX7_passes_58 : decode cX7_passes 58 = .ok (.aload_n 0, 1) := by decide +kernel
theorem dX7_passes_59 : decode cX7_passes 59 = .ok (.iload_n 3, 1) := by decide +kernel
theorem dX7_passes_60 : decode cX7_passes 60 = .ok (.invokevirtual 185, 3) := by decide +kernel
theorem dX7_passes_63 : decode cX7_passes 63 = .ok (.iinc 3 1, 3) := by decide +kernel
theorem dX7_passes_66 : decode cX7_passes 66 = .ok (.goto (-28), 3) := by decide +kernel
theorem dX7_passes_69 : decode cX7_passes 69 = .ok (.iconst 0, 1) := by decide +kernel
theorem dX7_passes_70 : decode cX7_passes 70 = .ok (.istore_n 3, 1) := by decide +kernel
theorem dX7_passes_71 : decode cX7_passes 71 = .ok (.aload_n 0, 1) := by decide +kernel
theorem dX7_passes_72 : decode cX7_passes 72 = .ok (.getfield 113, 3) := by decide +kernel
theorem dX7_passes_75 : decode cX7_passes 75 = .ok (.ifCond .le 127, 3) := by decide +kernel
theorem dX7_passes_78 : decode cX7_passes 78 = .ok (.aload_n 0, 1) := by decide +kernel
theorem dX7_passes_79 : decode cX7_passes 79 = .ok (.iconst 2, 1) := by decide +kernel
theorem dX7_passes_80 : decode cX7_passes 80 = .ok (.iload_n 1, 1) := by decide +kernel
theorem dX7_passes_81 : decode cX7_passes 81 = .ok (.invokevirtual 176, 3) := by decide +kernel
theorem dX7_passes_84 : decode cX7_passes 84 = .ok (.ifCond .ne 118, 3) := by decide +kernel
theorem dX7_passes_87 : decode cX7_passes 87 = .ok (.aload_n 0, 1) := by decide +kernel
theorem dX7_passes_88 : decode cX7_passes 88 = .ok (.getfield 71, 3) := by decide +kernel
theorem dX7_passes_91 : decode cX7_passes 91 = .ok (.iload_n 1, 1) := by decide +kernel
theorem dX7_passes_92 : decode cX7_passes 92 = .ok (.if_icmp .eq 110, 3) := by decide +kernel
theorem dX7_passes_95 : decode cX7_passes 95 = .ok (.aload_n 0, 1) := by decide +kernel
theorem dX7_passes_96 : decode cX7_passes 96 = .ok (.aload_n 0, 1) := by decide +kernel
theorem dX7_passes_97 : decode cX7_passes 97 = .ok (.getfield 167, 3) := by decide +kernel
theorem dX7_passes_100 : decode cX7_passes 100 = .ok (.invokevirtual 189, 3) := by decide +kernel
theorem dX7_passes_103 : decode cX7_passes 103 = .ok (.istore 4, 2) := by decide +kernel
theorem dX7_passes_105 : decode cX7_passes 105 = .ok (.aload_n 0, 1) := by decide +kernel
theorem dX7_passes_106 : decode cX7_passes 106 = .ok (.getfield 167, 3) := by decide +kernel
theorem dX7_passes_109 : decode cX7_passes 109 = .ok (.aload_n 0, 1) := by decide +kernel
theorem dX7_passes_110 : decode cX7_passes 110 = .ok (.getfield 113, 3) := by decide +kernel
theorem dX7_passes_113 : decode cX7_passes 113 = .ok (.iconst 1, 1) := by decide +kernel
theorem dX7_passes_114 : decode cX7_passes 114 = .ok (.isub, 1) := by decide +kernel
theorem dX7_passes_115 : decode cX7_passes 115 = .ok (.if_icmp .ne 7, 3) := by decide +kernel
theorem dX7_passes_118 : decode cX7_passes 118 = .ok (.iconst 1, 1) := by decide +kernel
theorem dX7_passes_119 : decode cX7_passes 119 = .ok (.goto 4, 3) := by decide +kernel
theorem dX7_passes_122 : decode cX7_passes 122 = .ok (.iconst 0, 1) := by decide +kernel
theorem dX7_passes_123 : decode cX7_passes 123 = .ok (.istore 5, 2) := by decide +kernel
theorem dX7_passes_125 : decode cX7_passes 125 = .ok (.aload_n 0, 1) := by decide +kernel
theorem dX7_passes_126 : decode cX7_passes 126 = .ok (.getfield 28, 3) := by decide +kernel
theorem dX7_passes_129 : decode cX7_passes 129 = .ok (.iconst 2, 1) := by decide +kernel
theorem dX7_passes_130 : decode cX7_passes 130 = .ok (.iload 4, 2) := by decide +kernel
theorem dX7_passes_132 : decode cX7_passes 132 = .ok (.imul, 1) := by decide +kernel
theorem dX7_passes_133 : decode cX7_passes 133 = .ok (.iconst 1, 1) := by decide +kernel
theorem dX7_passes_134 : decode cX7_passes 134 = .ok (.iadd, 1) := by decide +kernel
theorem dX7_passes_135 : decode cX7_passes 135 = .ok (.iaload, 1) := by decide +kernel
theorem dX7_passes_136 : decode cX7_passes 136 = .ok (.iload 5, 2) := by decide +kernel
theorem dX7_passes_138 : decode cX7_passes 138 = .ok (.ifCond .eq 7, 3) := by decide +kernel
theorem dX7_passes_141 : decode cX7_passes 141 = .ok (.iconst 2, 1) := by decide +kernel
theorem dX7_passes_142 : decode cX7_passes 142 = .ok (.goto 4, 3) := by decide +kernel
theorem dX7_passes_145 : decode cX7_passes 145 = .ok (.iconst 0, 1) := by decide +kernel
theorem dX7_passes_146 : decode cX7_passes 146 = .ok (.iadd, 1) := by decide +kernel
theorem dX7_passes_147 : decode cX7_passes 147 = .ok (.istore_n 3, 1) := by decide +kernel
theorem dX7_passes_148 : decode cX7_passes 148 = .ok (.aload_n 0, 1) := by decide +kernel
theorem dX7_passes_149 : decode cX7_passes 149 = .ok (.iconst 1, 1) := by decide +kernel
theorem dX7_passes_150 : decode cX7_passes 150 = .ok (.iload_n 1, 1) := by decide +kernel
theorem dX7_passes_151 : decode cX7_passes 151 = .ok (.invokevirtual 176, 3) := by decide +kernel
theorem dX7_passes_154 : decode cX7_passes 154 = .ok (.ifCond .le 9, 3) := by decide +kernel
theorem dX7_passes_157 : decode cX7_passes 157 = .ok (.iconst 2, 1) := by decide +kernel
theorem dX7_passes_158 : decode cX7_passes 158 = .ok (.iload_n 3, 1) := by decide +kernel
theorem dX7_passes_159 : decode cX7_passes 159 = .ok (.imul, 1) := by decide +kernel
theorem dX7_passes_160 : decode cX7_passes 160 = .ok (.goto 4, 3) := by decide +kernel
theorem dX7_passes_163 : decode cX7_passes 163 = .ok (.iload_n 3, 1) := by decide +kernel
theorem dX7_passes_164 : decode cX7_passes 164 = .ok (.aload_n 0, 1) := by decide +kernel
theorem dX7_passes_165 : decode cX7_passes 165 = .ok (.getfield 173, 3) := by decide +kernel
theorem dX7_passes_168 : decode cX7_passes 168 = .ok (.invokestatic 179, 3) := by decide +kernel
theorem dX7_passes_171 : decode cX7_passes 171 = .ok (.istore_n 3, 1) := by decide +kernel
theorem dX7_passes_172 : decode cX7_passes 172 = .ok (.aload_n 0, 1) := by decide +kernel
theorem dX7_passes_173 : decode cX7_passes 173 = .ok (.iload 5, 2) := by decide +kernel
theorem dX7_passes_175 : decode cX7_passes 175 = .ok (.ifCond .eq 7, 3) := by decide +kernel
theorem dX7_passes_178 : decode cX7_passes 178 = .ok (.iconst 0, 1) := by decide +kernel
theorem dX7_passes_179 : decode cX7_passes 179 = .ok (.goto 9, 3) := by decide +kernel
theorem dX7_passes_182 : decode cX7_passes 182 = .ok (.aload_n 0, 1) := by decide +kernel
theorem dX7_passes_183 : decode cX7_passes 183 = .ok (.getfield 167, 3) := by decide +kernel
theorem dX7_passes_186 : decode cX7_passes 186 = .ok (.iconst 1, 1) := by decide +kernel
theorem dX7_passes_187 : decode cX7_passes 187 = .ok (.iadd, 1) := by decide +kernel
theorem dX7_passes_188 : decode cX7_passes 188 = .ok (.putfield 167, 3) := by decide +kernel
theorem dX7_passes_191 : decode cX7_passes 191 = .ok (.aload_n 0, 1) := by decide +kernel
theorem dX7_passes_192 : decode cX7_passes 192 = .ok (.getfield 55, 3) := by decide +kernel
theorem dX7_passes_195 : decode cX7_passes 195 = .ok (.iload 4, 2) := by decide +kernel
theorem dX7_passes_197 : decode cX7_passes 197 = .ok (.dup2, 1) := by decide +kernel
theorem dX7_passes_198 : decode cX7_passes 198 = .ok (.iaload, 1) := by decide +kernel
theorem dX7_passes_199 : decode cX7_passes 199 = .ok (.iload_n 3, 1) := by decide +kernel
theorem dX7_passes_200 : decode cX7_passes 200 = .ok (.iadd, 1) := by decide +kernel
theorem dX7_passes_201 : decode cX7_passes 201 = .ok (.iastore, 1) := by decide +kernel
theorem dX7_passes_202 : decode cX7_passes 202 = .ok (.aload_n 0, 1) := by decide +kernel
theorem dX7_passes_203 : decode cX7_passes 203 = .ok (.dup, 1) := by decide +kernel
theorem dX7_passes_204 : decode cX7_passes 204 = .ok (.getfield 173, 3) := by decide +kernel
theorem dX7_passes_207 : decode cX7_passes 207 = .ok (.iload_n 3, 1) := by decide +kernel
theorem dX7_passes_208 : decode cX7_passes 208 = .ok (.isub, 1) := by decide +kernel
theorem dX7_passes_209 : decode cX7_passes 209 = .ok (.putfield 173, 3) := by decide +kernel
theorem dX7_passes_212 : decode cX7_passes 212 = .ok (.aload_n 0, 1) := by decide +kernel
theorem dX7_passes_213 : decode cX7_passes 213 = .ok (.dup, 1) := by decide +kernel
theorem dX7_passes_214 : decode cX7_passes 214 = .ok (.getfield 192, 3) := by decide +kernel
theorem dX7_passes_217 : decode cX7_passes 217 = .ok (.iload_n 3, 1) := by decide +kernel
theorem dX7_passes_218 : decode cX7_passes 218 = .ok (.iadd, 1) := by decide +kernel
theorem dX7_passes_219 : decode cX7_passes 219 = .ok (.putfield 192, 3) := by decide +kernel
theorem dX7_passes_222 : decode cX7_passes 222 = .ok (.aload_n 0, 1) := by decide +kernel
theorem dX7_passes_223 : decode cX7_passes 223 = .ok (.getfield 37, 3) := by decide +kernel
theorem dX7_passes_226 : decode cX7_passes 226 = .ok (.iload_n 1, 1) := by decide +kernel
theorem dX7_passes_227 : decode cX7_passes 227 = .ok (.aload_n 0, 1) := by decide +kernel
theorem dX7_passes_228 : decode cX7_passes 228 = .ok (.getfield 167, 3) := by decide +kernel
theorem dX7_passes_231 : decode cX7_passes 231 = .ok (.iastore, 1) := by decide +kernel
theorem dX7_passes_232 : decode cX7_passes 232 = .ok (.aload_n 0, 1) := by decide +kernel
theorem dX7_passes_233 : decode cX7_passes 233 = .ok (.getfield 40, 3) := by decide +kernel
theorem dX7_passes_236 : decode cX7_passes 236 = .ok (.iload_n 1, 1) := by decide +kernel
theorem dX7_passes_237 : decode cX7_passes 237 = .ok (.aload_n 0, 1) := by decide +kernel
theorem dX7_passes_238 : decode cX7_passes 238 = .ok (.getfield 173, 3) := by decide +kernel
theorem dX7_passes_241 : decode cX7_passes 241 = .ok (.iastore, 1) := by decide +kernel
theorem dX7_passes_242 : decode cX7_passes 242 = .ok (.aload_n 0, 1) := by decide +kernel
theorem dX7_passes_243 : decode cX7_passes 243 = .ok (.getfield 43, 3) := by decide +kernel
theorem dX7_passes_246 : decode cX7_passes 246 = .ok (.iload_n 1, 1) := by decide +kernel
theorem dX7_passes_247 : decode cX7_passes 247 = .ok (.iload_n 3, 1) := by decide +kernel
theorem dX7_passes_248 : decode cX7_passes 248 = .ok (.iastore, 1) := by decide +kernel
theorem dX7_passes_249 : decode cX7_passes 249 = .ok (.return_, 1) := by decide +kernel
theorem dX7_lives_0 : decode cX7_lives 0 = .ok (.iconst 0, 1) := by decide +kernel
theorem dX7_lives_1 : decode cX7_lives 1 = .ok (.istore_n 1, 1) := by decide +kernel
theorem dX7_lives_2 : decode cX7_lives 2 = .ok (.iload_n 1, 1) := by decide +kernel
theorem dX7_lives_3 : decode cX7_lives 3 = .ok (.bipush 11, 2) := by decide +kernel
theorem dX7_lives_5 : decode cX7_lives 5 = .ok (.if_icmp .ge 30, 3) := by decide +kernel
theorem dX7_lives_8 : decode cX7_lives 8 = .ok (.aload_n 0, 1) := by decide +kernel
theorem dX7_lives_9 : decode cX7_lives 9 = .ok (.getfield 49, 3) := by decide +kernel
theorem dX7_lives_12 : decode cX7_lives 12 = .ok (.iload_n 1, 1) := by decide +kernel
theorem dX7_lives_13 : decode cX7_lives 13 = .ok (.iconst 0, 1) := by decide +kernel
theorem dX7_lives_14 : decode cX7_lives 14 = .ok (.iastore, 1) := by decide +kernel
theorem dX7_lives_15 : decode cX7_lives 15 = .ok (.aload_n 0, 1) := by decide +kernel
theorem dX7_lives_16 : decode cX7_lives 16 = .ok (.getfield 52, 3) := by decide +kernel
theorem dX7_lives_19 : decode cX7_lives 19 = .ok (.iload_n 1, 1) := by decide +kernel
theorem dX7_lives_20 : decode cX7_lives 20 = .ok (.iconst 0, 1) := by decide +kernel
theorem dX7_lives_21 : decode cX7_lives 21 = .ok (.iastore, 1) := by decide +kernel
theorem dX7_lives_22 : decode cX7_lives 22 = .ok (.aload_n 0, 1) := by decide +kernel
theorem dX7_lives_23 : decode cX7_lives 23 = .ok (.getfield 55, 3) := by decide +kernel
theorem dX7_lives_26 : decode cX7_lives 26 = .ok (.iload_n 1, 1) := by decide +kernel
theorem dX7_lives_27 : decode cX7_lives 27 = .ok (.iconst 0, 1) := by decide +kernel
theorem dX7_lives_28 : decode cX7_lives 28 = .ok (.iastore, 1) := by decide +kernel
theorem dX7_lives_29 : decode cX7_lives 29 = .ok (.iinc 1 1, 3) := by decide +kernel
theorem dX7_lives_32 : decode cX7_lives 32 = .ok (.goto (-30), 3) := by decide +kernel
theorem dX7_lives_35 : decode cX7_lives 35 = .ok (.aload_n 0, 1) := by decide +kernel
theorem dX7_lives_36 : decode cX7_lives 36 = .ok (.iconst 0, 1) := by decide +kernel
theorem dX7_lives_37 : decode cX7_lives 37 = .ok (.putfield 167, 3) := by decide +kernel
theorem dX7_lives_40 : decode cX7_lives 40 = .ok (.aload_n 0, 1) := by decide +kernel
theorem dX7_lives_41 : decode cX7_lives 41 = .ok (.aload_n 0, 1) := by decide +kernel
theorem dX7_lives_42 : decode cX7_lives 42 = .ok (.getfield 67, 3) := by decide +kernel
theorem dX7_lives_45 : decode cX7_lives 45 = .ok (.putfield 173, 3) := by decide +kernel
theorem dX7_lives_48 : decode cX7_lives 48 = .ok (.aload_n 0, 1) := by decide +kernel
theorem dX7_lives_49 : decode cX7_lives 49 = .ok (.iconst 0, 1) := by decide +kernel
theorem dX7_lives_50 : decode cX7_lives 50 = .ok (.putfield 182, 3) := by decide +kernel
theorem dX7_lives_53 : decode cX7_lives 53 = .ok (.aload_n 0, 1) := by decide +kernel
theorem dX7_lives_54 : decode cX7_lives 54 = .ok (.iconst 0, 1) := by decide +kernel
theorem dX7_lives_55 : decode cX7_lives 55 = .ok (.putfield 192, 3) := by decide +kernel
theorem dX7_lives_58 : decode cX7_lives 58 = .ok (.iconst 0, 1) := by decide +kernel
theorem dX7_lives_59 : decode cX7_lives 59 = .ok (.istore_n 1, 1) := by decide +kernel
theorem dX7_lives_60 : decode cX7_lives 60 = .ok (.iload_n 1, 1) := by decide +kernel
theorem dX7_lives_61 : decode cX7_lives 61 = .ok (.bipush 24, 2) := by decide +kernel
theorem dX7_lives_63 : decode cX7_lives 63 = .ok (.if_icmp .ge 14, 3) := by decide +kernel
theorem dX7_lives_66 : decode cX7_lives 66 = .ok (.aload_n 0, 1) := by decide +kernel
theorem dX7_lives_67 : decode cX7_lives 67 = .ok (.iload_n 1, 1) := by decide +kernel
theorem dX7_lives_68 : decode cX7_lives 68 = .ok (.invokevirtual 195, 3) := by decide +kernel
theorem dX7_lives_71 : decode cX7_lives 71 = .ok (.iinc 1 1, 3) := by decide +kernel
theorem dX7_lives_74 : decode cX7_lives 74 = .ok (.goto (-14), 3) := by decide +kernel
theorem dX7_lives_77 : decode cX7_lives 77 = .ok (.return_, 1) := by decide +kernel
theorem dX7_seats_0 : decode cX7_seats 0 = .ok (.iconst 0, 1) := by decide +kernel
theorem dX7_seats_1 : decode cX7_seats 1 = .ok (.istore_n 1, 1) := by decide +kernel
theorem dX7_seats_2 : decode cX7_seats 2 = .ok (.iload_n 1, 1) := by decide +kernel
theorem dX7_seats_3 : decode cX7_seats 3 = .ok (.bipush 11, 2) := by decide +kernel
theorem dX7_seats_5 : decode cX7_seats 5 = .ok (.if_icmp .ge 16, 3) := by decide +kernel
theorem dX7_seats_8 : decode cX7_seats 8 = .ok (.aload_n 0, 1) := by decide +kernel
theorem dX7_seats_9 : decode cX7_seats 9 = .ok (.getfield 58, 3) := by decide +kernel
theorem dX7_seats_12 : decode cX7_seats 12 = .ok (.iload_n 1, 1) := by decide +kernel
theorem dX7_seats_13 : decode cX7_seats 13 = .ok (.iload_n 1, 1) := by decide +kernel
theorem dX7_seats_14 : decode cX7_seats 14 = .ok (.iastore, 1) := by decide +kernel
theorem dX7_seats_15 : decode cX7_seats 15 = .ok (.iinc 1 1, 3) := by decide +kernel
theorem dX7_seats_18 : decode cX7_seats 18 = .ok (.goto (-16), 3) := by decide +kernel
theorem dX7_seats_21 : decode cX7_seats 21 = .ok (.return_, 1) := by decide +kernel
theorem dX7_find_0 : decode cX7_find 0 = .ok (.aload_n 0, 1) := by decide +kernel
theorem dX7_find_1 : decode cX7_find 1 = .ok (.invokevirtual 130, 3) := by decide +kernel
theorem dX7_find_4 : decode cX7_find 4 = .ok (.pop, 1) := by decide +kernel
theorem dX7_find_5 : decode cX7_find 5 = .ok (.aload_n 0, 1) := by decide +kernel
theorem dX7_find_6 : decode cX7_find 6 = .ok (.invokevirtual 134, 3) := by decide +kernel
theorem dX7_find_9 : decode cX7_find 9 = .ok (.pop, 1) := by decide +kernel
theorem dX7_find_10 : decode cX7_find 10 = .ok (.aload_n 0, 1) := by decide +kernel
theorem dX7_find_11 : decode cX7_find 11 = .ok (.invokevirtual 198, 3) := by decide +kernel
theorem dX7_find_14 : decode cX7_find 14 = .ok (.aload_n 0, 1) := by decide +kernel
theorem dX7_find_15 : decode cX7_find 15 = .ok (.invokevirtual 201, 3) := by decide +kernel
theorem dX7_find_18 : decode cX7_find 18 = .ok (.return_, 1) := by decide +kernel
theorem dX7_atBy_0 : decode cX7_atBy 0 = .ok (.iload_n 2, 1) := by decide +kernel
theorem dX7_atBy_1 : decode cX7_atBy 1 = .ok (.ifCond .ne 12, 3) := by decide +kernel
theorem dX7_atBy_4 : decode cX7_atBy 4 = .ok (.aload_n 0, 1) := by decide +kernel
theorem dX7_atBy_5 : decode cX7_atBy 5 = .ok (.getfield 37, 3) := by decide +kernel
theorem dX7_atBy_8 : decode cX7_atBy 8 = .ok (.iload_n 1, 1) := by decide +kernel
theorem dX7_atBy_9 : decode cX7_atBy 9 = .ok (.iaload, 1) := by decide +kernel
theorem dX7_atBy_10 : decode cX7_atBy 10 = .ok (.goto 23, 3) := by decide +kernel
theorem dX7_atBy_13 : decode cX7_atBy 13 = .ok (.iload_n 2, 1) := by decide +kernel
theorem dX7_atBy_14 : decode cX7_atBy 14 = .ok (.iconst 1, 1) := by decide +kernel
theorem dX7_atBy_15 : decode cX7_atBy 15 = .ok (.if_icmp .ne 12, 3) := by decide +kernel
theorem dX7_atBy_18 : decode cX7_atBy 18 = .ok (.aload_n 0, 1) := by decide +kernel
theorem dX7_atBy_19 : decode cX7_atBy 19 = .ok (.getfield 40, 3) := by decide +kernel
theorem dX7_atBy_22 : decode cX7_atBy 22 = .ok (.iload_n 1, 1) := by decide +kernel
theorem dX7_atBy_23 : decode cX7_atBy 23 = .ok (.iaload, 1) := by decide +kernel
theorem dX7_atBy_24 : decode cX7_atBy 24 = .ok (.goto 9, 3) := by decide +kernel
theorem dX7_atBy_27 : decode cX7_atBy 27 = .ok (.aload_n 0, 1) := by decide +kernel
theorem dX7_atBy_28 : decode cX7_atBy 28 = .ok (.getfield 43, 3) := by decide +kernel
theorem dX7_atBy_31 : decode cX7_atBy 31 = .ok (.iload_n 1, 1) := by decide +kernel
theorem dX7_atBy_32 : decode cX7_atBy 32 = .ok (.iaload, 1) := by decide +kernel
theorem dX7_atBy_33 : decode cX7_atBy 33 = .ok (.ireturn, 1) := by decide +kernel
theorem dX7_at_0 : decode cX7_at 0 = .ok (.aload_n 0, 1) := by decide +kernel
theorem dX7_at_1 : decode cX7_at 1 = .ok (.invokevirtual 204, 3) := by decide +kernel
theorem dX7_at_4 : decode cX7_at 4 = .ok (.iload_n 1, 1) := by decide +kernel
theorem dX7_at_5 : decode cX7_at 5 = .ok (.invokestatic 152, 3) := by decide +kernel
theorem dX7_at_8 : decode cX7_at 8 = .ok (.ifCond .eq 24, 3) := by decide +kernel
theorem dX7_at_11 : decode cX7_at 11 = .ok (.iload_n 2, 1) := by decide +kernel
theorem dX7_at_12 : decode cX7_at 12 = .ok (.i2l, 1) := by decide +kernel
theorem dX7_at_13 : decode cX7_at 13 = .ok (.lconst 0, 1) := by decide +kernel
theorem dX7_at_14 : decode cX7_at 14 = .ok (.ldc2_w 89, 3) := by decide +kernel
theorem dX7_at_17 : decode cX7_at 17 = .ok (.invokestatic 76, 3) := by decide +kernel
theorem dX7_at_20 : decode cX7_at 20 = .ok (.ifCond .eq 12, 3) := by decide +kernel
theorem dX7_at_23 : decode cX7_at 23 = .ok (.aload_n 0, 1) := by decide +kernel
theorem dX7_at_24 : decode cX7_at 24 = .ok (.iload_n 1, 1) := by decide +kernel
theorem dX7_at_25 : decode cX7_at 25 = .ok (.iload_n 2, 1) := by decide +kernel
theorem dX7_at_26 : decode cX7_at 26 = .ok (.invokevirtual 207, 3) := by decide +kernel
theorem dX7_at_29 : decode cX7_at 29 = .ok (.goto 5, 3) := by decide +kernel
theorem dX7_at_32 : decode cX7_at 32 = .ok (.bipush (-2), 2) := by decide +kernel
theorem dX7_at_34 : decode cX7_at 34 = .ok (.ireturn, 1) := by decide +kernel
theorem dX7_heard_0 : decode cX7_heard 0 = .ok (.aload_n 0, 1) := by decide +kernel
theorem dX7_heard_1 : decode cX7_heard 1 = .ok (.invokevirtual 204, 3) := by decide +kernel
theorem dX7_heard_4 : decode cX7_heard 4 = .ok (.aload_n 0, 1) := by decide +kernel
theorem dX7_heard_5 : decode cX7_heard 5 = .ok (.iload_n 1, 1) := by decide +kernel
theorem dX7_heard_6 : decode cX7_heard 6 = .ok (.invokevirtual 210, 3) := by decide +kernel
theorem dX7_heard_9 : decode cX7_heard 9 = .ok (.ifCond .eq 12, 3) := by decide +kernel
theorem dX7_heard_12 : decode cX7_heard 12 = .ok (.aload_n 0, 1) := by decide +kernel
theorem dX7_heard_13 : decode cX7_heard 13 = .ok (.getfield 46, 3) := by decide +kernel
theorem dX7_heard_16 : decode cX7_heard 16 = .ok (.iload_n 1, 1) := by decide +kernel
theorem dX7_heard_17 : decode cX7_heard 17 = .ok (.iaload, 1) := by decide +kernel
theorem dX7_heard_18 : decode cX7_heard 18 = .ok (.goto 5, 3) := by decide +kernel
theorem dX7_heard_21 : decode cX7_heard 21 = .ok (.bipush (-2), 2) := by decide +kernel
theorem dX7_heard_23 : decode cX7_heard 23 = .ok (.ireturn, 1) := by decide +kernel
theorem dX7_takesBy_0 : decode cX7_takesBy 0 = .ok (.iload_n 2, 1) := by decide +kernel
theorem dX7_takesBy_1 : decode cX7_takesBy 1 = .ok (.ifCond .ne 12, 3) := by decide +kernel
theorem dX7_takesBy_4 : decode cX7_takesBy 4 = .ok (.aload_n 0, 1) := by decide +kernel
theorem dX7_takesBy_5 : decode cX7_takesBy 5 = .ok (.getfield 49, 3) := by decide +kernel
theorem dX7_takesBy_8 : decode cX7_takesBy 8 = .ok (.iload_n 1, 1) := by decide +kernel
theorem dX7_takesBy_9 : decode cX7_takesBy 9 = .ok (.iaload, 1) := by decide +kernel
theorem dX7_takesBy_10 : decode cX7_takesBy 10 = .ok (.goto 23, 3) := by decide +kernel
theorem dX7_takesBy_13 : decode cX7_takesBy 13 = .ok (.iload_n 2, 1) := by decide +kernel
theorem dX7_takesBy_14 : decode cX7_takesBy 14 = .ok (.iconst 1, 1) := by decide +kernel
theorem dX7_takesBy_15 : decode cX7_takesBy 15 = .ok (.if_icmp .ne 12, 3) := by decide +kernel
theorem dX7_takesBy_18 : decode cX7_takesBy 18 = .ok (.aload_n 0, 1) := by decide +kernel
theorem dX7_takesBy_19 : decode cX7_takesBy 19 = .ok (.getfield 52, 3) := by decide +kernel
theorem dX7_takesBy_22 : decode cX7_takesBy 22 = .ok (.iload_n 1, 1) := by decide +kernel
theorem dX7_takesBy_23 : decode cX7_takesBy 23 = .ok (.iaload, 1) := by decide +kernel
theorem dX7_takesBy_24 : decode cX7_takesBy 24 = .ok (.goto 9, 3) := by decide +kernel
theorem dX7_takesBy_27 : decode cX7_takesBy 27 = .ok (.aload_n 0, 1) := by decide +kernel
theorem dX7_takesBy_28 : decode cX7_takesBy 28 = .ok (.getfield 55, 3) := by decide +kernel
theorem dX7_takesBy_31 : decode cX7_takesBy 31 = .ok (.iload_n 1, 1) := by decide +kernel
theorem dX7_takesBy_32 : decode cX7_takesBy 32 = .ok (.iaload, 1) := by decide +kernel
theorem dX7_takesBy_33 : decode cX7_takesBy 33 = .ok (.ireturn, 1) := by decide +kernel
theorem dX7_takes_0 : decode cX7_takes 0 = .ok (.aload_n 0, 1) := by decide +kernel
theorem dX7_takes_1 : decode cX7_takes 1 = .ok (.invokevirtual 204, 3) := by decide +kernel
theorem dX7_takes_4 : decode cX7_takes 4 = .ok (.aload_n 0, 1) := by decide +kernel
theorem dX7_takes_5 : decode cX7_takes 5 = .ok (.iload_n 1, 1) := by decide +kernel
theorem dX7_takes_6 : decode cX7_takes 6 = .ok (.invokevirtual 142, 3) := by decide +kernel
theorem dX7_takes_9 : decode cX7_takes 9 = .ok (.ifCond .eq 24, 3) := by decide +kernel
theorem dX7_takes_12 : decode cX7_takes 12 = .ok (.iload_n 2, 1) := by decide +kernel
theorem dX7_takes_13 : decode cX7_takes 13 = .ok (.i2l, 1) := by decide +kernel
theorem dX7_takes_14 : decode cX7_takes 14 = .ok (.lconst 0, 1) := by decide +kernel
theorem dX7_takes_15 : decode cX7_takes 15 = .ok (.ldc2_w 89, 3) := by decide +kernel
theorem dX7_takes_18 : decode cX7_takes 18 = .ok (.invokestatic 76, 3) := by decide +kernel
theorem dX7_takes_21 : decode cX7_takes 21 = .ok (.ifCond .eq 12, 3) := by decide +kernel
theorem dX7_takes_24 : decode cX7_takes 24 = .ok (.aload_n 0, 1) := by decide +kernel
theorem dX7_takes_25 : decode cX7_takes 25 = .ok (.iload_n 1, 1) := by decide +kernel
theorem dX7_takes_26 : decode cX7_takes 26 = .ok (.iload_n 2, 1) := by decide +kernel
theorem dX7_takes_27 : decode cX7_takes 27 = .ok (.invokevirtual 213, 3) := by decide +kernel
theorem dX7_takes_30 : decode cX7_takes 30 = .ok (.goto 5, 3) := by decide +kernel
theorem dX7_takes_33 : decode cX7_takes 33 = .ok (.bipush (-2), 2) := by decide +kernel
theorem dX7_takes_35 : decode cX7_takes 35 = .ok (.ireturn, 1) := by decide +kernel
theorem dX7_soundNow_0 : decode cX7_soundNow 0 = .ok (.iconst 0, 1) := by decide +kernel
theorem dX7_soundNow_1 : decode cX7_soundNow 1 = .ok (.istore_n 1, 1) := by decide +kernel
theorem dX7_soundNow_2 : decode cX7_soundNow 2 = .ok (.iconst 0, 1) := by decide +kernel
theorem dX7_soundNow_3 : decode cX7_soundNow 3 = .ok (.istore_n 2, 1) := by decide +kernel
theorem dX7_soundNow_4 : decode cX7_soundNow 4 = .ok (.iload_n 2, 1) := by decide +kernel
theorem dX7_soundNow_5 : decode cX7_soundNow 5 = .ok (.aload_n 0, 1) := by decide +kernel
theorem dX7_soundNow_6 : decode cX7_soundNow 6 = .ok (.getfield 124, 3) := by decide +kernel
theorem dX7_soundNow_9 : decode cX7_soundNow 9 = .ok (.if_icmp .ge 26, 3) := by decide +kernel
theorem dX7_soundNow_12 : decode cX7_soundNow 12 = .ok (.iload_n 1, 1) := by decide +kernel
theorem dX7_soundNow_13 : decode cX7_soundNow 13 = .ok (.aload_n 0, 1) := by decide +kernel
theorem dX7_soundNow_14 : decode cX7_soundNow 14 = .ok (.getfield 46, 3) := by decide +kernel
theorem dX7_soundNow_17 : decode cX7_soundNow 17 = .ok (.iload_n 2, 1) := by decide +kernel
theorem dX7_soundNow_18 : decode cX7_soundNow 18 = .ok (.iaload, 1) := by decide +kernel
theorem dX7_soundNow_19 : decode cX7_soundNow 19 = .ok (.ifCond .le 7, 3) := by decide +kernel
theorem dX7_soundNow_22 : decode cX7_soundNow 22 = .ok (.iconst 1, 1) := by decide +kernel
theorem dX7_soundNow_23 : decode cX7_soundNow 23 = .ok (.goto 4, 3) := by decide +kernel
theorem dX7_soundNow_26 : decode cX7_soundNow 26 = .ok (.iconst 0, 1) := by decide +kernel
theorem dX7_soundNow_27 : decode cX7_soundNow 27 = .ok (.iadd, 1) := by decide +kernel
theorem dX7_soundNow_28 : decode cX7_soundNow 28 = .ok (.istore_n 1, 1) := by decide +kernel
theorem dX7_soundNow_29 : decode cX7_soundNow 29 = .ok (.iinc 2 1, 3) := by decide +kernel
theorem dX7_soundNow_32 : decode cX7_soundNow 32 = .ok (.goto (-28), 3) := by decide +kernel
theorem dX7_soundNow_35 : decode cX7_soundNow 35 = .ok (.iload_n 1, 1) := by decide +kernel
theorem dX7_soundNow_36 : decode cX7_soundNow 36 = .ok (.ireturn, 1) := by decide +kernel
theorem dX7_sumBy_0 : decode cX7_sumBy 0 = .ok (.iload_n 1, 1) := by decide +kernel
theorem dX7_sumBy_1 : decode cX7_sumBy 1 = .ok (.ifCond .ne 10, 3) := by decide +kernel
theorem dX7_sumBy_4 : decode cX7_sumBy 4 = .ok (.aload_n 0, 1) := by decide +kernel
theorem dX7_sumBy_5 : decode cX7_sumBy 5 = .ok (.invokevirtual 216, 3) := by decide +kernel
theorem dX7_sumBy_8 : decode cX7_sumBy 8 = .ok (.goto 19, 3) := by decide +kernel
theorem dX7_sumBy_11 : decode cX7_sumBy 11 = .ok (.iload_n 1, 1) := by decide +kernel
theorem dX7_sumBy_12 : decode cX7_sumBy 12 = .ok (.iconst 1, 1) := by decide +kernel
theorem dX7_sumBy_13 : decode cX7_sumBy 13 = .ok (.if_icmp .ne 10, 3) := by decide +kernel
theorem dX7_sumBy_16 : decode cX7_sumBy 16 = .ok (.aload_n 0, 1) := by decide +kernel
theorem dX7_sumBy_17 : decode cX7_sumBy 17 = .ok (.getfield 192, 3) := by decide +kernel
theorem dX7_sumBy_20 : decode cX7_sumBy 20 = .ok (.goto 7, 3) := by decide +kernel
theorem dX7_sumBy_23 : decode cX7_sumBy 23 = .ok (.aload_n 0, 1) := by decide +kernel
theorem dX7_sumBy_24 : decode cX7_sumBy 24 = .ok (.getfield 182, 3) := by decide +kernel
theorem dX7_sumBy_27 : decode cX7_sumBy 27 = .ok (.ireturn, 1) := by decide +kernel
theorem dX7_sum_0 : decode cX7_sum 0 = .ok (.aload_n 0, 1) := by decide +kernel
theorem dX7_sum_1 : decode cX7_sum 1 = .ok (.invokevirtual 204, 3) := by decide +kernel
theorem dX7_sum_4 : decode cX7_sum 4 = .ok (.iload_n 1, 1) := by decide +kernel
theorem dX7_sum_5 : decode cX7_sum 5 = .ok (.i2l, 1) := by decide +kernel
theorem dX7_sum_6 : decode cX7_sum 6 = .ok (.lconst 0, 1) := by decide +kernel
theorem dX7_sum_7 : decode cX7_sum 7 = .ok (.ldc2_w 89, 3) := by decide +kernel
theorem dX7_sum_10 : decode cX7_sum 10 = .ok (.invokestatic 76, 3) := by decide +kernel
theorem dX7_sum_13 : decode cX7_sum 13 = .ok (.ifCond .eq 11, 3) := by decide +kernel
theorem dX7_sum_16 : decode cX7_sum 16 = .ok (.aload_n 0, 1) := by decide +kernel
theorem dX7_sum_17 : decode cX7_sum 17 = .ok (.iload_n 1, 1) := by decide +kernel
theorem dX7_sum_18 : decode cX7_sum 18 = .ok (.invokevirtual 219, 3) := by decide +kernel
theorem dX7_sum_21 : decode cX7_sum 21 = .ok (.goto 5, 3) := by decide +kernel
theorem dX7_sum_24 : decode cX7_sum 24 = .ok (.bipush (-2), 2) := by decide +kernel
theorem dX7_sum_26 : decode cX7_sum 26 = .ok (.ireturn, 1) := by decide +kernel
theorem dX7_flatNow_0 : decode cX7_flatNow 0 = .ok (.iconst (-1), 1) := by decide +kernel
theorem dX7_flatNow_1 : decode cX7_flatNow 1 = .ok (.istore_n 1, 1) := by decide +kernel
theorem dX7_flatNow_2 : decode cX7_flatNow 2 = .ok (.bipush 23, 2) := by decide +kernel
theorem dX7_flatNow_4 : decode cX7_flatNow 4 = .ok (.istore_n 2, 1) := by decide +kernel
theorem dX7_flatNow_5 : decode cX7_flatNow 5 = .ok (.iload_n 2, 1) := by decide +kernel
theorem dX7_flatNow_6 : decode cX7_flatNow 6 = .ok (.ifCond .lt 24, 3) := by decide +kernel
theorem dX7_flatNow_9 : decode cX7_flatNow 9 = .ok (.aload_n 0, 1) := by decide +kernel
theorem dX7_flatNow_10 : decode cX7_flatNow 10 = .ok (.getfield 40, 3) := by decide +kernel
theorem dX7_flatNow_13 : decode cX7_flatNow 13 = .ok (.iload_n 2, 1) := by decide +kernel
theorem dX7_flatNow_14 : decode cX7_flatNow 14 = .ok (.iaload, 1) := by decide +kernel
theorem dX7_flatNow_15 : decode cX7_flatNow 15 = .ok (.ifCond .ne 7, 3) := by decide +kernel
theorem dX7_flatNow_18 : decode cX7_flatNow 18 = .ok (.iload_n 2, 1) := by decide +kernel
theorem dX7_flatNow_19 : decode cX7_flatNow 19 = .ok (.goto 4, 3) := by decide +kernel
theorem dX7_flatNow_22 : decode cX7_flatNow 22 = .ok (.iload_n 1, 1) := by decide +kernel
theorem dX7_flatNow_23 : decode cX7_flatNow 23 = .ok (.istore_n 1, 1) := by decide +kernel
theorem dX7_flatNow_24 : decode cX7_flatNow 24 = .ok (.iinc 2 (-1), 3) := by decide +kernel
theorem dX7_flatNow_27 : decode cX7_flatNow 27 = .ok (.goto (-22), 3) := by decide +kernel
theorem dX7_flatNow_30 : decode cX7_flatNow 30 = .ok (.iload_n 1, 1) := by decide +kernel
theorem dX7_flatNow_31 : decode cX7_flatNow 31 = .ok (.ireturn, 1) := by decide +kernel
theorem dX7_flat_0 : decode cX7_flat 0 = .ok (.aload_n 0, 1) := by decide +kernel
theorem dX7_flat_1 : decode cX7_flat 1 = .ok (.invokevirtual 204, 3) := by decide +kernel
theorem dX7_flat_4 : decode cX7_flat 4 = .ok (.aload_n 0, 1) := by decide +kernel
theorem dX7_flat_5 : decode cX7_flat 5 = .ok (.invokevirtual 222, 3) := by decide +kernel
theorem dX7_flat_8 : decode cX7_flat 8 = .ok (.ireturn, 1) := by decide +kernel
theorem dX7_silentNow_0 : decode cX7_silentNow 0 = .ok (.iconst 0, 1) := by decide +kernel
theorem dX7_silentNow_1 : decode cX7_silentNow 1 = .ok (.istore_n 1, 1) := by decide +kernel
theorem dX7_silentNow_2 : decode cX7_silentNow 2 = .ok (.iconst 0, 1) := by decide +kernel
theorem dX7_silentNow_3 : decode cX7_silentNow 3 = .ok (.istore_n 2, 1) := by decide +kernel
theorem dX7_silentNow_4 : decode cX7_silentNow 4 = .ok (.iload_n 2, 1) := by decide +kernel
theorem dX7_silentNow_5 : decode cX7_silentNow 5 = .ok (.aload_n 0, 1) := by decide +kernel
theorem dX7_silentNow_6 : decode cX7_silentNow 6 = .ok (.getfield 113, 3) := by decide +kernel
theorem dX7_silentNow_9 : decode cX7_silentNow 9 = .ok (.if_icmp .ge 28, 3) := by decide +kernel
theorem dX7_silentNow_12 : decode cX7_silentNow 12 = .ok (.iload_n 1, 1) := by decide +kernel
theorem dX7_silentNow_13 : decode cX7_silentNow 13 = .ok (.aload_n 0, 1) := by decide +kernel
theorem dX7_silentNow_14 : decode cX7_silentNow 14 = .ok (.getfield 49, 3) := by decide +kernel
theorem dX7_silentNow_17 : decode cX7_silentNow 17 = .ok (.iload_n 2, 1) := by decide +kernel
theorem dX7_silentNow_18 : decode cX7_silentNow 18 = .ok (.iaload, 1) := by decide +kernel
theorem dX7_silentNow_19 : decode cX7_silentNow 19 = .ok (.ifCond .ne 9, 3) := by decide +kernel
theorem dX7_silentNow_22 : decode cX7_silentNow 22 = .ok (.iconst 1, 1) := by decide +kernel
theorem dX7_silentNow_23 : decode cX7_silentNow 23 = .ok (.iload_n 2, 1) := by decide +kernel
theorem dX7_silentNow_24 : decode cX7_silentNow 24 = .ok (.ishl, 1) := by decide +kernel
theorem dX7_silentNow_25 : decode cX7_silentNow 25 = .ok (.goto 4, 3) := by decide +kernel
theorem dX7_silentNow_28 : decode cX7_silentNow 28 = .ok (.iconst 0, 1) := by decide +kernel
theorem dX7_silentNow_29 : decode cX7_silentNow 29 = .ok (.ior, 1) := by decide +kernel
theorem dX7_silentNow_30 : decode cX7_silentNow 30 = .ok (.istore_n 1, 1) := by decide +kernel
theorem dX7_silentNow_31 : decode cX7_silentNow 31 = .ok (.iinc 2 1, 3) := by decide +kernel
theorem dX7_silentNow_34 : decode cX7_silentNow 34 = .ok (.goto (-30), 3) := by decide +kernel
theorem dX7_silentNow_37 : decode cX7_silentNow 37 = .ok (.iload_n 1, 1) := by decide +kernel
theorem dX7_silentNow_38 : decode cX7_silentNow 38 = .ok (.ireturn, 1) := by decide +kernel
theorem dX7_silent_0 : decode cX7_silent 0 = .ok (.aload_n 0, 1) := by decide +kernel
theorem dX7_silent_1 : decode cX7_silent 1 = .ok (.invokevirtual 204, 3) := by decide +kernel
theorem dX7_silent_4 : decode cX7_silent 4 = .ok (.aload_n 0, 1) := by decide +kernel
theorem dX7_silent_5 : decode cX7_silent 5 = .ok (.invokevirtual 225, 3) := by decide +kernel
theorem dX7_silent_8 : decode cX7_silent 8 = .ok (.ireturn, 1) := by decide +kernel
theorem dX7_greedyNow_0 : decode cX7_greedyNow 0 = .ok (.iconst (-1), 1) := by decide +kernel
theorem dX7_greedyNow_1 : decode cX7_greedyNow 1 = .ok (.istore_n 1, 1) := by decide +kernel
theorem dX7_greedyNow_2 : decode cX7_greedyNow 2 = .ok (.iconst 0, 1) := by decide +kernel
theorem dX7_greedyNow_3 : decode cX7_greedyNow 3 = .ok (.istore_n 2, 1) := by decide +kernel
theorem dX7_greedyNow_4 : decode cX7_greedyNow 4 = .ok (.iconst 0, 1) := by decide +kernel
theorem dX7_greedyNow_5 : decode cX7_greedyNow 5 = .ok (.istore_n 3, 1) := by decide +kernel
theorem dX7_greedyNow_6 : decode cX7_greedyNow 6 = .ok (.iload_n 3, 1) := by decide +kernel
theorem dX7_greedyNow_7 : decode cX7_greedyNow 7 = .ok (.aload_n 0, 1) := by decide +kernel
theorem dX7_greedyNow_8 : decode cX7_greedyNow 8 = .ok (.getfield 113, 3) := by decide +kernel
theorem dX7_greedyNow_11 : decode cX7_greedyNow 11 = .ok (.if_icmp .ge 36, 3) := by decide +kernel
theorem dX7_greedyNow_14 : decode cX7_greedyNow 14 = .ok (.aload_n 0, 1) := by decide +kernel
theorem dX7_greedyNow_15 : decode cX7_greedyNow 15 = .ok (.getfield 52, 3) := by decide +kernel
theorem dX7_greedyNow_18 : decode cX7_greedyNow 18 = .ok (.iload_n 3, 1) := by decide +kernel
theorem dX7_greedyNow_19 : decode cX7_greedyNow 19 = .ok (.iaload, 1) := by decide +kernel
theorem dX7_greedyNow_20 : decode cX7_greedyNow 20 = .ok (.iload_n 2, 1) := by decide +kernel
theorem dX7_greedyNow_21 : decode cX7_greedyNow 21 = .ok (.if_icmp .le 7, 3) := by decide +kernel
theorem dX7_greedyNow_24 : decode cX7_greedyNow 24 = .ok (.iload_n 3, 1) := by decide +kernel
theorem dX7_greedyNow_25 : decode cX7_greedyNow 25 = .ok (.goto 4, 3) := by decide +kernel
theorem dX7_greedyNow_28 : decode cX7_greedyNow 28 = .ok (.iload_n 1, 1) := by decide +kernel
theorem dX7_greedyNow_29 : decode cX7_greedyNow 29 = .ok (.istore_n 1, 1) := by decide +kernel
theorem dX7_greedyNow_30 : decode cX7_greedyNow 30 = .ok (.aload_n 0, 1) := by decide +kernel
theorem dX7_greedyNow_31 : decode cX7_greedyNow 31 = .ok (.getfield 52, 3) := by decide +kernel
theorem dX7_greedyNow_34 : decode cX7_greedyNow 34 = .ok (.iload_n 3, 1) := by decide +kernel
theorem dX7_greedyNow_35 : decode cX7_greedyNow 35 = .ok (.iaload, 1) := by decide +kernel
theorem dX7_greedyNow_36 : decode cX7_greedyNow 36 = .ok (.iload_n 2, 1) := by decide +kernel
theorem dX7_greedyNow_37 : decode cX7_greedyNow 37 = .ok (.invokestatic 228, 3) := by decide +kernel
theorem dX7_greedyNow_40 : decode cX7_greedyNow 40 = .ok (.istore_n 2, 1) := by decide +kernel
theorem dX7_greedyNow_41 : decode cX7_greedyNow 41 = .ok (.iinc 3 1, 3) := by decide +kernel
theorem dX7_greedyNow_44 : decode cX7_greedyNow 44 = .ok (.goto (-38), 3) := by decide +kernel
theorem dX7_greedyNow_47 : decode cX7_greedyNow 47 = .ok (.iload_n 1, 1) := by decide +kernel
theorem dX7_greedyNow_48 : decode cX7_greedyNow 48 = .ok (.ireturn, 1) := by decide +kernel
theorem dX7_greedy_0 : decode cX7_greedy 0 = .ok (.aload_n 0, 1) := by decide +kernel
theorem dX7_greedy_1 : decode cX7_greedy 1 = .ok (.invokevirtual 204, 3) := by decide +kernel
theorem dX7_greedy_4 : decode cX7_greedy 4 = .ok (.aload_n 0, 1) := by decide +kernel
theorem dX7_greedy_5 : decode cX7_greedy 5 = .ok (.invokevirtual 231, 3) := by decide +kernel
theorem dX7_greedy_8 : decode cX7_greedy 8 = .ok (.ireturn, 1) := by decide +kernel
theorem dX7_fillBy_0 : decode cX7_fillBy 0 = .ok (.aload_n 0, 1) := by decide +kernel
theorem dX7_fillBy_1 : decode cX7_fillBy 1 = .ok (.getfield 67, 3) := by decide +kernel
theorem dX7_fillBy_4 : decode cX7_fillBy 4 = .ok (.istore_n 2, 1) := by decide +kernel
theorem dX7_fillBy_5 : decode cX7_fillBy 5 = .ok (.iconst (-1), 1) := by decide +kernel
theorem dX7_fillBy_6 : decode cX7_fillBy 6 = .ok (.istore_n 3, 1) := by decide +kernel
theorem dX7_fillBy_7 : decode cX7_fillBy 7 = .ok (.iconst (-1), 1) := by decide +kernel
theorem dX7_fillBy_8 : decode cX7_fillBy 8 = .ok (.istore 4, 2) := by decide +kernel
theorem dX7_fillBy_10 : decode cX7_fillBy 10 = .ok (.iconst 1, 1) := by decide +kernel
theorem dX7_fillBy_11 : decode cX7_fillBy 11 = .ok (.istore 5, 2) := by decide +kernel
theorem dX7_fillBy_13 : decode cX7_fillBy 13 = .ok (.iload 5, 2) := by decide +kernel
theorem dX7_fillBy_15 : decode cX7_fillBy 15 = .ok (.bipush 100, 2) := by decide +kernel
theorem dX7_fillBy_17 : decode cX7_fillBy 17 = .ok (.if_icmp .ge 48, 3) := by decide +kernel
theorem dX7_fillBy_20 : decode cX7_fillBy 20 = .ok (.aload_n 0, 1) := by decide +kernel
theorem dX7_fillBy_21 : decode cX7_fillBy 21 = .ok (.iload 5, 2) := by decide +kernel
theorem dX7_fillBy_23 : decode cX7_fillBy 23 = .ok (.putfield 67, 3) := by decide +kernel
theorem dX7_fillBy_26 : decode cX7_fillBy 26 = .ok (.aload_n 0, 1) := by decide +kernel
theorem dX7_fillBy_27 : decode cX7_fillBy 27 = .ok (.invokevirtual 201, 3) := by decide +kernel
theorem dX7_fillBy_30 : decode cX7_fillBy 30 = .ok (.aload_n 0, 1) := by decide +kernel
theorem dX7_fillBy_31 : decode cX7_fillBy 31 = .ok (.invokevirtual 216, 3) := by decide +kernel
theorem dX7_fillBy_34 : decode cX7_fillBy 34 = .ok (.istore 6, 2) := by decide +kernel
theorem dX7_fillBy_36 : decode cX7_fillBy 36 = .ok (.iload 6, 2) := by decide +kernel
theorem dX7_fillBy_38 : decode cX7_fillBy 38 = .ok (.iload 4, 2) := by decide +kernel
theorem dX7_fillBy_40 : decode cX7_fillBy 40 = .ok (.if_icmp .le 8, 3) := by decide +kernel
theorem dX7_fillBy_43 : decode cX7_fillBy 43 = .ok (.iload 5, 2) := by decide +kernel
theorem dX7_fillBy_45 : decode cX7_fillBy 45 = .ok (.goto 4, 3) := by decide +kernel
theorem dX7_fillBy_48 : decode cX7_fillBy 48 = .ok (.iload_n 3, 1) := by decide +kernel
theorem dX7_fillBy_49 : decode cX7_fillBy 49 = .ok (.istore_n 3, 1) := by decide +kernel
theorem dX7_fillBy_50 : decode cX7_fillBy 50 = .ok (.iload 6, 2) := by decide +kernel
theorem dX7_fillBy_52 : decode cX7_fillBy 52 = .ok (.iload 4, 2) := by decide +kernel
theorem dX7_fillBy_54 : decode cX7_fillBy 54 = .ok (.invokestatic 228, 3) := by decide +kernel
theorem dX7_fillBy_57 : decode cX7_fillBy 57 = .ok (.istore 4, 2) := by decide +kernel
theorem dX7_fillBy_59 : decode cX7_fillBy 59 = .ok (.iinc 5 1, 3) := by decide +kernel
theorem dX7_fillBy_62 : decode cX7_fillBy 62 = .ok (.goto (-49), 3) := by decide +kernel
theorem dX7_fillBy_65 : decode cX7_fillBy 65 = .ok (.aload_n 0, 1) := by decide +kernel
theorem dX7_fillBy_66 : decode cX7_fillBy 66 = .ok (.iload_n 2, 1) := by decide +kernel
theorem dX7_fillBy_67 : decode cX7_fillBy 67 = .ok (.putfield 67, 3) := by decide +kernel
theorem dX7_fillBy_70 : decode cX7_fillBy 70 = .ok (.iload_n 1, 1) := by decide +kernel
theorem dX7_fillBy_71 : decode cX7_fillBy 71 = .ok (.ifCond .ne 7, 3) := by decide +kernel
theorem dX7_fillBy_74 : decode cX7_fillBy 74 = .ok (.iload_n 3, 1) := by decide +kernel
theorem dX7_fillBy_75 : decode cX7_fillBy 75 = .ok (.goto 5, 3) := by decide +kernel
theorem dX7_fillBy_78 : decode cX7_fillBy 78 = .ok (.iload 4, 2) := by decide +kernel
theorem dX7_fillBy_80 : decode cX7_fillBy 80 = .ok (.ireturn, 1) := by decide +kernel
theorem dX7_fill_0 : decode cX7_fill 0 = .ok (.aload_n 0, 1) := by decide +kernel
theorem dX7_fill_1 : decode cX7_fill 1 = .ok (.invokevirtual 204, 3) := by decide +kernel
theorem dX7_fill_4 : decode cX7_fill 4 = .ok (.iload_n 1, 1) := by decide +kernel
theorem dX7_fill_5 : decode cX7_fill 5 = .ok (.invokestatic 104, 3) := by decide +kernel
theorem dX7_fill_8 : decode cX7_fill 8 = .ok (.ifCond .eq 11, 3) := by decide +kernel
theorem dX7_fill_11 : decode cX7_fill 11 = .ok (.aload_n 0, 1) := by decide +kernel
theorem dX7_fill_12 : decode cX7_fill 12 = .ok (.iload_n 1, 1) := by decide +kernel
theorem dX7_fill_13 : decode cX7_fill 13 = .ok (.invokevirtual 234, 3) := by decide +kernel
theorem dX7_fill_16 : decode cX7_fill 16 = .ok (.goto 5, 3) := by decide +kernel
theorem dX7_fill_19 : decode cX7_fill 19 = .ok (.bipush (-2), 2) := by decide +kernel
theorem dX7_fill_21 : decode cX7_fill 21 = .ok (.ireturn, 1) := by decide +kernel
theorem dX7_swapBy_0 : decode cX7_swapBy 0 = .ok (.iconst (-1), 1) := by decide +kernel
theorem dX7_swapBy_1 : decode cX7_swapBy 1 = .ok (.istore_n 2, 1) := by decide +kernel
theorem dX7_swapBy_2 : decode cX7_swapBy 2 = .ok (.iconst (-1), 1) := by decide +kernel
theorem dX7_swapBy_3 : decode cX7_swapBy 3 = .ok (.istore_n 3, 1) := by decide +kernel
theorem dX7_swapBy_4 : decode cX7_swapBy 4 = .ok (.iconst 0, 1) := by decide +kernel
theorem dX7_swapBy_5 : decode cX7_swapBy 5 = .ok (.istore 4, 2) := by decide +kernel
theorem dX7_swapBy_7 : decode cX7_swapBy 7 = .ok (.iload 4, 2) := by decide +kernel
theorem dX7_swapBy_9 : decode cX7_swapBy 9 = .ok (.aload_n 0, 1) := by decide +kernel
theorem dX7_swapBy_10 : decode cX7_swapBy 10 = .ok (.getfield 113, 3) := by decide +kernel
theorem dX7_swapBy_13 : decode cX7_swapBy 13 = .ok (.if_icmp .ge 102, 3) := by decide +kernel
theorem dX7_swapBy_16 : decode cX7_swapBy 16 = .ok (.iload 4, 2) := by decide +kernel
theorem dX7_swapBy_18 : decode cX7_swapBy 18 = .ok (.iconst 1, 1) := by decide +kernel
theorem dX7_swapBy_19 : decode cX7_swapBy 19 = .ok (.iadd, 1) := by decide +kernel
theorem dX7_swapBy_20 : decode cX7_swapBy 20 = .ok (.istore 5, 2) := by decide +kernel
theorem dX7_swapBy_22 : decode cX7_swapBy 22 = .ok (.iload 5, 2) := by decide +kernel
theorem dX7_swapBy_24 : decode cX7_swapBy 24 = .ok (.aload_n 0, 1) := by decide +kernel
theorem dX7_swapBy_25 : decode cX7_swapBy 25 = .ok (.getfield 113, 3) := by decide +kernel
theorem dX7_swapBy_28 : decode cX7_swapBy 28 = .ok (.if_icmp .ge 81, 3) := by decide +kernel
theorem dX7_swapBy_31 : decode cX7_swapBy 31 = .ok (.aload_n 0, 1) := by decide +kernel
theorem dX7_swapBy_32 : decode cX7_swapBy 32 = .ok (.getfield 58, 3) := by decide +kernel
theorem dX7_swapBy_35 : decode cX7_swapBy 35 = .ok (.iload 4, 2) := by decide +kernel
theorem dX7_swapBy_37 : decode cX7_swapBy 37 = .ok (.iload 5, 2) := by decide +kernel
theorem dX7_swapBy_39 : decode cX7_swapBy 39 = .ok (.iastore, 1) := by decide +kernel
theorem dX7_swapBy_40 : decode cX7_swapBy 40 = .ok (.aload_n 0, 1) := by decide +kernel
theorem dX7_swapBy_41 : decode cX7_swapBy 41 = .ok (.getfield 58, 3) := by decide +kernel
theorem dX7_swapBy_44 : decode cX7_swapBy 44 = .ok (.iload 5, 2) := by decide +kernel
theorem dX7_swapBy_46 : decode cX7_swapBy 46 = .ok (.iload 4, 2) := by decide +kernel
theorem dX7_swapBy_48 : decode cX7_swapBy 48 = .ok (.iastore, 1) := by decide +kernel
theorem dX7_swapBy_49 : decode cX7_swapBy 49 = .ok (.aload_n 0, 1) := by decide +kernel
theorem dX7_swapBy_50 : decode cX7_swapBy 50 = .ok (.invokevirtual 201, 3) := by decide +kernel
theorem dX7_swapBy_53 : decode cX7_swapBy 53 = .ok (.aload_n 0, 1) := by decide +kernel
theorem dX7_swapBy_54 : decode cX7_swapBy 54 = .ok (.invokevirtual 216, 3) := by decide +kernel
theorem dX7_swapBy_57 : decode cX7_swapBy 57 = .ok (.istore 6, 2) := by decide +kernel
theorem dX7_swapBy_59 : decode cX7_swapBy 59 = .ok (.iload 6, 2) := by decide +kernel
theorem dX7_swapBy_61 : decode cX7_swapBy 61 = .ok (.iload_n 3, 1) := by decide +kernel
theorem dX7_swapBy_62 : decode cX7_swapBy 62 = .ok (.if_icmp .le 14, 3) := by decide +kernel
theorem dX7_swapBy_65 : decode cX7_swapBy 65 = .ok (.bipush 16, 2) := by decide +kernel
theorem dX7_swapBy_67 : decode cX7_swapBy 67 = .ok (.iload 4, 2) := by decide +kernel
theorem dX7_swapBy_69 : decode cX7_swapBy 69 = .ok (.imul, 1) := by decide +kernel
theorem dX7_swapBy_70 : decode cX7_swapBy 70 = .ok (.iload 5, 2) := by decide +kernel
theorem dX7_swapBy_72 : decode cX7_swapBy 72 = .ok (.iadd, 1) := by decide +kernel
theorem dX7_swapBy_73 : decode cX7_swapBy 73 = .ok (.goto 4, 3) := by decide +kernel
theorem dX7_swapBy_76 : decode cX7_swapBy 76 = .ok (.iload_n 2, 1) := by decide +kernel
theorem dX7_swapBy_77 : decode cX7_swapBy 77 = .ok (.istore_n 2, 1) := by decide +kernel
theorem dX7_swapBy_78 : decode cX7_swapBy 78 = .ok (.iload 6, 2) := by decide +kernel
theorem dX7_swapBy_80 : decode cX7_swapBy 80 = .ok (.iload_n 3, 1) := by decide +kernel
theorem dX7_swapBy_81 : decode cX7_swapBy 81 = .ok (.invokestatic 228, 3) := by decide +kernel
theorem dX7_swapBy_84 : decode cX7_swapBy 84 = .ok (.istore_n 3, 1) := by decide +kernel
theorem dX7_swapBy_85 : decode cX7_swapBy 85 = .ok (.aload_n 0, 1) := by decide +kernel
theorem dX7_swapBy_86 : decode cX7_swapBy 86 = .ok (.getfield 58, 3) := by decide +kernel
theorem dX7_swapBy_89 : decode cX7_swapBy 89 = .ok (.iload 4, 2) := by decide +kernel
theorem dX7_swapBy_91 : decode cX7_swapBy 91 = .ok (.iload 4, 2) := by decide +kernel
theorem dX7_swapBy_93 : decode cX7_swapBy 93 = .ok (.iastore, 1) := by decide +kernel
theorem dX7_swapBy_94 : decode cX7_swapBy 94 = .ok (.aload_n 0, 1) := by decide +kernel
theorem dX7_swapBy_95 : decode cX7_swapBy 95 = .ok (.getfield 58, 3) := by decide +kernel
theorem dX7_swapBy_98 : decode cX7_swapBy 98 = .ok (.iload 5, 2) := by decide +kernel
theorem dX7_swapBy_100 : decode cX7_swapBy 100 = .ok (.iload 5, 2) := by decide +kernel
theorem dX7_swapBy_102 : decode cX7_swapBy 102 = .ok (.iastore, 1) := by decide +kernel
theorem dX7_swapBy_103 : decode cX7_swapBy 103 = .ok (.iinc 5 1, 3) := by decide +kernel
theorem dX7_swapBy_106 : decode cX7_swapBy 106 = .ok (.goto (-84), 3) := by decide +kernel
theorem dX7_swapBy_109 : decode cX7_swapBy 109 = .ok (.iinc 4 1, 3) := by decide +kernel
theorem dX7_swapBy_112 : decode cX7_swapBy 112 = .ok (.goto (-105), 3) := by decide +kernel
theorem dX7_swapBy_115 : decode cX7_swapBy 115 = .ok (.iload_n 2, 1) := by decide +kernel
theorem dX7_swapBy_116 : decode cX7_swapBy 116 = .ok (.iconst (-1), 1) := by decide +kernel
theorem dX7_swapBy_117 : decode cX7_swapBy 117 = .ok (.if_icmp .ne 7, 3) := by decide +kernel
theorem dX7_swapBy_120 : decode cX7_swapBy 120 = .ok (.iconst (-1), 1) := by decide +kernel
theorem dX7_swapBy_121 : decode cX7_swapBy 121 = .ok (.goto 27, 3) := by decide +kernel
theorem dX7_swapBy_124 : decode cX7_swapBy 124 = .ok (.iload_n 1, 1) := by decide +kernel
theorem dX7_swapBy_125 : decode cX7_swapBy 125 = .ok (.ifCond .ne 10, 3) := by decide +kernel
theorem dX7_swapBy_128 : decode cX7_swapBy 128 = .ok (.iload_n 2, 1) := by decide +kernel
theorem dX7_swapBy_129 : decode cX7_swapBy 129 = .ok (.bipush 16, 2) := by decide +kernel
theorem dX7_swapBy_131 : decode cX7_swapBy 131 = .ok (.idiv, 1) := by decide +kernel
theorem dX7_swapBy_132 : decode cX7_swapBy 132 = .ok (.goto 16, 3) := by decide +kernel
theorem dX7_swapBy_135 : decode cX7_swapBy 135 = .ok (.iload_n 1, 1) := by decide +kernel
theorem dX7_swapBy_136 : decode cX7_swapBy 136 = .ok (.iconst 1, 1) := by decide +kernel
theorem dX7_swapBy_137 : decode cX7_swapBy 137 = .ok (.if_icmp .ne 10, 3) := by decide +kernel
theorem dX7_swapBy_140 : decode cX7_swapBy 140 = .ok (.iload_n 2, 1) := by decide +kernel
theorem dX7_swapBy_141 : decode cX7_swapBy 141 = .ok (.bipush 16, 2) := by decide +kernel
theorem dX7_swapBy_143 : decode cX7_swapBy 143 = .ok (.irem, 1) := by decide +kernel
theorem dX7_swapBy_144 : decode cX7_swapBy 144 = .ok (.goto 4, 3) := by decide +kernel
theorem dX7_swapBy_147 : decode cX7_swapBy 147 = .ok (.iload_n 3, 1) := by decide +kernel
theorem dX7_swapBy_148 : decode cX7_swapBy 148 = .ok (.ireturn, 1) := by decide +kernel
theorem dX7_swap_0 : decode cX7_swap 0 = .ok (.aload_n 0, 1) := by decide +kernel
theorem dX7_swap_1 : decode cX7_swap 1 = .ok (.invokevirtual 204, 3) := by decide +kernel
theorem dX7_swap_4 : decode cX7_swap 4 = .ok (.iload_n 1, 1) := by decide +kernel
theorem dX7_swap_5 : decode cX7_swap 5 = .ok (.i2l, 1) := by decide +kernel
theorem dX7_swap_6 : decode cX7_swap 6 = .ok (.lconst 0, 1) := by decide +kernel
theorem dX7_swap_7 : decode cX7_swap 7 = .ok (.ldc2_w 89, 3) := by decide +kernel
theorem dX7_swap_10 : decode cX7_swap 10 = .ok (.invokestatic 76, 3) := by decide +kernel
theorem dX7_swap_13 : decode cX7_swap 13 = .ok (.ifCond .eq 11, 3) := by decide +kernel
theorem dX7_swap_16 : decode cX7_swap 16 = .ok (.aload_n 0, 1) := by decide +kernel
theorem dX7_swap_17 : decode cX7_swap 17 = .ok (.iload_n 1, 1) := by decide +kernel
theorem dX7_swap_18 : decode cX7_swap 18 = .ok (.invokevirtual 237, 3) := by decide +kernel
theorem dX7_swap_21 : decode cX7_swap 21 = .ok (.goto 5, 3) := by decide +kernel
theorem dX7_swap_24 : decode cX7_swap 24 = .ok (.bipush (-2), 2) := by decide +kernel
theorem dX7_swap_26 : decode cX7_swap 26 = .ok (.ireturn, 1) := by decide +kernel
theorem dX7_holdBy_0 : decode cX7_holdBy 0 = .ok (.iconst (-1), 1) := by decide +kernel
theorem dX7_holdBy_1 : decode cX7_holdBy 1 = .ok (.istore_n 2, 1) := by decide +kernel
theorem dX7_holdBy_2 : decode cX7_holdBy 2 = .ok (.iconst (-1), 1) := by decide +kernel
theorem dX7_holdBy_3 : decode cX7_holdBy 3 = .ok (.istore_n 3, 1) := by decide +kernel
theorem dX7_holdBy_4 : decode cX7_holdBy 4 = .ok (.iconst 0, 1) := by decide +kernel
theorem dX7_holdBy_5 : decode cX7_holdBy 5 = .ok (.istore 4, 2) := by decide +kernel
theorem dX7_holdBy_7 : decode cX7_holdBy 7 = .ok (.iload 4, 2) := by decide +kernel
theorem dX7_holdBy_9 : decode cX7_holdBy 9 = .ok (.bipush 24, 2) := by decide +kernel
theorem dX7_holdBy_11 : decode cX7_holdBy 11 = .ok (.if_icmp .ge 45, 3) := by decide +kernel
theorem dX7_holdBy_14 : decode cX7_holdBy 14 = .ok (.aload_n 0, 1) := by decide +kernel
theorem dX7_holdBy_15 : decode cX7_holdBy 15 = .ok (.iload 4, 2) := by decide +kernel
theorem dX7_holdBy_17 : decode cX7_holdBy 17 = .ok (.putfield 71, 3) := by decide +kernel
theorem dX7_holdBy_20 : decode cX7_holdBy 20 = .ok (.aload_n 0, 1) := by decide +kernel
theorem dX7_holdBy_21 : decode cX7_holdBy 21 = .ok (.invokevirtual 201, 3) := by decide +kernel
theorem dX7_holdBy_24 : decode cX7_holdBy 24 = .ok (.aload_n 0, 1) := by decide +kernel
theorem dX7_holdBy_25 : decode cX7_holdBy 25 = .ok (.invokevirtual 216, 3) := by decide +kernel
theorem dX7_holdBy_28 : decode cX7_holdBy 28 = .ok (.istore 5, 2) := by decide +kernel
theorem dX7_holdBy_30 : decode cX7_holdBy 30 = .ok (.iload 5, 2) := by decide +kernel
theorem dX7_holdBy_32 : decode cX7_holdBy 32 = .ok (.iload_n 3, 1) := by decide +kernel
theorem dX7_holdBy_33 : decode cX7_holdBy 33 = .ok (.if_icmp .le 8, 3) := by decide +kernel
theorem dX7_holdBy_36 : decode cX7_holdBy 36 = .ok (.iload 4, 2) := by decide +kernel
theorem dX7_holdBy_38 : decode cX7_holdBy 38 = .ok (.goto 4, 3) := by decide +kernel
theorem dX7_holdBy_41 : decode cX7_holdBy 41 = .ok (.iload_n 2, 1) := by decide +kernel
theorem dX7_holdBy_42 : decode cX7_holdBy 42 = .ok (.istore_n 2, 1) := by decide +kernel
theorem dX7_holdBy_43 : decode cX7_holdBy 43 = .ok (.iload 5, 2) := by decide +kernel
theorem dX7_holdBy_45 : decode cX7_holdBy 45 = .ok (.iload_n 3, 1) := by decide +kernel
theorem dX7_holdBy_46 : decode cX7_holdBy 46 = .ok (.invokestatic 228, 3) := by decide +kernel
theorem dX7_holdBy_49 : decode cX7_holdBy 49 = .ok (.istore_n 3, 1) := by decide +kernel
theorem dX7_holdBy_50 : decode cX7_holdBy 50 = .ok (.iinc 4 1, 3) := by decide +kernel
theorem dX7_holdBy_53 : decode cX7_holdBy 53 = .ok (.goto (-46), 3) := by decide +kernel
theorem dX7_holdBy_56 : decode cX7_holdBy 56 = .ok (.aload_n 0, 1) := by decide +kernel
theorem dX7_holdBy_57 : decode cX7_holdBy 57 = .ok (.iconst (-1), 1) := by decide +kernel
theorem dX7_holdBy_58 : decode cX7_holdBy 58 = .ok (.putfield 71, 3) := by decide +kernel
theorem dX7_holdBy_61 : decode cX7_holdBy 61 = .ok (.iload_n 1, 1) := by decide +kernel
theorem dX7_holdBy_62 : decode cX7_holdBy 62 = .ok (.ifCond .ne 7, 3) := by decide +kernel
theorem dX7_holdBy_65 : decode cX7_holdBy 65 = .ok (.iload_n 2, 1) := by decide +kernel
theorem dX7_holdBy_66 : decode cX7_holdBy 66 = .ok (.goto 4, 3) := by decide +kernel
theorem dX7_holdBy_69 : decode cX7_holdBy 69 = .ok (.iload_n 3, 1) := by decide +kernel
theorem dX7_holdBy_70 : decode cX7_holdBy 70 = .ok (.ireturn, 1) := by decide +kernel
theorem dX7_hold_0 : decode cX7_hold 0 = .ok (.aload_n 0, 1) := by decide +kernel
theorem dX7_hold_1 : decode cX7_hold 1 = .ok (.invokevirtual 204, 3) := by decide +kernel
theorem dX7_hold_4 : decode cX7_hold 4 = .ok (.iload_n 1, 1) := by decide +kernel
theorem dX7_hold_5 : decode cX7_hold 5 = .ok (.invokestatic 104, 3) := by decide +kernel
theorem dX7_hold_8 : decode cX7_hold 8 = .ok (.ifCond .eq 11, 3) := by decide +kernel
theorem dX7_hold_11 : decode cX7_hold 11 = .ok (.aload_n 0, 1) := by decide +kernel
theorem dX7_hold_12 : decode cX7_hold 12 = .ok (.iload_n 1, 1) := by decide +kernel
theorem dX7_hold_13 : decode cX7_hold 13 = .ok (.invokevirtual 240, 3) := by decide +kernel
theorem dX7_hold_16 : decode cX7_hold 16 = .ok (.goto 5, 3) := by decide +kernel
theorem dX7_hold_19 : decode cX7_hold 19 = .ok (.bipush (-2), 2) := by decide +kernel
theorem dX7_hold_21 : decode cX7_hold 21 = .ok (.ireturn, 1) := by decide +kernel
theorem dX7_isSpared_0 : decode cX7_isSpared 0 = .ok (.aload_n 0, 1) := by decide +kernel
theorem dX7_isSpared_1 : decode cX7_isSpared 1 = .ok (.iload_n 1, 1) := by decide +kernel
theorem dX7_isSpared_2 : decode cX7_isSpared 2 = .ok (.putfield 160, 3) := by decide +kernel
theorem dX7_isSpared_5 : decode cX7_isSpared 5 = .ok (.aload_n 0, 1) := by decide +kernel
theorem dX7_isSpared_6 : decode cX7_isSpared 6 = .ok (.invokevirtual 201, 3) := by decide +kernel
theorem dX7_isSpared_9 : decode cX7_isSpared 9 = .ok (.aload_n 0, 1) := by decide +kernel
theorem dX7_isSpared_10 : decode cX7_isSpared 10 = .ok (.iconst 0, 1) := by decide +kernel
theorem dX7_isSpared_11 : decode cX7_isSpared 11 = .ok (.putfield 160, 3) := by decide +kernel
theorem dX7_isSpared_14 : decode cX7_isSpared 14 = .ok (.iconst 1, 1) := by decide +kernel
theorem dX7_isSpared_15 : decode cX7_isSpared 15 = .ok (.istore_n 2, 1) := by decide +kernel
theorem dX7_isSpared_16 : decode cX7_isSpared 16 = .ok (.iconst 0, 1) := by decide +kernel
theorem dX7_isSpared_17 : decode cX7_isSpared 17 = .ok (.istore_n 3, 1) := by decide +kernel
theorem dX7_isSpared_18 : decode cX7_isSpared 18 = .ok (.iload_n 3, 1) := by decide +kernel
theorem dX7_isSpared_19 : decode cX7_isSpared 19 = .ok (.aload_n 0, 1) := by decide +kernel
theorem dX7_isSpared_20 : decode cX7_isSpared 20 = .ok (.getfield 124, 3) := by decide +kernel
theorem dX7_isSpared_23 : decode cX7_isSpared 23 = .ok (.if_icmp .ge 45, 3) := by decide +kernel
theorem dX7_isSpared_26 : decode cX7_isSpared 26 = .ok (.iload_n 2, 1) := by decide +kernel
theorem dX7_isSpared_27 : decode cX7_isSpared 27 = .ok (.ifCond .eq 33, 3) := by decide +kernel
theorem dX7_isSpared_30 : decode cX7_isSpared 30 = .ok (.aload_n 0, 1) := by decide +kernel
theorem dX7_isSpared_31 : decode cX7_isSpared 31 = .ok (.getfield 46, 3) := by decide +kernel
theorem dX7_isSpared_34 : decode cX7_isSpared 34 = .ok (.iload_n 3, 1) := by decide +kernel
theorem dX7_isSpared_35 : decode cX7_isSpared 35 = .ok (.iaload, 1) := by decide +kernel
theorem dX7_isSpared_36 : decode cX7_isSpared 36 = .ok (.ifCond .gt 20, 3) := by decide +kernel
theorem dX7_isSpared_39 : decode cX7_isSpared 39 = .ok (.aload_n 0, 1) := by decide +kernel
theorem dX7_isSpared_40 : decode cX7_isSpared 40 = .ok (.aload_n 0, 1) := by decide +kernel
theorem dX7_isSpared_41 : decode cX7_isSpared 41 = .ok (.getfield 31, 3) := by decide +kernel
theorem dX7_isSpared_44 : decode cX7_isSpared 44 = .ok (.iconst 2, 1) := by decide +kernel
theorem dX7_isSpared_45 : decode cX7_isSpared 45 = .ok (.iload_n 3, 1) := by decide +kernel
theorem dX7_isSpared_46 : decode cX7_isSpared 46 = .ok (.imul, 1) := by decide +kernel
theorem dX7_isSpared_47 : decode cX7_isSpared 47 = .ok (.iconst 1, 1) := by decide +kernel
theorem dX7_isSpared_48 : decode cX7_isSpared 48 = .ok (.iadd, 1) := by decide +kernel
theorem dX7_isSpared_49 : decode cX7_isSpared 49 = .ok (.iaload, 1) := by decide +kernel
theorem dX7_isSpared_50 : decode cX7_isSpared 50 = .ok (.invokevirtual 142, 3) := by decide +kernel
theorem dX7_isSpared_53 : decode cX7_isSpared 53 = .ok (.ifCond .ne 7, 3) := by decide +kernel
theorem dX7_isSpared_56 : decode cX7_isSpared 56 = .ok (.iconst 1, 1) := by decide +kernel
theorem dX7_isSpared_57 : decode cX7_isSpared 57 = .ok (.goto 4, 3) := by decide +kernel
theorem dX7_isSpared_60 : decode cX7_isSpared 60 = .ok (.iconst 0, 1) := by decide +kernel
theorem dX7_isSpared_61 : decode cX7_isSpared 61 = .ok (.istore_n 2, 1) := by decide +kernel
theorem dX7_isSpared_62 : decode cX7_isSpared 62 = .ok (.iinc 3 1, 3) := by decide +kernel
theorem dX7_isSpared_65 : decode cX7_isSpared 65 = .ok (.goto (-47), 3) := by decide +kernel
theorem dX7_isSpared_68 : decode cX7_isSpared 68 = .ok (.iload_n 2, 1) := by decide +kernel
theorem dX7_isSpared_69 : decode cX7_isSpared 69 = .ok (.ireturn, 1) := by decide +kernel
theorem dX7_spareBy_0 : decode cX7_spareBy 0 = .ok (.aload_n 0, 1) := by decide +kernel
theorem dX7_spareBy_1 : decode cX7_spareBy 1 = .ok (.iconst 0, 1) := by decide +kernel
theorem dX7_spareBy_2 : decode cX7_spareBy 2 = .ok (.invokevirtual 243, 3) := by decide +kernel
theorem dX7_spareBy_5 : decode cX7_spareBy 5 = .ok (.ifCond .eq 14, 3) := by decide +kernel
theorem dX7_spareBy_8 : decode cX7_spareBy 8 = .ok (.iload_n 1, 1) := by decide +kernel
theorem dX7_spareBy_9 : decode cX7_spareBy 9 = .ok (.iconst (-1), 1) := by decide +kernel
theorem dX7_spareBy_10 : decode cX7_spareBy 10 = .ok (.if_icmp .ne 7, 3) := by decide +kernel
theorem dX7_spareBy_13 : decode cX7_spareBy 13 = .ok (.iconst 0, 1) := by decide +kernel
theorem dX7_spareBy_14 : decode cX7_spareBy 14 = .ok (.goto 4, 3) := by decide +kernel
theorem dX7_spareBy_17 : decode cX7_spareBy 17 = .ok (.iconst (-1), 1) := by decide +kernel
theorem dX7_spareBy_18 : decode cX7_spareBy 18 = .ok (.ireturn, 1) := by decide +kernel
theorem dX7_spareBy_19 : decode cX7_spareBy 19 = .ok (.iconst 0, 1) := by decide +kernel
theorem dX7_spareBy_20 : decode cX7_spareBy 20 = .ok (.istore_n 2, 1) := by decide +kernel
theorem dX7_spareBy_21 : decode cX7_spareBy 21 = .ok (.iload_n 2, 1) := by decide +kernel
theorem dX7_spareBy_22 : decode cX7_spareBy 22 = .ok (.aload_n 0, 1) := by decide +kernel
theorem dX7_spareBy_23 : decode cX7_spareBy 23 = .ok (.getfield 155, 3) := by decide +kernel
theorem dX7_spareBy_26 : decode cX7_spareBy 26 = .ok (.if_icmp .ge 38, 3) := by decide +kernel
theorem dX7_spareBy_29 : decode cX7_spareBy 29 = .ok (.aload_n 0, 1) := by decide +kernel
theorem dX7_spareBy_30 : decode cX7_spareBy 30 = .ok (.iconst 1, 1) := by decide +kernel
theorem dX7_spareBy_31 : decode cX7_spareBy 31 = .ok (.iload_n 2, 1) := by decide +kernel
theorem dX7_spareBy_32 : decode cX7_spareBy 32 = .ok (.ishl, 1) := by decide +kernel
theorem dX7_spareBy_33 : decode cX7_spareBy 33 = .ok (.invokevirtual 243, 3) := by decide +kernel
theorem dX7_spareBy_36 : decode cX7_spareBy 36 = .ok (.ifCond .eq 22, 3) := by decide +kernel
theorem dX7_spareBy_39 : decode cX7_spareBy 39 = .ok (.iload_n 1, 1) := by decide +kernel
theorem dX7_spareBy_40 : decode cX7_spareBy 40 = .ok (.iconst (-1), 1) := by decide +kernel
theorem dX7_spareBy_41 : decode cX7_spareBy 41 = .ok (.if_icmp .ne 7, 3) := by decide +kernel
theorem dX7_spareBy_44 : decode cX7_spareBy 44 = .ok (.iconst 1, 1) := by decide +kernel
theorem dX7_spareBy_45 : decode cX7_spareBy 45 = .ok (.goto 12, 3) := by decide +kernel
theorem dX7_spareBy_48 : decode cX7_spareBy 48 = .ok (.iload_n 1, 1) := by decide +kernel
theorem dX7_spareBy_49 : decode cX7_spareBy 49 = .ok (.ifCond .ne 7, 3) := by decide +kernel
theorem dX7_spareBy_52 : decode cX7_spareBy 52 = .ok (.iload_n 2, 1) := by decide +kernel
theorem dX7_spareBy_53 : decode cX7_spareBy 53 = .ok (.goto 4, 3) := by decide +kernel
theorem dX7_spareBy_56 : decode cX7_spareBy 56 = .ok (.iconst (-1), 1) := by decide +kernel
theorem dX7_spareBy_57 : decode cX7_spareBy 57 = .ok (.ireturn, 1) := by decide +kernel
theorem dX7_spareBy_58 : decode cX7_spareBy 58 = .ok (.iinc 2 1, 3) := by decide +kernel
theorem dX7_spareBy_61 : decode cX7_spareBy 61 = .ok (.goto (-40), 3) := by decide +kernel
theorem dX7_spareBy_64 : decode cX7_spareBy 64 = .ok (.iconst 0, 1) := by decide +kernel
theorem dX7_spareBy_65 : decode cX7_spareBy 65 = .ok (.istore_n 2, 1) := by decide +kernel
theorem dX7_spareBy_66 : decode cX7_spareBy 66 = .ok (.iload_n 2, 1) := by decide +kernel
theorem dX7_spareBy_67 : decode cX7_spareBy 67 = .ok (.aload_n 0, 1) := by decide +kernel
theorem dX7_spareBy_68 : decode cX7_spareBy 68 = .ok (.getfield 155, 3) := by decide +kernel
theorem dX7_spareBy_71 : decode cX7_spareBy 71 = .ok (.if_icmp .ge 60, 3) := by decide +kernel
theorem dX7_spareBy_74 : decode cX7_spareBy 74 = .ok (.iload_n 2, 1) := by decide +kernel
theorem dX7_spareBy_75 : decode cX7_spareBy 75 = .ok (.iconst 1, 1) := by decide +kernel
theorem dX7_spareBy_76 : decode cX7_spareBy 76 = .ok (.iadd, 1) := by decide +kernel
theorem dX7_spareBy_77 : decode cX7_spareBy 77 = .ok (.istore_n 3, 1) := by decide +kernel
theorem dX7_spareBy_78 : decode cX7_spareBy 78 = .ok (.iload_n 3, 1) := by decide +kernel
theorem dX7_spareBy_79 : decode cX7_spareBy 79 = .ok (.aload_n 0, 1) := by decide +kernel
theorem dX7_spareBy_80 : decode cX7_spareBy 80 = .ok (.getfield 155, 3) := by decide +kernel
theorem dX7_spareBy_83 : decode cX7_spareBy 83 = .ok (.if_icmp .ge 42, 3) := by decide +kernel
theorem dX7_spareBy_86 : decode cX7_spareBy 86 = .ok (.aload_n 0, 1) := by decide +kernel
theorem dX7_spareBy_87 : decode cX7_spareBy 87 = .ok (.iconst 1, 1) := by decide +kernel
theorem dX7_spareBy_88 : decode cX7_spareBy 88 = .ok (.iload_n 2, 1) := by decide +kernel
theorem dX7_spareBy_89 : decode cX7_spareBy 89 = .ok (.ishl, 1) := by decide +kernel
theorem dX7_spareBy_90 : decode cX7_spareBy 90 = .ok (.iconst 1, 1) := by decide +kernel
theorem dX7_spareBy_91 : decode cX7_spareBy 91 = .ok (.iload_n 3, 1) := by decide +kernel
theorem dX7_spareBy_92 : decode cX7_spareBy 92 = .ok (.ishl, 1) := by decide +kernel
theorem dX7_spareBy_93 : decode cX7_spareBy 93 = .ok (.ior, 1) := by decide +kernel
theorem dX7_spareBy_94 : decode cX7_spareBy 94 = .ok (.invokevirtual 243, 3) := by decide +kernel
theorem dX7_spareBy_97 : decode cX7_spareBy 97 = .ok (.ifCond .eq 22, 3) := by decide +kernel
theorem dX7_spareBy_100 : decode cX7_spareBy 100 = .ok (.iload_n 1, 1) := by decide +kernel
theorem dX7_spareBy_101 : decode cX7_spareBy 101 = .ok (.iconst (-1), 1) := by decide +kernel
theorem dX7_spareBy_102 : decode cX7_spareBy 102 = .ok (.if_icmp .ne 7, 3) := by decide +kernel
theorem dX7_spareBy_105 : decode cX7_spareBy 105 = .ok (.iconst 2, 1) := by decide +kernel
theorem dX7_spareBy_106 : decode cX7_spareBy 106 = .ok (.goto 12, 3) := by decide +kernel
theorem dX7_spareBy_109 : decode cX7_spareBy 109 = .ok (.iload_n 1, 1) := by decide +kernel
theorem dX7_spareBy_110 : decode cX7_spareBy 110 = .ok (.ifCond .ne 7, 3) := by decide +kernel
theorem dX7_spareBy_113 : decode cX7_spareBy 113 = .ok (.iload_n 2, 1) := by decide +kernel
theorem dX7_spareBy_114 : decode cX7_spareBy 114 = .ok (.goto 4, 3) := by decide +kernel
theorem dX7_spareBy_117 : decode cX7_spareBy 117 = .ok (.iload_n 3, 1) := by decide +kernel
theorem dX7_spareBy_118 : decode cX7_spareBy 118 = .ok (.ireturn, 1) := by decide +kernel
theorem dX7_spareBy_119 : decode cX7_spareBy 119 = .ok (.iinc 3 1, 3) := by decide +kernel
theorem dX7_spareBy_122 : decode cX7_spareBy 122 = .ok (.goto (-44), 3) := by decide +kernel
theorem dX7_spareBy_125 : decode cX7_spareBy 125 = .ok (.iinc 2 1, 3) := by decide +kernel
theorem dX7_spareBy_128 : decode cX7_spareBy 128 = .ok (.goto (-62), 3) := by decide +kernel
theorem dX7_spareBy_131 : decode cX7_spareBy 131 = .ok (.iconst (-1), 1) := by decide +kernel
theorem dX7_spareBy_132 : decode cX7_spareBy 132 = .ok (.ireturn, 1) := by decide +kernel
theorem dX7_spare_0 : decode cX7_spare 0 = .ok (.aload_n 0, 1) := by decide +kernel
theorem dX7_spare_1 : decode cX7_spare 1 = .ok (.invokevirtual 204, 3) := by decide +kernel
theorem dX7_spare_4 : decode cX7_spare 4 = .ok (.iload_n 1, 1) := by decide +kernel
theorem dX7_spare_5 : decode cX7_spare 5 = .ok (.i2l, 1) := by decide +kernel
theorem dX7_spare_6 : decode cX7_spare 6 = .ok (.ldc2_w 246, 3) := by decide +kernel
theorem dX7_spare_9 : decode cX7_spare 9 = .ok (.lconst 1, 1) := by decide +kernel
theorem dX7_spare_10 : decode cX7_spare 10 = .ok (.invokestatic 76, 3) := by decide +kernel
theorem dX7_spare_13 : decode cX7_spare 13 = .ok (.ifCond .eq 11, 3) := by decide +kernel
theorem dX7_spare_16 : decode cX7_spare 16 = .ok (.aload_n 0, 1) := by decide +kernel
theorem dX7_spare_17 : decode cX7_spare 17 = .ok (.iload_n 1, 1) := by decide +kernel
theorem dX7_spare_18 : decode cX7_spare 18 = .ok (.invokevirtual 248, 3) := by decide +kernel
theorem dX7_spare_21 : decode cX7_spare 21 = .ok (.goto 5, 3) := by decide +kernel
theorem dX7_spare_24 : decode cX7_spare 24 = .ok (.bipush (-2), 2) := by decide +kernel
theorem dX7_spare_26 : decode cX7_spare 26 = .ok (.ireturn, 1) := by decide +kernel
theorem dX7_hear_0 : decode cX7_hear 0 = .ok (.iload_n 1, 1) := by decide +kernel
theorem dX7_hear_1 : decode cX7_hear 1 = .ok (.i2l, 1) := by decide +kernel
theorem dX7_hear_2 : decode cX7_hear 2 = .ok (.lconst 0, 1) := by decide +kernel
theorem dX7_hear_3 : decode cX7_hear 3 = .ok (.ldc2_w 145, 3) := by decide +kernel
theorem dX7_hear_6 : decode cX7_hear 6 = .ok (.invokestatic 76, 3) := by decide +kernel
theorem dX7_hear_9 : decode cX7_hear 9 = .ok (.ifCond .eq 15, 3) := by decide +kernel
theorem dX7_hear_12 : decode cX7_hear 12 = .ok (.iload_n 2, 1) := by decide +kernel
theorem dX7_hear_13 : decode cX7_hear 13 = .ok (.i2l, 1) := by decide +kernel
theorem dX7_hear_14 : decode cX7_hear 14 = .ok (.lconst 0, 1) := by decide +kernel
theorem dX7_hear_15 : decode cX7_hear 15 = .ok (.ldc2_w 89, 3) := by decide +kernel
theorem dX7_hear_18 : decode cX7_hear 18 = .ok (.invokestatic 76, 3) := by decide +kernel
theorem dX7_hear_21 : decode cX7_hear 21 = .ok (.ifCond .ne 6, 3) := by decide +kernel
theorem dX7_hear_24 : decode cX7_hear 24 = .ok (.bipush (-2), 2) := by decide +kernel
theorem dX7_hear_26 : decode cX7_hear 26 = .ok (.ireturn, 1) := by decide +kernel
theorem dX7_hear_27 : decode cX7_hear 27 = .ok (.aload_n 0, 1) := by decide +kernel
theorem dX7_hear_28 : decode cX7_hear 28 = .ok (.getfield 251, 3) := by decide +kernel
theorem dX7_hear_31 : decode cX7_hear 31 = .ok (.bipush 8, 2) := by decide +kernel
theorem dX7_hear_33 : decode cX7_hear 33 = .ok (.if_icmp .ne 6, 3) := by decide +kernel
theorem dX7_hear_36 : decode cX7_hear 36 = .ok (.bipush (-4), 2) := by decide +kernel
theorem dX7_hear_38 : decode cX7_hear 38 = .ok (.ireturn, 1) := by decide +kernel
theorem dX7_hear_39 : decode cX7_hear 39 = .ok (.aload_n 0, 1) := by decide +kernel
theorem dX7_hear_40 : decode cX7_hear 40 = .ok (.getfield 61, 3) := by decide +kernel
theorem dX7_hear_43 : decode cX7_hear 43 = .ok (.iconst 2, 1) := by decide +kernel
theorem dX7_hear_44 : decode cX7_hear 44 = .ok (.aload_n 0, 1) := by decide +kernel
theorem dX7_hear_45 : decode cX7_hear 45 = .ok (.getfield 251, 3) := by decide +kernel
theorem dX7_hear_48 : decode cX7_hear 48 = .ok (.imul, 1) := by decide +kernel
theorem dX7_hear_49 : decode cX7_hear 49 = .ok (.iload_n 1, 1) := by decide +kernel
theorem dX7_hear_50 : decode cX7_hear 50 = .ok (.iastore, 1) := by decide +kernel
theorem dX7_hear_51 : decode cX7_hear 51 = .ok (.aload_n 0, 1) := by decide +kernel
theorem dX7_hear_52 : decode cX7_hear 52 = .ok (.getfield 61, 3) := by decide +kernel
theorem dX7_hear_55 : decode cX7_hear 55 = .ok (.iconst 2, 1) := by decide +kernel
theorem dX7_hear_56 : decode cX7_hear 56 = .ok (.aload_n 0, 1) := by decide +kernel
theorem dX7_hear_57 : decode cX7_hear 57 = .ok (.getfield 251, 3) := by decide +kernel
theorem dX7_hear_60 : decode cX7_hear 60 = .ok (.imul, 1) := by decide +kernel
theorem dX7_hear_61 : decode cX7_hear 61 = .ok (.iconst 1, 1) := by decide +kernel
theorem dX7_hear_62 : decode cX7_hear 62 = .ok (.iadd, 1) := by decide +kernel
theorem dX7_hear_63 : decode cX7_hear 63 = .ok (.iload_n 2, 1) := by decide +kernel
theorem dX7_hear_64 : decode cX7_hear 64 = .ok (.iastore, 1) := by decide +kernel
theorem dX7_hear_65 : decode cX7_hear 65 = .ok (.aload_n 0, 1) := by decide +kernel
theorem dX7_hear_66 : decode cX7_hear 66 = .ok (.dup, 1) := by decide +kernel
theorem dX7_hear_67 : decode cX7_hear 67 = .ok (.getfield 251, 3) := by decide +kernel
theorem dX7_hear_70 : decode cX7_hear 70 = .ok (.iconst 1, 1) := by decide +kernel
theorem dX7_hear_71 : decode cX7_hear 71 = .ok (.iadd, 1) := by decide +kernel
theorem dX7_hear_72 : decode cX7_hear 72 = .ok (.putfield 251, 3) := by decide +kernel
theorem dX7_hear_75 : decode cX7_hear 75 = .ok (.aload_n 0, 1) := by decide +kernel
theorem dX7_hear_76 : decode cX7_hear 76 = .ok (.getfield 251, 3) := by decide +kernel
theorem dX7_hear_79 : decode cX7_hear 79 = .ok (.ireturn, 1) := by decide +kernel
theorem dX7_forget_0 : decode cX7_forget 0 = .ok (.aload_n 0, 1) := by decide +kernel
theorem dX7_forget_1 : decode cX7_forget 1 = .ok (.getfield 251, 3) := by decide +kernel
theorem dX7_forget_4 : decode cX7_forget 4 = .ok (.istore_n 1, 1) := by decide +kernel
theorem dX7_forget_5 : decode cX7_forget 5 = .ok (.aload_n 0, 1) := by decide +kernel
theorem dX7_forget_6 : decode cX7_forget 6 = .ok (.iconst 0, 1) := by decide +kernel
theorem dX7_forget_7 : decode cX7_forget 7 = .ok (.putfield 251, 3) := by decide +kernel
theorem dX7_forget_10 : decode cX7_forget 10 = .ok (.iload_n 1, 1) := by decide +kernel
theorem dX7_forget_11 : decode cX7_forget 11 = .ok (.ireturn, 1) := by decide +kernel
theorem dX7_isHeard_0 : decode cX7_isHeard 0 = .ok (.aload_n 0, 1) := by decide +kernel
theorem dX7_isHeard_1 : decode cX7_isHeard 1 = .ok (.invokevirtual 201, 3) := by decide +kernel
theorem dX7_isHeard_4 : decode cX7_isHeard 4 = .ok (.iconst 1, 1) := by decide +kernel
theorem dX7_isHeard_5 : decode cX7_isHeard 5 = .ok (.istore_n 1, 1) := by decide +kernel
theorem dX7_isHeard_6 : decode cX7_isHeard 6 = .ok (.iconst 0, 1) := by decide +kernel
theorem dX7_isHeard_7 : decode cX7_isHeard 7 = .ok (.istore_n 2, 1) := by decide +kernel
theorem dX7_isHeard_8 : decode cX7_isHeard 8 = .ok (.iload_n 2, 1) := by decide +kernel
theorem dX7_isHeard_9 : decode cX7_isHeard 9 = .ok (.aload_n 0, 1) := by decide +kernel
theorem dX7_isHeard_10 : decode cX7_isHeard 10 = .ok (.getfield 251, 3) := by decide +kernel
theorem dX7_isHeard_13 : decode cX7_isHeard 13 = .ok (.if_icmp .ge 60, 3) := by decide +kernel
theorem dX7_isHeard_16 : decode cX7_isHeard 16 = .ok (.iload_n 1, 1) := by decide +kernel
theorem dX7_isHeard_17 : decode cX7_isHeard 17 = .ok (.ifCond .eq 48, 3) := by decide +kernel
theorem dX7_isHeard_20 : decode cX7_isHeard 20 = .ok (.aload_n 0, 1) := by decide +kernel
theorem dX7_isHeard_21 : decode cX7_isHeard 21 = .ok (.aload_n 0, 1) := by decide +kernel
theorem dX7_isHeard_22 : decode cX7_isHeard 22 = .ok (.getfield 61, 3) := by decide +kernel
theorem dX7_isHeard_25 : decode cX7_isHeard 25 = .ok (.iconst 2, 1) := by decide +kernel
theorem dX7_isHeard_26 : decode cX7_isHeard 26 = .ok (.iload_n 2, 1) := by decide +kernel
theorem dX7_isHeard_27 : decode cX7_isHeard 27 = .ok (.imul, 1) := by decide +kernel
theorem dX7_isHeard_28 : decode cX7_isHeard 28 = .ok (.iaload, 1) := by decide +kernel
theorem dX7_isHeard_29 : decode cX7_isHeard 29 = .ok (.invokevirtual 210, 3) := by decide +kernel
theorem dX7_isHeard_32 : decode cX7_isHeard 32 = .ok (.ifCond .eq 33, 3) := by decide +kernel
theorem dX7_isHeard_35 : decode cX7_isHeard 35 = .ok (.aload_n 0, 1) := by decide +kernel
theorem dX7_isHeard_36 : decode cX7_isHeard 36 = .ok (.getfield 46, 3) := by decide +kernel
theorem dX7_isHeard_39 : decode cX7_isHeard 39 = .ok (.aload_n 0, 1) := by decide +kernel
theorem dX7_isHeard_40 : decode cX7_isHeard 40 = .ok (.getfield 61, 3) := by decide +kernel
theorem dX7_isHeard_43 : decode cX7_isHeard 43 = .ok (.iconst 2, 1) := by decide +kernel
theorem dX7_isHeard_44 : decode cX7_isHeard 44 = .ok (.iload_n 2, 1) := by decide +kernel
theorem dX7_isHeard_45 : decode cX7_isHeard 45 = .ok (.imul, 1) := by decide +kernel
theorem dX7_isHeard_46 : decode cX7_isHeard 46 = .ok (.iaload, 1) := by decide +kernel
theorem dX7_isHeard_47 : decode cX7_isHeard 47 = .ok (.iaload, 1) := by decide +kernel
theorem dX7_isHeard_48 : decode cX7_isHeard 48 = .ok (.aload_n 0, 1) := by decide +kernel
theorem dX7_isHeard_49 : decode cX7_isHeard 49 = .ok (.getfield 61, 3) := by decide +kernel
theorem dX7_isHeard_52 : decode cX7_isHeard 52 = .ok (.iconst 2, 1) := by decide +kernel
theorem dX7_isHeard_53 : decode cX7_isHeard 53 = .ok (.iload_n 2, 1) := by decide +kernel
theorem dX7_isHeard_54 : decode cX7_isHeard 54 = .ok (.imul, 1) := by decide +kernel
theorem dX7_isHeard_55 : decode cX7_isHeard 55 = .ok (.iconst 1, 1) := by decide +kernel
theorem dX7_isHeard_56 : decode cX7_isHeard 56 = .ok (.iadd, 1) := by decide +kernel
theorem dX7_isHeard_57 : decode cX7_isHeard 57 = .ok (.iaload, 1) := by decide +kernel
theorem dX7_isHeard_58 : decode cX7_isHeard 58 = .ok (.if_icmp .ne 7, 3) := by decide +kernel
theorem dX7_isHeard_61 : decode cX7_isHeard 61 = .ok (.iconst 1, 1) := by decide +kernel
theorem dX7_isHeard_62 : decode cX7_isHeard 62 = .ok (.goto 4, 3) := by decide +kernel
theorem dX7_isHeard_65 : decode cX7_isHeard 65 = .ok (.iconst 0, 1) := by decide +kernel
theorem dX7_isHeard_66 : decode cX7_isHeard 66 = .ok (.istore_n 1, 1) := by decide +kernel
theorem dX7_isHeard_67 : decode cX7_isHeard 67 = .ok (.iinc 2 1, 3) := by decide +kernel
theorem dX7_isHeard_70 : decode cX7_isHeard 70 = .ok (.goto (-62), 3) := by decide +kernel
theorem dX7_isHeard_73 : decode cX7_isHeard 73 = .ok (.iload_n 1, 1) := by decide +kernel
theorem dX7_isHeard_74 : decode cX7_isHeard 74 = .ok (.ireturn, 1) := by decide +kernel
theorem dX7_neverNow_0 : decode cX7_neverNow 0 = .ok (.iconst 0, 1) := by decide +kernel
theorem dX7_neverNow_1 : decode cX7_neverNow 1 = .ok (.istore_n 1, 1) := by decide +kernel
theorem dX7_neverNow_2 : decode cX7_neverNow 2 = .ok (.iconst 0, 1) := by decide +kernel
theorem dX7_neverNow_3 : decode cX7_neverNow 3 = .ok (.istore_n 2, 1) := by decide +kernel
theorem dX7_neverNow_4 : decode cX7_neverNow 4 = .ok (.iload_n 2, 1) := by decide +kernel
theorem dX7_neverNow_5 : decode cX7_neverNow 5 = .ok (.aload_n 0, 1) := by decide +kernel
theorem dX7_neverNow_6 : decode cX7_neverNow 6 = .ok (.getfield 155, 3) := by decide +kernel
theorem dX7_neverNow_9 : decode cX7_neverNow 9 = .ok (.if_icmp .ge 33, 3) := by decide +kernel
theorem dX7_neverNow_12 : decode cX7_neverNow 12 = .ok (.aload_n 0, 1) := by decide +kernel
theorem dX7_neverNow_13 : decode cX7_neverNow 13 = .ok (.iconst 1, 1) := by decide +kernel
theorem dX7_neverNow_14 : decode cX7_neverNow 14 = .ok (.iload_n 2, 1) := by decide +kernel
theorem dX7_neverNow_15 : decode cX7_neverNow 15 = .ok (.ishl, 1) := by decide +kernel
theorem dX7_neverNow_16 : decode cX7_neverNow 16 = .ok (.putfield 160, 3) := by decide +kernel
theorem dX7_neverNow_19 : decode cX7_neverNow 19 = .ok (.iload_n 1, 1) := by decide +kernel
theorem dX7_neverNow_20 : decode cX7_neverNow 20 = .ok (.aload_n 0, 1) := by decide +kernel
theorem dX7_neverNow_21 : decode cX7_neverNow 21 = .ok (.invokevirtual 254, 3) := by decide +kernel
theorem dX7_neverNow_24 : decode cX7_neverNow 24 = .ok (.ifCond .eq 9, 3) := by decide +kernel
theorem dX7_neverNow_27 : decode cX7_neverNow 27 = .ok (.iconst 1, 1) := by decide +kernel
theorem dX7_neverNow_28 : decode cX7_neverNow 28 = .ok (.iload_n 2, 1) := by decide +kernel
theorem dX7_neverNow_29 : decode cX7_neverNow 29 = .ok (.ishl, 1) := by decide +kernel
theorem dX7_neverNow_30 : decode cX7_neverNow 30 = .ok (.goto 4, 3) := by decide +kernel
theorem dX7_neverNow_33 : decode cX7_neverNow 33 = .ok (.iconst 0, 1) := by decide +kernel
theorem dX7_neverNow_34 : decode cX7_neverNow 34 = .ok (.ior, 1) := by decide +kernel
theorem dX7_neverNow_35 : decode cX7_neverNow 35 = .ok (.istore_n 1, 1) := by decide +kernel
theorem dX7_neverNow_36 : decode cX7_neverNow 36 = .ok (.iinc 2 1, 3) := by decide +kernel
theorem dX7_neverNow_39 : decode cX7_neverNow 39 = .ok (.goto (-35), 3) := by decide +kernel
theorem dX7_neverNow_42 : decode cX7_neverNow 42 = .ok (.aload_n 0, 1) := by decide +kernel
theorem dX7_neverNow_43 : decode cX7_neverNow 43 = .ok (.iconst 0, 1) := by decide +kernel
theorem dX7_neverNow_44 : decode cX7_neverNow 44 = .ok (.putfield 160, 3) := by decide +kernel
theorem dX7_neverNow_47 : decode cX7_neverNow 47 = .ok (.iload_n 1, 1) := by decide +kernel
theorem dX7_neverNow_48 : decode cX7_neverNow 48 = .ok (.ireturn, 1) := by decide +kernel
theorem dX7_never_0 : decode cX7_never 0 = .ok (.aload_n 0, 1) := by decide +kernel
theorem dX7_never_1 : decode cX7_never 1 = .ok (.invokevirtual 204, 3) := by decide +kernel
theorem dX7_never_4 : decode cX7_never 4 = .ok (.aload_n 0, 1) := by decide +kernel
theorem dX7_never_5 : decode cX7_never 5 = .ok (.invokevirtual 258, 3) := by decide +kernel
theorem dX7_never_8 : decode cX7_never 8 = .ok (.ireturn, 1) := by decide +kernel
theorem dX7_wasteOf_0 : decode cX7_wasteOf 0 = .ok (.aload_n 0, 1) := by decide +kernel
theorem dX7_wasteOf_1 : decode cX7_wasteOf 1 = .ok (.getfield 28, 3) := by decide +kernel
theorem dX7_wasteOf_4 : decode cX7_wasteOf 4 = .ok (.iconst 2, 1) := by decide +kernel
theorem dX7_wasteOf_5 : decode cX7_wasteOf 5 = .ok (.iload_n 1, 1) := by decide +kernel
theorem dX7_wasteOf_6 : decode cX7_wasteOf 6 = .ok (.imul, 1) := by decide +kernel
theorem dX7_wasteOf_7 : decode cX7_wasteOf 7 = .ok (.iconst 1, 1) := by decide +kernel
theorem dX7_wasteOf_8 : decode cX7_wasteOf 8 = .ok (.iadd, 1) := by decide +kernel
theorem dX7_wasteOf_9 : decode cX7_wasteOf 9 = .ok (.iaload, 1) := by decide +kernel
theorem dX7_wasteOf_10 : decode cX7_wasteOf 10 = .ok (.istore_n 2, 1) := by decide +kernel
theorem dX7_wasteOf_11 : decode cX7_wasteOf 11 = .ok (.iconst 0, 1) := by decide +kernel
theorem dX7_wasteOf_12 : decode cX7_wasteOf 12 = .ok (.istore_n 3, 1) := by decide +kernel
theorem dX7_wasteOf_13 : decode cX7_wasteOf 13 = .ok (.iconst 0, 1) := by decide +kernel
theorem dX7_wasteOf_14 : decode cX7_wasteOf 14 = .ok (.istore 4, 2) := by decide +kernel
theorem dX7_wasteOf_16 : decode cX7_wasteOf 16 = .ok (.iload 4, 2) := by decide +kernel
theorem dX7_wasteOf_18 : decode cX7_wasteOf 18 = .ok (.iconst 4, 1) := by decide +kernel
theorem dX7_wasteOf_19 : decode cX7_wasteOf 19 = .ok (.if_icmp .ge 77, 3) := by decide +kernel
theorem dX7_wasteOf_22 : decode cX7_wasteOf 22 = .ok (.aload_n 0, 1) := by decide +kernel
theorem dX7_wasteOf_23 : decode cX7_wasteOf 23 = .ok (.getfield 28, 3) := by decide +kernel
theorem dX7_wasteOf_26 : decode cX7_wasteOf 26 = .ok (.iconst 2, 1) := by decide +kernel
theorem dX7_wasteOf_27 : decode cX7_wasteOf 27 = .ok (.iload_n 1, 1) := by decide +kernel
theorem dX7_wasteOf_28 : decode cX7_wasteOf 28 = .ok (.imul, 1) := by decide +kernel
theorem dX7_wasteOf_29 : decode cX7_wasteOf 29 = .ok (.iconst 1, 1) := by decide +kernel
theorem dX7_wasteOf_30 : decode cX7_wasteOf 30 = .ok (.iadd, 1) := by decide +kernel
theorem dX7_wasteOf_31 : decode cX7_wasteOf 31 = .ok (.iload 4, 2) := by decide +kernel
theorem dX7_wasteOf_33 : decode cX7_wasteOf 33 = .ok (.iastore, 1) := by decide +kernel
theorem dX7_wasteOf_34 : decode cX7_wasteOf 34 = .ok (.iload_n 3, 1) := by decide +kernel
theorem dX7_wasteOf_35 : decode cX7_wasteOf 35 = .ok (.aload_n 0, 1) := by decide +kernel
theorem dX7_wasteOf_36 : decode cX7_wasteOf 36 = .ok (.invokevirtual 254, 3) := by decide +kernel
theorem dX7_wasteOf_39 : decode cX7_wasteOf 39 = .ok (.ifCond .eq 10, 3) := by decide +kernel
theorem dX7_wasteOf_42 : decode cX7_wasteOf 42 = .ok (.iconst 1, 1) := by decide +kernel
theorem dX7_wasteOf_43 : decode cX7_wasteOf 43 = .ok (.iload 4, 2) := by decide +kernel
theorem dX7_wasteOf_45 : decode cX7_wasteOf 45 = .ok (.ishl, 1) := by decide +kernel
theorem dX7_wasteOf_46 : decode cX7_wasteOf 46 = .ok (.goto 4, 3) := by decide +kernel
theorem dX7_wasteOf_49 : decode cX7_wasteOf 49 = .ok (.iconst 0, 1) := by decide +kernel
theorem dX7_wasteOf_50 : decode cX7_wasteOf 50 = .ok (.ior, 1) := by decide +kernel
theorem dX7_wasteOf_51 : decode cX7_wasteOf 51 = .ok (.istore_n 3, 1) := by decide +kernel
theorem dX7_wasteOf_52 : decode cX7_wasteOf 52 = .ok (.iconst 0, 1) := by decide +kernel
theorem dX7_wasteOf_53 : decode cX7_wasteOf 53 = .ok (.istore 5, 2) := by decide +kernel
theorem dX7_wasteOf_55 : decode cX7_wasteOf 55 = .ok (.iload 5, 2) := by decide +kernel
theorem dX7_wasteOf_57 : decode cX7_wasteOf 57 = .ok (.aload_n 0, 1) := by decide +kernel
theorem dX7_wasteOf_58 : decode cX7_wasteOf 58 = .ok (.getfield 124, 3) := by decide +kernel
theorem dX7_wasteOf_61 : decode cX7_wasteOf 61 = .ok (.if_icmp .ge 29, 3) := by decide +kernel
theorem dX7_wasteOf_64 : decode cX7_wasteOf 64 = .ok (.aload_n 0, 1) := by decide +kernel
theorem dX7_wasteOf_65 : decode cX7_wasteOf 65 = .ok (.getfield 64, 3) := by decide +kernel
theorem dX7_wasteOf_68 : decode cX7_wasteOf 68 = .ok (.bipush 16, 2) := by decide +kernel
theorem dX7_wasteOf_70 : decode cX7_wasteOf 70 = .ok (.iload 4, 2) := by decide +kernel
theorem dX7_wasteOf_72 : decode cX7_wasteOf 72 = .ok (.imul, 1) := by decide +kernel
theorem dX7_wasteOf_73 : decode cX7_wasteOf 73 = .ok (.iload 5, 2) := by decide +kernel
theorem dX7_wasteOf_75 : decode cX7_wasteOf 75 = .ok (.iadd, 1) := by decide +kernel
theorem dX7_wasteOf_76 : decode cX7_wasteOf 76 = .ok (.aload_n 0, 1) := by decide +kernel
theorem dX7_wasteOf_77 : decode cX7_wasteOf 77 = .ok (.getfield 46, 3) := by decide +kernel
theorem dX7_wasteOf_80 : decode cX7_wasteOf 80 = .ok (.iload 5, 2) := by decide +kernel
theorem dX7_wasteOf_82 : decode cX7_wasteOf 82 = .ok (.iaload, 1) := by decide +kernel
theorem dX7_wasteOf_83 : decode cX7_wasteOf 83 = .ok (.iastore, 1) := by decide +kernel
theorem dX7_wasteOf_84 : decode cX7_wasteOf 84 = .ok (.iinc 5 1, 3) := by decide +kernel
theorem dX7_wasteOf_87 : decode cX7_wasteOf 87 = .ok (.goto (-32), 3) := by decide +kernel
theorem dX7_wasteOf_90 : decode cX7_wasteOf 90 = .ok (.iinc 4 1, 3) := by decide +kernel
theorem dX7_wasteOf_93 : decode cX7_wasteOf 93 = .ok (.goto (-77), 3) := by decide +kernel
theorem dX7_wasteOf_96 : decode cX7_wasteOf 96 = .ok (.aload_n 0, 1) := by decide +kernel
theorem dX7_wasteOf_97 : decode cX7_wasteOf 97 = .ok (.getfield 28, 3) := by decide +kernel
theorem dX7_wasteOf_100 : decode cX7_wasteOf 100 = .ok (.iconst 2, 1) := by decide +kernel
theorem dX7_wasteOf_101 : decode cX7_wasteOf 101 = .ok (.iload_n 1, 1) := by decide +kernel
theorem dX7_wasteOf_102 : decode cX7_wasteOf 102 = .ok (.imul, 1) := by decide +kernel
theorem dX7_wasteOf_103 : decode cX7_wasteOf 103 = .ok (.iconst 1, 1) := by decide +kernel
theorem dX7_wasteOf_104 : decode cX7_wasteOf 104 = .ok (.iadd, 1) := by decide +kernel
theorem dX7_wasteOf_105 : decode cX7_wasteOf 105 = .ok (.iload_n 2, 1) := by decide +kernel
theorem dX7_wasteOf_106 : decode cX7_wasteOf 106 = .ok (.iastore, 1) := by decide +kernel
theorem dX7_wasteOf_107 : decode cX7_wasteOf 107 = .ok (.iload_n 3, 1) := by decide +kernel
theorem dX7_wasteOf_108 : decode cX7_wasteOf 108 = .ok (.ireturn, 1) := by decide +kernel
theorem dX7_sortOf_0 : decode cX7_sortOf 0 = .ok (.aload_n 0, 1) := by decide +kernel
theorem dX7_sortOf_1 : decode cX7_sortOf 1 = .ok (.getfield 28, 3) := by decide +kernel
theorem dX7_sortOf_4 : decode cX7_sortOf 4 = .ok (.iconst 2, 1) := by decide +kernel
theorem dX7_sortOf_5 : decode cX7_sortOf 5 = .ok (.iload_n 1, 1) := by decide +kernel
theorem dX7_sortOf_6 : decode cX7_sortOf 6 = .ok (.imul, 1) := by decide +kernel
theorem dX7_sortOf_7 : decode cX7_sortOf 7 = .ok (.iaload, 1) := by decide +kernel
theorem dX7_sortOf_8 : decode cX7_sortOf 8 = .ok (.istore_n 2, 1) := by decide +kernel
theorem dX7_sortOf_9 : decode cX7_sortOf 9 = .ok (.iconst 0, 1) := by decide +kernel
theorem dX7_sortOf_10 : decode cX7_sortOf 10 = .ok (.istore_n 3, 1) := by decide +kernel
theorem dX7_sortOf_11 : decode cX7_sortOf 11 = .ok (.iconst 0, 1) := by decide +kernel
theorem dX7_sortOf_12 : decode cX7_sortOf 12 = .ok (.istore 4, 2) := by decide +kernel
theorem dX7_sortOf_14 : decode cX7_sortOf 14 = .ok (.iload 4, 2) := by decide +kernel
theorem dX7_sortOf_16 : decode cX7_sortOf 16 = .ok (.iconst 3, 1) := by decide +kernel
theorem dX7_sortOf_17 : decode cX7_sortOf 17 = .ok (.if_icmp .ge 37, 3) := by decide +kernel
theorem dX7_sortOf_20 : decode cX7_sortOf 20 = .ok (.aload_n 0, 1) := by decide +kernel
theorem dX7_sortOf_21 : decode cX7_sortOf 21 = .ok (.getfield 28, 3) := by decide +kernel
theorem dX7_sortOf_24 : decode cX7_sortOf 24 = .ok (.iconst 2, 1) := by decide +kernel
theorem dX7_sortOf_25 : decode cX7_sortOf 25 = .ok (.iload_n 1, 1) := by decide +kernel
theorem dX7_sortOf_26 : decode cX7_sortOf 26 = .ok (.imul, 1) := by decide +kernel
theorem dX7_sortOf_27 : decode cX7_sortOf 27 = .ok (.iload 4, 2) := by decide +kernel
theorem dX7_sortOf_29 : decode cX7_sortOf 29 = .ok (.iastore, 1) := by decide +kernel
theorem dX7_sortOf_30 : decode cX7_sortOf 30 = .ok (.iload_n 3, 1) := by decide +kernel
theorem dX7_sortOf_31 : decode cX7_sortOf 31 = .ok (.aload_n 0, 1) := by decide +kernel
theorem dX7_sortOf_32 : decode cX7_sortOf 32 = .ok (.invokevirtual 254, 3) := by decide +kernel
theorem dX7_sortOf_35 : decode cX7_sortOf 35 = .ok (.ifCond .eq 10, 3) := by decide +kernel
theorem dX7_sortOf_38 : decode cX7_sortOf 38 = .ok (.iconst 1, 1) := by decide +kernel
theorem dX7_sortOf_39 : decode cX7_sortOf 39 = .ok (.iload 4, 2) := by decide +kernel
theorem dX7_sortOf_41 : decode cX7_sortOf 41 = .ok (.ishl, 1) := by decide +kernel
theorem dX7_sortOf_42 : decode cX7_sortOf 42 = .ok (.goto 4, 3) := by decide +kernel
theorem dX7_sortOf_45 : decode cX7_sortOf 45 = .ok (.iconst 0, 1) := by decide +kernel
theorem dX7_sortOf_46 : decode cX7_sortOf 46 = .ok (.ior, 1) := by decide +kernel
theorem dX7_sortOf_47 : decode cX7_sortOf 47 = .ok (.istore_n 3, 1) := by decide +kernel
theorem dX7_sortOf_48 : decode cX7_sortOf 48 = .ok (.iinc 4 1, 3) := by decide +kernel
theorem dX7_sortOf_51 : decode cX7_sortOf 51 = .ok (.goto (-37), 3) := by decide +kernel
theorem dX7_sortOf_54 : decode cX7_sortOf 54 = .ok (.aload_n 0, 1) := by decide +kernel
theorem dX7_sortOf_55 : decode cX7_sortOf 55 = .ok (.getfield 28, 3) := by decide +kernel
theorem dX7_sortOf_58 : decode cX7_sortOf 58 = .ok (.iconst 2, 1) := by decide +kernel
theorem dX7_sortOf_59 : decode cX7_sortOf 59 = .ok (.iload_n 1, 1) := by decide +kernel
theorem dX7_sortOf_60 : decode cX7_sortOf 60 = .ok (.imul, 1) := by decide +kernel
theorem dX7_sortOf_61 : decode cX7_sortOf 61 = .ok (.iload_n 2, 1) := by decide +kernel
theorem dX7_sortOf_62 : decode cX7_sortOf 62 = .ok (.iastore, 1) := by decide +kernel
theorem dX7_sortOf_63 : decode cX7_sortOf 63 = .ok (.iload_n 3, 1) := by decide +kernel
theorem dX7_sortOf_64 : decode cX7_sortOf 64 = .ok (.ireturn, 1) := by decide +kernel
theorem dX7_wasOf_0 : decode cX7_wasOf 0 = .ok (.iload_n 2, 1) := by decide +kernel
theorem dX7_wasOf_1 : decode cX7_wasOf 1 = .ok (.ifCond .ne 11, 3) := by decide +kernel
theorem dX7_wasOf_4 : decode cX7_wasOf 4 = .ok (.aload_n 0, 1) := by decide +kernel
theorem dX7_wasOf_5 : decode cX7_wasOf 5 = .ok (.iload_n 1, 1) := by decide +kernel
theorem dX7_wasOf_6 : decode cX7_wasOf 6 = .ok (.invokevirtual 261, 3) := by decide +kernel
theorem dX7_wasOf_9 : decode cX7_wasOf 9 = .ok (.goto 8, 3) := by decide +kernel
theorem dX7_wasOf_12 : decode cX7_wasOf 12 = .ok (.aload_n 0, 1) := by decide +kernel
theorem dX7_wasOf_13 : decode cX7_wasOf 13 = .ok (.iload_n 1, 1) := by decide +kernel
theorem dX7_wasOf_14 : decode cX7_wasOf 14 = .ok (.invokevirtual 264, 3) := by decide +kernel
theorem dX7_wasOf_17 : decode cX7_wasOf 17 = .ok (.ireturn, 1) := by decide +kernel
theorem dX7_was_0 : decode cX7_was 0 = .ok (.aload_n 0, 1) := by decide +kernel
theorem dX7_was_1 : decode cX7_was 1 = .ok (.invokevirtual 204, 3) := by decide +kernel
theorem dX7_was_4 : decode cX7_was 4 = .ok (.aload_n 0, 1) := by decide +kernel
theorem dX7_was_5 : decode cX7_was 5 = .ok (.iload_n 1, 1) := by decide +kernel
theorem dX7_was_6 : decode cX7_was 6 = .ok (.invokevirtual 142, 3) := by decide +kernel
theorem dX7_was_9 : decode cX7_was 9 = .ok (.ifCond .eq 19, 3) := by decide +kernel
theorem dX7_was_12 : decode cX7_was 12 = .ok (.iload_n 2, 1) := by decide +kernel
theorem dX7_was_13 : decode cX7_was 13 = .ok (.invokestatic 104, 3) := by decide +kernel
theorem dX7_was_16 : decode cX7_was 16 = .ok (.ifCond .eq 12, 3) := by decide +kernel
theorem dX7_was_19 : decode cX7_was 19 = .ok (.aload_n 0, 1) := by decide +kernel
theorem dX7_was_20 : decode cX7_was 20 = .ok (.iload_n 1, 1) := by decide +kernel
theorem dX7_was_21 : decode cX7_was 21 = .ok (.iload_n 2, 1) := by decide +kernel
theorem dX7_was_22 : decode cX7_was 22 = .ok (.invokevirtual 267, 3) := by decide +kernel
theorem dX7_was_25 : decode cX7_was 25 = .ok (.goto 5, 3) := by decide +kernel
theorem dX7_was_28 : decode cX7_was 28 = .ok (.bipush (-2), 2) := by decide +kernel
theorem dX7_was_30 : decode cX7_was 30 = .ok (.ireturn, 1) := by decide +kernel
theorem dX7_alike_0 : decode cX7_alike 0 = .ok (.iconst 0, 1) := by decide +kernel
theorem dX7_alike_1 : decode cX7_alike 1 = .ok (.istore_n 3, 1) := by decide +kernel
theorem dX7_alike_2 : decode cX7_alike 2 = .ok (.iconst 0, 1) := by decide +kernel
theorem dX7_alike_3 : decode cX7_alike 3 = .ok (.istore 4, 2) := by decide +kernel
theorem dX7_alike_5 : decode cX7_alike 5 = .ok (.iload 4, 2) := by decide +kernel
theorem dX7_alike_7 : decode cX7_alike 7 = .ok (.iconst 4, 1) := by decide +kernel
theorem dX7_alike_8 : decode cX7_alike 8 = .ok (.if_icmp .ge 89, 3) := by decide +kernel
theorem dX7_alike_11 : decode cX7_alike 11 = .ok (.iconst 0, 1) := by decide +kernel
theorem dX7_alike_12 : decode cX7_alike 12 = .ok (.istore 5, 2) := by decide +kernel
theorem dX7_alike_14 : decode cX7_alike 14 = .ok (.iconst 0, 1) := by decide +kernel
theorem dX7_alike_15 : decode cX7_alike 15 = .ok (.istore 6, 2) := by decide +kernel
theorem dX7_alike_17 : decode cX7_alike 17 = .ok (.iload 6, 2) := by decide +kernel
theorem dX7_alike_19 : decode cX7_alike 19 = .ok (.iconst 4, 1) := by decide +kernel
theorem dX7_alike_20 : decode cX7_alike 20 = .ok (.if_icmp .ge 64, 3) := by decide +kernel
theorem dX7_alike_23 : decode cX7_alike 23 = .ok (.iload 5, 2) := by decide +kernel
theorem dX7_alike_25 : decode cX7_alike 25 = .ok (.iload_n 1, 1) := by decide +kernel
theorem dX7_alike_26 : decode cX7_alike 26 = .ok (.iload 4, 2) := by decide +kernel
theorem dX7_alike_28 : decode cX7_alike 28 = .ok (.invokestatic 163, 3) := by decide +kernel
theorem dX7_alike_31 : decode cX7_alike 31 = .ok (.ifCond .eq 43, 3) := by decide +kernel
theorem dX7_alike_34 : decode cX7_alike 34 = .ok (.iload_n 1, 1) := by decide +kernel
theorem dX7_alike_35 : decode cX7_alike 35 = .ok (.iload 6, 2) := by decide +kernel
theorem dX7_alike_37 : decode cX7_alike 37 = .ok (.invokestatic 163, 3) := by decide +kernel
theorem dX7_alike_40 : decode cX7_alike 40 = .ok (.ifCond .eq 34, 3) := by decide +kernel
theorem dX7_alike_43 : decode cX7_alike 43 = .ok (.aload_n 0, 1) := by decide +kernel
theorem dX7_alike_44 : decode cX7_alike 44 = .ok (.getfield 64, 3) := by decide +kernel
theorem dX7_alike_47 : decode cX7_alike 47 = .ok (.bipush 16, 2) := by decide +kernel
theorem dX7_alike_49 : decode cX7_alike 49 = .ok (.iload 4, 2) := by decide +kernel
theorem dX7_alike_51 : decode cX7_alike 51 = .ok (.imul, 1) := by decide +kernel
theorem dX7_alike_52 : decode cX7_alike 52 = .ok (.iload_n 2, 1) := by decide +kernel
theorem dX7_alike_53 : decode cX7_alike 53 = .ok (.iadd, 1) := by decide +kernel
theorem dX7_alike_54 : decode cX7_alike 54 = .ok (.iaload, 1) := by decide +kernel
theorem dX7_alike_55 : decode cX7_alike 55 = .ok (.aload_n 0, 1) := by decide +kernel
theorem dX7_alike_56 : decode cX7_alike 56 = .ok (.getfield 64, 3) := by decide +kernel
theorem dX7_alike_59 : decode cX7_alike 59 = .ok (.bipush 16, 2) := by decide +kernel
theorem dX7_alike_61 : decode cX7_alike 61 = .ok (.iload 6, 2) := by decide +kernel
theorem dX7_alike_63 : decode cX7_alike 63 = .ok (.imul, 1) := by decide +kernel
theorem dX7_alike_64 : decode cX7_alike 64 = .ok (.iload_n 2, 1) := by decide +kernel
theorem dX7_alike_65 : decode cX7_alike 65 = .ok (.iadd, 1) := by decide +kernel
theorem dX7_alike_66 : decode cX7_alike 66 = .ok (.iaload, 1) := by decide +kernel
theorem dX7_alike_67 : decode cX7_alike 67 = .ok (.if_icmp .ne 7, 3) := by decide +kernel
theorem dX7_alike_70 : decode cX7_alike 70 = .ok (.iconst 1, 1) := by decide +kernel
theorem dX7_alike_71 : decode cX7_alike 71 = .ok (.goto 4, 3) := by decide +kernel
theorem dX7_alike_74 : decode cX7_alike 74 = .ok (.iconst 0, 1) := by decide +kernel
theorem dX7_alike_75 : decode cX7_alike 75 = .ok (.iadd, 1) := by decide +kernel
theorem dX7_alike_76 : decode cX7_alike 76 = .ok (.istore 5, 2) := by decide +kernel
theorem dX7_alike_78 : decode cX7_alike 78 = .ok (.iinc 6 1, 3) := by decide +kernel
theorem dX7_alike_81 : decode cX7_alike 81 = .ok (.goto (-64), 3) := by decide +kernel
theorem dX7_alike_84 : decode cX7_alike 84 = .ok (.iload 5, 2) := by decide +kernel
theorem dX7_alike_86 : decode cX7_alike 86 = .ok (.iload_n 3, 1) := by decide +kernel
theorem dX7_alike_87 : decode cX7_alike 87 = .ok (.invokestatic 228, 3) := by decide +kernel
theorem dX7_alike_90 : decode cX7_alike 90 = .ok (.istore_n 3, 1) := by decide +kernel
theorem dX7_alike_91 : decode cX7_alike 91 = .ok (.iinc 4 1, 3) := by decide +kernel
theorem dX7_alike_94 : decode cX7_alike 94 = .ok (.goto (-89), 3) := by decide +kernel
theorem dX7_alike_97 : decode cX7_alike 97 = .ok (.iload_n 3, 1) := by decide +kernel
theorem dX7_alike_98 : decode cX7_alike 98 = .ok (.ireturn, 1) := by decide +kernel
theorem dX7_askOf_0 : decode cX7_askOf 0 = .ok (.aload_n 0, 1) := by decide +kernel
theorem dX7_askOf_1 : decode cX7_askOf 1 = .ok (.iload_n 1, 1) := by decide +kernel
theorem dX7_askOf_2 : decode cX7_askOf 2 = .ok (.invokevirtual 261, 3) := by decide +kernel
theorem dX7_askOf_5 : decode cX7_askOf 5 = .ok (.istore_n 2, 1) := by decide +kernel
theorem dX7_askOf_6 : decode cX7_askOf 6 = .ok (.aload_n 0, 1) := by decide +kernel
theorem dX7_askOf_7 : decode cX7_askOf 7 = .ok (.getfield 124, 3) := by decide +kernel
theorem dX7_askOf_10 : decode cX7_askOf 10 = .ok (.ifCond .le 7, 3) := by decide +kernel
theorem dX7_askOf_13 : decode cX7_askOf 13 = .ok (.iconst 0, 1) := by decide +kernel
theorem dX7_askOf_14 : decode cX7_askOf 14 = .ok (.goto 4, 3) := by decide +kernel
theorem dX7_askOf_17 : decode cX7_askOf 17 = .ok (.iconst (-1), 1) := by decide +kernel
theorem dX7_askOf_18 : decode cX7_askOf 18 = .ok (.istore_n 3, 1) := by decide +kernel
theorem dX7_askOf_19 : decode cX7_askOf 19 = .ok (.iconst 1, 1) := by decide +kernel
theorem dX7_askOf_20 : decode cX7_askOf 20 = .ok (.istore 4, 2) := by decide +kernel
theorem dX7_askOf_22 : decode cX7_askOf 22 = .ok (.iload 4, 2) := by decide +kernel
theorem dX7_askOf_24 : decode cX7_askOf 24 = .ok (.aload_n 0, 1) := by decide +kernel
theorem dX7_askOf_25 : decode cX7_askOf 25 = .ok (.getfield 124, 3) := by decide +kernel
theorem dX7_askOf_28 : decode cX7_askOf 28 = .ok (.if_icmp .ge 32, 3) := by decide +kernel
theorem dX7_askOf_31 : decode cX7_askOf 31 = .ok (.aload_n 0, 1) := by decide +kernel
theorem dX7_askOf_32 : decode cX7_askOf 32 = .ok (.iload_n 2, 1) := by decide +kernel
theorem dX7_askOf_33 : decode cX7_askOf 33 = .ok (.iload 4, 2) := by decide +kernel
theorem dX7_askOf_35 : decode cX7_askOf 35 = .ok (.invokevirtual 270, 3) := by decide +kernel
theorem dX7_askOf_38 : decode cX7_askOf 38 = .ok (.aload_n 0, 1) := by decide +kernel
theorem dX7_askOf_39 : decode cX7_askOf 39 = .ok (.iload_n 2, 1) := by decide +kernel
theorem dX7_askOf_40 : decode cX7_askOf 40 = .ok (.iload_n 3, 1) := by decide +kernel
theorem dX7_askOf_41 : decode cX7_askOf 41 = .ok (.invokevirtual 270, 3) := by decide +kernel
theorem dX7_askOf_44 : decode cX7_askOf 44 = .ok (.if_icmp .ge 8, 3) := by decide +kernel
theorem dX7_askOf_47 : decode cX7_askOf 47 = .ok (.iload 4, 2) := by decide +kernel
theorem dX7_askOf_49 : decode cX7_askOf 49 = .ok (.goto 4, 3) := by decide +kernel
theorem dX7_askOf_52 : decode cX7_askOf 52 = .ok (.iload_n 3, 1) := by decide +kernel
theorem dX7_askOf_53 : decode cX7_askOf 53 = .ok (.istore_n 3, 1) := by decide +kernel
theorem dX7_askOf_54 : decode cX7_askOf 54 = .ok (.iinc 4 1, 3) := by decide +kernel
theorem dX7_askOf_57 : decode cX7_askOf 57 = .ok (.goto (-35), 3) := by decide +kernel
theorem dX7_askOf_60 : decode cX7_askOf 60 = .ok (.iload_n 3, 1) := by decide +kernel
theorem dX7_askOf_61 : decode cX7_askOf 61 = .ok (.ireturn, 1) := by decide +kernel
theorem dX7_ask_0 : decode cX7_ask 0 = .ok (.aload_n 0, 1) := by decide +kernel
theorem dX7_ask_1 : decode cX7_ask 1 = .ok (.invokevirtual 204, 3) := by decide +kernel
theorem dX7_ask_4 : decode cX7_ask 4 = .ok (.aload_n 0, 1) := by decide +kernel
theorem dX7_ask_5 : decode cX7_ask 5 = .ok (.iload_n 1, 1) := by decide +kernel
theorem dX7_ask_6 : decode cX7_ask 6 = .ok (.invokevirtual 142, 3) := by decide +kernel
theorem dX7_ask_9 : decode cX7_ask 9 = .ok (.ifCond .eq 11, 3) := by decide +kernel
theorem dX7_ask_12 : decode cX7_ask 12 = .ok (.aload_n 0, 1) := by decide +kernel
theorem dX7_ask_13 : decode cX7_ask 13 = .ok (.iload_n 1, 1) := by decide +kernel
theorem dX7_ask_14 : decode cX7_ask 14 = .ok (.invokevirtual 273, 3) := by decide +kernel
theorem dX7_ask_17 : decode cX7_ask 17 = .ok (.goto 5, 3) := by decide +kernel
theorem dX7_ask_20 : decode cX7_ask 20 = .ok (.bipush (-2), 2) := by decide +kernel
theorem dX7_ask_22 : decode cX7_ask 22 = .ok (.ireturn, 1) := by decide +kernel
theorem dX7_chanceOf_0 : decode cX7_chanceOf 0 = .ok (.lconst 0, 1) := by decide +kernel
theorem dX7_chanceOf_1 : decode cX7_chanceOf 1 = .ok (.lstore 4, 2) := by decide +kernel
theorem dX7_chanceOf_3 : decode cX7_chanceOf 3 = .ok (.iconst 0, 1) := by decide +kernel
theorem dX7_chanceOf_4 : decode cX7_chanceOf 4 = .ok (.istore 6, 2) := by decide +kernel
theorem dX7_chanceOf_6 : decode cX7_chanceOf 6 = .ok (.iload 6, 2) := by decide +kernel
theorem dX7_chanceOf_8 : decode cX7_chanceOf 8 = .ok (.iconst 1, 1) := by decide +kernel
theorem dX7_chanceOf_9 : decode cX7_chanceOf 9 = .ok (.aload_n 0, 1) := by decide +kernel
theorem dX7_chanceOf_10 : decode cX7_chanceOf 10 = .ok (.getfield 155, 3) := by decide +kernel
theorem dX7_chanceOf_13 : decode cX7_chanceOf 13 = .ok (.ishl, 1) := by decide +kernel
theorem dX7_chanceOf_14 : decode cX7_chanceOf 14 = .ok (.if_icmp .ge 85, 3) := by decide +kernel
theorem dX7_chanceOf_17 : decode cX7_chanceOf 17 = .ok (.aload_n 0, 1) := by decide +kernel
theorem dX7_chanceOf_18 : decode cX7_chanceOf 18 = .ok (.iload 6, 2) := by decide +kernel
theorem dX7_chanceOf_20 : decode cX7_chanceOf 20 = .ok (.putfield 160, 3) := by decide +kernel
theorem dX7_chanceOf_23 : decode cX7_chanceOf 23 = .ok (.aload_n 0, 1) := by decide +kernel
theorem dX7_chanceOf_24 : decode cX7_chanceOf 24 = .ok (.invokevirtual 201, 3) := by decide +kernel
theorem dX7_chanceOf_27 : decode cX7_chanceOf 27 = .ok (.aload_n 0, 1) := by decide +kernel
theorem dX7_chanceOf_28 : decode cX7_chanceOf 28 = .ok (.getfield 46, 3) := by decide +kernel
theorem dX7_chanceOf_31 : decode cX7_chanceOf 31 = .ok (.iload_n 2, 1) := by decide +kernel
theorem dX7_chanceOf_32 : decode cX7_chanceOf 32 = .ok (.iaload, 1) := by decide +kernel
theorem dX7_chanceOf_33 : decode cX7_chanceOf 33 = .ok (.ifCond .le 7, 3) := by decide +kernel
theorem dX7_chanceOf_36 : decode cX7_chanceOf 36 = .ok (.lconst 1, 1) := by decide +kernel
theorem dX7_chanceOf_37 : decode cX7_chanceOf 37 = .ok (.goto 4, 3) := by decide +kernel
theorem dX7_chanceOf_40 : decode cX7_chanceOf 40 = .ok (.lconst 0, 1) := by decide +kernel
theorem dX7_chanceOf_41 : decode cX7_chanceOf 41 = .ok (.lstore 7, 2) := by decide +kernel
theorem dX7_chanceOf_43 : decode cX7_chanceOf 43 = .ok (.iconst 0, 1) := by decide +kernel
theorem dX7_chanceOf_44 : decode cX7_chanceOf 44 = .ok (.istore 9, 2) := by decide +kernel
theorem dX7_chanceOf_46 : decode cX7_chanceOf 46 = .ok (.iload 9, 2) := by decide +kernel
theorem dX7_chanceOf_48 : decode cX7_chanceOf 48 = .ok (.aload_n 0, 1) := by decide +kernel
theorem dX7_chanceOf_49 : decode cX7_chanceOf 49 = .ok (.getfield 155, 3) := by decide +kernel
theorem dX7_chanceOf_52 : decode cX7_chanceOf 52 = .ok (.if_icmp .ge 34, 3) := by decide +kernel
theorem dX7_chanceOf_55 : decode cX7_chanceOf 55 = .ok (.lload 7, 2) := by decide +kernel
theorem dX7_chanceOf_57 : decode cX7_chanceOf 57 = .ok (.iload 6, 2) := by decide +kernel
theorem dX7_chanceOf_59 : decode cX7_chanceOf 59 = .ok (.iload 9, 2) := by decide +kernel
theorem dX7_chanceOf_61 : decode cX7_chanceOf 61 = .ok (.invokestatic 163, 3) := by decide +kernel
theorem dX7_chanceOf_64 : decode cX7_chanceOf 64 = .ok (.ifCond .eq 11, 3) := by decide +kernel
theorem dX7_chanceOf_67 : decode cX7_chanceOf 67 = .ok (.bipush 16, 2) := by decide +kernel
theorem dX7_chanceOf_69 : decode cX7_chanceOf 69 = .ok (.iload_n 1, 1) := by decide +kernel
theorem dX7_chanceOf_70 : decode cX7_chanceOf 70 = .ok (.isub, 1) := by decide +kernel
theorem dX7_chanceOf_71 : decode cX7_chanceOf 71 = .ok (.i2l, 1) := by decide +kernel
theorem dX7_chanceOf_72 : decode cX7_chanceOf 72 = .ok (.goto 5, 3) := by decide +kernel
theorem dX7_chanceOf_75 : decode cX7_chanceOf 75 = .ok (.iload_n 1, 1) := by decide +kernel
theorem dX7_chanceOf_76 : decode cX7_chanceOf 76 = .ok (.i2l, 1) := by decide +kernel
theorem dX7_chanceOf_77 : decode cX7_chanceOf 77 = .ok (.lmul, 1) := by decide +kernel
theorem dX7_chanceOf_78 : decode cX7_chanceOf 78 = .ok (.lstore 7, 2) := by decide +kernel
theorem dX7_chanceOf_80 : decode cX7_chanceOf 80 = .ok (.iinc 9 1, 3) := by decide +kernel
theorem dX7_chanceOf_83 : decode cX7_chanceOf 83 = .ok (.goto (-37), 3) := by decide +kernel
theorem dX7_chanceOf_86 : decode cX7_chanceOf 86 = .ok (.lload 4, 2) := by decide +kernel
theorem dX7_chanceOf_88 : decode cX7_chanceOf 88 = .ok (.lload 7, 2) := by decide +kernel
theorem dX7_chanceOf_90 : decode cX7_chanceOf 90 = .ok (.ladd, 1) := by decide +kernel
theorem dX7_chanceOf_91 : decode cX7_chanceOf 91 = .ok (.lstore 4, 2) := by decide +kernel
theorem dX7_chanceOf_93 : decode cX7_chanceOf 93 = .ok (.iinc 6 1, 3) := by decide +kernel
theorem dX7_chanceOf_96 : decode cX7_chanceOf 96 = .ok (.goto (-90), 3) := by decide +kernel
theorem dX7_chanceOf_99 : decode cX7_chanceOf 99 = .ok (.aload_n 0, 1) := by decide +kernel
theorem dX7_chanceOf_100 : decode cX7_chanceOf 100 = .ok (.iconst 0, 1) := by decide +kernel
theorem dX7_chanceOf_101 : decode cX7_chanceOf 101 = .ok (.putfield 160, 3) := by decide +kernel
theorem dX7_chanceOf_104 : decode cX7_chanceOf 104 = .ok (.lload 4, 2) := by decide +kernel
theorem dX7_chanceOf_106 : decode cX7_chanceOf 106 = .ok (.lconst 1, 1) := by decide +kernel
theorem dX7_chanceOf_107 : decode cX7_chanceOf 107 = .ok (.iconst 4, 1) := by decide +kernel
theorem dX7_chanceOf_108 : decode cX7_chanceOf 108 = .ok (.aload_n 0, 1) := by decide +kernel
theorem dX7_chanceOf_109 : decode cX7_chanceOf 109 = .ok (.getfield 155, 3) := by decide +kernel
theorem dX7_chanceOf_112 : decode cX7_chanceOf 112 = .ok (.imul, 1) := by decide +kernel
theorem dX7_chanceOf_113 : decode cX7_chanceOf 113 = .ok (.lshl, 1) := by decide +kernel
theorem dX7_chanceOf_114 : decode cX7_chanceOf 114 = .ok (.iload_n 3, 1) := by decide +kernel
theorem dX7_chanceOf_115 : decode cX7_chanceOf 115 = .ok (.invokestatic 276, 3) := by decide +kernel
theorem dX7_chanceOf_118 : decode cX7_chanceOf 118 = .ok (.lreturn, 1) := by decide +kernel
theorem dX7_chance_0 : decode cX7_chance 0 = .ok (.aload_n 0, 1) := by decide +kernel
theorem dX7_chance_1 : decode cX7_chance 1 = .ok (.invokevirtual 204, 3) := by decide +kernel
theorem dX7_chance_4 : decode cX7_chance 4 = .ok (.iload_n 1, 1) := by decide +kernel
theorem dX7_chance_5 : decode cX7_chance 5 = .ok (.i2l, 1) := by decide +kernel
theorem dX7_chance_6 : decode cX7_chance 6 = .ok (.lconst 0, 1) := by decide +kernel
theorem dX7_chance_7 : decode cX7_chance 7 = .ok (.ldc2_w 280, 3) := by decide +kernel
theorem dX7_chance_10 : decode cX7_chance 10 = .ok (.invokestatic 76, 3) := by decide +kernel
theorem dX7_chance_13 : decode cX7_chance 13 = .ok (.ifCond .eq 28, 3) := by decide +kernel
theorem dX7_chance_16 : decode cX7_chance 16 = .ok (.aload_n 0, 1) := by decide +kernel
theorem dX7_chance_17 : decode cX7_chance 17 = .ok (.iload_n 2, 1) := by decide +kernel
theorem dX7_chance_18 : decode cX7_chance 18 = .ok (.invokevirtual 210, 3) := by decide +kernel
theorem dX7_chance_21 : decode cX7_chance 21 = .ok (.ifCond .eq 20, 3) := by decide +kernel
theorem dX7_chance_24 : decode cX7_chance 24 = .ok (.iload_n 3, 1) := by decide +kernel
theorem dX7_chance_25 : decode cX7_chance 25 = .ok (.invokestatic 104, 3) := by decide +kernel
theorem dX7_chance_28 : decode cX7_chance 28 = .ok (.ifCond .eq 13, 3) := by decide +kernel
theorem dX7_chance_31 : decode cX7_chance 31 = .ok (.aload_n 0, 1) := by decide +kernel
theorem dX7_chance_32 : decode cX7_chance 32 = .ok (.iload_n 1, 1) := by decide +kernel
theorem dX7_chance_33 : decode cX7_chance 33 = .ok (.iload_n 2, 1) := by decide +kernel
theorem dX7_chance_34 : decode cX7_chance 34 = .ok (.iload_n 3, 1) := by decide +kernel
theorem dX7_chance_35 : decode cX7_chance 35 = .ok (.invokevirtual 282, 3) := by decide +kernel
theorem dX7_chance_38 : decode cX7_chance 38 = .ok (.goto 8, 3) := by decide +kernel
theorem dX7_chance_41 : decode cX7_chance 41 = .ok (.bipush (-2), 2) := by decide +kernel
theorem dX7_chance_43 : decode cX7_chance 43 = .ok (.invokestatic 286, 3) := by decide +kernel
theorem dX7_chance_46 : decode cX7_chance 46 = .ok (.lreturn, 1) := by decide +kernel
theorem dX7_lot_0 : decode cX7_lot 0 = .ok (.aload_n 0, 1) := by decide +kernel
theorem dX7_lot_1 : decode cX7_lot 1 = .ok (.ldc_w 290, 3) := by decide +kernel
theorem dX7_lot_4 : decode cX7_lot 4 = .ok (.aload_n 0, 1) := by decide +kernel
theorem dX7_lot_5 : decode cX7_lot 5 = .ok (.getfield 291, 3) := by decide +kernel
theorem dX7_lot_8 : decode cX7_lot 8 = .ok (.imul, 1) := by decide +kernel
theorem dX7_lot_9 : decode cX7_lot 9 = .ok (.sipush 12345, 3) := by decide +kernel
theorem dX7_lot_12 : decode cX7_lot 12 = .ok (.iadd, 1) := by decide +kernel
theorem dX7_lot_13 : decode cX7_lot 13 = .ok (.putfield 291, 3) := by decide +kernel
theorem dX7_lot_16 : decode cX7_lot 16 = .ok (.aload_n 0, 1) := by decide +kernel
theorem dX7_lot_17 : decode cX7_lot 17 = .ok (.getfield 291, 3) := by decide +kernel
theorem dX7_lot_20 : decode cX7_lot 20 = .ok (.bipush 16, 2) := by decide +kernel
theorem dX7_lot_22 : decode cX7_lot 22 = .ok (.iushr, 1) := by decide +kernel
theorem dX7_lot_23 : decode cX7_lot 23 = .ok (.iload_n 1, 1) := by decide +kernel
theorem dX7_lot_24 : decode cX7_lot 24 = .ok (.irem, 1) := by decide +kernel
theorem dX7_lot_25 : decode cX7_lot 25 = .ok (.ireturn, 1) := by decide +kernel
theorem dX7_yearsOf_0 : decode cX7_yearsOf 0 = .ok (.aload_n 0, 1) := by decide +kernel
theorem dX7_yearsOf_1 : decode cX7_yearsOf 1 = .ok (.iload_n 1, 1) := by decide +kernel
theorem dX7_yearsOf_2 : decode cX7_yearsOf 2 = .ok (.putfield 291, 3) := by decide +kernel
theorem dX7_yearsOf_5 : decode cX7_yearsOf 5 = .ok (.aload_n 0, 1) := by decide +kernel
theorem dX7_yearsOf_6 : decode cX7_yearsOf 6 = .ok (.iconst 0, 1) := by decide +kernel
theorem dX7_yearsOf_7 : decode cX7_yearsOf 7 = .ok (.putfield 124, 3) := by decide +kernel
theorem dX7_yearsOf_10 : decode cX7_yearsOf 10 = .ok (.iconst 0, 1) := by decide +kernel
theorem dX7_yearsOf_11 : decode cX7_yearsOf 11 = .ok (.istore 4, 2) := by decide +kernel
theorem dX7_yearsOf_13 : decode cX7_yearsOf 13 = .ok (.iload 4, 2) := by decide +kernel
theorem dX7_yearsOf_15 : decode cX7_yearsOf 15 = .ok (.iload_n 2, 1) := by decide +kernel
theorem dX7_yearsOf_16 : decode cX7_yearsOf 16 = .ok (.if_icmp .ge 60, 3) := by decide +kernel
theorem dX7_yearsOf_19 : decode cX7_yearsOf 19 = .ok (.aload_n 0, 1) := by decide +kernel
theorem dX7_yearsOf_20 : decode cX7_yearsOf 20 = .ok (.getfield 113, 3) := by decide +kernel
theorem dX7_yearsOf_23 : decode cX7_yearsOf 23 = .ok (.ifCond .le 53, 3) := by decide +kernel
theorem dX7_yearsOf_26 : decode cX7_yearsOf 26 = .ok (.aload_n 0, 1) := by decide +kernel
theorem dX7_yearsOf_27 : decode cX7_yearsOf 27 = .ok (.getfield 31, 3) := by decide +kernel
theorem dX7_yearsOf_30 : decode cX7_yearsOf 30 = .ok (.iconst 2, 1) := by decide +kernel
theorem dX7_yearsOf_31 : decode cX7_yearsOf 31 = .ok (.iload 4, 2) := by decide +kernel
theorem dX7_yearsOf_33 : decode cX7_yearsOf 33 = .ok (.imul, 1) := by decide +kernel
theorem dX7_yearsOf_34 : decode cX7_yearsOf 34 = .ok (.aload_n 0, 1) := by decide +kernel
theorem dX7_yearsOf_35 : decode cX7_yearsOf 35 = .ok (.bipush 24, 2) := by decide +kernel
theorem dX7_yearsOf_37 : decode cX7_yearsOf 37 = .ok (.invokevirtual 294, 3) := by decide +kernel
theorem dX7_yearsOf_40 : decode cX7_yearsOf 40 = .ok (.iastore, 1) := by decide +kernel
theorem dX7_yearsOf_41 : decode cX7_yearsOf 41 = .ok (.aload_n 0, 1) := by decide +kernel
theorem dX7_yearsOf_42 : decode cX7_yearsOf 42 = .ok (.getfield 31, 3) := by decide +kernel
theorem dX7_yearsOf_45 : decode cX7_yearsOf 45 = .ok (.iconst 2, 1) := by decide +kernel
theorem dX7_yearsOf_46 : decode cX7_yearsOf 46 = .ok (.iload 4, 2) := by decide +kernel
theorem dX7_yearsOf_48 : decode cX7_yearsOf 48 = .ok (.imul, 1) := by decide +kernel
theorem dX7_yearsOf_49 : decode cX7_yearsOf 49 = .ok (.iconst 1, 1) := by decide +kernel
theorem dX7_yearsOf_50 : decode cX7_yearsOf 50 = .ok (.iadd, 1) := by decide +kernel
theorem dX7_yearsOf_51 : decode cX7_yearsOf 51 = .ok (.aload_n 0, 1) := by decide +kernel
theorem dX7_yearsOf_52 : decode cX7_yearsOf 52 = .ok (.aload_n 0, 1) := by decide +kernel
theorem dX7_yearsOf_53 : decode cX7_yearsOf 53 = .ok (.getfield 113, 3) := by decide +kernel
theorem dX7_yearsOf_56 : decode cX7_yearsOf 56 = .ok (.invokevirtual 294, 3) := by decide +kernel
theorem dX7_yearsOf_59 : decode cX7_yearsOf 59 = .ok (.iastore, 1) := by decide +kernel
theorem dX7_yearsOf_60 : decode cX7_yearsOf 60 = .ok (.aload_n 0, 1) := by decide +kernel
theorem dX7_yearsOf_61 : decode cX7_yearsOf 61 = .ok (.dup, 1) := by decide +kernel
theorem dX7_yearsOf_62 : decode cX7_yearsOf 62 = .ok (.getfield 124, 3) := by decide +kernel
theorem dX7_yearsOf_65 : decode cX7_yearsOf 65 = .ok (.iconst 1, 1) := by decide +kernel
theorem dX7_yearsOf_66 : decode cX7_yearsOf 66 = .ok (.iadd, 1) := by decide +kernel
theorem dX7_yearsOf_67 : decode cX7_yearsOf 67 = .ok (.putfield 124, 3) := by decide +kernel
theorem dX7_yearsOf_70 : decode cX7_yearsOf 70 = .ok (.iinc 4 1, 3) := by decide +kernel
theorem dX7_yearsOf_73 : decode cX7_yearsOf 73 = .ok (.goto (-60), 3) := by decide +kernel
theorem dX7_yearsOf_76 : decode cX7_yearsOf 76 = .ok (.aload_n 0, 1) := by decide +kernel
theorem dX7_yearsOf_77 : decode cX7_yearsOf 77 = .ok (.invokevirtual 201, 3) := by decide +kernel
theorem dX7_yearsOf_80 : decode cX7_yearsOf 80 = .ok (.aload_n 0, 1) := by decide +kernel
theorem dX7_yearsOf_81 : decode cX7_yearsOf 81 = .ok (.invokevirtual 216, 3) := by decide +kernel
theorem dX7_yearsOf_84 : decode cX7_yearsOf 84 = .ok (.istore 4, 2) := by decide +kernel
theorem dX7_yearsOf_86 : decode cX7_yearsOf 86 = .ok (.aload_n 0, 1) := by decide +kernel
theorem dX7_yearsOf_87 : decode cX7_yearsOf 87 = .ok (.invokevirtual 134, 3) := by decide +kernel
theorem dX7_yearsOf_90 : decode cX7_yearsOf 90 = .ok (.pop, 1) := by decide +kernel
theorem dX7_yearsOf_91 : decode cX7_yearsOf 91 = .ok (.iload_n 3, 1) := by decide +kernel
theorem dX7_yearsOf_92 : decode cX7_yearsOf 92 = .ok (.ifCond .ne 8, 3) := by decide +kernel
theorem dX7_yearsOf_95 : decode cX7_yearsOf 95 = .ok (.iload 4, 2) := by decide +kernel
theorem dX7_yearsOf_97 : decode cX7_yearsOf 97 = .ok (.goto 7, 3) := by decide +kernel
theorem dX7_yearsOf_100 : decode cX7_yearsOf 100 = .ok (.aload_n 0, 1) := by decide +kernel
theorem dX7_yearsOf_101 : decode cX7_yearsOf 101 = .ok (.getfield 173, 3) := by decide +kernel
theorem dX7_yearsOf_104 : decode cX7_yearsOf 104 = .ok (.ireturn, 1) := by decide +kernel
theorem dX7_years_0 : decode cX7_years 0 = .ok (.aload_n 0, 1) := by decide +kernel
theorem dX7_years_1 : decode cX7_years 1 = .ok (.invokevirtual 204, 3) := by decide +kernel
theorem dX7_years_4 : decode cX7_years 4 = .ok (.iload_n 2, 1) := by decide +kernel
theorem dX7_years_5 : decode cX7_years 5 = .ok (.i2l, 1) := by decide +kernel
theorem dX7_years_6 : decode cX7_years 6 = .ok (.lconst 0, 1) := by decide +kernel
theorem dX7_years_7 : decode cX7_years 7 = .ok (.ldc2_w 280, 3) := by decide +kernel
theorem dX7_years_10 : decode cX7_years 10 = .ok (.invokestatic 76, 3) := by decide +kernel
theorem dX7_years_13 : decode cX7_years 13 = .ok (.ifCond .eq 20, 3) := by decide +kernel
theorem dX7_years_16 : decode cX7_years 16 = .ok (.iload_n 3, 1) := by decide +kernel
theorem dX7_years_17 : decode cX7_years 17 = .ok (.invokestatic 104, 3) := by decide +kernel
theorem dX7_years_20 : decode cX7_years 20 = .ok (.ifCond .eq 13, 3) := by decide +kernel
theorem dX7_years_23 : decode cX7_years 23 = .ok (.aload_n 0, 1) := by decide +kernel
theorem dX7_years_24 : decode cX7_years 24 = .ok (.iload_n 1, 1) := by decide +kernel
theorem dX7_years_25 : decode cX7_years 25 = .ok (.iload_n 2, 1) := by decide +kernel
theorem dX7_years_26 : decode cX7_years 26 = .ok (.iload_n 3, 1) := by decide +kernel
theorem dX7_years_27 : decode cX7_years 27 = .ok (.invokevirtual 297, 3) := by decide +kernel
theorem dX7_years_30 : decode cX7_years 30 = .ok (.goto 5, 3) := by decide +kernel
theorem dX7_years_33 : decode cX7_years 33 = .ok (.bipush (-2), 2) := by decide +kernel
theorem dX7_years_35 : decode cX7_years 35 = .ok (.ireturn, 1) := by decide +kernel
theorem dX7_write_0 : decode cX7_write 0 = .ok (.iload_n 1, 1) := by decide +kernel
theorem dX7_write_1 : decode cX7_write 1 = .ok (.invokestatic 85, 3) := by decide +kernel
theorem dX7_write_4 : decode cX7_write 4 = .ok (.ifCond .ne 6, 3) := by decide +kernel
theorem dX7_write_7 : decode cX7_write 7 = .ok (.bipush (-2), 2) := by decide +kernel
theorem dX7_write_9 : decode cX7_write 9 = .ok (.ireturn, 1) := by decide +kernel
theorem dX7_write_10 : decode cX7_write 10 = .ok (.aload_n 0, 1) := by decide +kernel
theorem dX7_write_11 : decode cX7_write 11 = .ok (.getfield 7, 3) := by decide +kernel
theorem dX7_write_14 : decode cX7_write 14 = .ok (.iload_n 1, 1) := by decide +kernel
theorem dX7_write_15 : decode cX7_write 15 = .ok (.iaload, 1) := by decide +kernel
theorem dX7_write_16 : decode cX7_write 16 = .ok (.ifCond .ge 9, 3) := by decide +kernel
theorem dX7_write_19 : decode cX7_write 19 = .ok (.aload_n 0, 1) := by decide +kernel
theorem dX7_write_20 : decode cX7_write 20 = .ok (.iconst 1, 1) := by decide +kernel
theorem dX7_write_21 : decode cX7_write 21 = .ok (.invokevirtual 91, 3) := by decide +kernel
theorem dX7_write_24 : decode cX7_write 24 = .ok (.ireturn, 1) := by decide +kernel
theorem dX7_write_25 : decode cX7_write 25 = .ok (.aload_n 0, 1) := by decide +kernel
theorem dX7_write_26 : decode cX7_write 26 = .ok (.invokevirtual 204, 3) := by decide +kernel
theorem dX7_write_29 : decode cX7_write 29 = .ok (.aload_n 0, 1) := by decide +kernel
theorem dX7_write_30 : decode cX7_write 30 = .ok (.getfield 13, 3) := by decide +kernel
theorem dX7_write_33 : decode cX7_write 33 = .ok (.iload_n 1, 1) := by decide +kernel
theorem dX7_write_34 : decode cX7_write 34 = .ok (.iaload, 1) := by decide +kernel
theorem dX7_write_35 : decode cX7_write 35 = .ok (.bipush 24, 2) := by decide +kernel
theorem dX7_write_37 : decode cX7_write 37 = .ok (.invokestatic 179, 3) := by decide +kernel
theorem dX7_write_40 : decode cX7_write 40 = .ok (.istore_n 2, 1) := by decide +kernel
theorem dX7_write_41 : decode cX7_write 41 = .ok (.iconst 0, 1) := by decide +kernel
theorem dX7_write_42 : decode cX7_write 42 = .ok (.istore_n 3, 1) := by decide +kernel
theorem dX7_write_43 : decode cX7_write 43 = .ok (.iload_n 3, 1) := by decide +kernel
theorem dX7_write_44 : decode cX7_write 44 = .ok (.iload_n 2, 1) := by decide +kernel
theorem dX7_write_45 : decode cX7_write 45 = .ok (.if_icmp .ge 35, 3) := by decide +kernel
theorem dX7_write_48 : decode cX7_write 48 = .ok (.aload_n 0, 1) := by decide +kernel
theorem dX7_write_49 : decode cX7_write 49 = .ok (.getfield 16, 3) := by decide +kernel
theorem dX7_write_52 : decode cX7_write 52 = .ok (.bipush 60, 2) := by decide +kernel
theorem dX7_write_54 : decode cX7_write 54 = .ok (.iload_n 1, 1) := by decide +kernel
theorem dX7_write_55 : decode cX7_write 55 = .ok (.imul, 1) := by decide +kernel
theorem dX7_write_56 : decode cX7_write 56 = .ok (.iload_n 3, 1) := by decide +kernel
theorem dX7_write_57 : decode cX7_write 57 = .ok (.iadd, 1) := by decide +kernel
theorem dX7_write_58 : decode cX7_write 58 = .ok (.aload_n 0, 1) := by decide +kernel
theorem dX7_write_59 : decode cX7_write 59 = .ok (.getfield 7, 3) := by decide +kernel
theorem dX7_write_62 : decode cX7_write 62 = .ok (.iload_n 1, 1) := by decide +kernel
theorem dX7_write_63 : decode cX7_write 63 = .ok (.iaload, 1) := by decide +kernel
theorem dX7_write_64 : decode cX7_write 64 = .ok (.aload_n 0, 1) := by decide +kernel
theorem dX7_write_65 : decode cX7_write 65 = .ok (.getfield 40, 3) := by decide +kernel
theorem dX7_write_68 : decode cX7_write 68 = .ok (.iload_n 3, 1) := by decide +kernel
theorem dX7_write_69 : decode cX7_write 69 = .ok (.iaload, 1) := by decide +kernel
theorem dX7_write_70 : decode cX7_write 70 = .ok (.invokestatic 99, 3) := by decide +kernel
theorem dX7_write_73 : decode cX7_write 73 = .ok (.iastore, 1) := by decide +kernel
theorem dX7_write_74 : decode cX7_write 74 = .ok (.iinc 3 1, 3) := by decide +kernel
theorem dX7_write_77 : decode cX7_write 77 = .ok (.goto (-34), 3) := by decide +kernel
theorem dX7_write_80 : decode cX7_write 80 = .ok (.iload_n 2, 1) := by decide +kernel
theorem dX7_write_81 : decode cX7_write 81 = .ok (.ireturn, 1) := by decide +kernel
theorem dX7_count_0 : decode cX7_count 0 = .ok (.aload_n 0, 1) := by decide +kernel
theorem dX7_count_1 : decode cX7_count 1 = .ok (.invokevirtual 204, 3) := by decide +kernel
theorem dX7_count_4 : decode cX7_count 4 = .ok (.iload_n 1, 1) := by decide +kernel
theorem dX7_count_5 : decode cX7_count 5 = .ok (.tableswitch 95 0 8 #[51, 56, 61, 61, 70, 75, 80, 85, 90], 51) := by decide +kernel
theorem dX7_count_56 : decode cX7_count 56 = .ok (.aload_n 0, 1) := by decide +kernel
theorem dX7_count_57 : decode cX7_count 57 = .ok (.getfield 113, 3) := by decide +kernel
theorem dX7_count_60 : decode cX7_count 60 = .ok (.ireturn, 1) := by decide +kernel
theorem dX7_count_61 : decode cX7_count 61 = .ok (.aload_n 0, 1) := by decide +kernel
theorem dX7_count_62 : decode cX7_count 62 = .ok (.getfield 124, 3) := by decide +kernel
theorem dX7_count_65 : decode cX7_count 65 = .ok (.ireturn, 1) := by decide +kernel
theorem dX7_count_66 : decode cX7_count 66 = .ok (.aload_n 0, 1) := by decide +kernel
theorem dX7_count_67 : decode cX7_count 67 = .ok (.getfield 25, 3) := by decide +kernel
theorem dX7_count_70 : decode cX7_count 70 = .ok (.iload_n 1, 1) := by decide +kernel
theorem dX7_count_71 : decode cX7_count 71 = .ok (.iconst 2, 1) := by decide +kernel
theorem dX7_count_72 : decode cX7_count 72 = .ok (.isub, 1) := by decide +kernel
theorem dX7_count_73 : decode cX7_count 73 = .ok (.iaload, 1) := by decide +kernel
theorem dX7_count_74 : decode cX7_count 74 = .ok (.ireturn, 1) := by decide +kernel
theorem dX7_count_75 : decode cX7_count 75 = .ok (.aload_n 0, 1) := by decide +kernel
theorem dX7_count_76 : decode cX7_count 76 = .ok (.getfield 155, 3) := by decide +kernel
theorem dX7_count_79 : decode cX7_count 79 = .ok (.ireturn, 1) := by decide +kernel
theorem dX7_count_80 : decode cX7_count 80 = .ok (.aload_n 0, 1) := by decide +kernel
theorem dX7_count_81 : decode cX7_count 81 = .ok (.getfield 67, 3) := by decide +kernel
theorem dX7_count_84 : decode cX7_count 84 = .ok (.ireturn, 1) := by decide +kernel
theorem dX7_count_85 : decode cX7_count 85 = .ok (.aload_n 0, 1) := by decide +kernel
theorem dX7_count_86 : decode cX7_count 86 = .ok (.invokevirtual 216, 3) := by decide +kernel
theorem dX7_count_89 : decode cX7_count 89 = .ok (.ireturn, 1) := by decide +kernel
theorem dX7_count_90 : decode cX7_count 90 = .ok (.aload_n 0, 1) := by decide +kernel
theorem dX7_count_91 : decode cX7_count 91 = .ok (.getfield 251, 3) := by decide +kernel
theorem dX7_count_94 : decode cX7_count 94 = .ok (.ireturn, 1) := by decide +kernel
theorem dX7_count_95 : decode cX7_count 95 = .ok (.aload_n 0, 1) := by decide +kernel
theorem dX7_count_96 : decode cX7_count 96 = .ok (.getfield 80, 3) := by decide +kernel
theorem dX7_count_99 : decode cX7_count 99 = .ok (.ireturn, 1) := by decide +kernel
theorem dX7_count_100 : decode cX7_count 100 = .ok (.bipush (-2), 2) := by decide +kernel
theorem dX7_count_102 : decode cX7_count 102 = .ok (.ireturn, 1) := by decide +kernel
theorem dX7_tellsNote_0 : decode cX7_tellsNote 0 = .ok (.aload_n 0, 1) := by decide +kernel
theorem dX7_tellsNote_1 : decode cX7_tellsNote 1 = .ok (.invokevirtual 201, 3) := by decide +kernel
theorem dX7_tellsNote_4 : decode cX7_tellsNote 4 = .ok (.ldc2_w 300, 3) := by decide +kernel
theorem dX7_tellsNote_7 : decode cX7_tellsNote 7 = .ok (.lload_n 1, 1) := by decide +kernel
theorem dX7_tellsNote_8 : decode cX7_tellsNote 8 = .ok (.lmul, 1) := by decide +kernel
theorem dX7_tellsNote_9 : decode cX7_tellsNote 9 = .ok (.aload_n 0, 1) := by decide +kernel
theorem dX7_tellsNote_10 : decode cX7_tellsNote 10 = .ok (.getfield 46, 3) := by decide +kernel
theorem dX7_tellsNote_13 : decode cX7_tellsNote 13 = .ok (.iload_n 3, 1) := by decide +kernel
theorem dX7_tellsNote_14 : decode cX7_tellsNote 14 = .ok (.iaload, 1) := by decide +kernel
theorem dX7_tellsNote_15 : decode cX7_tellsNote 15 = .ok (.i2l, 1) := by decide +kernel
theorem dX7_tellsNote_16 : decode cX7_tellsNote 16 = .ok (.ladd, 1) := by decide +kernel
theorem dX7_tellsNote_17 : decode cX7_tellsNote 17 = .ok (.lstore 4, 2) := by decide +kernel
theorem dX7_tellsNote_19 : decode cX7_tellsNote 19 = .ok (.ldc2_w 300, 3) := by decide +kernel
theorem dX7_tellsNote_22 : decode cX7_tellsNote 22 = .ok (.lload 4, 2) := by decide +kernel
theorem dX7_tellsNote_24 : decode cX7_tellsNote 24 = .ok (.lmul, 1) := by decide +kernel
theorem dX7_tellsNote_25 : decode cX7_tellsNote 25 = .ok (.aload_n 0, 1) := by decide +kernel
theorem dX7_tellsNote_26 : decode cX7_tellsNote 26 = .ok (.iconst 5, 1) := by decide +kernel
theorem dX7_tellsNote_27 : decode cX7_tellsNote 27 = .ok (.iload_n 3, 1) := by decide +kernel
theorem dX7_tellsNote_28 : decode cX7_tellsNote 28 = .ok (.iconst 0, 1) := by decide +kernel
theorem dX7_tellsNote_29 : decode cX7_tellsNote 29 = .ok (.invokevirtual 282, 3) := by decide +kernel
theorem dX7_tellsNote_32 : decode cX7_tellsNote 32 = .ok (.ladd, 1) := by decide +kernel
theorem dX7_tellsNote_33 : decode cX7_tellsNote 33 = .ok (.lstore 4, 2) := by decide +kernel
theorem dX7_tellsNote_35 : decode cX7_tellsNote 35 = .ok (.ldc2_w 300, 3) := by decide +kernel
theorem dX7_tellsNote_38 : decode cX7_tellsNote 38 = .ok (.lload 4, 2) := by decide +kernel
theorem dX7_tellsNote_40 : decode cX7_tellsNote 40 = .ok (.lmul, 1) := by decide +kernel
theorem dX7_tellsNote_41 : decode cX7_tellsNote 41 = .ok (.aload_n 0, 1) := by decide +kernel
theorem dX7_tellsNote_42 : decode cX7_tellsNote 42 = .ok (.iconst 5, 1) := by decide +kernel
theorem dX7_tellsNote_43 : decode cX7_tellsNote 43 = .ok (.iload_n 3, 1) := by decide +kernel
theorem dX7_tellsNote_44 : decode cX7_tellsNote 44 = .ok (.iconst 1, 1) := by decide +kernel
theorem dX7_tellsNote_45 : decode cX7_tellsNote 45 = .ok (.invokevirtual 282, 3) := by decide +kernel
theorem dX7_tellsNote_48 : decode cX7_tellsNote 48 = .ok (.ladd, 1) := by decide +kernel
theorem dX7_tellsNote_49 : decode cX7_tellsNote 49 = .ok (.lreturn, 1) := by decide +kernel
theorem dX7_tellsPlayer_0 : decode cX7_tellsPlayer 0 = .ok (.aload_n 0, 1) := by decide +kernel
theorem dX7_tellsPlayer_1 : decode cX7_tellsPlayer 1 = .ok (.invokevirtual 201, 3) := by decide +kernel
theorem dX7_tellsPlayer_4 : decode cX7_tellsPlayer 4 = .ok (.ldc2_w 300, 3) := by decide +kernel
theorem dX7_tellsPlayer_7 : decode cX7_tellsPlayer 7 = .ok (.lload_n 1, 1) := by decide +kernel
theorem dX7_tellsPlayer_8 : decode cX7_tellsPlayer 8 = .ok (.lmul, 1) := by decide +kernel
theorem dX7_tellsPlayer_9 : decode cX7_tellsPlayer 9 = .ok (.aload_n 0, 1) := by decide +kernel
theorem dX7_tellsPlayer_10 : decode cX7_tellsPlayer 10 = .ok (.getfield 28, 3) := by decide +kernel
theorem dX7_tellsPlayer_13 : decode cX7_tellsPlayer 13 = .ok (.iconst 2, 1) := by decide +kernel
theorem dX7_tellsPlayer_14 : decode cX7_tellsPlayer 14 = .ok (.iload_n 3, 1) := by decide +kernel
theorem dX7_tellsPlayer_15 : decode cX7_tellsPlayer 15 = .ok (.imul, 1) := by decide +kernel
theorem dX7_tellsPlayer_16 : decode cX7_tellsPlayer 16 = .ok (.iaload, 1) := by decide +kernel
theorem dX7_tellsPlayer_17 : decode cX7_tellsPlayer 17 = .ok (.i2l, 1) := by decide +kernel
theorem dX7_tellsPlayer_18 : decode cX7_tellsPlayer 18 = .ok (.ladd, 1) := by decide +kernel
theorem dX7_tellsPlayer_19 : decode cX7_tellsPlayer 19 = .ok (.lstore 4, 2) := by decide +kernel
theorem dX7_tellsPlayer_21 : decode cX7_tellsPlayer 21 = .ok (.ldc2_w 300, 3) := by decide +kernel
theorem dX7_tellsPlayer_24 : decode cX7_tellsPlayer 24 = .ok (.lload 4, 2) := by decide +kernel
theorem dX7_tellsPlayer_26 : decode cX7_tellsPlayer 26 = .ok (.lmul, 1) := by decide +kernel
theorem dX7_tellsPlayer_27 : decode cX7_tellsPlayer 27 = .ok (.aload_n 0, 1) := by decide +kernel
theorem dX7_tellsPlayer_28 : decode cX7_tellsPlayer 28 = .ok (.getfield 28, 3) := by decide +kernel
theorem dX7_tellsPlayer_31 : decode cX7_tellsPlayer 31 = .ok (.iconst 2, 1) := by decide +kernel
theorem dX7_tellsPlayer_32 : decode cX7_tellsPlayer 32 = .ok (.iload_n 3, 1) := by decide +kernel
theorem dX7_tellsPlayer_33 : decode cX7_tellsPlayer 33 = .ok (.imul, 1) := by decide +kernel
theorem dX7_tellsPlayer_34 : decode cX7_tellsPlayer 34 = .ok (.iconst 1, 1) := by decide +kernel
theorem dX7_tellsPlayer_35 : decode cX7_tellsPlayer 35 = .ok (.iadd, 1) := by decide +kernel
theorem dX7_tellsPlayer_36 : decode cX7_tellsPlayer 36 = .ok (.iaload, 1) := by decide +kernel
theorem dX7_tellsPlayer_37 : decode cX7_tellsPlayer 37 = .ok (.i2l, 1) := by decide +kernel
theorem dX7_tellsPlayer_38 : decode cX7_tellsPlayer 38 = .ok (.ladd, 1) := by decide +kernel
theorem dX7_tellsPlayer_39 : decode cX7_tellsPlayer 39 = .ok (.lstore 4, 2) := by decide +kernel
theorem dX7_tellsPlayer_41 : decode cX7_tellsPlayer 41 = .ok (.iconst 0, 1) := by decide +kernel
theorem dX7_tellsPlayer_42 : decode cX7_tellsPlayer 42 = .ok (.istore 6, 2) := by decide +kernel
theorem dX7_tellsPlayer_44 : decode cX7_tellsPlayer 44 = .ok (.iload 6, 2) := by decide +kernel
theorem dX7_tellsPlayer_46 : decode cX7_tellsPlayer 46 = .ok (.iconst 3, 1) := by decide +kernel
theorem dX7_tellsPlayer_47 : decode cX7_tellsPlayer 47 = .ok (.if_icmp .ge 26, 3) := by decide +kernel
theorem dX7_tellsPlayer_50 : decode cX7_tellsPlayer 50 = .ok (.ldc2_w 300, 3) := by decide +kernel
theorem dX7_tellsPlayer_53 : decode cX7_tellsPlayer 53 = .ok (.lload 4, 2) := by decide +kernel
theorem dX7_tellsPlayer_55 : decode cX7_tellsPlayer 55 = .ok (.lmul, 1) := by decide +kernel
theorem dX7_tellsPlayer_56 : decode cX7_tellsPlayer 56 = .ok (.aload_n 0, 1) := by decide +kernel
theorem dX7_tellsPlayer_57 : decode cX7_tellsPlayer 57 = .ok (.iload_n 3, 1) := by decide +kernel
theorem dX7_tellsPlayer_58 : decode cX7_tellsPlayer 58 = .ok (.iload 6, 2) := by decide +kernel
theorem dX7_tellsPlayer_60 : decode cX7_tellsPlayer 60 = .ok (.invokevirtual 213, 3) := by decide +kernel
theorem dX7_tellsPlayer_63 : decode cX7_tellsPlayer 63 = .ok (.i2l, 1) := by decide +kernel
theorem dX7_tellsPlayer_64 : decode cX7_tellsPlayer 64 = .ok (.ladd, 1) := by decide +kernel
theorem dX7_tellsPlayer_65 : decode cX7_tellsPlayer 65 = .ok (.lstore 4, 2) := by decide +kernel
theorem dX7_tellsPlayer_67 : decode cX7_tellsPlayer 67 = .ok (.iinc 6 1, 3) := by decide +kernel
theorem dX7_tellsPlayer_70 : decode cX7_tellsPlayer 70 = .ok (.goto (-26), 3) := by decide +kernel
theorem dX7_tellsPlayer_73 : decode cX7_tellsPlayer 73 = .ok (.ldc2_w 300, 3) := by decide +kernel
theorem dX7_tellsPlayer_76 : decode cX7_tellsPlayer 76 = .ok (.lload 4, 2) := by decide +kernel
theorem dX7_tellsPlayer_78 : decode cX7_tellsPlayer 78 = .ok (.lmul, 1) := by decide +kernel
theorem dX7_tellsPlayer_79 : decode cX7_tellsPlayer 79 = .ok (.aload_n 0, 1) := by decide +kernel
theorem dX7_tellsPlayer_80 : decode cX7_tellsPlayer 80 = .ok (.iload_n 3, 1) := by decide +kernel
theorem dX7_tellsPlayer_81 : decode cX7_tellsPlayer 81 = .ok (.invokevirtual 261, 3) := by decide +kernel
theorem dX7_tellsPlayer_84 : decode cX7_tellsPlayer 84 = .ok (.i2l, 1) := by decide +kernel
theorem dX7_tellsPlayer_85 : decode cX7_tellsPlayer 85 = .ok (.ladd, 1) := by decide +kernel
theorem dX7_tellsPlayer_86 : decode cX7_tellsPlayer 86 = .ok (.lstore 4, 2) := by decide +kernel
theorem dX7_tellsPlayer_88 : decode cX7_tellsPlayer 88 = .ok (.ldc2_w 300, 3) := by decide +kernel
theorem dX7_tellsPlayer_91 : decode cX7_tellsPlayer 91 = .ok (.lload 4, 2) := by decide +kernel
theorem dX7_tellsPlayer_93 : decode cX7_tellsPlayer 93 = .ok (.lmul, 1) := by decide +kernel
theorem dX7_tellsPlayer_94 : decode cX7_tellsPlayer 94 = .ok (.aload_n 0, 1) := by decide +kernel
theorem dX7_tellsPlayer_95 : decode cX7_tellsPlayer 95 = .ok (.iload_n 3, 1) := by decide +kernel
theorem dX7_tellsPlayer_96 : decode cX7_tellsPlayer 96 = .ok (.invokevirtual 264, 3) := by decide +kernel
theorem dX7_tellsPlayer_99 : decode cX7_tellsPlayer 99 = .ok (.i2l, 1) := by decide +kernel
theorem dX7_tellsPlayer_100 : decode cX7_tellsPlayer 100 = .ok (.ladd, 1) := by decide +kernel
theorem dX7_tellsPlayer_101 : decode cX7_tellsPlayer 101 = .ok (.lstore 4, 2) := by decide +kernel
theorem dX7_tellsPlayer_103 : decode cX7_tellsPlayer 103 = .ok (.ldc2_w 300, 3) := by decide +kernel
theorem dX7_tellsPlayer_106 : decode cX7_tellsPlayer 106 = .ok (.lload 4, 2) := by decide +kernel
theorem dX7_tellsPlayer_108 : decode cX7_tellsPlayer 108 = .ok (.lmul, 1) := by decide +kernel
theorem dX7_tellsPlayer_109 : decode cX7_tellsPlayer 109 = .ok (.aload_n 0, 1) := by decide +kernel
theorem dX7_tellsPlayer_110 : decode cX7_tellsPlayer 110 = .ok (.iload_n 3, 1) := by decide +kernel
theorem dX7_tellsPlayer_111 : decode cX7_tellsPlayer 111 = .ok (.invokevirtual 273, 3) := by decide +kernel
theorem dX7_tellsPlayer_114 : decode cX7_tellsPlayer 114 = .ok (.i2l, 1) := by decide +kernel
theorem dX7_tellsPlayer_115 : decode cX7_tellsPlayer 115 = .ok (.ladd, 1) := by decide +kernel
theorem dX7_tellsPlayer_116 : decode cX7_tellsPlayer 116 = .ok (.lreturn, 1) := by decide +kernel
theorem dX7_digest_0 : decode cX7_digest 0 = .ok (.ldc2_w 302, 3) := by decide +kernel
theorem dX7_digest_3 : decode cX7_digest 3 = .ok (.lstore_n 1, 1) := by decide +kernel
theorem dX7_digest_4 : decode cX7_digest 4 = .ok (.iconst 0, 1) := by decide +kernel
theorem dX7_digest_5 : decode cX7_digest 5 = .ok (.istore_n 3, 1) := by decide +kernel
theorem dX7_digest_6 : decode cX7_digest 6 = .ok (.iload_n 3, 1) := by decide +kernel
theorem dX7_digest_7 : decode cX7_digest 7 = .ok (.bipush 8, 2) := by decide +kernel
theorem dX7_digest_9 : decode cX7_digest 9 = .ok (.if_icmp .ge 22, 3) := by decide +kernel
theorem dX7_digest_12 : decode cX7_digest 12 = .ok (.ldc2_w 300, 3) := by decide +kernel
theorem dX7_digest_15 : decode cX7_digest 15 = .ok (.lload_n 1, 1) := by decide +kernel
theorem dX7_digest_16 : decode cX7_digest 16 = .ok (.lmul, 1) := by decide +kernel
theorem dX7_digest_17 : decode cX7_digest 17 = .ok (.aload_n 0, 1) := by decide +kernel
theorem dX7_digest_18 : decode cX7_digest 18 = .ok (.iload_n 3, 1) := by decide +kernel
theorem dX7_digest_19 : decode cX7_digest 19 = .ok (.invokevirtual 304, 3) := by decide +kernel
theorem dX7_digest_22 : decode cX7_digest 22 = .ok (.i2l, 1) := by decide +kernel
theorem dX7_digest_23 : decode cX7_digest 23 = .ok (.ladd, 1) := by decide +kernel
theorem dX7_digest_24 : decode cX7_digest 24 = .ok (.lstore_n 1, 1) := by decide +kernel
theorem dX7_digest_25 : decode cX7_digest 25 = .ok (.iinc 3 1, 3) := by decide +kernel
theorem dX7_digest_28 : decode cX7_digest 28 = .ok (.goto (-22), 3) := by decide +kernel
theorem dX7_digest_31 : decode cX7_digest 31 = .ok (.iconst 0, 1) := by decide +kernel
theorem dX7_digest_32 : decode cX7_digest 32 = .ok (.istore_n 3, 1) := by decide +kernel
theorem dX7_digest_33 : decode cX7_digest 33 = .ok (.iload_n 3, 1) := by decide +kernel
theorem dX7_digest_34 : decode cX7_digest 34 = .ok (.iconst 2, 1) := by decide +kernel
theorem dX7_digest_35 : decode cX7_digest 35 = .ok (.if_icmp .ge 22, 3) := by decide +kernel
theorem dX7_digest_38 : decode cX7_digest 38 = .ok (.ldc2_w 300, 3) := by decide +kernel
theorem dX7_digest_41 : decode cX7_digest 41 = .ok (.lload_n 1, 1) := by decide +kernel
theorem dX7_digest_42 : decode cX7_digest 42 = .ok (.lmul, 1) := by decide +kernel
theorem dX7_digest_43 : decode cX7_digest 43 = .ok (.aload_n 0, 1) := by decide +kernel
theorem dX7_digest_44 : decode cX7_digest 44 = .ok (.iload_n 3, 1) := by decide +kernel
theorem dX7_digest_45 : decode cX7_digest 45 = .ok (.invokevirtual 137, 3) := by decide +kernel
theorem dX7_digest_48 : decode cX7_digest 48 = .ok (.i2l, 1) := by decide +kernel
theorem dX7_digest_49 : decode cX7_digest 49 = .ok (.ladd, 1) := by decide +kernel
theorem dX7_digest_50 : decode cX7_digest 50 = .ok (.lstore_n 1, 1) := by decide +kernel
theorem dX7_digest_51 : decode cX7_digest 51 = .ok (.iinc 3 1, 3) := by decide +kernel
theorem dX7_digest_54 : decode cX7_digest 54 = .ok (.goto (-21), 3) := by decide +kernel
theorem dX7_digest_57 : decode cX7_digest 57 = .ok (.aload_n 0, 1) := by decide +kernel
theorem dX7_digest_58 : decode cX7_digest 58 = .ok (.invokevirtual 201, 3) := by decide +kernel
theorem dX7_digest_61 : decode cX7_digest 61 = .ok (.iconst 0, 1) := by decide +kernel
theorem dX7_digest_62 : decode cX7_digest 62 = .ok (.istore_n 3, 1) := by decide +kernel
theorem dX7_digest_63 : decode cX7_digest 63 = .ok (.iload_n 3, 1) := by decide +kernel
theorem dX7_digest_64 : decode cX7_digest 64 = .ok (.bipush 24, 2) := by decide +kernel
theorem dX7_digest_66 : decode cX7_digest 66 = .ok (.if_icmp .ge 39, 3) := by decide +kernel
theorem dX7_digest_69 : decode cX7_digest 69 = .ok (.iconst 0, 1) := by decide +kernel
theorem dX7_digest_70 : decode cX7_digest 70 = .ok (.istore 4, 2) := by decide +kernel
theorem dX7_digest_72 : decode cX7_digest 72 = .ok (.iload 4, 2) := by decide +kernel
theorem dX7_digest_74 : decode cX7_digest 74 = .ok (.iconst 3, 1) := by decide +kernel
theorem dX7_digest_75 : decode cX7_digest 75 = .ok (.if_icmp .ge 24, 3) := by decide +kernel
theorem dX7_digest_78 : decode cX7_digest 78 = .ok (.ldc2_w 300, 3) := by decide +kernel
theorem dX7_digest_81 : decode cX7_digest 81 = .ok (.lload_n 1, 1) := by decide +kernel
theorem dX7_digest_82 : decode cX7_digest 82 = .ok (.lmul, 1) := by decide +kernel
theorem dX7_digest_83 : decode cX7_digest 83 = .ok (.aload_n 0, 1) := by decide +kernel
theorem dX7_digest_84 : decode cX7_digest 84 = .ok (.iload_n 3, 1) := by decide +kernel
theorem dX7_digest_85 : decode cX7_digest 85 = .ok (.iload 4, 2) := by decide +kernel
theorem dX7_digest_87 : decode cX7_digest 87 = .ok (.invokevirtual 207, 3) := by decide +kernel
theorem dX7_digest_90 : decode cX7_digest 90 = .ok (.i2l, 1) := by decide +kernel
theorem dX7_digest_91 : decode cX7_digest 91 = .ok (.ladd, 1) := by decide +kernel
theorem dX7_digest_92 : decode cX7_digest 92 = .ok (.lstore_n 1, 1) := by decide +kernel
theorem dX7_digest_93 : decode cX7_digest 93 = .ok (.iinc 4 1, 3) := by decide +kernel
theorem dX7_digest_96 : decode cX7_digest 96 = .ok (.goto (-24), 3) := by decide +kernel
theorem dX7_digest_99 : decode cX7_digest 99 = .ok (.iinc 3 1, 3) := by decide +kernel
theorem dX7_digest_102 : decode cX7_digest 102 = .ok (.goto (-39), 3) := by decide +kernel
theorem dX7_digest_105 : decode cX7_digest 105 = .ok (.iconst 0, 1) := by decide +kernel
theorem dX7_digest_106 : decode cX7_digest 106 = .ok (.istore_n 3, 1) := by decide +kernel
theorem dX7_digest_107 : decode cX7_digest 107 = .ok (.iload_n 3, 1) := by decide +kernel
theorem dX7_digest_108 : decode cX7_digest 108 = .ok (.bipush 16, 2) := by decide +kernel
theorem dX7_digest_110 : decode cX7_digest 110 = .ok (.if_icmp .ge 37, 3) := by decide +kernel
theorem dX7_digest_113 : decode cX7_digest 113 = .ok (.ldc2_w 300, 3) := by decide +kernel
theorem dX7_digest_116 : decode cX7_digest 116 = .ok (.lload_n 1, 1) := by decide +kernel
theorem dX7_digest_117 : decode cX7_digest 117 = .ok (.lmul, 1) := by decide +kernel
theorem dX7_digest_118 : decode cX7_digest 118 = .ok (.aload_n 0, 1) := by decide +kernel
theorem dX7_digest_119 : decode cX7_digest 119 = .ok (.iload_n 3, 1) := by decide +kernel
theorem dX7_digest_120 : decode cX7_digest 120 = .ok (.iconst 0, 1) := by decide +kernel
theorem dX7_digest_121 : decode cX7_digest 121 = .ok (.invokevirtual 147, 3) := by decide +kernel
theorem dX7_digest_124 : decode cX7_digest 124 = .ok (.i2l, 1) := by decide +kernel
theorem dX7_digest_125 : decode cX7_digest 125 = .ok (.ladd, 1) := by decide +kernel
theorem dX7_digest_126 : decode cX7_digest 126 = .ok (.lstore_n 1, 1) := by decide +kernel
theorem dX7_digest_127 : decode cX7_digest 127 = .ok (.ldc2_w 300, 3) := by decide +kernel
theorem dX7_digest_130 : decode cX7_digest 130 = .ok (.lload_n 1, 1) := by decide +kernel
theorem dX7_digest_131 : decode cX7_digest 131 = .ok (.lmul, 1) := by decide +kernel
theorem dX7_digest_132 : decode cX7_digest 132 = .ok (.aload_n 0, 1) := by decide +kernel
theorem dX7_digest_133 : decode cX7_digest 133 = .ok (.iload_n 3, 1) := by decide +kernel
theorem dX7_digest_134 : decode cX7_digest 134 = .ok (.iconst 1, 1) := by decide +kernel
theorem dX7_digest_135 : decode cX7_digest 135 = .ok (.invokevirtual 147, 3) := by decide +kernel
theorem dX7_digest_138 : decode cX7_digest 138 = .ok (.i2l, 1) := by decide +kernel
theorem dX7_digest_139 : decode cX7_digest 139 = .ok (.ladd, 1) := by decide +kernel
theorem dX7_digest_140 : decode cX7_digest 140 = .ok (.lstore_n 1, 1) := by decide +kernel
theorem dX7_digest_141 : decode cX7_digest 141 = .ok (.iinc 3 1, 3) := by decide +kernel
theorem dX7_digest_144 : decode cX7_digest 144 = .ok (.goto (-37), 3) := by decide +kernel
theorem dX7_digest_147 : decode cX7_digest 147 = .ok (.iconst 0, 1) := by decide +kernel
theorem dX7_digest_148 : decode cX7_digest 148 = .ok (.istore_n 3, 1) := by decide +kernel
theorem dX7_digest_149 : decode cX7_digest 149 = .ok (.iload_n 3, 1) := by decide +kernel
theorem dX7_digest_150 : decode cX7_digest 150 = .ok (.aload_n 0, 1) := by decide +kernel
theorem dX7_digest_151 : decode cX7_digest 151 = .ok (.getfield 124, 3) := by decide +kernel
theorem dX7_digest_154 : decode cX7_digest 154 = .ok (.if_icmp .ge 16, 3) := by decide +kernel
theorem dX7_digest_157 : decode cX7_digest 157 = .ok (.aload_n 0, 1) := by decide +kernel
theorem dX7_digest_158 : decode cX7_digest 158 = .ok (.lload_n 1, 1) := by decide +kernel
theorem dX7_digest_159 : decode cX7_digest 159 = .ok (.iload_n 3, 1) := by decide +kernel
theorem dX7_digest_160 : decode cX7_digest 160 = .ok (.invokevirtual 307, 3) := by decide +kernel
theorem dX7_digest_163 : decode cX7_digest 163 = .ok (.lstore_n 1, 1) := by decide +kernel
theorem dX7_digest_164 : decode cX7_digest 164 = .ok (.iinc 3 1, 3) := by decide +kernel
theorem dX7_digest_167 : decode cX7_digest 167 = .ok (.goto (-18), 3) := by decide +kernel
theorem dX7_digest_170 : decode cX7_digest 170 = .ok (.iconst 0, 1) := by decide +kernel
theorem dX7_digest_171 : decode cX7_digest 171 = .ok (.istore_n 3, 1) := by decide +kernel
theorem dX7_digest_172 : decode cX7_digest 172 = .ok (.iload_n 3, 1) := by decide +kernel
theorem dX7_digest_173 : decode cX7_digest 173 = .ok (.aload_n 0, 1) := by decide +kernel
theorem dX7_digest_174 : decode cX7_digest 174 = .ok (.getfield 113, 3) := by decide +kernel
theorem dX7_digest_177 : decode cX7_digest 177 = .ok (.if_icmp .ge 16, 3) := by decide +kernel
theorem dX7_digest_180 : decode cX7_digest 180 = .ok (.aload_n 0, 1) := by decide +kernel
theorem dX7_digest_181 : decode cX7_digest 181 = .ok (.lload_n 1, 1) := by decide +kernel
theorem dX7_digest_182 : decode cX7_digest 182 = .ok (.iload_n 3, 1) := by decide +kernel
theorem dX7_digest_183 : decode cX7_digest 183 = .ok (.invokevirtual 311, 3) := by decide +kernel
theorem dX7_digest_186 : decode cX7_digest 186 = .ok (.lstore_n 1, 1) := by decide +kernel
theorem dX7_digest_187 : decode cX7_digest 187 = .ok (.iinc 3 1, 3) := by decide +kernel
theorem dX7_digest_190 : decode cX7_digest 190 = .ok (.goto (-18), 3) := by decide +kernel
theorem dX7_digest_193 : decode cX7_digest 193 = .ok (.aload_n 0, 1) := by decide +kernel
theorem dX7_digest_194 : decode cX7_digest 194 = .ok (.invokevirtual 201, 3) := by decide +kernel
theorem dX7_digest_197 : decode cX7_digest 197 = .ok (.iconst 0, 1) := by decide +kernel
theorem dX7_digest_198 : decode cX7_digest 198 = .ok (.istore_n 3, 1) := by decide +kernel
theorem dX7_digest_199 : decode cX7_digest 199 = .ok (.iload_n 3, 1) := by decide +kernel
theorem dX7_digest_200 : decode cX7_digest 200 = .ok (.iconst 3, 1) := by decide +kernel
theorem dX7_digest_201 : decode cX7_digest 201 = .ok (.if_icmp .ge 22, 3) := by decide +kernel
theorem dX7_digest_204 : decode cX7_digest 204 = .ok (.ldc2_w 300, 3) := by decide +kernel
theorem dX7_digest_207 : decode cX7_digest 207 = .ok (.lload_n 1, 1) := by decide +kernel
theorem dX7_digest_208 : decode cX7_digest 208 = .ok (.lmul, 1) := by decide +kernel
theorem dX7_digest_209 : decode cX7_digest 209 = .ok (.aload_n 0, 1) := by decide +kernel
theorem dX7_digest_210 : decode cX7_digest 210 = .ok (.iload_n 3, 1) := by decide +kernel
theorem dX7_digest_211 : decode cX7_digest 211 = .ok (.invokevirtual 219, 3) := by decide +kernel
theorem dX7_digest_214 : decode cX7_digest 214 = .ok (.i2l, 1) := by decide +kernel
theorem dX7_digest_215 : decode cX7_digest 215 = .ok (.ladd, 1) := by decide +kernel
theorem dX7_digest_216 : decode cX7_digest 216 = .ok (.lstore_n 1, 1) := by decide +kernel
theorem dX7_digest_217 : decode cX7_digest 217 = .ok (.iinc 3 1, 3) := by decide +kernel
theorem dX7_digest_220 : decode cX7_digest 220 = .ok (.goto (-21), 3) := by decide +kernel
theorem dX7_digest_223 : decode cX7_digest 223 = .ok (.ldc2_w 300, 3) := by decide +kernel
theorem dX7_digest_226 : decode cX7_digest 226 = .ok (.lload_n 1, 1) := by decide +kernel
theorem dX7_digest_227 : decode cX7_digest 227 = .ok (.lmul, 1) := by decide +kernel
theorem dX7_digest_228 : decode cX7_digest 228 = .ok (.aload_n 0, 1) := by decide +kernel
theorem dX7_digest_229 : decode cX7_digest 229 = .ok (.invokevirtual 222, 3) := by decide +kernel
theorem dX7_digest_232 : decode cX7_digest 232 = .ok (.i2l, 1) := by decide +kernel
theorem dX7_digest_233 : decode cX7_digest 233 = .ok (.ladd, 1) := by decide +kernel
theorem dX7_digest_234 : decode cX7_digest 234 = .ok (.lstore_n 1, 1) := by decide +kernel
theorem dX7_digest_235 : decode cX7_digest 235 = .ok (.ldc2_w 300, 3) := by decide +kernel
theorem dX7_digest_238 : decode cX7_digest 238 = .ok (.lload_n 1, 1) := by decide +kernel
theorem dX7_digest_239 : decode cX7_digest 239 = .ok (.lmul, 1) := by decide +kernel
theorem dX7_digest_240 : decode cX7_digest 240 = .ok (.aload_n 0, 1) := by decide +kernel
theorem dX7_digest_241 : decode cX7_digest 241 = .ok (.invokevirtual 225, 3) := by decide +kernel
theorem dX7_digest_244 : decode cX7_digest 244 = .ok (.i2l, 1) := by decide +kernel
theorem dX7_digest_245 : decode cX7_digest 245 = .ok (.ladd, 1) := by decide +kernel
theorem dX7_digest_246 : decode cX7_digest 246 = .ok (.lstore_n 1, 1) := by decide +kernel
theorem dX7_digest_247 : decode cX7_digest 247 = .ok (.ldc2_w 300, 3) := by decide +kernel
theorem dX7_digest_250 : decode cX7_digest 250 = .ok (.lload_n 1, 1) := by decide +kernel
theorem dX7_digest_251 : decode cX7_digest 251 = .ok (.lmul, 1) := by decide +kernel
theorem dX7_digest_252 : decode cX7_digest 252 = .ok (.aload_n 0, 1) := by decide +kernel
theorem dX7_digest_253 : decode cX7_digest 253 = .ok (.invokevirtual 231, 3) := by decide +kernel
theorem dX7_digest_256 : decode cX7_digest 256 = .ok (.i2l, 1) := by decide +kernel
theorem dX7_digest_257 : decode cX7_digest 257 = .ok (.ladd, 1) := by decide +kernel
theorem dX7_digest_258 : decode cX7_digest 258 = .ok (.lstore_n 1, 1) := by decide +kernel
theorem dX7_digest_259 : decode cX7_digest 259 = .ok (.ldc2_w 300, 3) := by decide +kernel
theorem dX7_digest_262 : decode cX7_digest 262 = .ok (.lload_n 1, 1) := by decide +kernel
theorem dX7_digest_263 : decode cX7_digest 263 = .ok (.lmul, 1) := by decide +kernel
theorem dX7_digest_264 : decode cX7_digest 264 = .ok (.aload_n 0, 1) := by decide +kernel
theorem dX7_digest_265 : decode cX7_digest 265 = .ok (.iconst 0, 1) := by decide +kernel
theorem dX7_digest_266 : decode cX7_digest 266 = .ok (.invokevirtual 234, 3) := by decide +kernel
theorem dX7_digest_269 : decode cX7_digest 269 = .ok (.i2l, 1) := by decide +kernel
theorem dX7_digest_270 : decode cX7_digest 270 = .ok (.ladd, 1) := by decide +kernel
theorem dX7_digest_271 : decode cX7_digest 271 = .ok (.lstore_n 1, 1) := by decide +kernel
theorem dX7_digest_272 : decode cX7_digest 272 = .ok (.ldc2_w 300, 3) := by decide +kernel
theorem dX7_digest_275 : decode cX7_digest 275 = .ok (.lload_n 1, 1) := by decide +kernel
theorem dX7_digest_276 : decode cX7_digest 276 = .ok (.lmul, 1) := by decide +kernel
theorem dX7_digest_277 : decode cX7_digest 277 = .ok (.aload_n 0, 1) := by decide +kernel
theorem dX7_digest_278 : decode cX7_digest 278 = .ok (.iconst 1, 1) := by decide +kernel
theorem dX7_digest_279 : decode cX7_digest 279 = .ok (.invokevirtual 234, 3) := by decide +kernel
theorem dX7_digest_282 : decode cX7_digest 282 = .ok (.i2l, 1) := by decide +kernel
theorem dX7_digest_283 : decode cX7_digest 283 = .ok (.ladd, 1) := by decide +kernel
theorem dX7_digest_284 : decode cX7_digest 284 = .ok (.lstore_n 1, 1) := by decide +kernel
theorem dX7_digest_285 : decode cX7_digest 285 = .ok (.iconst 0, 1) := by decide +kernel
theorem dX7_digest_286 : decode cX7_digest 286 = .ok (.istore_n 3, 1) := by decide +kernel
theorem dX7_digest_287 : decode cX7_digest 287 = .ok (.iload_n 3, 1) := by decide +kernel
theorem dX7_digest_288 : decode cX7_digest 288 = .ok (.iconst 3, 1) := by decide +kernel
theorem dX7_digest_289 : decode cX7_digest 289 = .ok (.if_icmp .ge 22, 3) := by decide +kernel
theorem dX7_digest_292 : decode cX7_digest 292 = .ok (.ldc2_w 300, 3) := by decide +kernel
theorem dX7_digest_295 : decode cX7_digest 295 = .ok (.lload_n 1, 1) := by decide +kernel
theorem dX7_digest_296 : decode cX7_digest 296 = .ok (.lmul, 1) := by decide +kernel
theorem dX7_digest_297 : decode cX7_digest 297 = .ok (.aload_n 0, 1) := by decide +kernel
theorem dX7_digest_298 : decode cX7_digest 298 = .ok (.iload_n 3, 1) := by decide +kernel
theorem dX7_digest_299 : decode cX7_digest 299 = .ok (.invokevirtual 237, 3) := by decide +kernel
theorem dX7_digest_302 : decode cX7_digest 302 = .ok (.i2l, 1) := by decide +kernel
theorem dX7_digest_303 : decode cX7_digest 303 = .ok (.ladd, 1) := by decide +kernel
theorem dX7_digest_304 : decode cX7_digest 304 = .ok (.lstore_n 1, 1) := by decide +kernel
theorem dX7_digest_305 : decode cX7_digest 305 = .ok (.iinc 3 1, 3) := by decide +kernel
theorem dX7_digest_308 : decode cX7_digest 308 = .ok (.goto (-21), 3) := by decide +kernel
theorem dX7_digest_311 : decode cX7_digest 311 = .ok (.ldc2_w 300, 3) := by decide +kernel
theorem dX7_digest_314 : decode cX7_digest 314 = .ok (.lload_n 1, 1) := by decide +kernel
theorem dX7_digest_315 : decode cX7_digest 315 = .ok (.lmul, 1) := by decide +kernel
theorem dX7_digest_316 : decode cX7_digest 316 = .ok (.aload_n 0, 1) := by decide +kernel
theorem dX7_digest_317 : decode cX7_digest 317 = .ok (.iconst 0, 1) := by decide +kernel
theorem dX7_digest_318 : decode cX7_digest 318 = .ok (.invokevirtual 240, 3) := by decide +kernel
theorem dX7_digest_321 : decode cX7_digest 321 = .ok (.i2l, 1) := by decide +kernel
theorem dX7_digest_322 : decode cX7_digest 322 = .ok (.ladd, 1) := by decide +kernel
theorem dX7_digest_323 : decode cX7_digest 323 = .ok (.lstore_n 1, 1) := by decide +kernel
theorem dX7_digest_324 : decode cX7_digest 324 = .ok (.ldc2_w 300, 3) := by decide +kernel
theorem dX7_digest_327 : decode cX7_digest 327 = .ok (.lload_n 1, 1) := by decide +kernel
theorem dX7_digest_328 : decode cX7_digest 328 = .ok (.lmul, 1) := by decide +kernel
theorem dX7_digest_329 : decode cX7_digest 329 = .ok (.aload_n 0, 1) := by decide +kernel
theorem dX7_digest_330 : decode cX7_digest 330 = .ok (.iconst 1, 1) := by decide +kernel
theorem dX7_digest_331 : decode cX7_digest 331 = .ok (.invokevirtual 240, 3) := by decide +kernel
theorem dX7_digest_334 : decode cX7_digest 334 = .ok (.i2l, 1) := by decide +kernel
theorem dX7_digest_335 : decode cX7_digest 335 = .ok (.ladd, 1) := by decide +kernel
theorem dX7_digest_336 : decode cX7_digest 336 = .ok (.lstore_n 1, 1) := by decide +kernel
theorem dX7_digest_337 : decode cX7_digest 337 = .ok (.ldc2_w 300, 3) := by decide +kernel
theorem dX7_digest_340 : decode cX7_digest 340 = .ok (.lload_n 1, 1) := by decide +kernel
theorem dX7_digest_341 : decode cX7_digest 341 = .ok (.lmul, 1) := by decide +kernel
theorem dX7_digest_342 : decode cX7_digest 342 = .ok (.aload_n 0, 1) := by decide +kernel
theorem dX7_digest_343 : decode cX7_digest 343 = .ok (.iconst (-1), 1) := by decide +kernel
theorem dX7_digest_344 : decode cX7_digest 344 = .ok (.invokevirtual 248, 3) := by decide +kernel
theorem dX7_digest_347 : decode cX7_digest 347 = .ok (.i2l, 1) := by decide +kernel
theorem dX7_digest_348 : decode cX7_digest 348 = .ok (.ladd, 1) := by decide +kernel
theorem dX7_digest_349 : decode cX7_digest 349 = .ok (.lstore_n 1, 1) := by decide +kernel
theorem dX7_digest_350 : decode cX7_digest 350 = .ok (.ldc2_w 300, 3) := by decide +kernel
theorem dX7_digest_353 : decode cX7_digest 353 = .ok (.lload_n 1, 1) := by decide +kernel
theorem dX7_digest_354 : decode cX7_digest 354 = .ok (.lmul, 1) := by decide +kernel
theorem dX7_digest_355 : decode cX7_digest 355 = .ok (.aload_n 0, 1) := by decide +kernel
theorem dX7_digest_356 : decode cX7_digest 356 = .ok (.iconst 0, 1) := by decide +kernel
theorem dX7_digest_357 : decode cX7_digest 357 = .ok (.invokevirtual 248, 3) := by decide +kernel
theorem dX7_digest_360 : decode cX7_digest 360 = .ok (.i2l, 1) := by decide +kernel
theorem dX7_digest_361 : decode cX7_digest 361 = .ok (.ladd, 1) := by decide +kernel
theorem dX7_digest_362 : decode cX7_digest 362 = .ok (.lstore_n 1, 1) := by decide +kernel
theorem dX7_digest_363 : decode cX7_digest 363 = .ok (.ldc2_w 300, 3) := by decide +kernel
theorem dX7_digest_366 : decode cX7_digest 366 = .ok (.lload_n 1, 1) := by decide +kernel
theorem dX7_digest_367 : decode cX7_digest 367 = .ok (.lmul, 1) := by decide +kernel
theorem dX7_digest_368 : decode cX7_digest 368 = .ok (.aload_n 0, 1) := by decide +kernel
theorem dX7_digest_369 : decode cX7_digest 369 = .ok (.invokevirtual 258, 3) := by decide +kernel
theorem dX7_digest_372 : decode cX7_digest 372 = .ok (.i2l, 1) := by decide +kernel
theorem dX7_digest_373 : decode cX7_digest 373 = .ok (.ladd, 1) := by decide +kernel
theorem dX7_digest_374 : decode cX7_digest 374 = .ok (.lstore_n 1, 1) := by decide +kernel
theorem dX7_digest_375 : decode cX7_digest 375 = .ok (.ldc2_w 300, 3) := by decide +kernel
theorem dX7_digest_378 : decode cX7_digest 378 = .ok (.lload_n 1, 1) := by decide +kernel
theorem dX7_digest_379 : decode cX7_digest 379 = .ok (.lmul, 1) := by decide +kernel
theorem dX7_digest_380 : decode cX7_digest 380 = .ok (.aload_n 0, 1) := by decide +kernel
theorem dX7_digest_381 : decode cX7_digest 381 = .ok (.bipush 7, 2) := by decide +kernel
theorem dX7_digest_383 : decode cX7_digest 383 = .ok (.bipush 12, 2) := by decide +kernel
theorem dX7_digest_385 : decode cX7_digest 385 = .ok (.iconst 0, 1) := by decide +kernel
theorem dX7_digest_386 : decode cX7_digest 386 = .ok (.invokevirtual 297, 3) := by decide +kernel
theorem dX7_digest_389 : decode cX7_digest 389 = .ok (.i2l, 1) := by decide +kernel
theorem dX7_digest_390 : decode cX7_digest 390 = .ok (.ladd, 1) := by decide +kernel
theorem dX7_digest_391 : decode cX7_digest 391 = .ok (.lstore_n 1, 1) := by decide +kernel
theorem dX7_digest_392 : decode cX7_digest 392 = .ok (.ldc2_w 300, 3) := by decide +kernel
theorem dX7_digest_395 : decode cX7_digest 395 = .ok (.lload_n 1, 1) := by decide +kernel
theorem dX7_digest_396 : decode cX7_digest 396 = .ok (.lmul, 1) := by decide +kernel
theorem dX7_digest_397 : decode cX7_digest 397 = .ok (.aload_n 0, 1) := by decide +kernel
theorem dX7_digest_398 : decode cX7_digest 398 = .ok (.bipush 7, 2) := by decide +kernel
theorem dX7_digest_400 : decode cX7_digest 400 = .ok (.bipush 12, 2) := by decide +kernel
theorem dX7_digest_402 : decode cX7_digest 402 = .ok (.iconst 1, 1) := by decide +kernel
theorem dX7_digest_403 : decode cX7_digest 403 = .ok (.invokevirtual 297, 3) := by decide +kernel
theorem dX7_digest_406 : decode cX7_digest 406 = .ok (.i2l, 1) := by decide +kernel
theorem dX7_digest_407 : decode cX7_digest 407 = .ok (.ladd, 1) := by decide +kernel
theorem dX7_digest_408 : decode cX7_digest 408 = .ok (.lreturn, 1) := by decide +kernel
end
section
theorem dL_law_0 : decode cL_law 0 = .ok (.new 7, 3) := by decide +kernel
theorem dL_law_3 : decode cL_law 3 = .ok (.dup, 1) := by decide +kernel
theorem dL_law_4 : decode cL_law 4 = .ok (.invokespecial 9, 3) := by decide +kernel
theorem dL_law_7 : decode cL_law 7 = .ok (.astore_n 1, 1) := by decide +kernel
theorem dL_law_8 : decode cL_law 8 = .ok (.new 10, 3) := by decide +kernel
theorem dL_law_11 : decode cL_law 11 = .ok (.dup, 1) := by decide +kernel
theorem dL_law_12 : decode cL_law 12 = .ok (.invokespecial 12, 3) := by decide +kernel
theorem dL_law_15 : decode cL_law 15 = .ok (.astore_n 2, 1) := by decide +kernel
theorem dL_law_16 : decode cL_law 16 = .ok (.iconst 0, 1) := by decide +kernel
theorem dL_law_17 : decode cL_law 17 = .ok (.istore_n 3, 1) := by decide +kernel
theorem dL_law_18 : decode cL_law 18 = .ok (.iload_n 3, 1) := by decide +kernel
theorem dL_law_19 : decode cL_law 19 = .ok (.aload_n 0, 1) := by decide +kernel
theorem dL_law_20 : decode cL_law 20 = .ok (.arraylength, 1) := by decide +kernel
theorem dL_law_21 : decode cL_law 21 = .ok (.bipush 6, 2) := by decide +kernel
theorem dL_law_23 : decode cL_law 23 = .ok (.isub, 1) := by decide +kernel
theorem dL_law_24 : decode cL_law 24 = .ok (.if_icmp .gt 1164, 3) := by decide +kernel
theorem dL_law_27 : decode cL_law 27 = .ok (.aload_n 0, 1) := by decide +kernel
theorem dL_law_28 : decode cL_law 28 = .ok (.iload_n 3, 1) := by decide +kernel
theorem dL_law_29 : decode cL_law 29 = .ok (.iaload, 1) := by decide +kernel
theorem dL_law_30 : decode cL_law 30 = .ok (.bipush 63, 2) := by decide +kernel
theorem dL_law_32 : decode cL_law 32 = .ok (.iand, 1) := by decide +kernel
theorem dL_law_33 : decode cL_law 33 = .ok (.tableswitch 1149 0 35 #[159, 192, 215, 238, 261, 294, 327, 350, 383, 396, 419, 452, 475, 508, 531, 544, 557, 570, 593, 616, 639, 662, 695, 708, 721, 754, 777, 821, 864, 907, 930, 983, 1026, 1089, 1112, 1135], 159) := by decide +kernel
theorem dL_law_192 : decode cL_law 192 = .ok (.aload_n 1, 1) := by decide +kernel
theorem dL_law_193 : decode cL_law 193 = .ok (.aload_n 0, 1) := by decide +kernel
theorem dL_law_194 : decode cL_law 194 = .ok (.iload_n 3, 1) := by decide +kernel
theorem dL_law_195 : decode cL_law 195 = .ok (.iconst 1, 1) := by decide +kernel
theorem dL_law_196 : decode cL_law 196 = .ok (.iadd, 1) := by decide +kernel
theorem dL_law_197 : decode cL_law 197 = .ok (.iaload, 1) := by decide +kernel
theorem dL_law_198 : decode cL_law 198 = .ok (.aload_n 0, 1) := by decide +kernel
theorem dL_law_199 : decode cL_law 199 = .ok (.iload_n 3, 1) := by decide +kernel
theorem dL_law_200 : decode cL_law 200 = .ok (.iconst 2, 1) := by decide +kernel
theorem dL_law_201 : decode cL_law 201 = .ok (.iadd, 1) := by decide +kernel
theorem dL_law_202 : decode cL_law 202 = .ok (.iaload, 1) := by decide +kernel
theorem dL_law_203 : decode cL_law 203 = .ok (.invokevirtual 13, 3) := by decide +kernel
theorem dL_law_206 : decode cL_law 206 = .ok (.aload_n 2, 1) := by decide +kernel
theorem dL_law_207 : decode cL_law 207 = .ok (.aload_n 0, 1) := by decide +kernel
theorem dL_law_208 : decode cL_law 208 = .ok (.iload_n 3, 1) := by decide +kernel
theorem dL_law_209 : decode cL_law 209 = .ok (.iconst 1, 1) := by decide +kernel
theorem dL_law_210 : decode cL_law 210 = .ok (.iadd, 1) := by decide +kernel
theorem dL_law_211 : decode cL_law 211 = .ok (.iaload, 1) := by decide +kernel
theorem dL_law_212 : decode cL_law 212 = .ok (.aload_n 0, 1) := by decide +kernel
theorem dL_law_213 : decode cL_law 213 = .ok (.iload_n 3, 1) := by decide +kernel
theorem dL_law_214 : decode cL_law 214 = .ok (.iconst 2, 1) := by decide +kernel
theorem dL_law_215 : decode cL_law 215 = .ok (.iadd, 1) := by decide +kernel
theorem dL_law_216 : decode cL_law 216 = .ok (.iaload, 1) := by decide +kernel
theorem dL_law_217 : decode cL_law 217 = .ok (.invokevirtual 17, 3) := by decide +kernel
theorem dL_law_220 : decode cL_law 220 = .ok (.if_icmp .eq 962, 3) := by decide +kernel
theorem dL_law_223 : decode cL_law 223 = .ok (.iconst 0, 1) := by decide +kernel
theorem dL_law_224 : decode cL_law 224 = .ok (.ireturn, 1) := by decide +kernel
theorem dL_law_225 : decode cL_law 225 = .ok (.aload_n 1, 1) := by decide +kernel
theorem dL_law_226 : decode cL_law 226 = .ok (.aload_n 0, 1) := by decide +kernel
theorem dL_law_227 : decode cL_law 227 = .ok (.iload_n 3, 1) := by decide +kernel
theorem dL_law_228 : decode cL_law 228 = .ok (.iconst 1, 1) := by decide +kernel
theorem dL_law_229 : decode cL_law 229 = .ok (.iadd, 1) := by decide +kernel
theorem dL_law_230 : decode cL_law 230 = .ok (.iaload, 1) := by decide +kernel
theorem dL_law_231 : decode cL_law 231 = .ok (.invokevirtual 18, 3) := by decide +kernel
theorem dL_law_234 : decode cL_law 234 = .ok (.aload_n 2, 1) := by decide +kernel
theorem dL_law_235 : decode cL_law 235 = .ok (.aload_n 0, 1) := by decide +kernel
theorem dL_law_236 : decode cL_law 236 = .ok (.iload_n 3, 1) := by decide +kernel
theorem dL_law_237 : decode cL_law 237 = .ok (.iconst 1, 1) := by decide +kernel
theorem dL_law_238 : decode cL_law 238 = .ok (.iadd, 1) := by decide +kernel
theorem dL_law_239 : decode cL_law 239 = .ok (.iaload, 1) := by decide +kernel
theorem dL_law_240 : decode cL_law 240 = .ok (.invokevirtual 22, 3) := by decide +kernel
theorem dL_law_243 : decode cL_law 243 = .ok (.if_icmp .eq 939, 3) := by decide +kernel
theorem dL_law_246 : decode cL_law 246 = .ok (.iconst 0, 1) := by decide +kernel
theorem dL_law_247 : decode cL_law 247 = .ok (.ireturn, 1) := by decide +kernel
theorem dL_law_248 : decode cL_law 248 = .ok (.aload_n 1, 1) := by decide +kernel
theorem dL_law_249 : decode cL_law 249 = .ok (.aload_n 0, 1) := by decide +kernel
theorem dL_law_250 : decode cL_law 250 = .ok (.iload_n 3, 1) := by decide +kernel
theorem dL_law_251 : decode cL_law 251 = .ok (.iconst 1, 1) := by decide +kernel
theorem dL_law_252 : decode cL_law 252 = .ok (.iadd, 1) := by decide +kernel
theorem dL_law_253 : decode cL_law 253 = .ok (.iaload, 1) := by decide +kernel
theorem dL_law_254 : decode cL_law 254 = .ok (.invokevirtual 23, 3) := by decide +kernel
theorem dL_law_257 : decode cL_law 257 = .ok (.aload_n 2, 1) := by decide +kernel
theorem dL_law_258 : decode cL_law 258 = .ok (.aload_n 0, 1) := by decide +kernel
theorem dL_law_259 : decode cL_law 259 = .ok (.iload_n 3, 1) := by decide +kernel
theorem dL_law_260 : decode cL_law 260 = .ok (.iconst 1, 1) := by decide +kernel
theorem dL_law_261 : decode cL_law 261 = .ok (.iadd, 1) := by decide +kernel
theorem dL_law_262 : decode cL_law 262 = .ok (.iaload, 1) := by decide +kernel
theorem dL_law_263 : decode cL_law 263 = .ok (.invokevirtual 26, 3) := by decide +kernel
theorem dL_law_266 : decode cL_law 266 = .ok (.if_icmp .eq 916, 3) := by decide +kernel
theorem dL_law_269 : decode cL_law 269 = .ok (.iconst 0, 1) := by decide +kernel
theorem dL_law_270 : decode cL_law 270 = .ok (.ireturn, 1) := by decide +kernel
theorem dL_law_271 : decode cL_law 271 = .ok (.aload_n 1, 1) := by decide +kernel
theorem dL_law_272 : decode cL_law 272 = .ok (.aload_n 0, 1) := by decide +kernel
theorem dL_law_273 : decode cL_law 273 = .ok (.iload_n 3, 1) := by decide +kernel
theorem dL_law_274 : decode cL_law 274 = .ok (.iconst 1, 1) := by decide +kernel
theorem dL_law_275 : decode cL_law 275 = .ok (.iadd, 1) := by decide +kernel
theorem dL_law_276 : decode cL_law 276 = .ok (.iaload, 1) := by decide +kernel
theorem dL_law_277 : decode cL_law 277 = .ok (.invokevirtual 27, 3) := by decide +kernel
theorem dL_law_280 : decode cL_law 280 = .ok (.aload_n 2, 1) := by decide +kernel
theorem dL_law_281 : decode cL_law 281 = .ok (.aload_n 0, 1) := by decide +kernel
theorem dL_law_282 : decode cL_law 282 = .ok (.iload_n 3, 1) := by decide +kernel
theorem dL_law_283 : decode cL_law 283 = .ok (.iconst 1, 1) := by decide +kernel
theorem dL_law_284 : decode cL_law 284 = .ok (.iadd, 1) := by decide +kernel
theorem dL_law_285 : decode cL_law 285 = .ok (.iaload, 1) := by decide +kernel
theorem dL_law_286 : decode cL_law 286 = .ok (.invokevirtual 30, 3) := by decide +kernel
theorem dL_law_289 : decode cL_law 289 = .ok (.if_icmp .eq 893, 3) := by decide +kernel
theorem dL_law_292 : decode cL_law 292 = .ok (.iconst 0, 1) := by decide +kernel
theorem dL_law_293 : decode cL_law 293 = .ok (.ireturn, 1) := by decide +kernel
theorem dL_law_294 : decode cL_law 294 = .ok (.aload_n 1, 1) := by decide +kernel
theorem dL_law_295 : decode cL_law 295 = .ok (.aload_n 0, 1) := by decide +kernel
theorem dL_law_296 : decode cL_law 296 = .ok (.iload_n 3, 1) := by decide +kernel
theorem dL_law_297 : decode cL_law 297 = .ok (.iconst 1, 1) := by decide +kernel
theorem dL_law_298 : decode cL_law 298 = .ok (.iadd, 1) := by decide +kernel
theorem dL_law_299 : decode cL_law 299 = .ok (.iaload, 1) := by decide +kernel
theorem dL_law_300 : decode cL_law 300 = .ok (.aload_n 0, 1) := by decide +kernel
theorem dL_law_301 : decode cL_law 301 = .ok (.iload_n 3, 1) := by decide +kernel
theorem dL_law_302 : decode cL_law 302 = .ok (.iconst 2, 1) := by decide +kernel
theorem dL_law_303 : decode cL_law 303 = .ok (.iadd, 1) := by decide +kernel
theorem dL_law_304 : decode cL_law 304 = .ok (.iaload, 1) := by decide +kernel
theorem dL_law_305 : decode cL_law 305 = .ok (.invokevirtual 31, 3) := by decide +kernel
theorem dL_law_308 : decode cL_law 308 = .ok (.aload_n 2, 1) := by decide +kernel
theorem dL_law_309 : decode cL_law 309 = .ok (.aload_n 0, 1) := by decide +kernel
theorem dL_law_310 : decode cL_law 310 = .ok (.iload_n 3, 1) := by decide +kernel
theorem dL_law_311 : decode cL_law 311 = .ok (.iconst 1, 1) := by decide +kernel
theorem dL_law_312 : decode cL_law 312 = .ok (.iadd, 1) := by decide +kernel
theorem dL_law_313 : decode cL_law 313 = .ok (.iaload, 1) := by decide +kernel
theorem dL_law_314 : decode cL_law 314 = .ok (.aload_n 0, 1) := by decide +kernel
theorem dL_law_315 : decode cL_law 315 = .ok (.iload_n 3, 1) := by decide +kernel
theorem dL_law_316 : decode cL_law 316 = .ok (.iconst 2, 1) := by decide +kernel
theorem dL_law_317 : decode cL_law 317 = .ok (.iadd, 1) := by decide +kernel
theorem dL_law_318 : decode cL_law 318 = .ok (.iaload, 1) := by decide +kernel
theorem dL_law_319 : decode cL_law 319 = .ok (.invokevirtual 34, 3) := by decide +kernel
theorem dL_law_322 : decode cL_law 322 = .ok (.if_icmp .eq 860, 3) := by decide +kernel
theorem dL_law_325 : decode cL_law 325 = .ok (.iconst 0, 1) := by decide +kernel
theorem dL_law_326 : decode cL_law 326 = .ok (.ireturn, 1) := by decide +kernel
theorem dL_law_327 : decode cL_law 327 = .ok (.aload_n 1, 1) := by decide +kernel
theorem dL_law_328 : decode cL_law 328 = .ok (.aload_n 0, 1) := by decide +kernel
theorem dL_law_329 : decode cL_law 329 = .ok (.iload_n 3, 1) := by decide +kernel
theorem dL_law_330 : decode cL_law 330 = .ok (.iconst 1, 1) := by decide +kernel
theorem dL_law_331 : decode cL_law 331 = .ok (.iadd, 1) := by decide +kernel
theorem dL_law_332 : decode cL_law 332 = .ok (.iaload, 1) := by decide +kernel
theorem dL_law_333 : decode cL_law 333 = .ok (.aload_n 0, 1) := by decide +kernel
theorem dL_law_334 : decode cL_law 334 = .ok (.iload_n 3, 1) := by decide +kernel
theorem dL_law_335 : decode cL_law 335 = .ok (.iconst 2, 1) := by decide +kernel
theorem dL_law_336 : decode cL_law 336 = .ok (.iadd, 1) := by decide +kernel
theorem dL_law_337 : decode cL_law 337 = .ok (.iaload, 1) := by decide +kernel
theorem dL_law_338 : decode cL_law 338 = .ok (.invokevirtual 35, 3) := by decide +kernel
theorem dL_law_341 : decode cL_law 341 = .ok (.aload_n 2, 1) := by decide +kernel
theorem dL_law_342 : decode cL_law 342 = .ok (.aload_n 0, 1) := by decide +kernel
theorem dL_law_343 : decode cL_law 343 = .ok (.iload_n 3, 1) := by decide +kernel
theorem dL_law_344 : decode cL_law 344 = .ok (.iconst 1, 1) := by decide +kernel
theorem dL_law_345 : decode cL_law 345 = .ok (.iadd, 1) := by decide +kernel
theorem dL_law_346 : decode cL_law 346 = .ok (.iaload, 1) := by decide +kernel
theorem dL_law_347 : decode cL_law 347 = .ok (.aload_n 0, 1) := by decide +kernel
theorem dL_law_348 : decode cL_law 348 = .ok (.iload_n 3, 1) := by decide +kernel
theorem dL_law_349 : decode cL_law 349 = .ok (.iconst 2, 1) := by decide +kernel
theorem dL_law_350 : decode cL_law 350 = .ok (.iadd, 1) := by decide +kernel
theorem dL_law_351 : decode cL_law 351 = .ok (.iaload, 1) := by decide +kernel
theorem dL_law_352 : decode cL_law 352 = .ok (.invokevirtual 38, 3) := by decide +kernel
theorem dL_law_355 : decode cL_law 355 = .ok (.if_icmp .eq 827, 3) := by decide +kernel
theorem dL_law_358 : decode cL_law 358 = .ok (.iconst 0, 1) := by decide +kernel
theorem dL_law_359 : decode cL_law 359 = .ok (.ireturn, 1) := by decide +kernel
theorem dL_law_360 : decode cL_law 360 = .ok (.aload_n 1, 1) := by decide +kernel
theorem dL_law_361 : decode cL_law 361 = .ok (.aload_n 0, 1) := by decide +kernel
theorem dL_law_362 : decode cL_law 362 = .ok (.iload_n 3, 1) := by decide +kernel
theorem dL_law_363 : decode cL_law 363 = .ok (.iconst 1, 1) := by decide +kernel
theorem dL_law_364 : decode cL_law 364 = .ok (.iadd, 1) := by decide +kernel
theorem dL_law_365 : decode cL_law 365 = .ok (.iaload, 1) := by decide +kernel
theorem dL_law_366 : decode cL_law 366 = .ok (.invokevirtual 39, 3) := by decide +kernel
theorem dL_law_369 : decode cL_law 369 = .ok (.aload_n 2, 1) := by decide +kernel
theorem dL_law_370 : decode cL_law 370 = .ok (.aload_n 0, 1) := by decide +kernel
theorem dL_law_371 : decode cL_law 371 = .ok (.iload_n 3, 1) := by decide +kernel
theorem dL_law_372 : decode cL_law 372 = .ok (.iconst 1, 1) := by decide +kernel
theorem dL_law_373 : decode cL_law 373 = .ok (.iadd, 1) := by decide +kernel
theorem dL_law_374 : decode cL_law 374 = .ok (.iaload, 1) := by decide +kernel
theorem dL_law_375 : decode cL_law 375 = .ok (.invokevirtual 42, 3) := by decide +kernel
theorem dL_law_378 : decode cL_law 378 = .ok (.if_icmp .eq 804, 3) := by decide +kernel
theorem dL_law_381 : decode cL_law 381 = .ok (.iconst 0, 1) := by decide +kernel
theorem dL_law_382 : decode cL_law 382 = .ok (.ireturn, 1) := by decide +kernel
theorem dL_law_383 : decode cL_law 383 = .ok (.aload_n 1, 1) := by decide +kernel
theorem dL_law_384 : decode cL_law 384 = .ok (.aload_n 0, 1) := by decide +kernel
theorem dL_law_385 : decode cL_law 385 = .ok (.iload_n 3, 1) := by decide +kernel
theorem dL_law_386 : decode cL_law 386 = .ok (.iconst 1, 1) := by decide +kernel
theorem dL_law_387 : decode cL_law 387 = .ok (.iadd, 1) := by decide +kernel
theorem dL_law_388 : decode cL_law 388 = .ok (.iaload, 1) := by decide +kernel
theorem dL_law_389 : decode cL_law 389 = .ok (.aload_n 0, 1) := by decide +kernel
theorem dL_law_390 : decode cL_law 390 = .ok (.iload_n 3, 1) := by decide +kernel
theorem dL_law_391 : decode cL_law 391 = .ok (.iconst 2, 1) := by decide +kernel
theorem dL_law_392 : decode cL_law 392 = .ok (.iadd, 1) := by decide +kernel
theorem dL_law_393 : decode cL_law 393 = .ok (.iaload, 1) := by decide +kernel
theorem dL_law_394 : decode cL_law 394 = .ok (.invokevirtual 43, 3) := by decide +kernel
theorem dL_law_397 : decode cL_law 397 = .ok (.aload_n 2, 1) := by decide +kernel
theorem dL_law_398 : decode cL_law 398 = .ok (.aload_n 0, 1) := by decide +kernel
theorem dL_law_399 : decode cL_law 399 = .ok (.iload_n 3, 1) := by decide +kernel
theorem dL_law_400 : decode cL_law 400 = .ok (.iconst 1, 1) := by decide +kernel
theorem dL_law_401 : decode cL_law 401 = .ok (.iadd, 1) := by decide +kernel
theorem dL_law_402 : decode cL_law 402 = .ok (.iaload, 1) := by decide +kernel
theorem dL_law_403 : decode cL_law 403 = .ok (.aload_n 0, 1) := by decide +kernel
theorem dL_law_404 : decode cL_law 404 = .ok (.iload_n 3, 1) := by decide +kernel
theorem dL_law_405 : decode cL_law 405 = .ok (.iconst 2, 1) := by decide +kernel
theorem dL_law_406 : decode cL_law 406 = .ok (.iadd, 1) := by decide +kernel
theorem dL_law_407 : decode cL_law 407 = .ok (.iaload, 1) := by decide +kernel
theorem dL_law_408 : decode cL_law 408 = .ok (.invokevirtual 46, 3) := by decide +kernel
theorem dL_law_411 : decode cL_law 411 = .ok (.if_icmp .eq 771, 3) := by decide +kernel
theorem dL_law_414 : decode cL_law 414 = .ok (.iconst 0, 1) := by decide +kernel
theorem dL_law_415 : decode cL_law 415 = .ok (.ireturn, 1) := by decide +kernel
theorem dL_law_416 : decode cL_law 416 = .ok (.aload_n 1, 1) := by decide +kernel
theorem dL_law_417 : decode cL_law 417 = .ok (.invokevirtual 47, 3) := by decide +kernel
theorem dL_law_420 : decode cL_law 420 = .ok (.aload_n 2, 1) := by decide +kernel
theorem dL_law_421 : decode cL_law 421 = .ok (.invokevirtual 51, 3) := by decide +kernel
theorem dL_law_424 : decode cL_law 424 = .ok (.if_icmp .eq 758, 3) := by decide +kernel
theorem dL_law_427 : decode cL_law 427 = .ok (.iconst 0, 1) := by decide +kernel
theorem dL_law_428 : decode cL_law 428 = .ok (.ireturn, 1) := by decide +kernel
theorem dL_law_429 : decode cL_law 429 = .ok (.aload_n 1, 1) := by decide +kernel
theorem dL_law_430 : decode cL_law 430 = .ok (.aload_n 0, 1) := by decide +kernel
theorem dL_law_431 : decode cL_law 431 = .ok (.iload_n 3, 1) := by decide +kernel
theorem dL_law_432 : decode cL_law 432 = .ok (.iconst 1, 1) := by decide +kernel
theorem dL_law_433 : decode cL_law 433 = .ok (.iadd, 1) := by decide +kernel
theorem dL_law_434 : decode cL_law 434 = .ok (.iaload, 1) := by decide +kernel
theorem dL_law_435 : decode cL_law 435 = .ok (.invokevirtual 52, 3) := by decide +kernel
theorem dL_law_438 : decode cL_law 438 = .ok (.aload_n 2, 1) := by decide +kernel
theorem dL_law_439 : decode cL_law 439 = .ok (.aload_n 0, 1) := by decide +kernel
theorem dL_law_440 : decode cL_law 440 = .ok (.iload_n 3, 1) := by decide +kernel
theorem dL_law_441 : decode cL_law 441 = .ok (.iconst 1, 1) := by decide +kernel
theorem dL_law_442 : decode cL_law 442 = .ok (.iadd, 1) := by decide +kernel
theorem dL_law_443 : decode cL_law 443 = .ok (.iaload, 1) := by decide +kernel
theorem dL_law_444 : decode cL_law 444 = .ok (.invokevirtual 55, 3) := by decide +kernel
theorem dL_law_447 : decode cL_law 447 = .ok (.if_icmp .eq 735, 3) := by decide +kernel
theorem dL_law_450 : decode cL_law 450 = .ok (.iconst 0, 1) := by decide +kernel
theorem dL_law_451 : decode cL_law 451 = .ok (.ireturn, 1) := by decide +kernel
theorem dL_law_452 : decode cL_law 452 = .ok (.aload_n 1, 1) := by decide +kernel
theorem dL_law_453 : decode cL_law 453 = .ok (.aload_n 0, 1) := by decide +kernel
theorem dL_law_454 : decode cL_law 454 = .ok (.iload_n 3, 1) := by decide +kernel
theorem dL_law_455 : decode cL_law 455 = .ok (.iconst 1, 1) := by decide +kernel
theorem dL_law_456 : decode cL_law 456 = .ok (.iadd, 1) := by decide +kernel
theorem dL_law_457 : decode cL_law 457 = .ok (.iaload, 1) := by decide +kernel
theorem dL_law_458 : decode cL_law 458 = .ok (.aload_n 0, 1) := by decide +kernel
theorem dL_law_459 : decode cL_law 459 = .ok (.iload_n 3, 1) := by decide +kernel
theorem dL_law_460 : decode cL_law 460 = .ok (.iconst 2, 1) := by decide +kernel
theorem dL_law_461 : decode cL_law 461 = .ok (.iadd, 1) := by decide +kernel
theorem dL_law_462 : decode cL_law 462 = .ok (.iaload, 1) := by decide +kernel
theorem dL_law_463 : decode cL_law 463 = .ok (.invokevirtual 56, 3) := by decide +kernel
theorem dL_law_466 : decode cL_law 466 = .ok (.aload_n 2, 1) := by decide +kernel
theorem dL_law_467 : decode cL_law 467 = .ok (.aload_n 0, 1) := by decide +kernel
theorem dL_law_468 : decode cL_law 468 = .ok (.iload_n 3, 1) := by decide +kernel
theorem dL_law_469 : decode cL_law 469 = .ok (.iconst 1, 1) := by decide +kernel
theorem dL_law_470 : decode cL_law 470 = .ok (.iadd, 1) := by decide +kernel
theorem dL_law_471 : decode cL_law 471 = .ok (.iaload, 1) := by decide +kernel
theorem dL_law_472 : decode cL_law 472 = .ok (.aload_n 0, 1) := by decide +kernel
theorem dL_law_473 : decode cL_law 473 = .ok (.iload_n 3, 1) := by decide +kernel
theorem dL_law_474 : decode cL_law 474 = .ok (.iconst 2, 1) := by decide +kernel
theorem dL_law_475 : decode cL_law 475 = .ok (.iadd, 1) := by decide +kernel
theorem dL_law_476 : decode cL_law 476 = .ok (.iaload, 1) := by decide +kernel
theorem dL_law_477 : decode cL_law 477 = .ok (.invokevirtual 59, 3) := by decide +kernel
theorem dL_law_480 : decode cL_law 480 = .ok (.if_icmp .eq 702, 3) := by decide +kernel
theorem dL_law_483 : decode cL_law 483 = .ok (.iconst 0, 1) := by decide +kernel
theorem dL_law_484 : decode cL_law 484 = .ok (.ireturn, 1) := by decide +kernel
theorem dL_law_485 : decode cL_law 485 = .ok (.aload_n 1, 1) := by decide +kernel
theorem dL_law_486 : decode cL_law 486 = .ok (.aload_n 0, 1) := by decide +kernel
theorem dL_law_487 : decode cL_law 487 = .ok (.iload_n 3, 1) := by decide +kernel
theorem dL_law_488 : decode cL_law 488 = .ok (.iconst 1, 1) := by decide +kernel
theorem dL_law_489 : decode cL_law 489 = .ok (.iadd, 1) := by decide +kernel
theorem dL_law_490 : decode cL_law 490 = .ok (.iaload, 1) := by decide +kernel
theorem dL_law_491 : decode cL_law 491 = .ok (.invokevirtual 60, 3) := by decide +kernel
theorem dL_law_494 : decode cL_law 494 = .ok (.aload_n 2, 1) := by decide +kernel
theorem dL_law_495 : decode cL_law 495 = .ok (.aload_n 0, 1) := by decide +kernel
theorem dL_law_496 : decode cL_law 496 = .ok (.iload_n 3, 1) := by decide +kernel
theorem dL_law_497 : decode cL_law 497 = .ok (.iconst 1, 1) := by decide +kernel
theorem dL_law_498 : decode cL_law 498 = .ok (.iadd, 1) := by decide +kernel
theorem dL_law_499 : decode cL_law 499 = .ok (.iaload, 1) := by decide +kernel
theorem dL_law_500 : decode cL_law 500 = .ok (.invokevirtual 63, 3) := by decide +kernel
theorem dL_law_503 : decode cL_law 503 = .ok (.if_icmp .eq 679, 3) := by decide +kernel
theorem dL_law_506 : decode cL_law 506 = .ok (.iconst 0, 1) := by decide +kernel
theorem dL_law_507 : decode cL_law 507 = .ok (.ireturn, 1) := by decide +kernel
theorem dL_law_508 : decode cL_law 508 = .ok (.aload_n 1, 1) := by decide +kernel
theorem dL_law_509 : decode cL_law 509 = .ok (.aload_n 0, 1) := by decide +kernel
theorem dL_law_510 : decode cL_law 510 = .ok (.iload_n 3, 1) := by decide +kernel
theorem dL_law_511 : decode cL_law 511 = .ok (.iconst 1, 1) := by decide +kernel
theorem dL_law_512 : decode cL_law 512 = .ok (.iadd, 1) := by decide +kernel
theorem dL_law_513 : decode cL_law 513 = .ok (.iaload, 1) := by decide +kernel
theorem dL_law_514 : decode cL_law 514 = .ok (.aload_n 0, 1) := by decide +kernel
theorem dL_law_515 : decode cL_law 515 = .ok (.iload_n 3, 1) := by decide +kernel
theorem dL_law_516 : decode cL_law 516 = .ok (.iconst 2, 1) := by decide +kernel
theorem dL_law_517 : decode cL_law 517 = .ok (.iadd, 1) := by decide +kernel
theorem dL_law_518 : decode cL_law 518 = .ok (.iaload, 1) := by decide +kernel
theorem dL_law_519 : decode cL_law 519 = .ok (.invokevirtual 64, 3) := by decide +kernel
theorem dL_law_522 : decode cL_law 522 = .ok (.aload_n 2, 1) := by decide +kernel
theorem dL_law_523 : decode cL_law 523 = .ok (.aload_n 0, 1) := by decide +kernel
theorem dL_law_524 : decode cL_law 524 = .ok (.iload_n 3, 1) := by decide +kernel
theorem dL_law_525 : decode cL_law 525 = .ok (.iconst 1, 1) := by decide +kernel
theorem dL_law_526 : decode cL_law 526 = .ok (.iadd, 1) := by decide +kernel
theorem dL_law_527 : decode cL_law 527 = .ok (.iaload, 1) := by decide +kernel
theorem dL_law_528 : decode cL_law 528 = .ok (.aload_n 0, 1) := by decide +kernel
theorem dL_law_529 : decode cL_law 529 = .ok (.iload_n 3, 1) := by decide +kernel
theorem dL_law_530 : decode cL_law 530 = .ok (.iconst 2, 1) := by decide +kernel
theorem dL_law_531 : decode cL_law 531 = .ok (.iadd, 1) := by decide +kernel
theorem dL_law_532 : decode cL_law 532 = .ok (.iaload, 1) := by decide +kernel
theorem dL_law_533 : decode cL_law 533 = .ok (.invokevirtual 67, 3) := by decide +kernel
theorem dL_law_536 : decode cL_law 536 = .ok (.if_icmp .eq 646, 3) := by decide +kernel
theorem dL_law_539 : decode cL_law 539 = .ok (.iconst 0, 1) := by decide +kernel
theorem dL_law_540 : decode cL_law 540 = .ok (.ireturn, 1) := by decide +kernel
theorem dL_law_541 : decode cL_law 541 = .ok (.aload_n 1, 1) := by decide +kernel
theorem dL_law_542 : decode cL_law 542 = .ok (.aload_n 0, 1) := by decide +kernel
theorem dL_law_543 : decode cL_law 543 = .ok (.iload_n 3, 1) := by decide +kernel
theorem dL_law_544 : decode cL_law 544 = .ok (.iconst 1, 1) := by decide +kernel
theorem dL_law_545 : decode cL_law 545 = .ok (.iadd, 1) := by decide +kernel
theorem dL_law_546 : decode cL_law 546 = .ok (.iaload, 1) := by decide +kernel
theorem dL_law_547 : decode cL_law 547 = .ok (.invokevirtual 68, 3) := by decide +kernel
theorem dL_law_550 : decode cL_law 550 = .ok (.aload_n 2, 1) := by decide +kernel
theorem dL_law_551 : decode cL_law 551 = .ok (.aload_n 0, 1) := by decide +kernel
theorem dL_law_552 : decode cL_law 552 = .ok (.iload_n 3, 1) := by decide +kernel
theorem dL_law_553 : decode cL_law 553 = .ok (.iconst 1, 1) := by decide +kernel
theorem dL_law_554 : decode cL_law 554 = .ok (.iadd, 1) := by decide +kernel
theorem dL_law_555 : decode cL_law 555 = .ok (.iaload, 1) := by decide +kernel
theorem dL_law_556 : decode cL_law 556 = .ok (.invokevirtual 71, 3) := by decide +kernel
theorem dL_law_559 : decode cL_law 559 = .ok (.if_icmp .eq 623, 3) := by decide +kernel
theorem dL_law_562 : decode cL_law 562 = .ok (.iconst 0, 1) := by decide +kernel
theorem dL_law_563 : decode cL_law 563 = .ok (.ireturn, 1) := by decide +kernel
theorem dL_law_564 : decode cL_law 564 = .ok (.aload_n 1, 1) := by decide +kernel
theorem dL_law_565 : decode cL_law 565 = .ok (.invokevirtual 72, 3) := by decide +kernel
theorem dL_law_568 : decode cL_law 568 = .ok (.aload_n 2, 1) := by decide +kernel
theorem dL_law_569 : decode cL_law 569 = .ok (.invokevirtual 75, 3) := by decide +kernel
theorem dL_law_572 : decode cL_law 572 = .ok (.if_icmp .eq 610, 3) := by decide +kernel
theorem dL_law_575 : decode cL_law 575 = .ok (.iconst 0, 1) := by decide +kernel
theorem dL_law_576 : decode cL_law 576 = .ok (.ireturn, 1) := by decide +kernel
theorem dL_law_577 : decode cL_law 577 = .ok (.aload_n 1, 1) := by decide +kernel
theorem dL_law_578 : decode cL_law 578 = .ok (.invokevirtual 76, 3) := by decide +kernel
theorem dL_law_581 : decode cL_law 581 = .ok (.aload_n 2, 1) := by decide +kernel
theorem dL_law_582 : decode cL_law 582 = .ok (.invokevirtual 79, 3) := by decide +kernel
theorem dL_law_585 : decode cL_law 585 = .ok (.if_icmp .eq 597, 3) := by decide +kernel
theorem dL_law_588 : decode cL_law 588 = .ok (.iconst 0, 1) := by decide +kernel
theorem dL_law_589 : decode cL_law 589 = .ok (.ireturn, 1) := by decide +kernel
theorem dL_law_590 : decode cL_law 590 = .ok (.aload_n 1, 1) := by decide +kernel
theorem dL_law_591 : decode cL_law 591 = .ok (.invokevirtual 80, 3) := by decide +kernel
theorem dL_law_594 : decode cL_law 594 = .ok (.aload_n 2, 1) := by decide +kernel
theorem dL_law_595 : decode cL_law 595 = .ok (.invokevirtual 83, 3) := by decide +kernel
theorem dL_law_598 : decode cL_law 598 = .ok (.if_icmp .eq 584, 3) := by decide +kernel
theorem dL_law_601 : decode cL_law 601 = .ok (.iconst 0, 1) := by decide +kernel
theorem dL_law_602 : decode cL_law 602 = .ok (.ireturn, 1) := by decide +kernel
theorem dL_law_603 : decode cL_law 603 = .ok (.aload_n 1, 1) := by decide +kernel
theorem dL_law_604 : decode cL_law 604 = .ok (.aload_n 0, 1) := by decide +kernel
theorem dL_law_605 : decode cL_law 605 = .ok (.iload_n 3, 1) := by decide +kernel
theorem dL_law_606 : decode cL_law 606 = .ok (.iconst 1, 1) := by decide +kernel
theorem dL_law_607 : decode cL_law 607 = .ok (.iadd, 1) := by decide +kernel
theorem dL_law_608 : decode cL_law 608 = .ok (.iaload, 1) := by decide +kernel
theorem dL_law_609 : decode cL_law 609 = .ok (.invokevirtual 84, 3) := by decide +kernel
theorem dL_law_612 : decode cL_law 612 = .ok (.aload_n 2, 1) := by decide +kernel
theorem dL_law_613 : decode cL_law 613 = .ok (.aload_n 0, 1) := by decide +kernel
theorem dL_law_614 : decode cL_law 614 = .ok (.iload_n 3, 1) := by decide +kernel
theorem dL_law_615 : decode cL_law 615 = .ok (.iconst 1, 1) := by decide +kernel
theorem dL_law_616 : decode cL_law 616 = .ok (.iadd, 1) := by decide +kernel
theorem dL_law_617 : decode cL_law 617 = .ok (.iaload, 1) := by decide +kernel
theorem dL_law_618 : decode cL_law 618 = .ok (.invokevirtual 87, 3) := by decide +kernel
theorem dL_law_621 : decode cL_law 621 = .ok (.if_icmp .eq 561, 3) := by decide +kernel
theorem dL_law_624 : decode cL_law 624 = .ok (.iconst 0, 1) := by decide +kernel
theorem dL_law_625 : decode cL_law 625 = .ok (.ireturn, 1) := by decide +kernel
theorem dL_law_626 : decode cL_law 626 = .ok (.aload_n 1, 1) := by decide +kernel
theorem dL_law_627 : decode cL_law 627 = .ok (.aload_n 0, 1) := by decide +kernel
theorem dL_law_628 : decode cL_law 628 = .ok (.iload_n 3, 1) := by decide +kernel
theorem dL_law_629 : decode cL_law 629 = .ok (.iconst 1, 1) := by decide +kernel
theorem dL_law_630 : decode cL_law 630 = .ok (.iadd, 1) := by decide +kernel
theorem dL_law_631 : decode cL_law 631 = .ok (.iaload, 1) := by decide +kernel
theorem dL_law_632 : decode cL_law 632 = .ok (.invokevirtual 88, 3) := by decide +kernel
theorem dL_law_635 : decode cL_law 635 = .ok (.aload_n 2, 1) := by decide +kernel
theorem dL_law_636 : decode cL_law 636 = .ok (.aload_n 0, 1) := by decide +kernel
theorem dL_law_637 : decode cL_law 637 = .ok (.iload_n 3, 1) := by decide +kernel
theorem dL_law_638 : decode cL_law 638 = .ok (.iconst 1, 1) := by decide +kernel
theorem dL_law_639 : decode cL_law 639 = .ok (.iadd, 1) := by decide +kernel
theorem dL_law_640 : decode cL_law 640 = .ok (.iaload, 1) := by decide +kernel
theorem dL_law_641 : decode cL_law 641 = .ok (.invokevirtual 91, 3) := by decide +kernel
theorem dL_law_644 : decode cL_law 644 = .ok (.if_icmp .eq 538, 3) := by decide +kernel
theorem dL_law_647 : decode cL_law 647 = .ok (.iconst 0, 1) := by decide +kernel
theorem dL_law_648 : decode cL_law 648 = .ok (.ireturn, 1) := by decide +kernel
theorem dL_law_649 : decode cL_law 649 = .ok (.aload_n 1, 1) := by decide +kernel
theorem dL_law_650 : decode cL_law 650 = .ok (.aload_n 0, 1) := by decide +kernel
theorem dL_law_651 : decode cL_law 651 = .ok (.iload_n 3, 1) := by decide +kernel
theorem dL_law_652 : decode cL_law 652 = .ok (.iconst 1, 1) := by decide +kernel
theorem dL_law_653 : decode cL_law 653 = .ok (.iadd, 1) := by decide +kernel
theorem dL_law_654 : decode cL_law 654 = .ok (.iaload, 1) := by decide +kernel
theorem dL_law_655 : decode cL_law 655 = .ok (.invokevirtual 92, 3) := by decide +kernel
theorem dL_law_658 : decode cL_law 658 = .ok (.aload_n 2, 1) := by decide +kernel
theorem dL_law_659 : decode cL_law 659 = .ok (.aload_n 0, 1) := by decide +kernel
theorem dL_law_660 : decode cL_law 660 = .ok (.iload_n 3, 1) := by decide +kernel
theorem dL_law_661 : decode cL_law 661 = .ok (.iconst 1, 1) := by decide +kernel
theorem dL_law_662 : decode cL_law 662 = .ok (.iadd, 1) := by decide +kernel
theorem dL_law_663 : decode cL_law 663 = .ok (.iaload, 1) := by decide +kernel
theorem dL_law_664 : decode cL_law 664 = .ok (.invokevirtual 95, 3) := by decide +kernel
theorem dL_law_667 : decode cL_law 667 = .ok (.if_icmp .eq 515, 3) := by decide +kernel
theorem dL_law_670 : decode cL_law 670 = .ok (.iconst 0, 1) := by decide +kernel
theorem dL_law_671 : decode cL_law 671 = .ok (.ireturn, 1) := by decide +kernel
theorem dL_law_672 : decode cL_law 672 = .ok (.aload_n 1, 1) := by decide +kernel
theorem dL_law_673 : decode cL_law 673 = .ok (.aload_n 0, 1) := by decide +kernel
theorem dL_law_674 : decode cL_law 674 = .ok (.iload_n 3, 1) := by decide +kernel
theorem dL_law_675 : decode cL_law 675 = .ok (.iconst 1, 1) := by decide +kernel
theorem dL_law_676 : decode cL_law 676 = .ok (.iadd, 1) := by decide +kernel
theorem dL_law_677 : decode cL_law 677 = .ok (.iaload, 1) := by decide +kernel
theorem dL_law_678 : decode cL_law 678 = .ok (.invokevirtual 96, 3) := by decide +kernel
theorem dL_law_681 : decode cL_law 681 = .ok (.aload_n 2, 1) := by decide +kernel
theorem dL_law_682 : decode cL_law 682 = .ok (.aload_n 0, 1) := by decide +kernel
theorem dL_law_683 : decode cL_law 683 = .ok (.iload_n 3, 1) := by decide +kernel
theorem dL_law_684 : decode cL_law 684 = .ok (.iconst 1, 1) := by decide +kernel
theorem dL_law_685 : decode cL_law 685 = .ok (.iadd, 1) := by decide +kernel
theorem dL_law_686 : decode cL_law 686 = .ok (.iaload, 1) := by decide +kernel
theorem dL_law_687 : decode cL_law 687 = .ok (.invokevirtual 99, 3) := by decide +kernel
theorem dL_law_690 : decode cL_law 690 = .ok (.if_icmp .eq 492, 3) := by decide +kernel
theorem dL_law_693 : decode cL_law 693 = .ok (.iconst 0, 1) := by decide +kernel
theorem dL_law_694 : decode cL_law 694 = .ok (.ireturn, 1) := by decide +kernel
theorem dL_law_695 : decode cL_law 695 = .ok (.aload_n 1, 1) := by decide +kernel
theorem dL_law_696 : decode cL_law 696 = .ok (.aload_n 0, 1) := by decide +kernel
theorem dL_law_697 : decode cL_law 697 = .ok (.iload_n 3, 1) := by decide +kernel
theorem dL_law_698 : decode cL_law 698 = .ok (.iconst 1, 1) := by decide +kernel
theorem dL_law_699 : decode cL_law 699 = .ok (.iadd, 1) := by decide +kernel
theorem dL_law_700 : decode cL_law 700 = .ok (.iaload, 1) := by decide +kernel
theorem dL_law_701 : decode cL_law 701 = .ok (.aload_n 0, 1) := by decide +kernel
theorem dL_law_702 : decode cL_law 702 = .ok (.iload_n 3, 1) := by decide +kernel
theorem dL_law_703 : decode cL_law 703 = .ok (.iconst 2, 1) := by decide +kernel
theorem dL_law_704 : decode cL_law 704 = .ok (.iadd, 1) := by decide +kernel
theorem dL_law_705 : decode cL_law 705 = .ok (.iaload, 1) := by decide +kernel
theorem dL_law_706 : decode cL_law 706 = .ok (.invokevirtual 100, 3) := by decide +kernel
theorem dL_law_709 : decode cL_law 709 = .ok (.aload_n 2, 1) := by decide +kernel
theorem dL_law_710 : decode cL_law 710 = .ok (.aload_n 0, 1) := by decide +kernel
theorem dL_law_711 : decode cL_law 711 = .ok (.iload_n 3, 1) := by decide +kernel
theorem dL_law_712 : decode cL_law 712 = .ok (.iconst 1, 1) := by decide +kernel
theorem dL_law_713 : decode cL_law 713 = .ok (.iadd, 1) := by decide +kernel
theorem dL_law_714 : decode cL_law 714 = .ok (.iaload, 1) := by decide +kernel
theorem dL_law_715 : decode cL_law 715 = .ok (.aload_n 0, 1) := by decide +kernel
theorem dL_law_716 : decode cL_law 716 = .ok (.iload_n 3, 1) := by decide +kernel
theorem dL_law_717 : decode cL_law 717 = .ok (.iconst 2, 1) := by decide +kernel
theorem dL_law_718 : decode cL_law 718 = .ok (.iadd, 1) := by decide +kernel
theorem dL_law_719 : decode cL_law 719 = .ok (.iaload, 1) := by decide +kernel
theorem dL_law_720 : decode cL_law 720 = .ok (.invokevirtual 103, 3) := by decide +kernel
theorem dL_law_723 : decode cL_law 723 = .ok (.if_icmp .eq 459, 3) := by decide +kernel
theorem dL_law_726 : decode cL_law 726 = .ok (.iconst 0, 1) := by decide +kernel
theorem dL_law_727 : decode cL_law 727 = .ok (.ireturn, 1) := by decide +kernel
theorem dL_law_728 : decode cL_law 728 = .ok (.aload_n 1, 1) := by decide +kernel
theorem dL_law_729 : decode cL_law 729 = .ok (.invokevirtual 104, 3) := by decide +kernel
theorem dL_law_732 : decode cL_law 732 = .ok (.aload_n 2, 1) := by decide +kernel
theorem dL_law_733 : decode cL_law 733 = .ok (.invokevirtual 107, 3) := by decide +kernel
theorem dL_law_736 : decode cL_law 736 = .ok (.if_icmp .eq 446, 3) := by decide +kernel
theorem dL_law_739 : decode cL_law 739 = .ok (.iconst 0, 1) := by decide +kernel
theorem dL_law_740 : decode cL_law 740 = .ok (.ireturn, 1) := by decide +kernel
theorem dL_law_741 : decode cL_law 741 = .ok (.aload_n 1, 1) := by decide +kernel
theorem dL_law_742 : decode cL_law 742 = .ok (.invokevirtual 108, 3) := by decide +kernel
theorem dL_law_745 : decode cL_law 745 = .ok (.aload_n 2, 1) := by decide +kernel
theorem dL_law_746 : decode cL_law 746 = .ok (.invokevirtual 111, 3) := by decide +kernel
theorem dL_law_749 : decode cL_law 749 = .ok (.if_icmp .eq 433, 3) := by decide +kernel
theorem dL_law_752 : decode cL_law 752 = .ok (.iconst 0, 1) := by decide +kernel
theorem dL_law_753 : decode cL_law 753 = .ok (.ireturn, 1) := by decide +kernel
theorem dL_law_754 : decode cL_law 754 = .ok (.aload_n 1, 1) := by decide +kernel
theorem dL_law_755 : decode cL_law 755 = .ok (.aload_n 0, 1) := by decide +kernel
theorem dL_law_756 : decode cL_law 756 = .ok (.iload_n 3, 1) := by decide +kernel
theorem dL_law_757 : decode cL_law 757 = .ok (.iconst 1, 1) := by decide +kernel
theorem dL_law_758 : decode cL_law 758 = .ok (.iadd, 1) := by decide +kernel
theorem dL_law_759 : decode cL_law 759 = .ok (.iaload, 1) := by decide +kernel
theorem dL_law_760 : decode cL_law 760 = .ok (.aload_n 0, 1) := by decide +kernel
theorem dL_law_761 : decode cL_law 761 = .ok (.iload_n 3, 1) := by decide +kernel
theorem dL_law_762 : decode cL_law 762 = .ok (.iconst 2, 1) := by decide +kernel
theorem dL_law_763 : decode cL_law 763 = .ok (.iadd, 1) := by decide +kernel
theorem dL_law_764 : decode cL_law 764 = .ok (.iaload, 1) := by decide +kernel
theorem dL_law_765 : decode cL_law 765 = .ok (.invokevirtual 112, 3) := by decide +kernel
theorem dL_law_768 : decode cL_law 768 = .ok (.aload_n 2, 1) := by decide +kernel
theorem dL_law_769 : decode cL_law 769 = .ok (.aload_n 0, 1) := by decide +kernel
theorem dL_law_770 : decode cL_law 770 = .ok (.iload_n 3, 1) := by decide +kernel
theorem dL_law_771 : decode cL_law 771 = .ok (.iconst 1, 1) := by decide +kernel
theorem dL_law_772 : decode cL_law 772 = .ok (.iadd, 1) := by decide +kernel
theorem dL_law_773 : decode cL_law 773 = .ok (.iaload, 1) := by decide +kernel
theorem dL_law_774 : decode cL_law 774 = .ok (.aload_n 0, 1) := by decide +kernel
theorem dL_law_775 : decode cL_law 775 = .ok (.iload_n 3, 1) := by decide +kernel
theorem dL_law_776 : decode cL_law 776 = .ok (.iconst 2, 1) := by decide +kernel
theorem dL_law_777 : decode cL_law 777 = .ok (.iadd, 1) := by decide +kernel
theorem dL_law_778 : decode cL_law 778 = .ok (.iaload, 1) := by decide +kernel
theorem dL_law_779 : decode cL_law 779 = .ok (.invokevirtual 115, 3) := by decide +kernel
theorem dL_law_782 : decode cL_law 782 = .ok (.if_icmp .eq 400, 3) := by decide +kernel
theorem dL_law_785 : decode cL_law 785 = .ok (.iconst 0, 1) := by decide +kernel
theorem dL_law_786 : decode cL_law 786 = .ok (.ireturn, 1) := by decide +kernel
theorem dL_law_787 : decode cL_law 787 = .ok (.aload_n 1, 1) := by decide +kernel
theorem dL_law_788 : decode cL_law 788 = .ok (.aload_n 0, 1) := by decide +kernel
theorem dL_law_789 : decode cL_law 789 = .ok (.iload_n 3, 1) := by decide +kernel
theorem dL_law_790 : decode cL_law 790 = .ok (.iconst 1, 1) := by decide +kernel
theorem dL_law_791 : decode cL_law 791 = .ok (.iadd, 1) := by decide +kernel
theorem dL_law_792 : decode cL_law 792 = .ok (.iaload, 1) := by decide +kernel
theorem dL_law_793 : decode cL_law 793 = .ok (.invokevirtual 116, 3) := by decide +kernel
theorem dL_law_796 : decode cL_law 796 = .ok (.aload_n 2, 1) := by decide +kernel
theorem dL_law_797 : decode cL_law 797 = .ok (.aload_n 0, 1) := by decide +kernel
theorem dL_law_798 : decode cL_law 798 = .ok (.iload_n 3, 1) := by decide +kernel
theorem dL_law_799 : decode cL_law 799 = .ok (.iconst 1, 1) := by decide +kernel
theorem dL_law_800 : decode cL_law 800 = .ok (.iadd, 1) := by decide +kernel
theorem dL_law_801 : decode cL_law 801 = .ok (.iaload, 1) := by decide +kernel
theorem dL_law_802 : decode cL_law 802 = .ok (.invokevirtual 119, 3) := by decide +kernel
theorem dL_law_805 : decode cL_law 805 = .ok (.if_icmp .eq 377, 3) := by decide +kernel
theorem dL_law_808 : decode cL_law 808 = .ok (.iconst 0, 1) := by decide +kernel
theorem dL_law_809 : decode cL_law 809 = .ok (.ireturn, 1) := by decide +kernel
theorem dL_law_810 : decode cL_law 810 = .ok (.aload_n 1, 1) := by decide +kernel
theorem dL_law_811 : decode cL_law 811 = .ok (.aload_n 0, 1) := by decide +kernel
theorem dL_law_812 : decode cL_law 812 = .ok (.iload_n 3, 1) := by decide +kernel
theorem dL_law_813 : decode cL_law 813 = .ok (.iconst 1, 1) := by decide +kernel
theorem dL_law_814 : decode cL_law 814 = .ok (.iadd, 1) := by decide +kernel
theorem dL_law_815 : decode cL_law 815 = .ok (.iaload, 1) := by decide +kernel
theorem dL_law_816 : decode cL_law 816 = .ok (.aload_n 0, 1) := by decide +kernel
theorem dL_law_817 : decode cL_law 817 = .ok (.iload_n 3, 1) := by decide +kernel
theorem dL_law_818 : decode cL_law 818 = .ok (.iconst 2, 1) := by decide +kernel
theorem dL_law_819 : decode cL_law 819 = .ok (.iadd, 1) := by decide +kernel
theorem dL_law_820 : decode cL_law 820 = .ok (.iaload, 1) := by decide +kernel
theorem dL_law_821 : decode cL_law 821 = .ok (.aload_n 0, 1) := by decide +kernel
theorem dL_law_822 : decode cL_law 822 = .ok (.iload_n 3, 1) := by decide +kernel
theorem dL_law_823 : decode cL_law 823 = .ok (.iconst 3, 1) := by decide +kernel
theorem dL_law_824 : decode cL_law 824 = .ok (.iadd, 1) := by decide +kernel
theorem dL_law_825 : decode cL_law 825 = .ok (.iaload, 1) := by decide +kernel
theorem dL_law_826 : decode cL_law 826 = .ok (.invokevirtual 120, 3) := by decide +kernel
theorem dL_law_829 : decode cL_law 829 = .ok (.aload_n 2, 1) := by decide +kernel
theorem dL_law_830 : decode cL_law 830 = .ok (.aload_n 0, 1) := by decide +kernel
theorem dL_law_831 : decode cL_law 831 = .ok (.iload_n 3, 1) := by decide +kernel
theorem dL_law_832 : decode cL_law 832 = .ok (.iconst 1, 1) := by decide +kernel
theorem dL_law_833 : decode cL_law 833 = .ok (.iadd, 1) := by decide +kernel
theorem dL_law_834 : decode cL_law 834 = .ok (.iaload, 1) := by decide +kernel
theorem dL_law_835 : decode cL_law 835 = .ok (.aload_n 0, 1) := by decide +kernel
theorem dL_law_836 : decode cL_law 836 = .ok (.iload_n 3, 1) := by decide +kernel
theorem dL_law_837 : decode cL_law 837 = .ok (.iconst 2, 1) := by decide +kernel
theorem dL_law_838 : decode cL_law 838 = .ok (.iadd, 1) := by decide +kernel
theorem dL_law_839 : decode cL_law 839 = .ok (.iaload, 1) := by decide +kernel
theorem dL_law_840 : decode cL_law 840 = .ok (.aload_n 0, 1) := by decide +kernel
theorem dL_law_841 : decode cL_law 841 = .ok (.iload_n 3, 1) := by decide +kernel
theorem dL_law_842 : decode cL_law 842 = .ok (.iconst 3, 1) := by decide +kernel
theorem dL_law_843 : decode cL_law 843 = .ok (.iadd, 1) := by decide +kernel
theorem dL_law_844 : decode cL_law 844 = .ok (.iaload, 1) := by decide +kernel
theorem dL_law_845 : decode cL_law 845 = .ok (.invokevirtual 124, 3) := by decide +kernel
theorem dL_law_848 : decode cL_law 848 = .ok (.lcmp, 1) := by decide +kernel
theorem dL_law_849 : decode cL_law 849 = .ok (.ifCond .eq 333, 3) := by decide +kernel
theorem dL_law_852 : decode cL_law 852 = .ok (.iconst 0, 1) := by decide +kernel
theorem dL_law_853 : decode cL_law 853 = .ok (.ireturn, 1) := by decide +kernel
theorem dL_law_854 : decode cL_law 854 = .ok (.aload_n 1, 1) := by decide +kernel
theorem dL_law_855 : decode cL_law 855 = .ok (.aload_n 0, 1) := by decide +kernel
theorem dL_law_856 : decode cL_law 856 = .ok (.iload_n 3, 1) := by decide +kernel
theorem dL_law_857 : decode cL_law 857 = .ok (.iconst 1, 1) := by decide +kernel
theorem dL_law_858 : decode cL_law 858 = .ok (.iadd, 1) := by decide +kernel
theorem dL_law_859 : decode cL_law 859 = .ok (.iaload, 1) := by decide +kernel
theorem dL_law_860 : decode cL_law 860 = .ok (.aload_n 0, 1) := by decide +kernel
theorem dL_law_861 : decode cL_law 861 = .ok (.iload_n 3, 1) := by decide +kernel
theorem dL_law_862 : decode cL_law 862 = .ok (.iconst 2, 1) := by decide +kernel
theorem dL_law_863 : decode cL_law 863 = .ok (.iadd, 1) := by decide +kernel
theorem dL_law_864 : decode cL_law 864 = .ok (.iaload, 1) := by decide +kernel
theorem dL_law_865 : decode cL_law 865 = .ok (.aload_n 0, 1) := by decide +kernel
theorem dL_law_866 : decode cL_law 866 = .ok (.iload_n 3, 1) := by decide +kernel
theorem dL_law_867 : decode cL_law 867 = .ok (.iconst 3, 1) := by decide +kernel
theorem dL_law_868 : decode cL_law 868 = .ok (.iadd, 1) := by decide +kernel
theorem dL_law_869 : decode cL_law 869 = .ok (.iaload, 1) := by decide +kernel
theorem dL_law_870 : decode cL_law 870 = .ok (.invokevirtual 125, 3) := by decide +kernel
theorem dL_law_873 : decode cL_law 873 = .ok (.aload_n 2, 1) := by decide +kernel
theorem dL_law_874 : decode cL_law 874 = .ok (.aload_n 0, 1) := by decide +kernel
theorem dL_law_875 : decode cL_law 875 = .ok (.iload_n 3, 1) := by decide +kernel
theorem dL_law_876 : decode cL_law 876 = .ok (.iconst 1, 1) := by decide +kernel
theorem dL_law_877 : decode cL_law 877 = .ok (.iadd, 1) := by decide +kernel
theorem dL_law_878 : decode cL_law 878 = .ok (.iaload, 1) := by decide +kernel
theorem dL_law_879 : decode cL_law 879 = .ok (.aload_n 0, 1) := by decide +kernel
theorem dL_law_880 : decode cL_law 880 = .ok (.iload_n 3, 1) := by decide +kernel
theorem dL_law_881 : decode cL_law 881 = .ok (.iconst 2, 1) := by decide +kernel
theorem dL_law_882 : decode cL_law 882 = .ok (.iadd, 1) := by decide +kernel
theorem dL_law_883 : decode cL_law 883 = .ok (.iaload, 1) := by decide +kernel
theorem dL_law_884 : decode cL_law 884 = .ok (.aload_n 0, 1) := by decide +kernel
theorem dL_law_885 : decode cL_law 885 = .ok (.iload_n 3, 1) := by decide +kernel
theorem dL_law_886 : decode cL_law 886 = .ok (.iconst 3, 1) := by decide +kernel
theorem dL_law_887 : decode cL_law 887 = .ok (.iadd, 1) := by decide +kernel
theorem dL_law_888 : decode cL_law 888 = .ok (.iaload, 1) := by decide +kernel
theorem dL_law_889 : decode cL_law 889 = .ok (.invokevirtual 129, 3) := by decide +kernel
theorem dL_law_892 : decode cL_law 892 = .ok (.if_icmp .eq 290, 3) := by decide +kernel
theorem dL_law_895 : decode cL_law 895 = .ok (.iconst 0, 1) := by decide +kernel
theorem dL_law_896 : decode cL_law 896 = .ok (.ireturn, 1) := by decide +kernel
theorem dL_law_897 : decode cL_law 897 = .ok (.aload_n 1, 1) := by decide +kernel
theorem dL_law_898 : decode cL_law 898 = .ok (.aload_n 0, 1) := by decide +kernel
theorem dL_law_899 : decode cL_law 899 = .ok (.iload_n 3, 1) := by decide +kernel
theorem dL_law_900 : decode cL_law 900 = .ok (.iconst 1, 1) := by decide +kernel
theorem dL_law_901 : decode cL_law 901 = .ok (.iadd, 1) := by decide +kernel
theorem dL_law_902 : decode cL_law 902 = .ok (.iaload, 1) := by decide +kernel
theorem dL_law_903 : decode cL_law 903 = .ok (.aload_n 0, 1) := by decide +kernel
theorem dL_law_904 : decode cL_law 904 = .ok (.iload_n 3, 1) := by decide +kernel
theorem dL_law_905 : decode cL_law 905 = .ok (.iconst 2, 1) := by decide +kernel
theorem dL_law_906 : decode cL_law 906 = .ok (.iadd, 1) := by decide +kernel
theorem dL_law_907 : decode cL_law 907 = .ok (.iaload, 1) := by decide +kernel
theorem dL_law_908 : decode cL_law 908 = .ok (.aload_n 0, 1) := by decide +kernel
theorem dL_law_909 : decode cL_law 909 = .ok (.iload_n 3, 1) := by decide +kernel
theorem dL_law_910 : decode cL_law 910 = .ok (.iconst 3, 1) := by decide +kernel
theorem dL_law_911 : decode cL_law 911 = .ok (.iadd, 1) := by decide +kernel
theorem dL_law_912 : decode cL_law 912 = .ok (.iaload, 1) := by decide +kernel
theorem dL_law_913 : decode cL_law 913 = .ok (.invokevirtual 130, 3) := by decide +kernel
theorem dL_law_916 : decode cL_law 916 = .ok (.aload_n 2, 1) := by decide +kernel
theorem dL_law_917 : decode cL_law 917 = .ok (.aload_n 0, 1) := by decide +kernel
theorem dL_law_918 : decode cL_law 918 = .ok (.iload_n 3, 1) := by decide +kernel
theorem dL_law_919 : decode cL_law 919 = .ok (.iconst 1, 1) := by decide +kernel
theorem dL_law_920 : decode cL_law 920 = .ok (.iadd, 1) := by decide +kernel
theorem dL_law_921 : decode cL_law 921 = .ok (.iaload, 1) := by decide +kernel
theorem dL_law_922 : decode cL_law 922 = .ok (.aload_n 0, 1) := by decide +kernel
theorem dL_law_923 : decode cL_law 923 = .ok (.iload_n 3, 1) := by decide +kernel
theorem dL_law_924 : decode cL_law 924 = .ok (.iconst 2, 1) := by decide +kernel
theorem dL_law_925 : decode cL_law 925 = .ok (.iadd, 1) := by decide +kernel
theorem dL_law_926 : decode cL_law 926 = .ok (.iaload, 1) := by decide +kernel
theorem dL_law_927 : decode cL_law 927 = .ok (.aload_n 0, 1) := by decide +kernel
theorem dL_law_928 : decode cL_law 928 = .ok (.iload_n 3, 1) := by decide +kernel
theorem dL_law_929 : decode cL_law 929 = .ok (.iconst 3, 1) := by decide +kernel
theorem dL_law_930 : decode cL_law 930 = .ok (.iadd, 1) := by decide +kernel
theorem dL_law_931 : decode cL_law 931 = .ok (.iaload, 1) := by decide +kernel
theorem dL_law_932 : decode cL_law 932 = .ok (.invokevirtual 133, 3) := by decide +kernel
theorem dL_law_935 : decode cL_law 935 = .ok (.if_icmp .eq 247, 3) := by decide +kernel
theorem dL_law_938 : decode cL_law 938 = .ok (.iconst 0, 1) := by decide +kernel
theorem dL_law_939 : decode cL_law 939 = .ok (.ireturn, 1) := by decide +kernel
theorem dL_law_940 : decode cL_law 940 = .ok (.aload_n 1, 1) := by decide +kernel
theorem dL_law_941 : decode cL_law 941 = .ok (.aload_n 0, 1) := by decide +kernel
theorem dL_law_942 : decode cL_law 942 = .ok (.iload_n 3, 1) := by decide +kernel
theorem dL_law_943 : decode cL_law 943 = .ok (.iconst 1, 1) := by decide +kernel
theorem dL_law_944 : decode cL_law 944 = .ok (.iadd, 1) := by decide +kernel
theorem dL_law_945 : decode cL_law 945 = .ok (.iaload, 1) := by decide +kernel
theorem dL_law_946 : decode cL_law 946 = .ok (.invokevirtual 134, 3) := by decide +kernel
theorem dL_law_949 : decode cL_law 949 = .ok (.aload_n 2, 1) := by decide +kernel
theorem dL_law_950 : decode cL_law 950 = .ok (.aload_n 0, 1) := by decide +kernel
theorem dL_law_951 : decode cL_law 951 = .ok (.iload_n 3, 1) := by decide +kernel
theorem dL_law_952 : decode cL_law 952 = .ok (.iconst 1, 1) := by decide +kernel
theorem dL_law_953 : decode cL_law 953 = .ok (.iadd, 1) := by decide +kernel
theorem dL_law_954 : decode cL_law 954 = .ok (.iaload, 1) := by decide +kernel
theorem dL_law_955 : decode cL_law 955 = .ok (.invokevirtual 137, 3) := by decide +kernel
theorem dL_law_958 : decode cL_law 958 = .ok (.if_icmp .eq 224, 3) := by decide +kernel
theorem dL_law_961 : decode cL_law 961 = .ok (.iconst 0, 1) := by decide +kernel
theorem dL_law_962 : decode cL_law 962 = .ok (.ireturn, 1) := by decide +kernel
theorem dL_law_963 : decode cL_law 963 = .ok (.aload_n 1, 1) := by decide +kernel
theorem dL_law_964 : decode cL_law 964 = .ok (.aload_n 0, 1) := by decide +kernel
theorem dL_law_965 : decode cL_law 965 = .ok (.iload_n 3, 1) := by decide +kernel
theorem dL_law_966 : decode cL_law 966 = .ok (.iconst 1, 1) := by decide +kernel
theorem dL_law_967 : decode cL_law 967 = .ok (.iadd, 1) := by decide +kernel
theorem dL_law_968 : decode cL_law 968 = .ok (.iaload, 1) := by decide +kernel
theorem dL_law_969 : decode cL_law 969 = .ok (.aload_n 0, 1) := by decide +kernel
theorem dL_law_970 : decode cL_law 970 = .ok (.iload_n 3, 1) := by decide +kernel
theorem dL_law_971 : decode cL_law 971 = .ok (.iconst 2, 1) := by decide +kernel
theorem dL_law_972 : decode cL_law 972 = .ok (.iadd, 1) := by decide +kernel
theorem dL_law_973 : decode cL_law 973 = .ok (.iaload, 1) := by decide +kernel
theorem dL_law_974 : decode cL_law 974 = .ok (.aload_n 0, 1) := by decide +kernel
theorem dL_law_975 : decode cL_law 975 = .ok (.iload_n 3, 1) := by decide +kernel
theorem dL_law_976 : decode cL_law 976 = .ok (.iconst 3, 1) := by decide +kernel
theorem dL_law_977 : decode cL_law 977 = .ok (.iadd, 1) := by decide +kernel
theorem dL_law_978 : decode cL_law 978 = .ok (.iaload, 1) := by decide +kernel
theorem dL_law_979 : decode cL_law 979 = .ok (.aload_n 0, 1) := by decide +kernel
theorem dL_law_980 : decode cL_law 980 = .ok (.iload_n 3, 1) := by decide +kernel
theorem dL_law_981 : decode cL_law 981 = .ok (.iconst 4, 1) := by decide +kernel
theorem dL_law_982 : decode cL_law 982 = .ok (.iadd, 1) := by decide +kernel
theorem dL_law_983 : decode cL_law 983 = .ok (.iaload, 1) := by decide +kernel
theorem dL_law_984 : decode cL_law 984 = .ok (.invokevirtual 138, 3) := by decide +kernel
theorem dL_law_987 : decode cL_law 987 = .ok (.aload_n 2, 1) := by decide +kernel
theorem dL_law_988 : decode cL_law 988 = .ok (.aload_n 0, 1) := by decide +kernel
theorem dL_law_989 : decode cL_law 989 = .ok (.iload_n 3, 1) := by decide +kernel
theorem dL_law_990 : decode cL_law 990 = .ok (.iconst 1, 1) := by decide +kernel
theorem dL_law_991 : decode cL_law 991 = .ok (.iadd, 1) := by decide +kernel
theorem dL_law_992 : decode cL_law 992 = .ok (.iaload, 1) := by decide +kernel
theorem dL_law_993 : decode cL_law 993 = .ok (.aload_n 0, 1) := by decide +kernel
theorem dL_law_994 : decode cL_law 994 = .ok (.iload_n 3, 1) := by decide +kernel
theorem dL_law_995 : decode cL_law 995 = .ok (.iconst 2, 1) := by decide +kernel
theorem dL_law_996 : decode cL_law 996 = .ok (.iadd, 1) := by decide +kernel
theorem dL_law_997 : decode cL_law 997 = .ok (.iaload, 1) := by decide +kernel
theorem dL_law_998 : decode cL_law 998 = .ok (.aload_n 0, 1) := by decide +kernel
theorem dL_law_999 : decode cL_law 999 = .ok (.iload_n 3, 1) := by decide +kernel
theorem dL_law_1000 : decode cL_law 1000 = .ok (.iconst 3, 1) := by decide +kernel
theorem dL_law_1001 : decode cL_law 1001 = .ok (.iadd, 1) := by decide +kernel
theorem dL_law_1002 : decode cL_law 1002 = .ok (.iaload, 1) := by decide +kernel
theorem dL_law_1003 : decode cL_law 1003 = .ok (.aload_n 0, 1) := by decide +kernel
theorem dL_law_1004 : decode cL_law 1004 = .ok (.iload_n 3, 1) := by decide +kernel
theorem dL_law_1005 : decode cL_law 1005 = .ok (.iconst 4, 1) := by decide +kernel
theorem dL_law_1006 : decode cL_law 1006 = .ok (.iadd, 1) := by decide +kernel
theorem dL_law_1007 : decode cL_law 1007 = .ok (.iaload, 1) := by decide +kernel
theorem dL_law_1008 : decode cL_law 1008 = .ok (.invokevirtual 142, 3) := by decide +kernel
theorem dL_law_1011 : decode cL_law 1011 = .ok (.if_icmp .eq 171, 3) := by decide +kernel
theorem dL_law_1014 : decode cL_law 1014 = .ok (.iconst 0, 1) := by decide +kernel
theorem dL_law_1015 : decode cL_law 1015 = .ok (.ireturn, 1) := by decide +kernel
theorem dL_law_1016 : decode cL_law 1016 = .ok (.aload_n 1, 1) := by decide +kernel
theorem dL_law_1017 : decode cL_law 1017 = .ok (.aload_n 0, 1) := by decide +kernel
theorem dL_law_1018 : decode cL_law 1018 = .ok (.iload_n 3, 1) := by decide +kernel
theorem dL_law_1019 : decode cL_law 1019 = .ok (.iconst 1, 1) := by decide +kernel
theorem dL_law_1020 : decode cL_law 1020 = .ok (.iadd, 1) := by decide +kernel
theorem dL_law_1021 : decode cL_law 1021 = .ok (.iaload, 1) := by decide +kernel
theorem dL_law_1022 : decode cL_law 1022 = .ok (.aload_n 0, 1) := by decide +kernel
theorem dL_law_1023 : decode cL_law 1023 = .ok (.iload_n 3, 1) := by decide +kernel
theorem dL_law_1024 : decode cL_law 1024 = .ok (.iconst 2, 1) := by decide +kernel
theorem dL_law_1025 : decode cL_law 1025 = .ok (.iadd, 1) := by decide +kernel
theorem dL_law_1026 : decode cL_law 1026 = .ok (.iaload, 1) := by decide +kernel
theorem dL_law_1027 : decode cL_law 1027 = .ok (.aload_n 0, 1) := by decide +kernel
theorem dL_law_1028 : decode cL_law 1028 = .ok (.iload_n 3, 1) := by decide +kernel
theorem dL_law_1029 : decode cL_law 1029 = .ok (.iconst 3, 1) := by decide +kernel
theorem dL_law_1030 : decode cL_law 1030 = .ok (.iadd, 1) := by decide +kernel
theorem dL_law_1031 : decode cL_law 1031 = .ok (.iaload, 1) := by decide +kernel
theorem dL_law_1032 : decode cL_law 1032 = .ok (.invokevirtual 143, 3) := by decide +kernel
theorem dL_law_1035 : decode cL_law 1035 = .ok (.aload_n 2, 1) := by decide +kernel
theorem dL_law_1036 : decode cL_law 1036 = .ok (.aload_n 0, 1) := by decide +kernel
theorem dL_law_1037 : decode cL_law 1037 = .ok (.iload_n 3, 1) := by decide +kernel
theorem dL_law_1038 : decode cL_law 1038 = .ok (.iconst 1, 1) := by decide +kernel
theorem dL_law_1039 : decode cL_law 1039 = .ok (.iadd, 1) := by decide +kernel
theorem dL_law_1040 : decode cL_law 1040 = .ok (.iaload, 1) := by decide +kernel
theorem dL_law_1041 : decode cL_law 1041 = .ok (.aload_n 0, 1) := by decide +kernel
theorem dL_law_1042 : decode cL_law 1042 = .ok (.iload_n 3, 1) := by decide +kernel
theorem dL_law_1043 : decode cL_law 1043 = .ok (.iconst 2, 1) := by decide +kernel
theorem dL_law_1044 : decode cL_law 1044 = .ok (.iadd, 1) := by decide +kernel
theorem dL_law_1045 : decode cL_law 1045 = .ok (.iaload, 1) := by decide +kernel
theorem dL_law_1046 : decode cL_law 1046 = .ok (.aload_n 0, 1) := by decide +kernel
theorem dL_law_1047 : decode cL_law 1047 = .ok (.iload_n 3, 1) := by decide +kernel
theorem dL_law_1048 : decode cL_law 1048 = .ok (.iconst 3, 1) := by decide +kernel
theorem dL_law_1049 : decode cL_law 1049 = .ok (.iadd, 1) := by decide +kernel
theorem dL_law_1050 : decode cL_law 1050 = .ok (.iaload, 1) := by decide +kernel
theorem dL_law_1051 : decode cL_law 1051 = .ok (.invokevirtual 146, 3) := by decide +kernel
theorem dL_law_1054 : decode cL_law 1054 = .ok (.if_icmp .eq 128, 3) := by decide +kernel
theorem dL_law_1057 : decode cL_law 1057 = .ok (.iconst 0, 1) := by decide +kernel
theorem dL_law_1058 : decode cL_law 1058 = .ok (.ireturn, 1) := by decide +kernel
theorem dL_law_1059 : decode cL_law 1059 = .ok (.aload_n 1, 1) := by decide +kernel
theorem dL_law_1060 : decode cL_law 1060 = .ok (.aload_n 0, 1) := by decide +kernel
theorem dL_law_1061 : decode cL_law 1061 = .ok (.iload_n 3, 1) := by decide +kernel
theorem dL_law_1062 : decode cL_law 1062 = .ok (.iconst 1, 1) := by decide +kernel
theorem dL_law_1063 : decode cL_law 1063 = .ok (.iadd, 1) := by decide +kernel
theorem dL_law_1064 : decode cL_law 1064 = .ok (.iaload, 1) := by decide +kernel
theorem dL_law_1065 : decode cL_law 1065 = .ok (.aload_n 0, 1) := by decide +kernel
theorem dL_law_1066 : decode cL_law 1066 = .ok (.iload_n 3, 1) := by decide +kernel
theorem dL_law_1067 : decode cL_law 1067 = .ok (.iconst 2, 1) := by decide +kernel
theorem dL_law_1068 : decode cL_law 1068 = .ok (.iadd, 1) := by decide +kernel
theorem dL_law_1069 : decode cL_law 1069 = .ok (.iaload, 1) := by decide +kernel
theorem dL_law_1070 : decode cL_law 1070 = .ok (.aload_n 0, 1) := by decide +kernel
theorem dL_law_1071 : decode cL_law 1071 = .ok (.iload_n 3, 1) := by decide +kernel
theorem dL_law_1072 : decode cL_law 1072 = .ok (.iconst 3, 1) := by decide +kernel
theorem dL_law_1073 : decode cL_law 1073 = .ok (.iadd, 1) := by decide +kernel
theorem dL_law_1074 : decode cL_law 1074 = .ok (.iaload, 1) := by decide +kernel
theorem dL_law_1075 : decode cL_law 1075 = .ok (.aload_n 0, 1) := by decide +kernel
theorem dL_law_1076 : decode cL_law 1076 = .ok (.iload_n 3, 1) := by decide +kernel
theorem dL_law_1077 : decode cL_law 1077 = .ok (.iconst 4, 1) := by decide +kernel
theorem dL_law_1078 : decode cL_law 1078 = .ok (.iadd, 1) := by decide +kernel
theorem dL_law_1079 : decode cL_law 1079 = .ok (.iaload, 1) := by decide +kernel
theorem dL_law_1080 : decode cL_law 1080 = .ok (.aload_n 0, 1) := by decide +kernel
theorem dL_law_1081 : decode cL_law 1081 = .ok (.iload_n 3, 1) := by decide +kernel
theorem dL_law_1082 : decode cL_law 1082 = .ok (.iconst 5, 1) := by decide +kernel
theorem dL_law_1083 : decode cL_law 1083 = .ok (.iadd, 1) := by decide +kernel
theorem dL_law_1084 : decode cL_law 1084 = .ok (.iaload, 1) := by decide +kernel
theorem dL_law_1085 : decode cL_law 1085 = .ok (.invokevirtual 147, 3) := by decide +kernel
theorem dL_law_1088 : decode cL_law 1088 = .ok (.aload_n 2, 1) := by decide +kernel
theorem dL_law_1089 : decode cL_law 1089 = .ok (.aload_n 0, 1) := by decide +kernel
theorem dL_law_1090 : decode cL_law 1090 = .ok (.iload_n 3, 1) := by decide +kernel
theorem dL_law_1091 : decode cL_law 1091 = .ok (.iconst 1, 1) := by decide +kernel
theorem dL_law_1092 : decode cL_law 1092 = .ok (.iadd, 1) := by decide +kernel
theorem dL_law_1093 : decode cL_law 1093 = .ok (.iaload, 1) := by decide +kernel
theorem dL_law_1094 : decode cL_law 1094 = .ok (.aload_n 0, 1) := by decide +kernel
theorem dL_law_1095 : decode cL_law 1095 = .ok (.iload_n 3, 1) := by decide +kernel
theorem dL_law_1096 : decode cL_law 1096 = .ok (.iconst 2, 1) := by decide +kernel
theorem dL_law_1097 : decode cL_law 1097 = .ok (.iadd, 1) := by decide +kernel
theorem dL_law_1098 : decode cL_law 1098 = .ok (.iaload, 1) := by decide +kernel
theorem dL_law_1099 : decode cL_law 1099 = .ok (.aload_n 0, 1) := by decide +kernel
theorem dL_law_1100 : decode cL_law 1100 = .ok (.iload_n 3, 1) := by decide +kernel
theorem dL_law_1101 : decode cL_law 1101 = .ok (.iconst 3, 1) := by decide +kernel
theorem dL_law_1102 : decode cL_law 1102 = .ok (.iadd, 1) := by decide +kernel
theorem dL_law_1103 : decode cL_law 1103 = .ok (.iaload, 1) := by decide +kernel
theorem dL_law_1104 : decode cL_law 1104 = .ok (.aload_n 0, 1) := by decide +kernel
theorem dL_law_1105 : decode cL_law 1105 = .ok (.iload_n 3, 1) := by decide +kernel
theorem dL_law_1106 : decode cL_law 1106 = .ok (.iconst 4, 1) := by decide +kernel
theorem dL_law_1107 : decode cL_law 1107 = .ok (.iadd, 1) := by decide +kernel
theorem dL_law_1108 : decode cL_law 1108 = .ok (.iaload, 1) := by decide +kernel
theorem dL_law_1109 : decode cL_law 1109 = .ok (.aload_n 0, 1) := by decide +kernel
theorem dL_law_1110 : decode cL_law 1110 = .ok (.iload_n 3, 1) := by decide +kernel
theorem dL_law_1111 : decode cL_law 1111 = .ok (.iconst 5, 1) := by decide +kernel
theorem dL_law_1112 : decode cL_law 1112 = .ok (.iadd, 1) := by decide +kernel
theorem dL_law_1113 : decode cL_law 1113 = .ok (.iaload, 1) := by decide +kernel
theorem dL_law_1114 : decode cL_law 1114 = .ok (.invokevirtual 151, 3) := by decide +kernel
theorem dL_law_1117 : decode cL_law 1117 = .ok (.if_icmp .eq 65, 3) := by decide +kernel
theorem dL_law_1120 : decode cL_law 1120 = .ok (.iconst 0, 1) := by decide +kernel
theorem dL_law_1121 : decode cL_law 1121 = .ok (.ireturn, 1) := by decide +kernel
theorem dL_law_1122 : decode cL_law 1122 = .ok (.aload_n 1, 1) := by decide +kernel
theorem dL_law_1123 : decode cL_law 1123 = .ok (.aload_n 0, 1) := by decide +kernel
theorem dL_law_1124 : decode cL_law 1124 = .ok (.iload_n 3, 1) := by decide +kernel
theorem dL_law_1125 : decode cL_law 1125 = .ok (.iconst 1, 1) := by decide +kernel
theorem dL_law_1126 : decode cL_law 1126 = .ok (.iadd, 1) := by decide +kernel
theorem dL_law_1127 : decode cL_law 1127 = .ok (.iaload, 1) := by decide +kernel
theorem dL_law_1128 : decode cL_law 1128 = .ok (.invokevirtual 152, 3) := by decide +kernel
theorem dL_law_1131 : decode cL_law 1131 = .ok (.aload_n 2, 1) := by decide +kernel
theorem dL_law_1132 : decode cL_law 1132 = .ok (.aload_n 0, 1) := by decide +kernel
theorem dL_law_1133 : decode cL_law 1133 = .ok (.iload_n 3, 1) := by decide +kernel
theorem dL_law_1134 : decode cL_law 1134 = .ok (.iconst 1, 1) := by decide +kernel
theorem dL_law_1135 : decode cL_law 1135 = .ok (.iadd, 1) := by decide +kernel
theorem dL_law_1136 : decode cL_law 1136 = .ok (.iaload, 1) := by decide +kernel
theorem dL_law_1137 : decode cL_law 1137 = .ok (.invokevirtual 155, 3) := by decide +kernel
theorem dL_law_1140 : decode cL_law 1140 = .ok (.if_icmp .eq 42, 3) := by decide +kernel
theorem dL_law_1143 : decode cL_law 1143 = .ok (.iconst 0, 1) := by decide +kernel
theorem dL_law_1144 : decode cL_law 1144 = .ok (.ireturn, 1) := by decide +kernel
theorem dL_law_1145 : decode cL_law 1145 = .ok (.aload_n 1, 1) := by decide +kernel
theorem dL_law_1146 : decode cL_law 1146 = .ok (.aload_n 0, 1) := by decide +kernel
theorem dL_law_1147 : decode cL_law 1147 = .ok (.iload_n 3, 1) := by decide +kernel
theorem dL_law_1148 : decode cL_law 1148 = .ok (.iconst 1, 1) := by decide +kernel
theorem dL_law_1149 : decode cL_law 1149 = .ok (.iadd, 1) := by decide +kernel
theorem dL_law_1150 : decode cL_law 1150 = .ok (.iaload, 1) := by decide +kernel
theorem dL_law_1151 : decode cL_law 1151 = .ok (.invokevirtual 156, 3) := by decide +kernel
theorem dL_law_1154 : decode cL_law 1154 = .ok (.aload_n 2, 1) := by decide +kernel
theorem dL_law_1155 : decode cL_law 1155 = .ok (.aload_n 0, 1) := by decide +kernel
theorem dL_law_1156 : decode cL_law 1156 = .ok (.iload_n 3, 1) := by decide +kernel
theorem dL_law_1157 : decode cL_law 1157 = .ok (.iconst 1, 1) := by decide +kernel
theorem dL_law_1158 : decode cL_law 1158 = .ok (.iadd, 1) := by decide +kernel
theorem dL_law_1159 : decode cL_law 1159 = .ok (.iaload, 1) := by decide +kernel
theorem dL_law_1160 : decode cL_law 1160 = .ok (.invokevirtual 159, 3) := by decide +kernel
theorem dL_law_1163 : decode cL_law 1163 = .ok (.if_icmp .eq 19, 3) := by decide +kernel
theorem dL_law_1166 : decode cL_law 1166 = .ok (.iconst 0, 1) := by decide +kernel
theorem dL_law_1167 : decode cL_law 1167 = .ok (.ireturn, 1) := by decide +kernel
theorem dL_law_1168 : decode cL_law 1168 = .ok (.aload_n 1, 1) := by decide +kernel
theorem dL_law_1169 : decode cL_law 1169 = .ok (.invokevirtual 160, 3) := by decide +kernel
theorem dL_law_1172 : decode cL_law 1172 = .ok (.aload_n 2, 1) := by decide +kernel
theorem dL_law_1173 : decode cL_law 1173 = .ok (.invokevirtual 164, 3) := by decide +kernel
theorem dL_law_1176 : decode cL_law 1176 = .ok (.lcmp, 1) := by decide +kernel
theorem dL_law_1177 : decode cL_law 1177 = .ok (.ifCond .eq 5, 3) := by decide +kernel
theorem dL_law_1180 : decode cL_law 1180 = .ok (.iconst 0, 1) := by decide +kernel
theorem dL_law_1181 : decode cL_law 1181 = .ok (.ireturn, 1) := by decide +kernel
theorem dL_law_1182 : decode cL_law 1182 = .ok (.iinc 3 6, 3) := by decide +kernel
theorem dL_law_1185 : decode cL_law 1185 = .ok (.goto (-1167), 3) := by decide +kernel
theorem dL_law_1188 : decode cL_law 1188 = .ok (.iconst 1, 1) := by decide +kernel
theorem dL_law_1189 : decode cL_law 1189 = .ok (.ireturn, 1) := by decide +kernel
end
section
/-- what each of the 81 cells is -/
def sy_shp : List (Nat ⊕ (Nat × Nat × Nat) ⊕ (Nat × List (Option Nat))) := [
  .inr (.inr (6, [some 1, some 3, some 5, some 15, some 25, some 34, some 43, some 46, some 47, some 48, some 49, some 50, some 51, some 52, none, none, none])),
  .inr (.inr (5, [none, none, none, some 1, none])),
  .inl 47,
  .inr (.inr (5, [none, none, none, some 1, none])),
  .inl 47,
  .inr (.inr (0, [none, some 1, some 2, some 3, some 4, none, some 5, some 6, some 7, none, none, some 8, some 9, none, none])),
  .inl 11,
  .inl 11,
  .inl 11,
  .inl 11,
  .inl 16,
  .inl 16,
  .inl 24,
  .inl 8,
  .inl 8,
  .inr (.inr (0, [none, some 1, some 2, some 3, some 4, none, some 5, some 6, some 7, none, none, some 8, some 9, none, none])),
  .inl 11,
  .inl 11,
  .inl 11,
  .inl 11,
  .inl 16,
  .inl 16,
  .inl 24,
  .inl 8,
  .inl 8,
  .inr (.inr (3, [some 1, some 2, some 3, some 4, some 5, some 6, some 7, none, none, none, none, none, some 8, none, none, none, none])),
  .inl 24,
  .inl 24,
  .inl 24,
  .inl 16,
  .inl 11,
  .inl 11,
  .inl 11,
  .inl 24,
  .inr (.inr (3, [some 1, some 2, some 3, some 4, some 5, some 6, some 7, none, none, none, none, none, some 8, none, none, none, none])),
  .inl 24,
  .inl 24,
  .inl 24,
  .inl 16,
  .inl 11,
  .inl 11,
  .inl 11,
  .inl 24,
  .inr (.inr (2, [some 1, some 2, none])),
  .inl 8,
  .inl 8,
  .inr (.inr (1, [none, none, none, none])),
  .inr (.inr (1, [none, none, none, none])),
  .inr (.inr (1, [none, none, none, none])),
  .inr (.inr (1, [none, none, none, none])),
  .inl 256,
  .inl 48,
  .inr (.inl (4, 53, 2)),
  .inr (.inr (4, [none, none, none, some 1])),
  .inl 60,
  .inr (.inr (4, [none, none, none, some 1])),
  .inl 60,
  .inr (.inr (4, [none, none, none, some 1])),
  .inl 60,
  .inr (.inr (4, [none, none, none, some 1])),
  .inl 60,
  .inr (.inr (7, [some 1, some 2, some 3, some 4, none, some 5, some 6, none, some 7, none, some 8, none, none, some 9, none, none, none, none, none, none, some 10, some 11, some 12, some 13, some 14, some 15, some 16, some 17, none, some 18, some 19, none])),
  .inl 4,
  .inl 4,
  .inl 240,
  .inl 60,
  .inl 96,
  .inl 2,
  .inl 22,
  .inl 32,
  .inl 16,
  .inl 24,
  .inl 24,
  .inl 24,
  .inl 16,
  .inl 11,
  .inl 11,
  .inl 11,
  .inl 11,
  .inl 16,
  .inl 64]
/-! ===== the store: every cell that the two constructors make, by number; all that changes later is ints ===== -/
abbrev St : Type := Nat → Nat → Int32
def sy_up (σ : St) (k : Nat) (f : Nat → Int32) : St := fun a => if a = k then f else σ a
def sy_sf (σ : St) (k j : Nat) (v : Int32) : St := sy_up σ k (upd (σ k) j v)
abbrev sy_ix (i : Int32) : Nat := i.toNatClampNeg
def sy_gd {γ : Type} (i : Int32) (n : Nat) (r : Option γ) : Option γ := if i < 0 ∨ n ≤ i.toNatClampNeg then none else r
def sy_dv {γ : Type} (y : Int32) (r : Option γ) : Option γ := if y = 0 then none else r
def sy_dl {γ : Type} (y : Int64) (r : Option γ) : Option γ := if y = 0 then none else r
def sy_zg {γ : Type} (v : Int32) (r : Option γ) : Option γ := if v = 0 ∨ v = 1 then r else none
def sy_bd {β γ : Type} (r : Option (β × St)) (k : β → St → Option (γ × St)) : Option (γ × St) := match r with
  | some q => k q.1 q.2
  | none => none
def sy_lt {δ γ : Type} (x : δ) (k : δ → γ) : γ := k x
def sy_cg {γ : Type} (sp dp n : Int32) (n0 n1 : Nat) (r : Option γ) : Option γ := if sp < 0 ∨ dp < 0 ∨ n < 0 ∨ n0 < sp.toNatClampNeg + n.toNatClampNeg ∨ n1 < dp.toNatClampNeg + n.toNatClampNeg then none else r
def sy_cp (σ : St) (k0 : Nat) (sp : Int32) (k1 : Nat) (dp n : Int32) : St := sy_up σ k1 (va_cpy (σ k0) (σ k1) sp.toNatClampNeg dp.toNatClampNeg n.toNatClampNeg)
/-- the kinds of cell: an int array of n; an array of n references, the j-th to cell a + b j; an object of a class, its fields: ints, or a reference to the cell so many further -/
abbrev Sh : Type := Nat ⊕ (Nat × Nat × Nat) ⊕ (Nat × List (Option Nat))
def sy_vm (ad : Nat → Nat) (v : Value) : Value := match v with
  | .ref k => .ref (ad k)
  | v => v
def sy_fv (ad : Nat → Nat) (σ : St) (k j : Nat) (o : Option Nat) : Value := match o with
  | some off => .ref (ad (k + off))
  | none => .int (σ k j)
def sy_fl (ad : Nat → Nat) (σ : St) (k : Nat) (fk : List (Option Nat)) : List Value := fk.mapIdx (sy_fv ad σ k)
def sy_ce (ad : Nat → Nat) (cI cR : ClassId) (σ : St) (k : Nat) (sh : Sh) : va_E := match sh with
  | .inl n => .inl (cI, n, .inl (σ k))
  | .inr (.inl q) => .inl (cR, q.1, .inr (.inr (.inr (.inr (fun j => some (ad (q.2.1 + q.2.2 * j)))))))
  | .inr (.inr o) => .inr (o.1, sy_fl ad σ k o.2)
def sy_w (ad : Nat → Nat) (cI cR : ClassId) (σ : St) : va_W := sy_shp.mapIdx (fun k sh => (ad k, sy_ce ad cI cR σ k sh))
theorem sy_w_at {ad : Nat → Nat} {cI cR : ClassId} {σ : St} {k : Nat} {sh : Sh} (h : sy_shp[k]? = some sh) : (sy_w ad cI cR σ)[k]? = some (ad k, sy_ce ad cI cR σ k sh) := by
  unfold sy_w
  rw [List.getElem?_mapIdx, h]
  rfl
theorem sy_w_of {ad : Nat → Nat} {cI cR : ClassId} {σ : St} {k : Nat} {q : Nat × va_E} (h : (sy_w ad cI cR σ)[k]? = some q) : ∃ sh, sy_shp[k]? = some sh ∧ q = (ad k, sy_ce ad cI cR σ k sh) := by
  unfold sy_w at h
  rw [List.getElem?_mapIdx] at h
  cases hs : sy_shp[k]? with
  | none => rw [hs] at h; cases h
  | some sh => rw [hs] at h; cases h; exact ⟨sh, rfl, rfl⟩
theorem sy_up_s {σ : St} {k : Nat} {f : Nat → Int32} : sy_up σ k f k = f := by simp [sy_up]
theorem sy_up_n {σ : St} {k a : Nat} {f : Nat → Int32} (h : a ≠ k) : sy_up σ k f a = σ a := by simp [sy_up, h]
theorem sy_ce_n {ad : Nat → Nat} {cI cR : ClassId} {σ : St} {k a : Nat} {f : Nat → Int32} (h : a ≠ k) (sh : Sh) : sy_ce ad cI cR (sy_up σ k f) a sh = sy_ce ad cI cR σ a sh := by
  unfold sy_ce
  split
  · rw [sy_up_n h]
  · rfl
  · congr 2
    unfold sy_fl
    congr 1
    funext j o
    unfold sy_fv
    split
    · rfl
    · rw [sy_up_n h]
/-- one cell of the world is another: the world of another store -/
theorem sy_w_set {ad : Nat → Nat} {cI cR : ClassId} {σ : St} {k : Nat} {f : Nat → Int32} {sh : Sh} (h : sy_shp[k]? = some sh) {e : va_E} (he : e = sy_ce ad cI cR (sy_up σ k f) k sh) : (sy_w ad cI cR σ).set k (ad k, e) = sy_w ad cI cR (sy_up σ k f) := by
  apply List.ext_getElem?
  intro j
  by_cases hj : k = j
  · subst hj
    rw [List.getElem?_set_self (by have := sy_w_at (ad := ad) (cI := cI) (cR := cR) (σ := σ) h; exact (List.getElem?_eq_some_iff.mp this).1), sy_w_at h, he]
  · rw [List.getElem?_set_ne hj]
    unfold sy_w
    rw [List.getElem?_mapIdx, List.getElem?_mapIdx]
    cases hs : sy_shp[j]? with
    | none => rfl
    | some s2 =>
      show some (ad j, _) = some (ad j, _)
      rw [sy_ce_n (fun e => hj e.symm)]
theorem sy_fl_set {ad : Nat → Nat} {σ : St} {k j : Nat} {fk : List (Option Nat)} {v : Int32} (h : fk[j]? = some none) : (sy_fl ad σ k fk).set j (.int v) = sy_fl ad (sy_sf σ k j v) k fk := by
  apply List.ext_getElem?
  intro i
  by_cases hi : j = i
  · subst hi
    rw [List.getElem?_set_self (by unfold sy_fl; rw [List.length_mapIdx]; exact (List.getElem?_eq_some_iff.mp h).1)]
    unfold sy_fl
    rw [List.getElem?_mapIdx, h]
    simp [sy_fv, sy_sf, sy_up, upd]
  · rw [List.getElem?_set_ne hi]
    unfold sy_fl
    rw [List.getElem?_mapIdx, List.getElem?_mapIdx]
    cases hs : fk[i]? with
    | none => rfl
    | some o =>
      cases o with
      | some off => rfl
      | none =>
        have : ¬ i = j := fun e => hi e.symm
        simp [sy_fv, sy_sf, sy_up, upd, this]
/-! ===== locals by their places ===== -/
def sy_nl (o : Option Value) : Option Value := match o with
  | some (.long _) => none
  | some (.double _) => none
  | o => o
def sy_s1 : List (Option Value) → Nat → Value → List (Option Value)
  | [], _, _ => []
  | _ :: r, 0, v => some v :: r
  | o :: [], 1, _ => [sy_nl o]
  | o :: _ :: r, 1, v => sy_nl o :: some v :: r
  | o :: r, i + 2, v => o :: sy_s1 r (i + 1) v
def sy_s2 (lv : List (Option Value)) (i : Nat) (v : Value) : List (Option Value) := (sy_s1 lv i v).set (i + 1) none
def sy_fg (lv : List (Option Value)) (ks : List Nat) : List (Option Value) := ks.foldl (fun l k => l.set k none) lv
def sy_hs (ad : Nat → Nat) (nL : Nat) (ls : Array Slot) (lv : List (Option Value)) : Prop := ls.size = nL ∧ lv_wf ls ∧ ∀ (i : Nat) (v : Value), lv[i]? = some (some v) → ls[i]? = some (.val (sy_vm ad v))
theorem sy_nl_some {o : Option Value} {w : Value} (h : sy_nl o = some w) : o = some w ∧ w.category ≠ 2 := by
  unfold sy_nl at h
  split at h
  · cases h
  · cases h
  · rename_i h1 h2
    refine ⟨h, fun hc => ?_⟩
    cases w with
    | long x => exact h1 x h
    | double x => exact h2 x h
    | _ => simp [Value.category] at hc
theorem sy_s1_at : ∀ (lv : List (Option Value)) (i : Nat) (v : Value) (j : Nat) (w : Value), (sy_s1 lv i v)[j]? = some (some w) → (j = i ∧ w = v) ∨ (j ≠ i ∧ lv[j]? = some (some w) ∧ (j + 1 = i → w.category ≠ 2))
  | [], _, _, j, w, h => by simp [sy_s1] at h
  | o :: r, 0, v, j, w, h => by
    cases j with
    | zero => simp [sy_s1] at h; exact Or.inl ⟨rfl, h.symm⟩
    | succ j => simp [sy_s1] at h; exact Or.inr ⟨by omega, by simpa using h, fun e => by omega⟩
  | [o], 1, v, j, w, h => by
    cases j with
    | zero =>
      simp [sy_s1] at h
      obtain ⟨h1, h2⟩ := sy_nl_some h
      exact Or.inr ⟨by omega, by simp [h1], fun _ => h2⟩
    | succ j => simp [sy_s1] at h
  | o :: o2 :: r, 1, v, j, w, h => by
    match j with
    | 0 =>
      simp [sy_s1] at h
      obtain ⟨h1, h2⟩ := sy_nl_some h
      exact Or.inr ⟨by omega, by simp [h1], fun _ => h2⟩
    | 1 => simp [sy_s1] at h; exact Or.inl ⟨rfl, h.symm⟩
    | j + 2 => simp [sy_s1] at h; exact Or.inr ⟨by omega, by simpa using h, fun e => by omega⟩
  | o :: r, i + 2, v, j, w, h => by
    cases j with
    | zero =>
      cases r <;> (simp [sy_s1] at h; exact Or.inr ⟨by omega, by simp [h], fun e => by omega⟩)
    | succ j =>
      have h' : (sy_s1 r (i + 1) v)[j]? = some (some w) := by cases r <;> simpa [sy_s1] using h
      rcases sy_s1_at r (i + 1) v j w h' with ⟨a, b⟩ | ⟨a, b, c⟩
      · exact Or.inl ⟨by omega, b⟩
      · exact Or.inr ⟨by omega, by simpa using b, fun e => c (by omega)⟩
theorem sy_vm_cat (ad : Nat → Nat) (v : Value) : (sy_vm ad v).category = v.category := by cases v <;> rfl
def sy_al (ad : Nat → Nat) (lv : List (Option Value)) : List (Nat × Value) := (List.range lv.length).filterMap (fun i => match lv[i]? with
  | some (some v) => some (i, sy_vm ad v)
  | _ => none)
theorem sy_al_mem {ad : Nat → Nat} {lv : List (Option Value)} {i : Nat} {v : Value} (h : lv[i]? = some (some v)) : (i, sy_vm ad v) ∈ sy_al ad lv := by
  unfold sy_al
  rw [List.mem_filterMap]
  exact ⟨i, List.mem_range.mpr (List.getElem?_eq_some_iff.mp h).1, by rw [h]⟩
theorem sy_hs.has {ad : Nat → Nat} {nL : Nat} {ls : Array Slot} {lv : List (Option Value)} (h : sy_hs ad nL ls lv) : lv_has ls nL (sy_al ad lv) := by
  refine ⟨h.1, h.2.1, fun q hq => ?_⟩
  unfold sy_al at hq
  obtain ⟨i, -, hi⟩ := List.mem_filterMap.mp hq
  split at hi
  · rename_i v hv
    cases hi
    exact h.2.2 i v hv
  · cases hi
theorem sy_hs.st1 {ad : Nat → Nat} {nL : Nat} {ls : Array Slot} {lv : List (Option Value)} {i : Nat} {v : Value} (h : lv_has ls nL ((i, sy_vm ad v) :: (sy_al ad lv).filter (fun q => !(q.1 == i) && !(q.1 + 1 == i && q.2.category == 2)))) : sy_hs ad nL ls (sy_s1 lv i v) := by
  refine ⟨h.1, h.2.1, fun j w hj => ?_⟩
  rcases sy_s1_at lv i v j w hj with ⟨rfl, rfl⟩ | ⟨a, b, c⟩
  · exact h.2.2 (j, sy_vm ad w) List.mem_cons_self
  · refine h.2.2 (j, sy_vm ad w) (List.mem_cons_of_mem _ (List.mem_filter.mpr ⟨sy_al_mem b, ?_⟩))
    have h1 : (j == i) = false := by simpa using a
    by_cases e : j + 1 = i
    · have := c e
      simp [h1, sy_vm_cat, this]
    · simp [h1, e]
theorem sy_hs.st2 {ad : Nat → Nat} {nL : Nat} {ls : Array Slot} {lv : List (Option Value)} {i : Nat} {v : Value} (h : lv_has ls nL ((i, sy_vm ad v) :: (sy_al ad lv).filter (fun q => !(q.1 == i) && (!(q.1 == i + 1) && !(q.1 + 1 == i && q.2.category == 2))))) : sy_hs ad nL ls (sy_s2 lv i v) := by
  refine ⟨h.1, h.2.1, fun j w hj => ?_⟩
  unfold sy_s2 at hj
  by_cases hji : i + 1 = j
  · subst hji
    rw [List.getElem?_set] at hj
    simp at hj
  · rw [List.getElem?_set_ne hji] at hj
    rcases sy_s1_at lv i v j w hj with ⟨rfl, rfl⟩ | ⟨a, b, c⟩
    · exact h.2.2 (j, sy_vm ad w) List.mem_cons_self
    · refine h.2.2 (j, sy_vm ad w) (List.mem_cons_of_mem _ (List.mem_filter.mpr ⟨sy_al_mem b, ?_⟩))
      have h1 : (j == i) = false := by simpa using a
      have h2 : (j == i + 1) = false := by simp; omega
      by_cases e : j + 1 = i
      · have := c e
        simp [h1, h2, sy_vm_cat, this]
      · simp [h1, h2, e]
theorem sy_set_none {lv : List (Option Value)} {k i : Nat} {v : Value} (h : (lv.set k none)[i]? = some (some v)) : lv[i]? = some (some v) := by
  rw [List.getElem?_set] at h
  split at h
  · split at h <;> simp at h
  · exact h
theorem sy_fg_at (ks : List Nat) : ∀ (lv : List (Option Value)) (i : Nat) (v : Value), (sy_fg lv ks)[i]? = some (some v) → lv[i]? = some (some v) := by
  induction ks with
  | nil => exact fun _ _ _ h => h
  | cons k ks ih => exact fun lv i v h => sy_set_none (ih (lv.set k none) i v h)
def sy_ent : List Value → Nat → List (Option Value)
  | [], n => List.replicate n none
  | .long x :: vs, n => some (.long x) :: none :: sy_ent vs (n - 2)
  | .double x :: vs, n => some (.double x) :: none :: sy_ent vs (n - 2)
  | v :: vs, n => some v :: sy_ent vs (n - 1)
theorem sy_ent_2 (v : Value) (vs : List Value) (n : Nat) : (v.category = 2 ∧ sy_ent (v :: vs) n = some v :: none :: sy_ent vs (n - 2)) ∨ (¬ v.category = 2 ∧ sy_ent (v :: vs) n = some v :: sy_ent vs (n - 1)) := by
  cases v <;> simp [sy_ent, Value.category]
theorem sy_ent_at (ad : Nat → Nat) : ∀ (vs : List Value) (n o i : Nat) (w : Value), (sy_ent vs n)[i]? = some (some w) → (o + i, sy_vm ad w) ∈ lv_args o (vs.map (sy_vm ad))
  | [], n, o, i, w, h => by
    simp [sy_ent, List.getElem?_replicate] at h
  | v :: vs, n, o, i, w, h => by
    rcases sy_ent_2 v vs n with ⟨hc, he⟩ | ⟨hc, he⟩
    · rw [he] at h
      simp only [List.map_cons, lv_args, sy_vm_cat, hc, if_true]
      match i with
      | 0 => simp at h; subst h; simp
      | 1 => simp at h
      | i + 2 =>
        have h' : (sy_ent vs (n - 2))[i]? = some (some w) := by simpa using h
        have := sy_ent_at ad vs (n - 2) (o + 2) i w h'
        rw [show o + (i + 2) = o + 2 + i by omega]
        exact List.mem_cons_of_mem _ this
    · rw [he] at h
      simp only [List.map_cons, lv_args, sy_vm_cat, hc, if_false]
      cases i with
      | zero => simp at h; subst h; simp
      | succ i =>
        have h' : (sy_ent vs (n - 1))[i]? = some (some w) := by simpa using h
        have := sy_ent_at ad vs (n - 1) (o + 1) i w h'
        rw [show o + (i + 1) = o + 1 + i by omega]
        exact List.mem_cons_of_mem _ this
end
section
/-- the tables' words that stay true as the machine goes on, and the two links of nest mates' private methods -/
def sy_T : List Cond := lw_tbl.filter goodWord
abbrev sy_n1 : Cond := .methodLinkNest RX0 86 yX6_within RX6
abbrev sy_n2 : Cond := .methodLinkNest RX0 90 yX6_isEvent RX6
theorem sy_mem {w : Cond} (i : Nat) (h : lw_tbl[i]? = some w) (hg : goodWord w = true) : w ∈ sy_T := List.mem_filter.mpr ⟨List.mem_of_getElem? h, hg⟩
theorem sy_m_nat : Cond.native arraycopyName ∈ sy_T := List.mem_filter.mpr ⟨by decide +kernel, rfl⟩
theorem sy_m_stat : Cond.static arraycopyName ∈ sy_T := List.mem_filter.mpr ⟨by decide +kernel, rfl⟩
theorem sy_m_ini : Cond.initialized "java/lang/System" ∈ sy_T := List.mem_filter.mpr ⟨by decide +kernel, rfl⟩
/-! ===== the walk of a method over the store: judgement Ab, a row an instruction ===== -/
abbrev Kx : Type := Program × Launch × Env × Room × State × MethodId × Array Value × List Frame × Method × Code × Nat × Nat × (State → Prop) × va_G × (Nat → Prop) × (Nat → Nat) × ClassId × ClassId
abbrev sy_ty (cI cR : ClassId) : List (ClassId × FieldType) := [(cI, .int), (cR, .object RX4)]
/-- what a walk stands on: the machine, the code of the method, its class, what it returns, how deep it calls -/
def Gd : Kx → ByteArray → Nat → String → Option FieldType → Nat → Prop
  | (p, l, e, R, s, m, args, below, meth, c, cells, slots, Q, D, A, ad, cI, cR), cc, nL, own, ret, d =>
    p.tables.exec = Jvm.exec ∧ c.code = cc ∧ c.maxLocals = nL ∧ s.vm.findClass own = some m.cls ∧ (∀ w ∈ sy_T, w.before args s = true) ∧ va_K D vwCl (sy_ty cI cR) s ∧ (∀ i j : Nat, i < 81 → j < 81 → ad i = ad j → i = j) ∧ (∀ k : Nat, k < 81 → A (ad k)) ∧ d ≤ R.frames ∧ 44 * d ≤ R.locals ∧ cells ≤ R.cells ∧ slots ≤ R.slots ∧ meth.sig.returnType = ret ∧ va_Nw sy_n1 s ∧ va_Nw sy_n2 s
/-- a place where a method ends with this value -/
def sy_ri (cc : ByteArray) (pc : Nat) (ret : Option FieldType) (rv : Option Value) : Prop := match rv with
  | none => decode cc pc = .ok (.return_, 1) ∧ ret = none
  | some (.int v) => decode cc pc = .ok (.ireturn, 1) ∧ ∃ ty, ret = some ty ∧ narrow ty (.int v) = .int v
  | some (.long _) => decode cc pc = .ok (.lreturn, 1) ∧ ret = some .long
  | some (.ref _) => decode cc pc = .ok (.areturn, 1) ∧ ∃ n, ret = some (.object n)
  | _ => False
def Ab {α : Type} (cv : α → Option Value) : Kx → Nat → List (Option Value) → List Value → St → Option (α × St) → Prop
  | (p, l, e, R, s, m, args, below, meth, c, cells, slots, Q, D, A, ad, cI, cR), pc, lv, st, σ, res =>
    ∀ (r : α) (σ' : St), res = some (r, σ') →
      (∀ (H : Heap) (locs : List Loc) (ls : Array Slot) (pc' : Nat), va_P D vwCl (sy_w ad cI cR σ') H → va_S A s.heap H locs → sy_ri c.code pc' meth.sig.returnType (cv r) → W p l e R s m args below meth c H locs cells slots Q (F0 m pc' ls ((cv r).map (sy_vm ad)).toList)) →
      ∀ (H : Heap) (locs : List Loc) (ls : Array Slot), va_P D vwCl (sy_w ad cI cR σ) H → va_S A s.heap H locs → sy_hs ad c.maxLocals ls lv → W p l e R s m args below meth c H locs cells slots Q (F0 m pc ls (st.map (sy_vm ad)))
abbrev sy_vi (x : Int32) : Option Value := some (.int x)
abbrev sy_vl (x : Int64) : Option Value := some (.long x)
abbrev sy_vr (k : Nat) : Option Value := some (.ref k)
abbrev sy_cu (_ : Unit) : Option Value := none
section Rows
variable {α : Type} {cv : α → Option Value} {κ : Kx} {cc : ByteArray} {nL d : Nat} {own : String} {ret : Option FieldType} {pc : Nat} {lv lv' : List (Option Value)} {st : List Value} {σ : St} {res r1 r2 : Option (α × St)}
theorem sy_D {ad : Nat → Nat} {cI cR : ClassId} {A : Nat → Prop} (hi : ∀ i j : Nat, i < 81 → j < 81 → ad i = ad j → i = j) (hA : ∀ k : Nat, k < 81 → A (ad k)) : va_D A (sy_w ad cI cR σ) := by
  have hl : ∀ (k : Nat) (q : Nat × va_E), (sy_w ad cI cR σ)[k]? = some q → k < 81 ∧ q.1 = ad k := by
    intro k q h
    obtain ⟨sh, h1, h2⟩ := sy_w_of h
    have h3 := (List.getElem?_eq_some_iff.mp h1).1
    exact ⟨h3, by rw [h2]⟩
  refine ⟨fun i j p q h1 h2 h3 => ?_, fun k q h => ?_⟩
  · obtain ⟨a1, a2⟩ := hl i p h1
    obtain ⟨b1, b2⟩ := hl j q h2
    exact hi i j a1 b1 (by rw [← a2, ← b2, h3])
  · obtain ⟨a1, a2⟩ := hl k q h
    rw [a2]
    exact hA k a1
theorem ab_none : Ab cv κ pc lv st σ none := by
  obtain ⟨p, l, e, R, s, m, args, below, meth, c, cells, slots, Q, D, A, ad, cI, cR⟩ := κ
  intro r σ' h
  cases h
theorem ab_if {P : Prop} [Decidable P] (h1 : P → Ab cv κ pc lv st σ r1) (h2 : ¬ P → Ab cv κ pc lv st σ r2) : Ab cv κ pc lv st σ (if P then r1 else r2) := by
  by_cases h : P
  · rw [if_pos h]; exact h1 h
  · rw [if_neg h]; exact h2 h
theorem ab_fg (ks : List Nat) (h : sy_fg lv ks = lv') (k : Ab cv κ pc lv' st σ res) : Ab cv κ pc lv st σ res := by
  obtain ⟨p, l, e, R, s, m, args, below, meth, c, cells, slots, Q, D, A, ad, cI, cR⟩ := κ
  intro r σ' hr hret H locs ls hP hS hL
  subst h
  exact k r σ' hr hret H locs ls hP hS ⟨hL.1, hL.2.1, fun i v hi => hL.2.2 i v (sy_fg_at ks lv i v hi)⟩
theorem ab_iconst (hκ : Gd κ cc nL own ret d) {n : Int} {v : Int32} (hd : decode cc pc = .ok (.iconst n, 1)) (hv : Int32.ofInt n = v) (k : Ab cv κ (pc + 1) lv (.int v :: st) σ res) : Ab cv κ pc lv (st) σ res := by
  obtain ⟨p, l, e, R, s, m, args, below, meth, c, cells, slots, Q, D, A, ad, cI, cR⟩ := κ
  obtain ⟨hx, hb, hml, hown, hts, hK, hinj, hA, hfr, hlo, hce, hsl, hrt, hn1, hn2⟩ := hκ
  intro r σ' hr hret H locs ls hP hS hL
  exact lv_iconst hx hb hd hv (k r σ' hr hret H locs ls hP hS hL)
theorem ab_bipush (hκ : Gd κ cc nL own ret d) {n : Int} {v : Int32} (hd : decode cc pc = .ok (.bipush n, 2)) (hv : (Int8.ofInt n).toInt32 = v) (k : Ab cv κ (pc + 2) lv (.int v :: st) σ res) : Ab cv κ pc lv (st) σ res := by
  obtain ⟨p, l, e, R, s, m, args, below, meth, c, cells, slots, Q, D, A, ad, cI, cR⟩ := κ
  obtain ⟨hx, hb, hml, hown, hts, hK, hinj, hA, hfr, hlo, hce, hsl, hrt, hn1, hn2⟩ := hκ
  intro r σ' hr hret H locs ls hP hS hL
  exact lv_bipush hx hb hd hv (k r σ' hr hret H locs ls hP hS hL)
theorem ab_sipush (hκ : Gd κ cc nL own ret d) {n : Int} {v : Int32} (hd : decode cc pc = .ok (.sipush n, 3)) (hv : (Int16.ofInt n).toInt32 = v) (k : Ab cv κ (pc + 3) lv (.int v :: st) σ res) : Ab cv κ pc lv (st) σ res := by
  obtain ⟨p, l, e, R, s, m, args, below, meth, c, cells, slots, Q, D, A, ad, cI, cR⟩ := κ
  obtain ⟨hx, hb, hml, hown, hts, hK, hinj, hA, hfr, hlo, hce, hsl, hrt, hn1, hn2⟩ := hκ
  intro r σ' hr hret H locs ls hP hS hL
  exact lv_sipush hx hb hd hv (k r σ' hr hret H locs ls hP hS hL)
theorem ab_lconst (hκ : Gd κ cc nL own ret d) {n : Fin 2} {v : Int64} (hd : decode cc pc = .ok (.lconst n, 1)) (hv : Int64.ofNat (n : Nat) = v) (k : Ab cv κ (pc + 1) lv (.long v :: st) σ res) : Ab cv κ pc lv (st) σ res := by
  obtain ⟨p, l, e, R, s, m, args, below, meth, c, cells, slots, Q, D, A, ad, cI, cR⟩ := κ
  obtain ⟨hx, hb, hml, hown, hts, hK, hinj, hA, hfr, hlo, hce, hsl, hrt, hn1, hn2⟩ := hκ
  intro r σ' hr hret H locs ls hP hS hL
  exact lv_lconst hx hb hd hv (k r σ' hr hret H locs ls hP hS hL)
theorem ab_ldc (hκ : Gd κ cc nL own ret d) {i : Nat} {v : Int32} (hd : decode cc pc = .ok (.ldc i, 2)) (hc : Cond.constant own i v ∈ sy_T) (k : Ab cv κ (pc + 2) lv (.int v :: st) σ res) : Ab cv κ pc lv (st) σ res := by
  obtain ⟨p, l, e, R, s, m, args, below, meth, c, cells, slots, Q, D, A, ad, cI, cR⟩ := κ
  obtain ⟨hx, hb, hml, hown, hts, hK, hinj, hA, hfr, hlo, hce, hsl, hrt, hn1, hn2⟩ := hκ
  intro r σ' hr hret H locs ls hP hS hL
  exact lv_ldc hx hb hown (hts _ hc) hd (k r σ' hr hret H locs ls hP hS hL)
theorem ab_ldcw (hκ : Gd κ cc nL own ret d) {i : Nat} {v : Int32} (hd : decode cc pc = .ok (.ldc_w i, 3)) (hc : Cond.constant own i v ∈ sy_T) (k : Ab cv κ (pc + 3) lv (.int v :: st) σ res) : Ab cv κ pc lv (st) σ res := by
  obtain ⟨p, l, e, R, s, m, args, below, meth, c, cells, slots, Q, D, A, ad, cI, cR⟩ := κ
  obtain ⟨hx, hb, hml, hown, hts, hK, hinj, hA, hfr, hlo, hce, hsl, hrt, hn1, hn2⟩ := hκ
  intro r σ' hr hret H locs ls hP hS hL
  exact lv_ldcw hx hb hown (hts _ hc) hd (k r σ' hr hret H locs ls hP hS hL)
theorem ab_ldc2 (hκ : Gd κ cc nL own ret d) {i : Nat} {v : Int64} (hd : decode cc pc = .ok (.ldc2_w i, 3)) (hc : Cond.constantLong own i v ∈ sy_T) (k : Ab cv κ (pc + 3) lv (.long v :: st) σ res) : Ab cv κ pc lv (st) σ res := by
  obtain ⟨p, l, e, R, s, m, args, below, meth, c, cells, slots, Q, D, A, ad, cI, cR⟩ := κ
  obtain ⟨hx, hb, hml, hown, hts, hK, hinj, hA, hfr, hlo, hce, hsl, hrt, hn1, hn2⟩ := hκ
  intro r σ' hr hret H locs ls hP hS hL
  exact lv_ldc2 hx hb hown (hts _ hc) hd (k r σ' hr hret H locs ls hP hS hL)
theorem ab_iload_n (hκ : Gd κ cc nL own ret d) {n : Fin 4} {x : Int32} (hd : decode cc pc = .ok (.iload_n n, 1)) (hl : lv[(n : Nat)]? = some (some (.int x))) (k : Ab cv κ (pc + 1) lv (.int x :: st) σ res) : Ab cv κ pc lv (st) σ res := by
  obtain ⟨p, l, e, R, s, m, args, below, meth, c, cells, slots, Q, D, A, ad, cI, cR⟩ := κ
  obtain ⟨hx, hb, hml, hown, hts, hK, hinj, hA, hfr, hlo, hce, hsl, hrt, hn1, hn2⟩ := hκ
  intro r σ' hr hret H locs ls hP hS hL
  exact lv_iload_n hx hb hd rfl (hL.2.2 _ _ hl) (k r σ' hr hret H locs ls hP hS hL)
theorem ab_iload (hκ : Gd κ cc nL own ret d) {i : Nat} {x : Int32} (hd : decode cc pc = .ok (.iload i, 2)) (hl : lv[i]? = some (some (.int x))) (k : Ab cv κ (pc + 2) lv (.int x :: st) σ res) : Ab cv κ pc lv (st) σ res := by
  obtain ⟨p, l, e, R, s, m, args, below, meth, c, cells, slots, Q, D, A, ad, cI, cR⟩ := κ
  obtain ⟨hx, hb, hml, hown, hts, hK, hinj, hA, hfr, hlo, hce, hsl, hrt, hn1, hn2⟩ := hκ
  intro r σ' hr hret H locs ls hP hS hL
  exact lv_iload hx hb hd (hL.2.2 _ _ hl) (k r σ' hr hret H locs ls hP hS hL)
theorem ab_istore_n (hκ : Gd κ cc nL own ret d) {n : Fin 4} {i : Nat} {x : Int32} (hd : decode cc pc = .ok (.istore_n n, 1)) (hi : (n : Nat) = i) (hn : i < nL) (hl : sy_s1 lv i (.int x) = lv') (k : Ab cv κ (pc + 1) lv' st σ res) : Ab cv κ pc lv (.int x :: st) σ res := by
  obtain ⟨p, l, e, R, s, m, args, below, meth, c, cells, slots, Q, D, A, ad, cI, cR⟩ := κ
  obtain ⟨hx, hb, hml, hown, hts, hK, hinj, hA, hfr, hlo, hce, hsl, hrt, hn1, hn2⟩ := hκ
  intro r σ' hr hret H locs ls hP hS hL
  subst hl
  exact lv_istore_n hx hb hd hi (hml ▸ hL).has hn rfl (fun ls hl => k r σ' hr hret H locs ls hP hS (hml.symm ▸ sy_hs.st1 (v := .int x) hl))
theorem ab_istore (hκ : Gd κ cc nL own ret d) {i : Nat} {x : Int32} (hd : decode cc pc = .ok (.istore i, 2)) (hn : i < nL) (hl : sy_s1 lv i (.int x) = lv') (k : Ab cv κ (pc + 2) lv' st σ res) : Ab cv κ pc lv (.int x :: st) σ res := by
  obtain ⟨p, l, e, R, s, m, args, below, meth, c, cells, slots, Q, D, A, ad, cI, cR⟩ := κ
  obtain ⟨hx, hb, hml, hown, hts, hK, hinj, hA, hfr, hlo, hce, hsl, hrt, hn1, hn2⟩ := hκ
  intro r σ' hr hret H locs ls hP hS hL
  subst hl
  exact lv_istore hx hb hd (hml ▸ hL).has hn rfl (fun ls hl => k r σ' hr hret H locs ls hP hS (hml.symm ▸ sy_hs.st1 (v := .int x) hl))
theorem ab_lload_n (hκ : Gd κ cc nL own ret d) {n : Fin 4} {x : Int64} (hd : decode cc pc = .ok (.lload_n n, 1)) (hl : lv[(n : Nat)]? = some (some (.long x))) (k : Ab cv κ (pc + 1) lv (.long x :: st) σ res) : Ab cv κ pc lv (st) σ res := by
  obtain ⟨p, l, e, R, s, m, args, below, meth, c, cells, slots, Q, D, A, ad, cI, cR⟩ := κ
  obtain ⟨hx, hb, hml, hown, hts, hK, hinj, hA, hfr, hlo, hce, hsl, hrt, hn1, hn2⟩ := hκ
  intro r σ' hr hret H locs ls hP hS hL
  exact lv_lload_n hx hb hd rfl (hL.2.2 _ _ hl) (k r σ' hr hret H locs ls hP hS hL)
theorem ab_lload (hκ : Gd κ cc nL own ret d) {i : Nat} {x : Int64} (hd : decode cc pc = .ok (.lload i, 2)) (hl : lv[i]? = some (some (.long x))) (k : Ab cv κ (pc + 2) lv (.long x :: st) σ res) : Ab cv κ pc lv (st) σ res := by
  obtain ⟨p, l, e, R, s, m, args, below, meth, c, cells, slots, Q, D, A, ad, cI, cR⟩ := κ
  obtain ⟨hx, hb, hml, hown, hts, hK, hinj, hA, hfr, hlo, hce, hsl, hrt, hn1, hn2⟩ := hκ
  intro r σ' hr hret H locs ls hP hS hL
  exact lv_lload hx hb hd (hL.2.2 _ _ hl) (k r σ' hr hret H locs ls hP hS hL)
theorem ab_lstore_n (hκ : Gd κ cc nL own ret d) {n : Fin 4} {i : Nat} {x : Int64} (hd : decode cc pc = .ok (.lstore_n n, 1)) (hi : (n : Nat) = i) (hn : i + 1 < nL) (hl : sy_s2 lv i (.long x) = lv') (k : Ab cv κ (pc + 1) lv' st σ res) : Ab cv κ pc lv (.long x :: st) σ res := by
  obtain ⟨p, l, e, R, s, m, args, below, meth, c, cells, slots, Q, D, A, ad, cI, cR⟩ := κ
  obtain ⟨hx, hb, hml, hown, hts, hK, hinj, hA, hfr, hlo, hce, hsl, hrt, hn1, hn2⟩ := hκ
  intro r σ' hr hret H locs ls hP hS hL
  subst hl
  exact lv_lstore_n hx hb hd hi (hml ▸ hL).has hn rfl (fun ls hl => k r σ' hr hret H locs ls hP hS (hml.symm ▸ sy_hs.st2 (v := .long x) hl))
theorem ab_lstore (hκ : Gd κ cc nL own ret d) {i : Nat} {x : Int64} (hd : decode cc pc = .ok (.lstore i, 2)) (hn : i + 1 < nL) (hl : sy_s2 lv i (.long x) = lv') (k : Ab cv κ (pc + 2) lv' st σ res) : Ab cv κ pc lv (.long x :: st) σ res := by
  obtain ⟨p, l, e, R, s, m, args, below, meth, c, cells, slots, Q, D, A, ad, cI, cR⟩ := κ
  obtain ⟨hx, hb, hml, hown, hts, hK, hinj, hA, hfr, hlo, hce, hsl, hrt, hn1, hn2⟩ := hκ
  intro r σ' hr hret H locs ls hP hS hL
  subst hl
  exact lv_lstore hx hb hd (hml ▸ hL).has hn rfl (fun ls hl => k r σ' hr hret H locs ls hP hS (hml.symm ▸ sy_hs.st2 (v := .long x) hl))
theorem ab_aload_n (hκ : Gd κ cc nL own ret d) {n : Fin 4} {x : Nat} (hd : decode cc pc = .ok (.aload_n n, 1)) (hl : lv[(n : Nat)]? = some (some (.ref x))) (k : Ab cv κ (pc + 1) lv (.ref x :: st) σ res) : Ab cv κ pc lv (st) σ res := by
  obtain ⟨p, l, e, R, s, m, args, below, meth, c, cells, slots, Q, D, A, ad, cI, cR⟩ := κ
  obtain ⟨hx, hb, hml, hown, hts, hK, hinj, hA, hfr, hlo, hce, hsl, hrt, hn1, hn2⟩ := hκ
  intro r σ' hr hret H locs ls hP hS hL
  exact lv_aload_n hx hb hd rfl (hL.2.2 _ _ hl) (k r σ' hr hret H locs ls hP hS hL)
theorem ab_aload (hκ : Gd κ cc nL own ret d) {i : Nat} {x : Nat} (hd : decode cc pc = .ok (.aload i, 2)) (hl : lv[i]? = some (some (.ref x))) (k : Ab cv κ (pc + 2) lv (.ref x :: st) σ res) : Ab cv κ pc lv (st) σ res := by
  obtain ⟨p, l, e, R, s, m, args, below, meth, c, cells, slots, Q, D, A, ad, cI, cR⟩ := κ
  obtain ⟨hx, hb, hml, hown, hts, hK, hinj, hA, hfr, hlo, hce, hsl, hrt, hn1, hn2⟩ := hκ
  intro r σ' hr hret H locs ls hP hS hL
  exact lv_aload hx hb hd (hL.2.2 _ _ hl) (k r σ' hr hret H locs ls hP hS hL)
theorem ab_astore_n (hκ : Gd κ cc nL own ret d) {n : Fin 4} {i : Nat} {x : Nat} (hd : decode cc pc = .ok (.astore_n n, 1)) (hi : (n : Nat) = i) (hn : i < nL) (hl : sy_s1 lv i (.ref x) = lv') (k : Ab cv κ (pc + 1) lv' st σ res) : Ab cv κ pc lv (.ref x :: st) σ res := by
  obtain ⟨p, l, e, R, s, m, args, below, meth, c, cells, slots, Q, D, A, ad, cI, cR⟩ := κ
  obtain ⟨hx, hb, hml, hown, hts, hK, hinj, hA, hfr, hlo, hce, hsl, hrt, hn1, hn2⟩ := hκ
  intro r σ' hr hret H locs ls hP hS hL
  subst hl
  exact lv_astore_n hx hb hd hi (hml ▸ hL).has hn rfl (fun ls hl => k r σ' hr hret H locs ls hP hS (hml.symm ▸ sy_hs.st1 (v := .ref x) hl))
theorem ab_astore (hκ : Gd κ cc nL own ret d) {i : Nat} {x : Nat} (hd : decode cc pc = .ok (.astore i, 2)) (hn : i < nL) (hl : sy_s1 lv i (.ref x) = lv') (k : Ab cv κ (pc + 2) lv' st σ res) : Ab cv κ pc lv (.ref x :: st) σ res := by
  obtain ⟨p, l, e, R, s, m, args, below, meth, c, cells, slots, Q, D, A, ad, cI, cR⟩ := κ
  obtain ⟨hx, hb, hml, hown, hts, hK, hinj, hA, hfr, hlo, hce, hsl, hrt, hn1, hn2⟩ := hκ
  intro r σ' hr hret H locs ls hP hS hL
  subst hl
  exact lv_astore hx hb hd (hml ▸ hL).has hn rfl (fun ls hl => k r σ' hr hret H locs ls hP hS (hml.symm ▸ sy_hs.st1 (v := .ref x) hl))
theorem ab_iinc (hκ : Gd κ cc nL own ret d) {i : Nat} {n : Int} {x v : Int32} (hd : decode cc pc = .ok (.iinc i n, 3)) (hg : lv[i]? = some (some (.int x))) (hv : x + Int32.ofInt n = v) (hn : i < nL) (hl : sy_s1 lv i (.int v) = lv') (k : Ab cv κ (pc + 3) lv' st σ res) : Ab cv κ pc lv st σ res := by
  obtain ⟨p, l, e, R, s, m, args, below, meth, c, cells, slots, Q, D, A, ad, cI, cR⟩ := κ
  obtain ⟨hx, hb, hml, hown, hts, hK, hinj, hA, hfr, hlo, hce, hsl, hrt, hn1, hn2⟩ := hκ
  intro r σ' hr hret H locs ls hP hS hL
  subst hl
  obtain ⟨j, hj⟩ := List.getElem?_of_mem (sy_al_mem (ad := ad) hg)
  exact lv_iinc hx hb hd (hml ▸ hL).has hj hv hn rfl (fun ls hl => k r σ' hr hret H locs ls hP hS (hml.symm ▸ sy_hs.st1 (v := .int v) hl))
theorem ab_iadd (hκ : Gd κ cc nL own ret d) {x y : Int32} (hd : decode cc pc = .ok (.iadd, 1)) (k : Ab cv κ (pc + 1) lv (.int (x + y) :: st) σ res) : Ab cv κ pc lv (.int y :: .int x :: st) σ res := by
  obtain ⟨p, l, e, R, s, m, args, below, meth, c, cells, slots, Q, D, A, ad, cI, cR⟩ := κ
  obtain ⟨hx, hb, hml, hown, hts, hK, hinj, hA, hfr, hlo, hce, hsl, hrt, hn1, hn2⟩ := hκ
  intro r σ' hr hret H locs ls hP hS hL
  exact lv_iadd hx hb hd (k r σ' hr hret H locs ls hP hS hL)
theorem ab_isub (hκ : Gd κ cc nL own ret d) {x y : Int32} (hd : decode cc pc = .ok (.isub, 1)) (k : Ab cv κ (pc + 1) lv (.int (x - y) :: st) σ res) : Ab cv κ pc lv (.int y :: .int x :: st) σ res := by
  obtain ⟨p, l, e, R, s, m, args, below, meth, c, cells, slots, Q, D, A, ad, cI, cR⟩ := κ
  obtain ⟨hx, hb, hml, hown, hts, hK, hinj, hA, hfr, hlo, hce, hsl, hrt, hn1, hn2⟩ := hκ
  intro r σ' hr hret H locs ls hP hS hL
  exact lv_isub hx hb hd (k r σ' hr hret H locs ls hP hS hL)
theorem ab_imul (hκ : Gd κ cc nL own ret d) {x y : Int32} (hd : decode cc pc = .ok (.imul, 1)) (k : Ab cv κ (pc + 1) lv (.int (x * y) :: st) σ res) : Ab cv κ pc lv (.int y :: .int x :: st) σ res := by
  obtain ⟨p, l, e, R, s, m, args, below, meth, c, cells, slots, Q, D, A, ad, cI, cR⟩ := κ
  obtain ⟨hx, hb, hml, hown, hts, hK, hinj, hA, hfr, hlo, hce, hsl, hrt, hn1, hn2⟩ := hκ
  intro r σ' hr hret H locs ls hP hS hL
  exact lv_imul hx hb hd (k r σ' hr hret H locs ls hP hS hL)
theorem ab_iand (hκ : Gd κ cc nL own ret d) {x y : Int32} (hd : decode cc pc = .ok (.iand, 1)) (k : Ab cv κ (pc + 1) lv (.int (x &&& y) :: st) σ res) : Ab cv κ pc lv (.int y :: .int x :: st) σ res := by
  obtain ⟨p, l, e, R, s, m, args, below, meth, c, cells, slots, Q, D, A, ad, cI, cR⟩ := κ
  obtain ⟨hx, hb, hml, hown, hts, hK, hinj, hA, hfr, hlo, hce, hsl, hrt, hn1, hn2⟩ := hκ
  intro r σ' hr hret H locs ls hP hS hL
  exact lv_iand hx hb hd (k r σ' hr hret H locs ls hP hS hL)
theorem ab_ior (hκ : Gd κ cc nL own ret d) {x y : Int32} (hd : decode cc pc = .ok (.ior, 1)) (k : Ab cv κ (pc + 1) lv (.int (x ||| y) :: st) σ res) : Ab cv κ pc lv (.int y :: .int x :: st) σ res := by
  obtain ⟨p, l, e, R, s, m, args, below, meth, c, cells, slots, Q, D, A, ad, cI, cR⟩ := κ
  obtain ⟨hx, hb, hml, hown, hts, hK, hinj, hA, hfr, hlo, hce, hsl, hrt, hn1, hn2⟩ := hκ
  intro r σ' hr hret H locs ls hP hS hL
  exact lv_ior hx hb hd (k r σ' hr hret H locs ls hP hS hL)
theorem ab_ixor (hκ : Gd κ cc nL own ret d) {x y : Int32} (hd : decode cc pc = .ok (.ixor, 1)) (k : Ab cv κ (pc + 1) lv (.int (x ^^^ y) :: st) σ res) : Ab cv κ pc lv (.int y :: .int x :: st) σ res := by
  obtain ⟨p, l, e, R, s, m, args, below, meth, c, cells, slots, Q, D, A, ad, cI, cR⟩ := κ
  obtain ⟨hx, hb, hml, hown, hts, hK, hinj, hA, hfr, hlo, hce, hsl, hrt, hn1, hn2⟩ := hκ
  intro r σ' hr hret H locs ls hP hS hL
  exact lv_ixor hx hb hd (k r σ' hr hret H locs ls hP hS hL)
theorem ab_ishl (hκ : Gd κ cc nL own ret d) {x y : Int32} (hd : decode cc pc = .ok (.ishl, 1)) (k : Ab cv κ (pc + 1) lv (.int (x <<< (y &&& 31)) :: st) σ res) : Ab cv κ pc lv (.int y :: .int x :: st) σ res := by
  obtain ⟨p, l, e, R, s, m, args, below, meth, c, cells, slots, Q, D, A, ad, cI, cR⟩ := κ
  obtain ⟨hx, hb, hml, hown, hts, hK, hinj, hA, hfr, hlo, hce, hsl, hrt, hn1, hn2⟩ := hκ
  intro r σ' hr hret H locs ls hP hS hL
  exact lv_ishl hx hb hd (k r σ' hr hret H locs ls hP hS hL)
theorem ab_ishr (hκ : Gd κ cc nL own ret d) {x y : Int32} (hd : decode cc pc = .ok (.ishr, 1)) (k : Ab cv κ (pc + 1) lv (.int (x >>> (y &&& 31)) :: st) σ res) : Ab cv κ pc lv (.int y :: .int x :: st) σ res := by
  obtain ⟨p, l, e, R, s, m, args, below, meth, c, cells, slots, Q, D, A, ad, cI, cR⟩ := κ
  obtain ⟨hx, hb, hml, hown, hts, hK, hinj, hA, hfr, hlo, hce, hsl, hrt, hn1, hn2⟩ := hκ
  intro r σ' hr hret H locs ls hP hS hL
  exact lv_ishr hx hb hd (k r σ' hr hret H locs ls hP hS hL)
theorem ab_iushr (hκ : Gd κ cc nL own ret d) {x y : Int32} (hd : decode cc pc = .ok (.iushr, 1)) (k : Ab cv κ (pc + 1) lv (.int (x.toUInt32 >>> (y.toUInt32 &&& Int32.toUInt32 31)).toInt32 :: st) σ res) : Ab cv κ pc lv (.int y :: .int x :: st) σ res := by
  obtain ⟨p, l, e, R, s, m, args, below, meth, c, cells, slots, Q, D, A, ad, cI, cR⟩ := κ
  obtain ⟨hx, hb, hml, hown, hts, hK, hinj, hA, hfr, hlo, hce, hsl, hrt, hn1, hn2⟩ := hκ
  intro r σ' hr hret H locs ls hP hS hL
  exact lv_iushr hx hb hd rfl (k r σ' hr hret H locs ls hP hS hL)
theorem ab_ineg (hκ : Gd κ cc nL own ret d) {x : Int32} (hd : decode cc pc = .ok (.ineg, 1)) (k : Ab cv κ (pc + 1) lv (.int (-x) :: st) σ res) : Ab cv κ pc lv (.int x :: st) σ res := by
  obtain ⟨p, l, e, R, s, m, args, below, meth, c, cells, slots, Q, D, A, ad, cI, cR⟩ := κ
  obtain ⟨hx, hb, hml, hown, hts, hK, hinj, hA, hfr, hlo, hce, hsl, hrt, hn1, hn2⟩ := hκ
  intro r σ' hr hret H locs ls hP hS hL
  exact lv_ineg hx hb hd (k r σ' hr hret H locs ls hP hS hL)
theorem ab_ladd (hκ : Gd κ cc nL own ret d) {x y : Int64} (hd : decode cc pc = .ok (.ladd, 1)) (k : Ab cv κ (pc + 1) lv (.long (x + y) :: st) σ res) : Ab cv κ pc lv (.long y :: .long x :: st) σ res := by
  obtain ⟨p, l, e, R, s, m, args, below, meth, c, cells, slots, Q, D, A, ad, cI, cR⟩ := κ
  obtain ⟨hx, hb, hml, hown, hts, hK, hinj, hA, hfr, hlo, hce, hsl, hrt, hn1, hn2⟩ := hκ
  intro r σ' hr hret H locs ls hP hS hL
  exact lv_ladd hx hb hd (k r σ' hr hret H locs ls hP hS hL)
theorem ab_lsub (hκ : Gd κ cc nL own ret d) {x y : Int64} (hd : decode cc pc = .ok (.lsub, 1)) (k : Ab cv κ (pc + 1) lv (.long (x - y) :: st) σ res) : Ab cv κ pc lv (.long y :: .long x :: st) σ res := by
  obtain ⟨p, l, e, R, s, m, args, below, meth, c, cells, slots, Q, D, A, ad, cI, cR⟩ := κ
  obtain ⟨hx, hb, hml, hown, hts, hK, hinj, hA, hfr, hlo, hce, hsl, hrt, hn1, hn2⟩ := hκ
  intro r σ' hr hret H locs ls hP hS hL
  exact lv_lsub hx hb hd (k r σ' hr hret H locs ls hP hS hL)
theorem ab_lmul (hκ : Gd κ cc nL own ret d) {x y : Int64} (hd : decode cc pc = .ok (.lmul, 1)) (k : Ab cv κ (pc + 1) lv (.long (x * y) :: st) σ res) : Ab cv κ pc lv (.long y :: .long x :: st) σ res := by
  obtain ⟨p, l, e, R, s, m, args, below, meth, c, cells, slots, Q, D, A, ad, cI, cR⟩ := κ
  obtain ⟨hx, hb, hml, hown, hts, hK, hinj, hA, hfr, hlo, hce, hsl, hrt, hn1, hn2⟩ := hκ
  intro r σ' hr hret H locs ls hP hS hL
  exact lv_lmul hx hb hd (k r σ' hr hret H locs ls hP hS hL)
theorem ab_lshl (hκ : Gd κ cc nL own ret d) {x : Int64} {y : Int32} (hd : decode cc pc = .ok (.lshl, 1)) (k : Ab cv κ (pc + 1) lv (.long (x <<< (y.toInt64 &&& 63)) :: st) σ res) : Ab cv κ pc lv (.int y :: .long x :: st) σ res := by
  obtain ⟨p, l, e, R, s, m, args, below, meth, c, cells, slots, Q, D, A, ad, cI, cR⟩ := κ
  obtain ⟨hx, hb, hml, hown, hts, hK, hinj, hA, hfr, hlo, hce, hsl, hrt, hn1, hn2⟩ := hκ
  intro r σ' hr hret H locs ls hP hS hL
  exact lv_lshl hx hb hd rfl (k r σ' hr hret H locs ls hP hS hL)
theorem ab_i2l (hκ : Gd κ cc nL own ret d) {x : Int32} (hd : decode cc pc = .ok (.i2l, 1)) (k : Ab cv κ (pc + 1) lv (.long x.toInt64 :: st) σ res) : Ab cv κ pc lv (.int x :: st) σ res := by
  obtain ⟨p, l, e, R, s, m, args, below, meth, c, cells, slots, Q, D, A, ad, cI, cR⟩ := κ
  obtain ⟨hx, hb, hml, hown, hts, hK, hinj, hA, hfr, hlo, hce, hsl, hrt, hn1, hn2⟩ := hκ
  intro r σ' hr hret H locs ls hP hS hL
  exact lv_i2l hx hb hd rfl (k r σ' hr hret H locs ls hP hS hL)
theorem ab_i2b (hκ : Gd κ cc nL own ret d) {x : Int32} (hd : decode cc pc = .ok (.i2b, 1)) (k : Ab cv κ (pc + 1) lv (.int x.toInt8.toInt32 :: st) σ res) : Ab cv κ pc lv (.int x :: st) σ res := by
  obtain ⟨p, l, e, R, s, m, args, below, meth, c, cells, slots, Q, D, A, ad, cI, cR⟩ := κ
  obtain ⟨hx, hb, hml, hown, hts, hK, hinj, hA, hfr, hlo, hce, hsl, hrt, hn1, hn2⟩ := hκ
  intro r σ' hr hret H locs ls hP hS hL
  exact lv_i2b hx hb hd rfl (k r σ' hr hret H locs ls hP hS hL)
theorem ab_i2s (hκ : Gd κ cc nL own ret d) {x : Int32} (hd : decode cc pc = .ok (.i2s, 1)) (k : Ab cv κ (pc + 1) lv (.int x.toInt16.toInt32 :: st) σ res) : Ab cv κ pc lv (.int x :: st) σ res := by
  obtain ⟨p, l, e, R, s, m, args, below, meth, c, cells, slots, Q, D, A, ad, cI, cR⟩ := κ
  obtain ⟨hx, hb, hml, hown, hts, hK, hinj, hA, hfr, hlo, hce, hsl, hrt, hn1, hn2⟩ := hκ
  intro r σ' hr hret H locs ls hP hS hL
  exact lv_i2s hx hb hd rfl (k r σ' hr hret H locs ls hP hS hL)
theorem ab_lcmp (hκ : Gd κ cc nL own ret d) {x y : Int64} (hd : decode cc pc = .ok (.lcmp, 1)) (k : Ab cv κ (pc + 1) lv (.int (lg_cmp x y) :: st) σ res) : Ab cv κ pc lv (.long y :: .long x :: st) σ res := by
  obtain ⟨p, l, e, R, s, m, args, below, meth, c, cells, slots, Q, D, A, ad, cI, cR⟩ := κ
  obtain ⟨hx, hb, hml, hown, hts, hK, hinj, hA, hfr, hlo, hce, hsl, hrt, hn1, hn2⟩ := hκ
  intro r σ' hr hret H locs ls hP hS hL
  exact W.lcmp hx hb hd (k r σ' hr hret H locs ls hP hS hL)
theorem ab_dupi (hκ : Gd κ cc nL own ret d) {x : Int32} (hd : decode cc pc = .ok (.dup, 1)) (k : Ab cv κ (pc + 1) lv (.int x :: .int x :: st) σ res) : Ab cv κ pc lv (.int x :: st) σ res := by
  obtain ⟨p, l, e, R, s, m, args, below, meth, c, cells, slots, Q, D, A, ad, cI, cR⟩ := κ
  obtain ⟨hx, hb, hml, hown, hts, hK, hinj, hA, hfr, hlo, hce, hsl, hrt, hn1, hn2⟩ := hκ
  intro r σ' hr hret H locs ls hP hS hL
  exact lv_dup hx hb hd rfl (k r σ' hr hret H locs ls hP hS hL)
theorem ab_dupa (hκ : Gd κ cc nL own ret d) {x : Nat} (hd : decode cc pc = .ok (.dup, 1)) (k : Ab cv κ (pc + 1) lv (.ref x :: .ref x :: st) σ res) : Ab cv κ pc lv (.ref x :: st) σ res := by
  obtain ⟨p, l, e, R, s, m, args, below, meth, c, cells, slots, Q, D, A, ad, cI, cR⟩ := κ
  obtain ⟨hx, hb, hml, hown, hts, hK, hinj, hA, hfr, hlo, hce, hsl, hrt, hn1, hn2⟩ := hκ
  intro r σ' hr hret H locs ls hP hS hL
  exact lv_dup hx hb hd rfl (k r σ' hr hret H locs ls hP hS hL)
theorem ab_popi (hκ : Gd κ cc nL own ret d) {x : Int32} (hd : decode cc pc = .ok (.pop, 1)) (k : Ab cv κ (pc + 1) lv (st) σ res) : Ab cv κ pc lv (.int x :: st) σ res := by
  obtain ⟨p, l, e, R, s, m, args, below, meth, c, cells, slots, Q, D, A, ad, cI, cR⟩ := κ
  obtain ⟨hx, hb, hml, hown, hts, hK, hinj, hA, hfr, hlo, hce, hsl, hrt, hn1, hn2⟩ := hκ
  intro r σ' hr hret H locs ls hP hS hL
  exact lv_pop hx hb hd rfl (k r σ' hr hret H locs ls hP hS hL)
theorem ab_popa (hκ : Gd κ cc nL own ret d) {x : Nat} (hd : decode cc pc = .ok (.pop, 1)) (k : Ab cv κ (pc + 1) lv (st) σ res) : Ab cv κ pc lv (.ref x :: st) σ res := by
  obtain ⟨p, l, e, R, s, m, args, below, meth, c, cells, slots, Q, D, A, ad, cI, cR⟩ := κ
  obtain ⟨hx, hb, hml, hown, hts, hK, hinj, hA, hfr, hlo, hce, hsl, hrt, hn1, hn2⟩ := hκ
  intro r σ' hr hret H locs ls hP hS hL
  exact lv_pop hx hb hd rfl (k r σ' hr hret H locs ls hP hS hL)
theorem ab_dup2 (hκ : Gd κ cc nL own ret d) {x : Int32} {y : Nat} (hd : decode cc pc = .ok (.dup2, 1)) (k : Ab cv κ (pc + 1) lv (.int x :: .ref y :: .int x :: .ref y :: st) σ res) : Ab cv κ pc lv (.int x :: .ref y :: st) σ res := by
  obtain ⟨p, l, e, R, s, m, args, below, meth, c, cells, slots, Q, D, A, ad, cI, cR⟩ := κ
  obtain ⟨hx, hb, hml, hown, hts, hK, hinj, hA, hfr, hlo, hce, hsl, hrt, hn1, hn2⟩ := hκ
  intro r σ' hr hret H locs ls hP hS hL
  exact lv_dup2_11 hx hb hd rfl rfl (k r σ' hr hret H locs ls hP hS hL)
theorem ab_idiv (hκ : Gd κ cc nL own ret d) {x y : Int32} (hd : decode cc pc = .ok (.idiv, 1)) (k : Ab cv κ (pc + 1) lv (.int (x / y) :: st) σ res) : Ab cv κ pc lv (.int y :: .int x :: st) σ (sy_dv y res) := by
  obtain ⟨p, l, e, R, s, m, args, below, meth, c, cells, slots, Q, D, A, ad, cI, cR⟩ := κ
  obtain ⟨hx, hb, hml, hown, hts, hK, hinj, hA, hfr, hlo, hce, hsl, hrt, hn1, hn2⟩ := hκ
  intro r σ' hr hret H locs ls hP hS hL
  unfold sy_dv at hr
  by_cases h0 : y = 0
  · rw [if_pos h0] at hr; cases hr
  · rw [if_neg h0] at hr
    exact lv_idiv hx hb hd h0 (k r σ' hr hret H locs ls hP hS hL)
theorem ab_irem (hκ : Gd κ cc nL own ret d) {x y : Int32} (hd : decode cc pc = .ok (.irem, 1)) (k : Ab cv κ (pc + 1) lv (.int (x - x / y * y) :: st) σ res) : Ab cv κ pc lv (.int y :: .int x :: st) σ (sy_dv y res) := by
  obtain ⟨p, l, e, R, s, m, args, below, meth, c, cells, slots, Q, D, A, ad, cI, cR⟩ := κ
  obtain ⟨hx, hb, hml, hown, hts, hK, hinj, hA, hfr, hlo, hce, hsl, hrt, hn1, hn2⟩ := hκ
  intro r σ' hr hret H locs ls hP hS hL
  unfold sy_dv at hr
  by_cases h0 : y = 0
  · rw [if_pos h0] at hr; cases hr
  · rw [if_neg h0] at hr
    exact lv_irem hx hb hd h0 (k r σ' hr hret H locs ls hP hS hL)
theorem ab_ldiv (hκ : Gd κ cc nL own ret d) {x y : Int64} (hd : decode cc pc = .ok (.ldiv, 1)) (k : Ab cv κ (pc + 1) lv (.long (x / y) :: st) σ res) : Ab cv κ pc lv (.long y :: .long x :: st) σ (sy_dl y res) := by
  obtain ⟨p, l, e, R, s, m, args, below, meth, c, cells, slots, Q, D, A, ad, cI, cR⟩ := κ
  obtain ⟨hx, hb, hml, hown, hts, hK, hinj, hA, hfr, hlo, hce, hsl, hrt, hn1, hn2⟩ := hκ
  intro r σ' hr hret H locs ls hP hS hL
  unfold sy_dl at hr
  by_cases h0 : y = 0
  · rw [if_pos h0] at hr; cases hr
  · rw [if_neg h0] at hr
    exact lv_ldiv hx hb hd h0 (k r σ' hr hret H locs ls hP hS hL)
theorem ab_lrem (hκ : Gd κ cc nL own ret d) {x y : Int64} (hd : decode cc pc = .ok (.lrem, 1)) (k : Ab cv κ (pc + 1) lv (.long (x - x / y * y) :: st) σ res) : Ab cv κ pc lv (.long y :: .long x :: st) σ (sy_dl y res) := by
  obtain ⟨p, l, e, R, s, m, args, below, meth, c, cells, slots, Q, D, A, ad, cI, cR⟩ := κ
  obtain ⟨hx, hb, hml, hown, hts, hK, hinj, hA, hfr, hlo, hce, hsl, hrt, hn1, hn2⟩ := hκ
  intro r σ' hr hret H locs ls hP hS hL
  unfold sy_dl at hr
  by_cases h0 : y = 0
  · rw [if_pos h0] at hr; cases hr
  · rw [if_neg h0] at hr
    exact lv_lrem hx hb hd h0 (k r σ' hr hret H locs ls hP hS hL)
theorem ab_if_eq (hκ : Gd κ cc nL own ret d) {x : Int32} {off : Int} {tgt : Nat} (hd : decode cc pc = .ok (.ifCond .eq off, 3)) (ht : (pc : Int) + off = (tgt : Int)) (k1 : Ab cv κ tgt lv st σ r1) (k2 : Ab cv κ (pc + 3) lv st σ r2) : Ab cv κ pc lv (.int x :: st) σ (if x = 0 then r1 else r2) := by
  obtain ⟨p, l, e, R, s, m, args, below, meth, c, cells, slots, Q, D, A, ad, cI, cR⟩ := κ
  obtain ⟨hx, hb, hml, hown, hts, hK, hinj, hA, hfr, hlo, hce, hsl, hrt, hn1, hn2⟩ := hκ
  intro r σ' hr hret H locs ls hP hS hL
  refine lv_if_eq hx hb hd ht (fun h => ?_) (fun h => ?_)
  · exact k1 r σ' (by simpa [h] using hr) hret H locs ls hP hS hL
  · exact k2 r σ' (by simpa [h] using hr) hret H locs ls hP hS hL
theorem ab_if_ne (hκ : Gd κ cc nL own ret d) {x : Int32} {off : Int} {tgt : Nat} (hd : decode cc pc = .ok (.ifCond .ne off, 3)) (ht : (pc : Int) + off = (tgt : Int)) (k1 : Ab cv κ tgt lv st σ r1) (k2 : Ab cv κ (pc + 3) lv st σ r2) : Ab cv κ pc lv (.int x :: st) σ (if x = 0 then r2 else r1) := by
  obtain ⟨p, l, e, R, s, m, args, below, meth, c, cells, slots, Q, D, A, ad, cI, cR⟩ := κ
  obtain ⟨hx, hb, hml, hown, hts, hK, hinj, hA, hfr, hlo, hce, hsl, hrt, hn1, hn2⟩ := hκ
  intro r σ' hr hret H locs ls hP hS hL
  refine lv_if_ne hx hb hd ht (fun h => ?_) (fun h => ?_)
  · exact k1 r σ' (by simpa [h] using hr) hret H locs ls hP hS hL
  · exact k2 r σ' (by simpa [h] using hr) hret H locs ls hP hS hL
theorem ab_if_lt (hκ : Gd κ cc nL own ret d) {x : Int32} {off : Int} {tgt : Nat} (hd : decode cc pc = .ok (.ifCond .lt off, 3)) (ht : (pc : Int) + off = (tgt : Int)) (k1 : Ab cv κ tgt lv st σ r1) (k2 : Ab cv κ (pc + 3) lv st σ r2) : Ab cv κ pc lv (.int x :: st) σ (if x < 0 then r1 else r2) := by
  obtain ⟨p, l, e, R, s, m, args, below, meth, c, cells, slots, Q, D, A, ad, cI, cR⟩ := κ
  obtain ⟨hx, hb, hml, hown, hts, hK, hinj, hA, hfr, hlo, hce, hsl, hrt, hn1, hn2⟩ := hκ
  intro r σ' hr hret H locs ls hP hS hL
  refine lv_if_lt hx hb hd ht (fun h => ?_) (fun h => ?_)
  · exact k1 r σ' (by simpa [h] using hr) hret H locs ls hP hS hL
  · exact k2 r σ' (by simpa [h] using hr) hret H locs ls hP hS hL
theorem ab_if_ge (hκ : Gd κ cc nL own ret d) {x : Int32} {off : Int} {tgt : Nat} (hd : decode cc pc = .ok (.ifCond .ge off, 3)) (ht : (pc : Int) + off = (tgt : Int)) (k1 : Ab cv κ tgt lv st σ r1) (k2 : Ab cv κ (pc + 3) lv st σ r2) : Ab cv κ pc lv (.int x :: st) σ (if 0 ≤ x then r1 else r2) := by
  obtain ⟨p, l, e, R, s, m, args, below, meth, c, cells, slots, Q, D, A, ad, cI, cR⟩ := κ
  obtain ⟨hx, hb, hml, hown, hts, hK, hinj, hA, hfr, hlo, hce, hsl, hrt, hn1, hn2⟩ := hκ
  intro r σ' hr hret H locs ls hP hS hL
  refine lv_if_ge hx hb hd ht (fun h => ?_) (fun h => ?_)
  · exact k1 r σ' (by simpa [h] using hr) hret H locs ls hP hS hL
  · exact k2 r σ' (by simpa [h] using hr) hret H locs ls hP hS hL
theorem ab_if_gt (hκ : Gd κ cc nL own ret d) {x : Int32} {off : Int} {tgt : Nat} (hd : decode cc pc = .ok (.ifCond .gt off, 3)) (ht : (pc : Int) + off = (tgt : Int)) (k1 : Ab cv κ tgt lv st σ r1) (k2 : Ab cv κ (pc + 3) lv st σ r2) : Ab cv κ pc lv (.int x :: st) σ (if 0 < x then r1 else r2) := by
  obtain ⟨p, l, e, R, s, m, args, below, meth, c, cells, slots, Q, D, A, ad, cI, cR⟩ := κ
  obtain ⟨hx, hb, hml, hown, hts, hK, hinj, hA, hfr, hlo, hce, hsl, hrt, hn1, hn2⟩ := hκ
  intro r σ' hr hret H locs ls hP hS hL
  refine lv_if_gt hx hb hd ht (fun h => ?_) (fun h => ?_)
  · exact k1 r σ' (by simpa [h] using hr) hret H locs ls hP hS hL
  · exact k2 r σ' (by simpa [h] using hr) hret H locs ls hP hS hL
theorem ab_if_le (hκ : Gd κ cc nL own ret d) {x : Int32} {off : Int} {tgt : Nat} (hd : decode cc pc = .ok (.ifCond .le off, 3)) (ht : (pc : Int) + off = (tgt : Int)) (k1 : Ab cv κ tgt lv st σ r1) (k2 : Ab cv κ (pc + 3) lv st σ r2) : Ab cv κ pc lv (.int x :: st) σ (if x ≤ 0 then r1 else r2) := by
  obtain ⟨p, l, e, R, s, m, args, below, meth, c, cells, slots, Q, D, A, ad, cI, cR⟩ := κ
  obtain ⟨hx, hb, hml, hown, hts, hK, hinj, hA, hfr, hlo, hce, hsl, hrt, hn1, hn2⟩ := hκ
  intro r σ' hr hret H locs ls hP hS hL
  refine lv_if_le hx hb hd ht (fun h => ?_) (fun h => ?_)
  · exact k1 r σ' (by simpa [h] using hr) hret H locs ls hP hS hL
  · exact k2 r σ' (by simpa [h] using hr) hret H locs ls hP hS hL
theorem ab_icmp_eq (hκ : Gd κ cc nL own ret d) {x y : Int32} {off : Int} {tgt : Nat} (hd : decode cc pc = .ok (.if_icmp .eq off, 3)) (ht : (pc : Int) + off = (tgt : Int)) (k1 : Ab cv κ tgt lv st σ r1) (k2 : Ab cv κ (pc + 3) lv st σ r2) : Ab cv κ pc lv (.int y :: .int x :: st) σ (if x = y then r1 else r2) := by
  obtain ⟨p, l, e, R, s, m, args, below, meth, c, cells, slots, Q, D, A, ad, cI, cR⟩ := κ
  obtain ⟨hx, hb, hml, hown, hts, hK, hinj, hA, hfr, hlo, hce, hsl, hrt, hn1, hn2⟩ := hκ
  intro r σ' hr hret H locs ls hP hS hL
  refine lv_icmp_eq hx hb hd ht (fun h => ?_) (fun h => ?_)
  · exact k1 r σ' (by simpa [h] using hr) hret H locs ls hP hS hL
  · exact k2 r σ' (by simpa [h] using hr) hret H locs ls hP hS hL
theorem ab_icmp_ne (hκ : Gd κ cc nL own ret d) {x y : Int32} {off : Int} {tgt : Nat} (hd : decode cc pc = .ok (.if_icmp .ne off, 3)) (ht : (pc : Int) + off = (tgt : Int)) (k1 : Ab cv κ tgt lv st σ r1) (k2 : Ab cv κ (pc + 3) lv st σ r2) : Ab cv κ pc lv (.int y :: .int x :: st) σ (if x = y then r2 else r1) := by
  obtain ⟨p, l, e, R, s, m, args, below, meth, c, cells, slots, Q, D, A, ad, cI, cR⟩ := κ
  obtain ⟨hx, hb, hml, hown, hts, hK, hinj, hA, hfr, hlo, hce, hsl, hrt, hn1, hn2⟩ := hκ
  intro r σ' hr hret H locs ls hP hS hL
  refine lv_icmp_ne hx hb hd ht (fun h => ?_) (fun h => ?_)
  · exact k1 r σ' (by simpa [h] using hr) hret H locs ls hP hS hL
  · exact k2 r σ' (by simpa [h] using hr) hret H locs ls hP hS hL
theorem ab_icmp_lt (hκ : Gd κ cc nL own ret d) {x y : Int32} {off : Int} {tgt : Nat} (hd : decode cc pc = .ok (.if_icmp .lt off, 3)) (ht : (pc : Int) + off = (tgt : Int)) (k1 : Ab cv κ tgt lv st σ r1) (k2 : Ab cv κ (pc + 3) lv st σ r2) : Ab cv κ pc lv (.int y :: .int x :: st) σ (if x < y then r1 else r2) := by
  obtain ⟨p, l, e, R, s, m, args, below, meth, c, cells, slots, Q, D, A, ad, cI, cR⟩ := κ
  obtain ⟨hx, hb, hml, hown, hts, hK, hinj, hA, hfr, hlo, hce, hsl, hrt, hn1, hn2⟩ := hκ
  intro r σ' hr hret H locs ls hP hS hL
  refine lv_icmp_lt hx hb hd ht (fun h => ?_) (fun h => ?_)
  · exact k1 r σ' (by simpa [h] using hr) hret H locs ls hP hS hL
  · exact k2 r σ' (by simpa [h] using hr) hret H locs ls hP hS hL
theorem ab_icmp_ge (hκ : Gd κ cc nL own ret d) {x y : Int32} {off : Int} {tgt : Nat} (hd : decode cc pc = .ok (.if_icmp .ge off, 3)) (ht : (pc : Int) + off = (tgt : Int)) (k1 : Ab cv κ tgt lv st σ r1) (k2 : Ab cv κ (pc + 3) lv st σ r2) : Ab cv κ pc lv (.int y :: .int x :: st) σ (if y ≤ x then r1 else r2) := by
  obtain ⟨p, l, e, R, s, m, args, below, meth, c, cells, slots, Q, D, A, ad, cI, cR⟩ := κ
  obtain ⟨hx, hb, hml, hown, hts, hK, hinj, hA, hfr, hlo, hce, hsl, hrt, hn1, hn2⟩ := hκ
  intro r σ' hr hret H locs ls hP hS hL
  refine lv_icmp_ge hx hb hd ht (fun h => ?_) (fun h => ?_)
  · exact k1 r σ' (by simpa [h] using hr) hret H locs ls hP hS hL
  · exact k2 r σ' (by simpa [h] using hr) hret H locs ls hP hS hL
theorem ab_icmp_gt (hκ : Gd κ cc nL own ret d) {x y : Int32} {off : Int} {tgt : Nat} (hd : decode cc pc = .ok (.if_icmp .gt off, 3)) (ht : (pc : Int) + off = (tgt : Int)) (k1 : Ab cv κ tgt lv st σ r1) (k2 : Ab cv κ (pc + 3) lv st σ r2) : Ab cv κ pc lv (.int y :: .int x :: st) σ (if y < x then r1 else r2) := by
  obtain ⟨p, l, e, R, s, m, args, below, meth, c, cells, slots, Q, D, A, ad, cI, cR⟩ := κ
  obtain ⟨hx, hb, hml, hown, hts, hK, hinj, hA, hfr, hlo, hce, hsl, hrt, hn1, hn2⟩ := hκ
  intro r σ' hr hret H locs ls hP hS hL
  refine lv_icmp_gt hx hb hd ht (fun h => ?_) (fun h => ?_)
  · exact k1 r σ' (by simpa [h] using hr) hret H locs ls hP hS hL
  · exact k2 r σ' (by simpa [h] using hr) hret H locs ls hP hS hL
theorem ab_icmp_le (hκ : Gd κ cc nL own ret d) {x y : Int32} {off : Int} {tgt : Nat} (hd : decode cc pc = .ok (.if_icmp .le off, 3)) (ht : (pc : Int) + off = (tgt : Int)) (k1 : Ab cv κ tgt lv st σ r1) (k2 : Ab cv κ (pc + 3) lv st σ r2) : Ab cv κ pc lv (.int y :: .int x :: st) σ (if x ≤ y then r1 else r2) := by
  obtain ⟨p, l, e, R, s, m, args, below, meth, c, cells, slots, Q, D, A, ad, cI, cR⟩ := κ
  obtain ⟨hx, hb, hml, hown, hts, hK, hinj, hA, hfr, hlo, hce, hsl, hrt, hn1, hn2⟩ := hκ
  intro r σ' hr hret H locs ls hP hS hL
  refine lv_icmp_le hx hb hd ht (fun h => ?_) (fun h => ?_)
  · exact k1 r σ' (by simpa [h] using hr) hret H locs ls hP hS hL
  · exact k2 r σ' (by simpa [h] using hr) hret H locs ls hP hS hL
theorem ab_goto (hκ : Gd κ cc nL own ret d) {off : Int} {tgt : Nat} (hd : decode cc pc = .ok (.goto off, 3)) (ht : (pc : Int) + off = (tgt : Int)) (k : Ab cv κ tgt lv st σ res) : Ab cv κ pc lv st σ res := by
  obtain ⟨p, l, e, R, s, m, args, below, meth, c, cells, slots, Q, D, A, ad, cI, cR⟩ := κ
  obtain ⟨hx, hb, hml, hown, hts, hK, hinj, hA, hfr, hlo, hce, hsl, hrt, hn1, hn2⟩ := hκ
  intro r σ' hr hret H locs ls hP hS hL
  exact lv_goto hx hb hd ht (k r σ' hr hret H locs ls hP hS hL)
theorem ab_iald (hκ : Gd κ cc nL own ret d) {k n : Nat} {i : Int32} (hsh : sy_shp[k]? = some (.inl n)) (hd : decode cc pc = .ok (.iaload, 1)) (kk : Ab cv κ (pc + 1) lv (.int (σ k (sy_ix i)) :: st) σ res) : Ab cv κ pc lv (.int i :: .ref k :: st) σ (sy_gd i n res) := by
  obtain ⟨p, l, e, R, s, m, args, below, meth, c, cells, slots, Q, D, A, ad, cI, cR⟩ := κ
  obtain ⟨hx, hb, hml, hown, hts, hK, hinj, hA, hfr, hlo, hce, hsl, hrt, hn1, hn2⟩ := hκ
  intro r σ' hr hret H locs ls hP hS hL
  unfold sy_gd at hr
  by_cases h0 : i < 0 ∨ n ≤ i.toNatClampNeg
  · rw [if_pos h0] at hr; cases hr
  · rw [if_neg h0] at hr
    exact va_iald hx hb hK hP k 0 (sy_w_at hsh) rfl h0 hd (kk r σ' hr hret H locs ls hP hS hL)
theorem ab_iast (hκ : Gd κ cc nL own ret d) {k n : Nat} {i x : Int32} (hsh : sy_shp[k]? = some (.inl n)) (hd : decode cc pc = .ok (.iastore, 1)) (kk : Ab cv κ (pc + 1) lv st (sy_sf σ k (sy_ix i) x) res) : Ab cv κ pc lv (.int x :: .int i :: .ref k :: st) σ (sy_gd i n res) := by
  obtain ⟨p, l, e, R, s, m, args, below, meth, c, cells, slots, Q, D, A, ad, cI, cR⟩ := κ
  obtain ⟨hx, hb, hml, hown, hts, hK, hinj, hA, hfr, hlo, hce, hsl, hrt, hn1, hn2⟩ := hκ
  intro r σ' hr hret H locs ls hP hS hL
  unfold sy_gd at hr
  by_cases h0 : i < 0 ∨ n ≤ i.toNatClampNeg
  · rw [if_pos h0] at hr; cases hr
  · rw [if_neg h0] at hr
    refine va_iast hx hb hK hP (sy_D hinj hA) hS k 0 (sy_w_at hsh) rfl h0 hd (fun H1 locs1 hP1 hD1 hS1 => ?_)
    rw [sy_w_set (f := upd (σ k) (sy_ix i) x) hsh (by unfold sy_ce; rw [sy_up_s])] at hP1
    exact kk r σ' hr hret H1 locs1 ls hP1 hS1 hL
theorem ab_aald (hκ : Gd κ cc nL own ret d) {k n a b : Nat} {i : Int32} (hsh : sy_shp[k]? = some (.inr (.inl (n, a, b)))) (hd : decode cc pc = .ok (.aaload, 1)) (kk : ¬ (i < 0 ∨ n ≤ i.toNatClampNeg) → Ab cv κ (pc + 1) lv (.ref (a + b * sy_ix i) :: st) σ res) : Ab cv κ pc lv (.int i :: .ref k :: st) σ (sy_gd i n res) := by
  obtain ⟨p, l, e, R, s, m, args, below, meth, c, cells, slots, Q, D, A, ad, cI, cR⟩ := κ
  obtain ⟨hx, hb, hml, hown, hts, hK, hinj, hA, hfr, hlo, hce, hsl, hrt, hn1, hn2⟩ := hκ
  intro r σ' hr hret H locs ls hP hS hL
  unfold sy_gd at hr
  by_cases h0 : i < 0 ∨ n ≤ i.toNatClampNeg
  · rw [if_pos h0] at hr; cases hr
  · rw [if_neg h0] at hr
    exact va_aldq hx hb hK hP k 1 (sy_w_at hsh) rfl h0 hd (kk h0 r σ' hr hret H locs ls hP hS hL)
theorem ab_alen (hκ : Gd κ cc nL own ret d) {k n : Nat} (hsh : sy_shp[k]? = some (.inl n)) (hd : decode cc pc = .ok (.arraylength, 1)) (kk : Ab cv κ (pc + 1) lv (.int (nI n) :: st) σ res) : Ab cv κ pc lv (.ref k :: st) σ res := by
  obtain ⟨p, l, e, R, s, m, args, below, meth, c, cells, slots, Q, D, A, ad, cI, cR⟩ := κ
  obtain ⟨hx, hb, hml, hown, hts, hK, hinj, hA, hfr, hlo, hce, hsl, hrt, hn1, hn2⟩ := hκ
  intro r σ' hr hret H locs ls hP hS hL
  exact va_alen hx hb hK hP k 0 (sy_w_at hsh) rfl rfl hd (kk r σ' hr hret H locs ls hP hS hL)
theorem ab_copy (hκ : Gd κ cc nL own ret d) {k0 n0 k1 n1 i : Nat} {sp dp n : Int32} (h0 : sy_shp[k0]? = some (.inl n0)) (h1 : sy_shp[k1]? = some (.inl n1)) (hd : decode cc pc = .ok (.invokestatic i, 3)) (hl : Cond.methodLink own i arraycopyName ∈ sy_T) (hd1 : 1 ≤ d) (hst : (st.map Value.category).sum ≤ 8) (kk : Ab cv κ (pc + 3) lv st (sy_cp σ k0 sp k1 dp n) res) : Ab cv κ pc lv (.int n :: .int dp :: .ref k1 :: .int sp :: .ref k0 :: st) σ (sy_cg sp dp n n0 n1 res) := by
  obtain ⟨p, l, e, R, s, m, args, below, meth, c, cells, slots, Q, D, A, ad, cI, cR⟩ := κ
  obtain ⟨hx, hb, hml, hown, hts, hK, hinj, hA, hfr, hlo, hce, hsl, hrt, hn1, hn2⟩ := hκ
  intro r σ' hr hret H locs ls hP hS hL
  unfold sy_cg at hr
  by_cases hc : sp < 0 ∨ dp < 0 ∨ n < 0 ∨ n0 < sp.toNatClampNeg + n.toNatClampNeg ∨ n1 < dp.toNatClampNeg + n.toNatClampNeg
  · rw [if_pos hc] at hr; cases hr
  · rw [if_neg hc] at hr
    have g1 : ¬ sp < 0 := fun h => hc (Or.inl h)
    have g2 : ¬ dp < 0 := fun h => hc (Or.inr (Or.inl h))
    have g3 : ¬ n < 0 := fun h => hc (Or.inr (Or.inr (Or.inl h)))
    have g4 : sp.toNatClampNeg + n.toNatClampNeg ≤ n0 := Nat.not_lt.mp fun h => hc (Or.inr (Or.inr (Or.inr (Or.inl h))))
    have g5 : dp.toNatClampNeg + n.toNatClampNeg ≤ n1 := Nat.not_lt.mp fun h => hc (Or.inr (Or.inr (Or.inr (Or.inr h))))
    have hst2 : (((st.map (sy_vm ad)).map fun v => v.category).sum) ≤ 8 := by
      rw [List.map_map, show ((fun v => v.category) ∘ sy_vm ad) = Value.category from funext (sy_vm_cat ad)]
      exact hst
    refine va_copyi hx hb (by rw [hL.1]) hown (hts _ hl) (hts _ sy_m_nat) (hts _ sy_m_stat) (hts _ sy_m_ini) hK hP (sy_D hinj hA) hS k0 k1 0 0 (sy_w_at h0) (sy_w_at h1) rfl rfl rfl g1 g2 g3 g4 g5 (fun _ _ => rfl) (by omega) (by have hw : nativeFrameWords "java/lang/System" "arraycopy" 5 ≤ 20 := (by decide); omega) hd (fun H1 locs1 hP1 hD1 hS1 => ?_)
    rw [sy_w_set (f := va_cpy (σ k0) (σ k1) sp.toNatClampNeg dp.toNatClampNeg n.toNatClampNeg) h1 (by unfold sy_ce; rw [sy_up_s])] at hP1
    exact kk r σ' hr hret H1 locs1 ls hP1 hS1 hL
/-- what a class's tables say -/
def sy_CI (ci : Nat) (C : String) (T : u_T) (N : Nat) (ty : Nat → FieldType) : Prop := vwCl[ci]? = some (C, T, N) ∧ (∀ w ∈ u_ws C T N, w ∈ sy_T) ∧ (∀ k, k < N → parseFieldDescriptor (T k).2.2.1 = some (ty k)) ∧ (∀ a, a < N → ∀ b, b < N → a ≠ b → (T a).2.1 ≠ (T b).2.1)
/-- field number k of class ci, named by entry idx of own's pool; one that isn't final -/
def sy_FR (own : String) (idx ci k : Nat) : Prop := ∃ (C : String) (T : u_T) (N : Nat) (ty : Nat → FieldType), sy_CI ci C T N ty ∧ k < N ∧ Cond.fieldLink own idx (T k).1 (T k).2.1 (T k).2.2.1 ∈ sy_T
def sy_FP (own : String) (idx ci k : Nat) (t : FieldType) : Prop := ∃ (C : String) (T : u_T) (N : Nat) (ty : Nat → FieldType), sy_CI ci C T N ty ∧ k < N ∧ Cond.fieldLink own idx (T k).1 (T k).2.1 (T k).2.2.1 ∈ sy_T ∧ (T k).2.2.2 = false ∧ ty k = t
theorem ab_getf {k ci idx j : Nat} {fk : List (Option Nat)} {o : Option Nat} (hκ : Gd κ cc nL own ret d) (hsh : sy_shp[k]? = some (.inr (.inr (ci, fk)))) (hF : sy_FR own idx ci j) (hj : fk[j]? = some o) (hd : decode cc pc = .ok (.getfield idx, 3)) {v : Value} (hv : (match o with | some off => Value.ref (k + off) | none => .int (σ k j)) = v) (kk : Ab cv κ (pc + 3) lv (v :: st) σ res) : Ab cv κ pc lv (.ref k :: st) σ res := by
  obtain ⟨p, l, e, R, s, m, args, below, meth, c, cells, slots, Q, D, A, ad, cI, cR⟩ := κ
  obtain ⟨hx, hb, hml, hown, hts, hK, hinj, hA, hfr, hlo, hce, hsl, hrt, hn1, hn2⟩ := hκ
  intro r σ' hr hret H locs ls hP hS hL
  obtain ⟨C, T, N, ty, ⟨c1, c2, c3, c4⟩, hk, hl⟩ := hF
  have hfs : (sy_fl ad σ k fk)[j]? = some (sy_vm ad v) := by
    unfold sy_fl
    rw [List.getElem?_mapIdx, hj, ← hv]
    cases o <;> rfl
  exact va_get hx hb hts c2 hown hK hP k (sy_w_at hsh) c1 j hk (hts _ hl) (fun _ h9 => h9) hfs hd (kk r σ' hr hret H locs ls hP hS hL)
theorem ab_putf {k ci idx j : Nat} {fk : List (Option Nat)} {x : Int32} (hκ : Gd κ cc nL own ret d) (hsh : sy_shp[k]? = some (.inr (.inr (ci, fk)))) (hF : sy_FP own idx ci j .int) (hj : fk[j]? = some none) (hd : decode cc pc = .ok (.putfield idx, 3)) (kk : Ab cv κ (pc + 3) lv st (sy_sf σ k j x) res) : Ab cv κ pc lv (.int x :: .ref k :: st) σ res := by
  obtain ⟨p, l, e, R, s, m, args, below, meth, c, cells, slots, Q, D, A, ad, cI, cR⟩ := κ
  obtain ⟨hx, hb, hml, hown, hts, hK, hinj, hA, hfr, hlo, hce, hsl, hrt, hn1, hn2⟩ := hκ
  intro r σ' hr hret H locs ls hP hS hL
  obtain ⟨C, T, N, ty, ⟨c1, c2, c3, c4⟩, hk, hl, hf, ht⟩ := hF
  refine va_put hx hb hts c2 ty c3 c4 hown hK hP (sy_D hinj hA) hS k (sy_w_at hsh) c1 j hk (hts _ hl) (fun _ h9 => h9) hf (c3 j hk) (by rw [ht]; rfl) (by rw [ht]; rfl) (by show j < (sy_fl ad σ k fk).length; unfold sy_fl; rw [List.length_mapIdx]; exact (List.getElem?_eq_some_iff.mp hj).1) hd (fun H1 locs1 hP1 hD1 hS1 => ?_)
  rw [sy_w_set (f := upd (σ k) j x) hsh (by show Sum.inr (ci, (sy_fl ad σ k fk).set j (.int x)) = _; rw [sy_fl_set hj]; rfl)] at hP1
  exact kk r σ' hr hret H1 locs1 ls hP1 hS1 hL
theorem ab_putz {k ci idx j : Nat} {fk : List (Option Nat)} {x : Int32} (hκ : Gd κ cc nL own ret d) (hsh : sy_shp[k]? = some (.inr (.inr (ci, fk)))) (hF : sy_FP own idx ci j .boolean) (hj : fk[j]? = some none) (hd : decode cc pc = .ok (.putfield idx, 3)) (kk : Ab cv κ (pc + 3) lv st (sy_sf σ k j x) res) : Ab cv κ pc lv (.int x :: .ref k :: st) σ (sy_zg x res) := by
  obtain ⟨p, l, e, R, s, m, args, below, meth, c, cells, slots, Q, D, A, ad, cI, cR⟩ := κ
  obtain ⟨hx, hb, hml, hown, hts, hK, hinj, hA, hfr, hlo, hce, hsl, hrt, hn1, hn2⟩ := hκ
  intro r σ' hr hret H locs ls hP hS hL
  obtain ⟨C, T, N, ty, ⟨c1, c2, c3, c4⟩, hk, hl, hf, ht⟩ := hF
  unfold sy_zg at hr
  by_cases hz : x = 0 ∨ x = 1
  · rw [if_pos hz] at hr
    refine va_put hx hb hts c2 ty c3 c4 hown hK hP (sy_D hinj hA) hS k (sy_w_at hsh) c1 j hk (hts _ hl) (fun _ h9 => h9) hf (c3 j hk) (by rw [ht]; rcases hz with rfl | rfl <;> rfl) (by rw [ht]; rcases hz with rfl | rfl <;> rfl) (by show j < (sy_fl ad σ k fk).length; unfold sy_fl; rw [List.length_mapIdx]; exact (List.getElem?_eq_some_iff.mp hj).1) hd (fun H1 locs1 hP1 hD1 hS1 => ?_)
    rw [sy_w_set (f := upd (σ k) j x) hsh (by show Sum.inr (ci, (sy_fl ad σ k fk).set j (.int x)) = _; rw [sy_fl_set hj]; rfl)] at hP1
    exact kk r σ' hr hret H1 locs1 ls hP1 hS1 hL
  · rw [if_neg hz] at hr; cases hr
theorem ab_iret {x : Int32} (hκ : Gd κ cc nL own (some .int) d) (hd : decode cc pc = .ok (.ireturn, 1)) : Ab (α := Int32) sy_vi κ pc lv [.int x] σ (some (x, σ)) := by
  obtain ⟨p, l, e, R, s, m, args, below, meth, c, cells, slots, Q, D, A, ad, cI, cR⟩ := κ
  obtain ⟨hx, hb, hml, hown, hts, hK, hinj, hA, hfr, hlo, hce, hsl, hrt, hn1, hn2⟩ := hκ
  intro r σ' hr hret H locs ls hP hS hL
  cases hr
  exact hret H locs ls pc hP hS ⟨by rw [hb]; exact hd, .int, hrt, rfl⟩
theorem ab_zret {x : Int32} (hκ : Gd κ cc nL own (some .boolean) d) (hd : decode cc pc = .ok (.ireturn, 1)) : Ab (α := Int32) sy_vi κ pc lv [.int x] σ (sy_zg x (some (x, σ))) := by
  obtain ⟨p, l, e, R, s, m, args, below, meth, c, cells, slots, Q, D, A, ad, cI, cR⟩ := κ
  obtain ⟨hx, hb, hml, hown, hts, hK, hinj, hA, hfr, hlo, hce, hsl, hrt, hn1, hn2⟩ := hκ
  intro r σ' hr hret H locs ls hP hS hL
  unfold sy_zg at hr
  by_cases hz : x = 0 ∨ x = 1
  · rw [if_pos hz] at hr
    cases hr
    exact hret H locs ls pc hP hS ⟨by rw [hb]; exact hd, .boolean, hrt, by rcases hz with rfl | rfl <;> rfl⟩
  · rw [if_neg hz] at hr; cases hr
theorem ab_lret {x : Int64} (hκ : Gd κ cc nL own (some .long) d) (hd : decode cc pc = .ok (.lreturn, 1)) : Ab (α := Int64) sy_vl κ pc lv [.long x] σ (some (x, σ)) := by
  obtain ⟨p, l, e, R, s, m, args, below, meth, c, cells, slots, Q, D, A, ad, cI, cR⟩ := κ
  obtain ⟨hx, hb, hml, hown, hts, hK, hinj, hA, hfr, hlo, hce, hsl, hrt, hn1, hn2⟩ := hκ
  intro r σ' hr hret H locs ls hP hS hL
  cases hr
  exact hret H locs ls pc hP hS ⟨by rw [hb]; exact hd, hrt⟩
theorem ab_aret {x : Nat} {n : String} (hκ : Gd κ cc nL own (some (.object n)) d) (hd : decode cc pc = .ok (.areturn, 1)) : Ab (α := Nat) sy_vr κ pc lv [.ref x] σ (some (x, σ)) := by
  obtain ⟨p, l, e, R, s, m, args, below, meth, c, cells, slots, Q, D, A, ad, cI, cR⟩ := κ
  obtain ⟨hx, hb, hml, hown, hts, hK, hinj, hA, hfr, hlo, hce, hsl, hrt, hn1, hn2⟩ := hκ
  intro r σ' hr hret H locs ls hP hS hL
  cases hr
  exact hret H locs ls pc hP hS ⟨by rw [hb]; exact hd, n, hrt⟩
theorem ab_vret (hκ : Gd κ cc nL own none d) (hd : decode cc pc = .ok (.return_, 1)) : Ab (α := Unit) sy_cu κ pc lv [] σ (some ((), σ)) := by
  obtain ⟨p, l, e, R, s, m, args, below, meth, c, cells, slots, Q, D, A, ad, cI, cR⟩ := κ
  obtain ⟨hx, hb, hml, hown, hts, hK, hinj, hA, hfr, hlo, hce, hsl, hrt, hn1, hn2⟩ := hκ
  intro r σ' hr hret H locs ls hP hS hL
  cases hr
  exact hret H locs ls pc hP hS ⟨by rw [hb]; exact hd, hrt⟩
theorem ab_lti {x : Int32} {f : Int32 → Option (α × St)} (h : ∀ x, Ab cv κ pc lv (.int x :: st) σ (f x)) : Ab cv κ pc lv (.int x :: st) σ (sy_lt x f) := h x
theorem ab_ltl {x : Int64} {f : Int64 → Option (α × St)} (h : ∀ x, Ab cv κ pc lv (.long x :: st) σ (f x)) : Ab cv κ pc lv (.long x :: st) σ (sy_lt x f) := h x
theorem ab_lts {f : St → Option (α × St)} (h : ∀ σ, Ab cv κ pc lv st σ (f σ)) : Ab cv κ pc lv st σ (sy_lt σ f) := h σ
end Rows
end
section
/-! ===== contracts of methods over the store, calls ===== -/
def sy_RM (d : Nat) : Room := { frames := d, cells := 0, slots := 0, locals := 44 * d }
def sy_A (ad : Nat → Nat) : Nat → Prop := fun q => ∃ k : Nat, k < 81 ∧ q = ad k
def sy_Q (D : va_G) (ad : Nat → Nat) (cI cR : ClassId) (rv : Option Value) (σ' : St) : Array Value → State → Outcome → State → Prop := fun _ st oc t => oc = .returned (rv.map (sy_vm ad)) ∧ va_P D vwCl (sy_w ad cI cR σ') t.heap ∧ va_F (sy_A ad) st t
def sy_Pc (D : va_G) (ad : Nat → Nat) (cI cR : ClassId) (vs : List Value) (σ : St) : Array Value → State → Prop := va_Pc (vs.map (sy_vm ad)) (fun U => va_P D vwCl (sy_w ad cI cR σ) U.heap ∧ va_K D vwCl (sy_ty cI cR) U ∧ va_Nw sy_n1 U ∧ va_Nw sy_n2 U)
/-- the method y, of this code, calling at most d deep, answers as res says -/
def Cok {β : Type} (cw : β → Option Value) (y : MethodName) (cc : ByteArray) (nL : Nat) (ret : Option FieldType) (d : Nat) (vs : List Value) (σ : St) (res : Option (β × St)) : Prop :=
  ∀ (r : β) (σ' : St), res = some (r, σ') → ∀ (l : Launch) (D : va_G) (ad : Nat → Nat) (cI cR : ClassId), (∀ i j : Nat, i < 81 → j < 81 → ad i = ad j → i = j) → Met l y (Cond.code y cc nL ret :: sy_T) (sy_RM d) (sy_Pc D ad cI cR vs σ) (sy_Q D ad cI cR (cw r) σ') 0 0 (sy_A ad)
theorem sy_good : ∀ w ∈ sy_T, (w.onTables && w.keeps) = true ∨ ∃ ty, w = .arrayClass ty := fun w hw => good_of_word (List.mem_filter.mp hw).2
/-- what is fixed of a method that is called: its code's word, its class is ready, how many arguments -/
def sy_MI (y : MethodName) (cc : ByteArray) (nL : Nat) (ret : Option FieldType) (n : Nat) : Prop := Cond.code y cc nL ret ∈ sy_T ∧ Cond.initialized y.cls ∈ sy_T ∧ (y.cls ≠ "java/lang/invoke/MethodHandle" ∧ y.cls ≠ "java/lang/invoke/VarHandle" ∧ (parseMethodDescriptor y.desc).map (fun d => d.parameters.length) = some n) ∧ nL ≤ 25
def sy_MV (y : MethodName) : Prop := Cond.instanceMethod y ∈ sy_T ∧ Cond.selects y.cls y y ∈ sy_T
theorem sy_GI {y : MethodName} {cc : ByteArray} {nL : Nat} {ret : Option FieldType} (h : Cond.code y cc nL ret ∈ sy_T) : GoodIn sy_T (Cond.code y cc nL ret :: sy_T) := by
  intro w hw
  rcases List.mem_cons.mp hw with rfl | hw
  · exact ⟨h, sy_good _ h⟩
  · exact ⟨hw, sy_good _ hw⟩
theorem sy_blind {D : va_G} {ad : Nat → Nat} {cI cR : ClassId} {vs : List Value} {σ : St} : FrameBlind (sy_Pc D ad cI cR vs σ) := fun a U g mk q => by
  obtain ⟨q0, qP, qK, q1, q2⟩ := q
  exact ⟨q0, qP, va_K.moved (u := U) (U := U.calling g mk a) (Vm.Alike.refl U.vm) qK, va_Nw.same (u := U) (U := U.calling g mk a) rfl rfl q1, va_Nw.same (u := U) (U := U.calling g mk a) rfl rfl q2⟩
section Calls2
variable {α β : Type} {cv : α → Option Value} {cw : β → Option Value} {κ : Kx} {cc : ByteArray} {nL d : Nat} {own : String} {ret : Option FieldType} {pc : Nat} {lv : List (Option Value)} {st : List Value} {σ : St}
theorem sy_run {p : Program} {l : Launch} {e : Env} {R : Room} {s : State} {m : MethodId} {args : Array Value} {below : List Frame} {meth : Method} {c : Code} {H : Heap} {locs : List Loc} {cells slots : Nat} {Q : State → Prop} {pc : Nat} {ls : Array Slot} {rest st0 : List Value} {a : Array Value} {A0 : Nat → Prop} {H0 : Heap} {D : va_G} {ad : Nat → Nat} {cI cR : ClassId} {rv : Option Value} {σ' : St}
    (hr : va_Run p l e R s m args below meth c H locs cells slots 0 0 (F0 m pc ls st0) rest (sy_Q D ad cI cR rv σ' a) (sy_A ad)) (hS : va_S A0 H0 H locs) (hA : ∀ k : Nat, k < 81 → A0 (ad k))
    (kk : ∀ (H1 : Heap) (locs1 : List Loc), va_P D vwCl (sy_w ad cI cR σ') H1 → va_S A0 H0 H1 locs1 → W p l e R s m args below meth c H1 locs1 cells slots Q (F0 m (pc + 3) ls ((rv.map (sy_vm ad)).toList ++ rest))) : W p l e R s m args below meth c H locs cells slots Q (F0 m pc ls st0) := by
  intro T hT X
  obtain ⟨v, st₀, t, T', L, h0, X', hL, e1, e2, ⟨hv, hP, hz, hk⟩, st⟩ := hr T hT X
  have hv2 : v = rv.map (sy_vm ad) := Outcome.returned.inj hv
  subst hv2
  rw [h0] at hz hk
  have hf : ∀ q, sy_A ad q → A0 q := by
    rintro q ⟨k, hk, rfl⟩
    exact hA k hk
  obtain ⟨t2, a1, b1⟩ := kk T'.heap (locs ++ L) (by rw [e1]; exact hP)
    ⟨Nat.le_trans hS.1 (by rw [e1]; exact hz), fun q h1 h2 => by rw [e1, hk q (Nat.lt_of_lt_of_le h1 hS.1) (fun z => h2 (hf q z))]; exact hS.2.1 q h1 h2, fun q hq => by
      rcases List.mem_append.mp hq with h | h
      · exact hS.2.2 q h
      · exact hf _ (hL q h)⟩ T' rfl X'
  exact ⟨t2, st t2 a1, b1⟩
theorem sy_cat {ad : Nat → Nat} (h : (st.map Value.category).sum ≤ 8) : (((st.map (sy_vm ad)).map fun v => v.category).sum) ≤ 8 := by
  rw [List.map_map, show ((fun v => v.category) ∘ sy_vm ad) = Value.category from funext (sy_vm_cat ad)]
  exact h
theorem sy_opt (ad : Nat → Nat) (o : Option Value) (st : List Value) : (o.map (sy_vm ad)).toList ++ st.map (sy_vm ad) = (o.toList ++ st).map (sy_vm ad) := by cases o <;> simp
theorem sy_prev {D : va_G} {ad : Nat → Nat} {cI cR : ClassId} {vs : List Value} {s : State} {H : Heap} (hK : va_K D vwCl (sy_ty cI cR) s) (hn1 : va_Nw sy_n1 s) (hn2 : va_Nw sy_n2 s) (hP : va_P D vwCl (sy_w ad cI cR σ) H) : PreS s H (sy_Pc D ad cI cR vs σ) (vs.map (sy_vm ad)) :=
  ⟨sy_blind, fun U hU hW => ⟨rfl, by rw [hU]; exact hP, va_K.moved hW.alike hK, hn1.warmM hW, hn2.warmM hW⟩⟩
/-- a call by invokevirtual -/
theorem ab_cV (hκ : Gd κ cc nL own ret d) {idx k ci n nL' d' : Nat} {y : MethodName} {cc' : ByteArray} {ret' : Option FieldType} {fk : List (Option Nat)} {q : vw_C} {vs stk : List Value} {r1 : Option (β × St)} {f : β → St → Option (α × St)}
    (hd : decode cc pc = .ok (.invokevirtual idx, 3)) (hl : Cond.methodLink own idx y ∈ sy_T) (hI : sy_MI y cc' nL' ret' n) (hV : sy_MV y) (hsh : sy_shp[k]? = some (.inr (.inr (ci, fk)))) (hci : vwCl[ci]? = some q) (hq : y.cls = q.1)
    (hM : Cok cw y cc' nL' ret' d' (.ref k :: vs) σ r1) (hn : vs.length = n) (hdd : d' < d) (hst : (st.map Value.category).sum ≤ 8) (hstk : stk = vs.reverse ++ .ref k :: st)
    (kk : ∀ (x : β) (σ1 : St), Ab cv κ (pc + 3) lv ((cw x).toList ++ st) σ1 (f x σ1)) : Ab cv κ pc lv stk σ (sy_bd r1 f) := by
  obtain ⟨p, l, e, R, s, m, args, below, meth, c, cells, slots, Q, D, A, ad, cI, cR⟩ := κ
  obtain ⟨hx, hb, hml, hown, hts, hK, hinj, hA, hfr, hlo, hce, hsl, hrt, hn1, hn2⟩ := hκ
  intro r σ' hr hret H locs ls hP hS hL
  subst hstk
  cases h1 : r1 with
  | none => rw [h1] at hr; cases hr
  | some z =>
    obtain ⟨x, σ1⟩ := z
    rw [h1] at hr
    have hr : f x σ1 = some (r, σ') := hr
    have hMet := hM x σ1 h1 l D ad cI cR hinj
    obtain ⟨hc, hini, hd3, hn25⟩ := hI
    have hcw : CallW R s args own y.cls idx y cc' nL' ret' (Cond.code y cc' nL' ret' :: sy_T) (sy_RM d') 0 0 n := ⟨callB_of n hts (sy_GI hc) rfl rfl rfl (hts _ hini) (hts _ hl) hd3 ⟨by show d' + 1 ≤ R.frames; omega, by show 8 + (nL' + 11) + 44 * d' ≤ R.locals; omega⟩, hts _ hV.1, hts _ hV.2⟩
    have hpre := sy_prev (vs := .ref k :: vs) hK hn1 hn2 hP
    have hrecv := va_recv hK hP hci (sy_w_at hsh)
    rw [← hq] at hrecv
    refine sy_run (va_runV (As := vs.map (sy_vm ad)) (b := ad k) (rest := st.map (sy_vm ad)) ⟨hx, hb, hml, hown, hts⟩ hMet hcw ⟨hpre.1, hrecv, hpre.2⟩ rfl (by rw [List.length_map]; exact hn) (hL.1.trans hml) (by simp [sy_vm]) (lv_room (sy_cat hst)) hd ⟨by omega, by omega⟩) hS hA (fun H1 locs1 hP1 hS1 => ?_)
    rw [sy_opt]
    exact kk x σ1 r σ' hr hret H1 locs1 ls hP1 hS1 hL
/-- a call by invokestatic, of a method that the class may link -/
theorem ab_cS (hκ : Gd κ cc nL own ret d) {idx n nL' d' : Nat} {y : MethodName} {cc' : ByteArray} {ret' : Option FieldType} {vs stk : List Value} {r1 : Option (β × St)} {f : β → St → Option (α × St)}
    (hd : decode cc pc = .ok (.invokestatic idx, 3)) (hl : Cond.methodLink own idx y ∈ sy_T) (hI : sy_MI y cc' nL' ret' n) (hV : Cond.static y ∈ sy_T)
    (hM : Cok cw y cc' nL' ret' d' vs σ r1) (hn : vs.length = n) (hdd : d' < d) (hst : (st.map Value.category).sum ≤ 8) (hstk : stk = vs.reverse ++ st)
    (kk : ∀ (x : β) (σ1 : St), Ab cv κ (pc + 3) lv ((cw x).toList ++ st) σ1 (f x σ1)) : Ab cv κ pc lv stk σ (sy_bd r1 f) := by
  obtain ⟨p, l, e, R, s, m, args, below, meth, c, cells, slots, Q, D, A, ad, cI, cR⟩ := κ
  obtain ⟨hx, hb, hml, hown, hts, hK, hinj, hA, hfr, hlo, hce, hsl, hrt, hn1, hn2⟩ := hκ
  intro r σ' hr hret H locs ls hP hS hL
  subst hstk
  cases h1 : r1 with
  | none => rw [h1] at hr; cases hr
  | some z =>
    obtain ⟨x, σ1⟩ := z
    rw [h1] at hr
    have hr : f x σ1 = some (r, σ') := hr
    have hMet := hM x σ1 h1 l D ad cI cR hinj
    obtain ⟨hc, hini, hd3, hn25⟩ := hI
    have hcw : CallB R s args own idx y cc' nL' ret' (Cond.code y cc' nL' ret' :: sy_T) (sy_RM d') 0 0 n ∧ (Cond.static y).before args s = true := ⟨callB_of n hts (sy_GI hc) rfl rfl rfl (hts _ hini) (hts _ hl) hd3 ⟨by show d' + 1 ≤ R.frames; omega, by show 8 + (nL' + 11) + 44 * d' ≤ R.locals; omega⟩, hts _ hV⟩
    refine sy_run (va_runS (As := vs.map (sy_vm ad)) (rest := st.map (sy_vm ad)) ⟨hx, hb, hml, hown, hts⟩ hMet hcw (sy_prev hK hn1 hn2 hP) rfl (by rw [List.length_map]; exact hn) (hL.1.trans hml) (by simp) (lv_room (sy_cat hst)) hd ⟨by omega, by omega⟩) hS hA (fun H1 locs1 hP1 hS1 => ?_)
    rw [sy_opt]
    exact kk x σ1 r σ' hr hret H1 locs1 ls hP1 hS1 hL
/-- a call by invokestatic, of a nest mate's private method -/
theorem ab_cN (hκ : Gd κ cc nL own ret d) {idx n nL' d' : Nat} {y : MethodName} {host : String} {cc' : ByteArray} {ret' : Option FieldType} {vs stk : List Value} {r1 : Option (β × St)} {f : β → St → Option (α × St)}
    (hd : decode cc pc = .ok (.invokestatic idx, 3)) (hl : ∀ s : State, va_Nw sy_n1 s → va_Nw sy_n2 s → va_Nw (Cond.methodLinkNest own idx y host) s) (hI : sy_MI y cc' nL' ret' n) (hV : Cond.static y ∈ sy_T)
    (hM : Cok cw y cc' nL' ret' d' vs σ r1) (hn : vs.length = n) (hdd : d' < d) (hst : (st.map Value.category).sum ≤ 8) (hstk : stk = vs.reverse ++ st)
    (kk : ∀ (x : β) (σ1 : St), Ab cv κ (pc + 3) lv ((cw x).toList ++ st) σ1 (f x σ1)) : Ab cv κ pc lv stk σ (sy_bd r1 f) := by
  obtain ⟨p, l, e, R, s, m, args, below, meth, c, cells, slots, Q, D, A, ad, cI, cR⟩ := κ
  obtain ⟨hx, hb, hml, hown, hts, hK, hinj, hA, hfr, hlo, hce, hsl, hrt, hn1, hn2⟩ := hκ
  intro r σ' hr hret H locs ls hP hS hL
  subst hstk
  cases h1 : r1 with
  | none => rw [h1] at hr; cases hr
  | some z =>
    obtain ⟨x, σ1⟩ := z
    rw [h1] at hr
    have hr : f x σ1 = some (r, σ') := hr
    have hMet := hM x σ1 h1 l D ad cI cR hinj
    obtain ⟨hc, hini, hd3, hn25⟩ := hI
    have hNw : va_Nw (Cond.methodLinkNest own idx y host) s := hl s hn1 hn2
    have hcw : va_CN R s args own idx y host cc' nL' ret' (Cond.code y cc' nL' ret' :: sy_T) (sy_RM d') 0 0 n := va_cnB n hts (sy_GI hc) rfl rfl rfl hNw (hts _ hini) hd3 ⟨by show d' + 1 ≤ R.frames; omega, by show 8 + (nL' + 11) + 44 * d' ≤ R.locals; omega⟩
    refine sy_run (va_runSN (As := vs.map (sy_vm ad)) (rest := st.map (sy_vm ad)) ⟨hx, hb, hml, hown, hts⟩ hMet ⟨hcw, hts _ hV, trivial⟩ (sy_prev hK hn1 hn2 hP) rfl (by rw [List.length_map]; exact hn) (hL.1.trans hml) (by simp) (lv_room (sy_cat hst)) hd ⟨by omega, by omega⟩) hS hA (fun H1 locs1 hP1 hS1 => ?_)
    rw [sy_opt]
    exact kk x σ1 r σ' hr hret H1 locs1 ls hP1 hS1 hL
/-- the contract out of the walk -/
theorem cok_of {y : MethodName} {vs : List Value} {res : Option (β × St)} (hy : plainName y.cls = true) (hown : y.cls = own) (hvs : ∀ ad : Nat → Nat, (lg_sl (vs.map (sy_vm ad))).length ≤ nL)
    (hab : ∀ κ : Kx, Gd κ cc nL own ret d → Ab cw κ 0 (sy_ent vs nL) [] σ res) : Cok cw y cc nL ret d vs σ res := by
  intro r σ' hres l D ad cI cR hinj
  refine Met.ofW (cc := cc) (maxL := nL) (ret := ret) hy rfl ?_
  intro p e s m args below meth c s₁ B hml hv
  obtain ⟨rfl, hP, hK, hn1, hn2⟩ := hv
  have hx := B.exec
  have hb := B.bytes
  have hr := B.returns
  have hts0 := atoms_spec (ws := Cond.code y cc nL ret :: sy_T) B.pre
  have hts : ∀ w ∈ sy_T, w.before (vs.map (sy_vm ad)).toArray s = true := fun w h => hts0 w (List.mem_cons_of_mem _ h)
  have hown2 : s.vm.findClass own = some m.cls := by rw [← hown]; exact findClass_of_methodNamed B.named
  have hlocks := B.notSynchronized
  have hA : ∀ k : Nat, k < 81 → sy_A ad (ad k) := fun k hk => ⟨k, hk, rfl⟩
  have hl := lv_entry (vs.map (sy_vm ad)) (n := nL) (hvs ad)
  rw [lg_entry_eq]
  generalize (lg_sl (vs.map (sy_vm ad)) ++ List.replicate (nL - (lg_sl (vs.map (sy_vm ad))).length) Slot.unset).toArray = ls at hl ⊢
  have hL : sy_hs ad c.maxLocals ls (sy_ent vs nL) := ⟨hl.1.trans hml.symm, hl.2.1, fun i v h => by have := hl.2.2 _ (sy_ent_at ad vs nL 0 i v h); simpa using this⟩
  have hab2 := hab (p, l, e, sy_RM d, s, m, (vs.map (sy_vm ad)).toArray, below, meth, c, 0, 0, MQ below (sy_Q D ad cI cR (cw r) σ') (vs.map (sy_vm ad)).toArray s 0 0 (sy_A ad), D, sy_A ad, ad, cI, cR) ⟨hx, hb, hml, hown2, hts, hK, hinj, hA, Nat.le_refl _, Nat.le_refl _, Nat.le_refl _, Nat.le_refl _, hr, hn1, hn2⟩
  refine hab2 r σ' hres ?_ s.heap [] ls hP va_S.rf hL
  intro H locs ls pc' hP hS hri
  have hq : ∀ t : State, t.heap = H → s.WarmedH t.vm → sy_Q D ad cI cR (cw r) σ' (vs.map (sy_vm ad)).toArray s (.returned ((cw r).map (sy_vm ad))) t := fun t ht hW => ⟨rfl, by rw [ht]; exact hP, hS.F ht⟩
  rw [hb, hr] at hri
  generalize cw r = rv at hri hq ⊢
  match rv, hri with
  | none, hri => exact W.vret hx rfl (hr.trans hri.2) hq hS.2.2 (by rw [hb]; exact hri.1)
  | some (.int v), hri =>
    obtain ⟨hd, ty, h1, h2⟩ := hri
    exact W.zret hx rfl (hr.trans h1) h2 hq hS.2.2 (by rw [hb]; exact hd)
  | some (.long v), hri => exact W.lret hx rfl (hr.trans hri.2) hq hS.2.2 (by rw [hb]; exact hri.1)
  | some (.ref v), hri =>
    obtain ⟨hd, n, h1⟩ := hri
    exact W.aret hx rfl (hr.trans h1) (Or.inl ⟨n, rfl⟩) (Or.inr ⟨_, rfl⟩) hq hS.2.2 (by rw [hb]; exact hd)
end Calls2
/-! ===== switches ===== -/
section Sw
variable {α : Type} {cv : α → Option Value} {κ : Kx} {cc : ByteArray} {nL d : Nat} {own : String} {ret : Option FieldType} {pc : Nat} {lv : List (Option Value)} {st : List Value} {σ : St}
def sy_sw {γ : Type} (x : Int32) (rs : List (Option γ)) (rd : Option γ) : Option γ := if x.toInt < 0 ∨ (rs.length : Int) ≤ x.toInt then rd else (rs[x.toInt.toNat]?).getD none
def sy_all (cv : α → Option Value) (κ : Kx) (pc : Nat) (lv : List (Option Value)) (st : List Value) (σ : St) : List Int → List (Option (α × St)) → Prop
  | o :: os, r :: rs => Ab cv κ ((pc : Int) + o).toNat lv st σ r ∧ sy_all cv κ pc lv st σ os rs
  | [], [] => True
  | _, _ => False
theorem sy_all_at : ∀ (os : List Int) (rs : List (Option (α × St))), sy_all cv κ pc lv st σ os rs → ∀ (i : Nat), i < rs.length → ∃ o r, os[i]? = some o ∧ rs[i]? = some r ∧ Ab cv κ ((pc : Int) + o).toNat lv st σ r
  | [], [], _, i, hi => by simp at hi
  | [], _ :: _, h, i, hi => by cases h
  | _ :: _, [], h, i, hi => by cases h
  | o :: os, r :: rs, h, 0, hi => ⟨o, r, rfl, rfl, h.1⟩
  | o :: os, r :: rs, h, i + 1, hi => by
    obtain ⟨o2, r2, a, b, c⟩ := sy_all_at os rs h.2 i (by simpa using hi)
    exact ⟨o2, r2, by simpa using a, by simpa using b, c⟩
theorem ab_tsw (hκ : Gd κ cc nL own ret d) {x : Int32} {dflt hi : Int} {offs : Array Int} {len : Nat} {rs : List (Option (α × St))} {rd : Option (α × St)} (hd : decode cc pc = .ok (.tableswitch dflt 0 hi offs, len)) (hhi : hi + 1 = (rs.length : Int)) (hneg : offs.toList.all (fun o => decide (0 ≤ (pc : Int) + o)) = true) (hneg2 : 0 ≤ (pc : Int) + dflt)
    (kd : Ab cv κ ((pc : Int) + dflt).toNat lv st σ rd) (ks : sy_all cv κ pc lv st σ offs.toList rs) : Ab cv κ pc lv (.int x :: st) σ (sy_sw x rs rd) := by
  obtain ⟨p, l, e, R, s, m, args, below, meth, c, cells, slots, Q, D, A, ad, cI, cR⟩ := κ
  obtain ⟨hx, hb, hml, hown, hts, hK, hinj, hA, hfr, hlo, hce, hsl, hrt, hn1, hn2⟩ := hκ
  intro r σ' hr hret H locs ls hP hS hL
  unfold sy_sw at hr
  by_cases h0 : x.toInt < 0 ∨ (rs.length : Int) ≤ x.toInt
  · rw [if_pos h0] at hr
    exact lv_tableOut hx hb hd (by omega) (by omega) (kd r σ' hr hret H locs ls hP hS hL)
  · rw [if_neg h0] at hr
    have g1 : 0 ≤ x.toInt := by omega
    have g2 : x.toInt.toNat < rs.length := by omega
    obtain ⟨o, r2, a, b, k⟩ := sy_all_at _ _ ks _ g2
    rw [b] at hr
    have ho : 0 ≤ (pc : Int) + o := of_decide_eq_true (List.all_eq_true.mp hneg o (List.mem_of_getElem? a))
    exact lv_tableIn hx hb hd (by omega) (by omega) (off := o) (by rw [Int.sub_zero, ← Array.getElem?_toList]; exact a) (by omega) (k r σ' hr hret H locs ls hP hS hL)
theorem ab_lsw (hκ : Gd κ cc nL own ret d) {x : Int32} {dflt off : Int} {ps : Array (Int × Int)} {len tgt : Nat} {res : Option (α × St)} (hd : decode cc pc = .ok (.lookupswitch dflt ps, len)) (hp : (ps.toList.zip (ps.toList.drop 1)).all (fun (a, next) => a.1 < next.1) = true) (ho : Op.lookupswitch.offset ps.toList dflt x.toInt = off) (ht : (pc : Int) + off = (tgt : Int))
    (k : Ab cv κ tgt lv st σ res) : Ab cv κ pc lv (.int x :: st) σ res := by
  obtain ⟨p, l, e, R, s, m, args, below, meth, c, cells, slots, Q, D, A, ad, cI, cR⟩ := κ
  obtain ⟨hx, hb, hml, hown, hts, hK, hinj, hA, hfr, hlo, hce, hsl, hrt, hn1, hn2⟩ := hκ
  intro r σ' hr hret H locs ls hP hS hL
  exact lv_lookup hx hb hd hp ho ht (k r σ' hr hret H locs ls hP hS hL)
end Sw
end
