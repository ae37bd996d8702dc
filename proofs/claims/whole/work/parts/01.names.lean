-- ===== PART A: goes FIRST, ahead of the names: the tables' words, and 'selects' of the private methods out of them =====
/-- a private method of a class that the tables say can be made, by its rows of tables_1 -/
def lw_okq (q : MethodName × Nat) : Prop := (q.1.cls ≠ "java/lang/invoke/MethodHandle" ∧ q.1.cls ≠ "java/lang/invoke/VarHandle") ∧ Cond.instantiable q.1.cls q.2 ∈ tables_1 ∧ Cond.privateMethod q.1 ∈ tables_1 ∧ Cond.instanceMethod q.1 ∈ tables_1
theorem lw_p0 : lw_okq (⟨"SoldNews$Page", "reads", "(C)Z"⟩, 3) := ⟨⟨by decide +kernel, by decide +kernel⟩, List.mem_of_getElem? (i := 24) (by decide +kernel), List.mem_of_getElem? (i := 231) (by decide +kernel), List.mem_of_getElem? (i := 232) (by decide +kernel)⟩
theorem lw_p1 : lw_okq (⟨"SoldNews$Page", "letterHere", "()I"⟩, 3) := ⟨⟨by decide +kernel, by decide +kernel⟩, List.mem_of_getElem? (i := 24) (by decide +kernel), List.mem_of_getElem? (i := 235) (by decide +kernel), List.mem_of_getElem? (i := 236) (by decide +kernel)⟩
theorem lw_p2 : lw_okq (⟨"SoldNews$Page", "readNumber", "(IC)I"⟩, 3) := ⟨⟨by decide +kernel, by decide +kernel⟩, List.mem_of_getElem? (i := 24) (by decide +kernel), List.mem_of_getElem? (i := 239) (by decide +kernel), List.mem_of_getElem? (i := 240) (by decide +kernel)⟩
theorem lw_p3 : lw_okq (⟨"SoldNews", "unsettle", "()V"⟩, 14) := ⟨⟨by decide +kernel, by decide +kernel⟩, List.mem_of_getElem? (i := 16) (by decide +kernel), List.mem_of_getElem? (i := 251) (by decide +kernel), List.mem_of_getElem? (i := 252) (by decide +kernel)⟩
theorem lw_p4 : lw_okq (⟨"SoldNews", "isCase", "(I)Z"⟩, 14) := ⟨⟨by decide +kernel, by decide +kernel⟩, List.mem_of_getElem? (i := 16) (by decide +kernel), List.mem_of_getElem? (i := 259) (by decide +kernel), List.mem_of_getElem? (i := 260) (by decide +kernel)⟩
theorem lw_p5 : lw_okq (⟨"SoldNews", "newsAt", "(I)LSoldNews$News;"⟩, 14) := ⟨⟨by decide +kernel, by decide +kernel⟩, List.mem_of_getElem? (i := 16) (by decide +kernel), List.mem_of_getElem? (i := 380) (by decide +kernel), List.mem_of_getElem? (i := 381) (by decide +kernel)⟩
theorem lw_p6 : lw_okq (⟨"SoldNews", "refusal", "(IZZ)I"⟩, 14) := ⟨⟨by decide +kernel, by decide +kernel⟩, List.mem_of_getElem? (i := 16) (by decide +kernel), List.mem_of_getElem? (i := 403) (by decide +kernel), List.mem_of_getElem? (i := 404) (by decide +kernel)⟩
theorem lw_p7 : lw_okq (⟨"SoldNews$Hearing", "narrow", "(LSoldNews$Market;LSoldNews$News;)V"⟩, 3) := ⟨⟨by decide +kernel, by decide +kernel⟩, List.mem_of_getElem? (i := 80) (by decide +kernel), List.mem_of_getElem? (i := 451) (by decide +kernel), List.mem_of_getElem? (i := 452) (by decide +kernel)⟩
theorem lw_p8 : lw_okq (⟨"SoldNews", "isSet", "(I)Z"⟩, 14) := ⟨⟨by decide +kernel, by decide +kernel⟩, List.mem_of_getElem? (i := 16) (by decide +kernel), List.mem_of_getElem? (i := 494) (by decide +kernel), List.mem_of_getElem? (i := 495) (by decide +kernel)⟩
theorem lw_p9 : lw_okq (⟨"SoldNews", "settle", "(II)V"⟩, 14) := ⟨⟨by decide +kernel, by decide +kernel⟩, List.mem_of_getElem? (i := 16) (by decide +kernel), List.mem_of_getElem? (i := 502) (by decide +kernel), List.mem_of_getElem? (i := 503) (by decide +kernel)⟩
theorem lw_p10 : lw_okq (⟨"SoldNews", "keepWorths", "(IZ)V"⟩, 14) := ⟨⟨by decide +kernel, by decide +kernel⟩, List.mem_of_getElem? (i := 16) (by decide +kernel), List.mem_of_getElem? (i := 506) (by decide +kernel), List.mem_of_getElem? (i := 507) (by decide +kernel)⟩
theorem lw_p11 : lw_okq (⟨"SoldNews$Deals", "sellMost", "()V"⟩, 7) := ⟨⟨by decide +kernel, by decide +kernel⟩, List.mem_of_getElem? (i := 101) (by decide +kernel), List.mem_of_getElem? (i := 523) (by decide +kernel), List.mem_of_getElem? (i := 524) (by decide +kernel)⟩
theorem lw_p12 : lw_okq (⟨"SoldNews$Deals", "isAtRest", "()Z"⟩, 7) := ⟨⟨by decide +kernel, by decide +kernel⟩, List.mem_of_getElem? (i := 101) (by decide +kernel), List.mem_of_getElem? (i := 531) (by decide +kernel), List.mem_of_getElem? (i := 532) (by decide +kernel)⟩
theorem lw_p13 : lw_okq (⟨"SoldNews$Deals", "number", "()I"⟩, 7) := ⟨⟨by decide +kernel, by decide +kernel⟩, List.mem_of_getElem? (i := 101) (by decide +kernel), List.mem_of_getElem? (i := 536) (by decide +kernel), List.mem_of_getElem? (i := 537) (by decide +kernel)⟩
theorem lw_p14 : lw_okq (⟨"SoldNews$Deals", "madeTogether", "()J"⟩, 7) := ⟨⟨by decide +kernel, by decide +kernel⟩, List.mem_of_getElem? (i := 101) (by decide +kernel), List.mem_of_getElem? (i := 542) (by decide +kernel), List.mem_of_getElem? (i := 543) (by decide +kernel)⟩
theorem lw_p15 : lw_okq (⟨"SoldNews$Deals", "goOn", "()Z"⟩, 7) := ⟨⟨by decide +kernel, by decide +kernel⟩, List.mem_of_getElem? (i := 101) (by decide +kernel), List.mem_of_getElem? (i := 546) (by decide +kernel), List.mem_of_getElem? (i := 547) (by decide +kernel)⟩
def lw_privs_1 : List (MethodName × Nat) := [(⟨"SoldNews$Page", "reads", "(C)Z"⟩, 3), (⟨"SoldNews$Page", "letterHere", "()I"⟩, 3), (⟨"SoldNews$Page", "readNumber", "(IC)I"⟩, 3), (⟨"SoldNews", "unsettle", "()V"⟩, 14), (⟨"SoldNews", "isCase", "(I)Z"⟩, 14), (⟨"SoldNews", "newsAt", "(I)LSoldNews$News;"⟩, 14), (⟨"SoldNews", "refusal", "(IZZ)I"⟩, 14), (⟨"SoldNews$Hearing", "narrow", "(LSoldNews$Market;LSoldNews$News;)V"⟩, 3), (⟨"SoldNews", "isSet", "(I)Z"⟩, 14), (⟨"SoldNews", "settle", "(II)V"⟩, 14), (⟨"SoldNews", "keepWorths", "(IZ)V"⟩, 14), (⟨"SoldNews$Deals", "sellMost", "()V"⟩, 7), (⟨"SoldNews$Deals", "isAtRest", "()Z"⟩, 7), (⟨"SoldNews$Deals", "number", "()I"⟩, 7), (⟨"SoldNews$Deals", "madeTogether", "()J"⟩, 7), (⟨"SoldNews$Deals", "goOn", "()Z"⟩, 7)]
theorem lw_r1 : ∀ q ∈ lw_privs_1, lw_okq q := List.forall_mem_cons.mpr ⟨lw_p0, List.forall_mem_cons.mpr ⟨lw_p1, List.forall_mem_cons.mpr ⟨lw_p2, List.forall_mem_cons.mpr ⟨lw_p3, List.forall_mem_cons.mpr ⟨lw_p4, List.forall_mem_cons.mpr ⟨lw_p5, List.forall_mem_cons.mpr ⟨lw_p6, List.forall_mem_cons.mpr ⟨lw_p7, List.forall_mem_cons.mpr ⟨lw_p8, List.forall_mem_cons.mpr ⟨lw_p9, List.forall_mem_cons.mpr ⟨lw_p10, List.forall_mem_cons.mpr ⟨lw_p11, List.forall_mem_cons.mpr ⟨lw_p12, List.forall_mem_cons.mpr ⟨lw_p13, List.forall_mem_cons.mpr ⟨lw_p14, List.forall_mem_cons.mpr ⟨lw_p15, fun _ h => absurd h List.not_mem_nil⟩⟩⟩⟩⟩⟩⟩⟩⟩⟩⟩⟩⟩⟩⟩⟩
theorem lw_p16 : lw_okq (⟨"SoldNews", "dealtFor", "(III)I"⟩, 14) := ⟨⟨by decide +kernel, by decide +kernel⟩, List.mem_of_getElem? (i := 16) (by decide +kernel), List.mem_of_getElem? (i := 558) (by decide +kernel), List.mem_of_getElem? (i := 559) (by decide +kernel)⟩
theorem lw_p17 : lw_okq (⟨"SoldNews", "worthOf", "(III)J"⟩, 14) := ⟨⟨by decide +kernel, by decide +kernel⟩, List.mem_of_getElem? (i := 16) (by decide +kernel), List.mem_of_getElem? (i := 582) (by decide +kernel), List.mem_of_getElem? (i := 583) (by decide +kernel)⟩
theorem lw_p18 : lw_okq (⟨"SoldNews", "settleAll", "(I)V"⟩, 14) := ⟨⟨by decide +kernel, by decide +kernel⟩, List.mem_of_getElem? (i := 16) (by decide +kernel), List.mem_of_getElem? (i := 593) (by decide +kernel), List.mem_of_getElem? (i := 594) (by decide +kernel)⟩
theorem lw_p19 : lw_okq (⟨"SoldNews", "bestSet", "(II)I"⟩, 14) := ⟨⟨by decide +kernel, by decide +kernel⟩, List.mem_of_getElem? (i := 16) (by decide +kernel), List.mem_of_getElem? (i := 597) (by decide +kernel), List.mem_of_getElem? (i := 598) (by decide +kernel)⟩
theorem lw_p20 : lw_okq (⟨"SoldNews", "takings", "(III)J"⟩, 14) := ⟨⟨by decide +kernel, by decide +kernel⟩, List.mem_of_getElem? (i := 16) (by decide +kernel), List.mem_of_getElem? (i := 601) (by decide +kernel), List.mem_of_getElem? (i := 602) (by decide +kernel)⟩
theorem lw_p21 : lw_okq (⟨"SoldNews", "oneMore", "(II)I"⟩, 14) := ⟨⟨by decide +kernel, by decide +kernel⟩, List.mem_of_getElem? (i := 16) (by decide +kernel), List.mem_of_getElem? (i := 617) (by decide +kernel), List.mem_of_getElem? (i := 618) (by decide +kernel)⟩
theorem lw_p22 : lw_okq (⟨"SoldNews", "toldBy", "(III)I"⟩, 14) := ⟨⟨by decide +kernel, by decide +kernel⟩, List.mem_of_getElem? (i := 16) (by decide +kernel), List.mem_of_getElem? (i := 632) (by decide +kernel), List.mem_of_getElem? (i := 633) (by decide +kernel)⟩
theorem lw_p23 : lw_okq (⟨"SoldNews", "looksLikeEarlier", "(III)Z"⟩, 14) := ⟨⟨by decide +kernel, by decide +kernel⟩, List.mem_of_getElem? (i := 16) (by decide +kernel), List.mem_of_getElem? (i := 652) (by decide +kernel), List.mem_of_getElem? (i := 653) (by decide +kernel)⟩
theorem lw_p24 : lw_okq (⟨"SoldNews", "lookAlike", "(IIII)Z"⟩, 14) := ⟨⟨by decide +kernel, by decide +kernel⟩, List.mem_of_getElem? (i := 16) (by decide +kernel), List.mem_of_getElem? (i := 656) (by decide +kernel), List.mem_of_getElem? (i := 657) (by decide +kernel)⟩
theorem lw_p25 : lw_okq (⟨"SoldNews", "newsMixedInto", "(JI)J"⟩, 14) := ⟨⟨by decide +kernel, by decide +kernel⟩, List.mem_of_getElem? (i := 16) (by decide +kernel), List.mem_of_getElem? (i := 740) (by decide +kernel), List.mem_of_getElem? (i := 741) (by decide +kernel)⟩
theorem lw_p26 : lw_okq (⟨"SoldNewsModel", "faultOf", "()I"⟩, 32) := ⟨⟨by decide +kernel, by decide +kernel⟩, List.mem_of_getElem? (i := 752) (by decide +kernel), List.mem_of_getElem? (i := 868) (by decide +kernel), List.mem_of_getElem? (i := 869) (by decide +kernel)⟩
theorem lw_p27 : lw_okq (⟨"SoldNewsModel", "next", "(I)V"⟩, 32) := ⟨⟨by decide +kernel, by decide +kernel⟩, List.mem_of_getElem? (i := 752) (by decide +kernel), List.mem_of_getElem? (i := 872) (by decide +kernel), List.mem_of_getElem? (i := 873) (by decide +kernel)⟩
theorem lw_p28 : lw_okq (⟨"SoldNewsModel", "go", "(I)Z"⟩, 32) := ⟨⟨by decide +kernel, by decide +kernel⟩, List.mem_of_getElem? (i := 752) (by decide +kernel), List.mem_of_getElem? (i := 876) (by decide +kernel), List.mem_of_getElem? (i := 877) (by decide +kernel)⟩
theorem lw_p29 : lw_okq (⟨"SoldNewsModel", "digit", "(II)Z"⟩, 32) := ⟨⟨by decide +kernel, by decide +kernel⟩, List.mem_of_getElem? (i := 752) (by decide +kernel), List.mem_of_getElem? (i := 885) (by decide +kernel), List.mem_of_getElem? (i := 886) (by decide +kernel)⟩
theorem lw_p30 : lw_okq (⟨"SoldNewsModel", "beginCase", "()Z"⟩, 32) := ⟨⟨by decide +kernel, by decide +kernel⟩, List.mem_of_getElem? (i := 752) (by decide +kernel), List.mem_of_getElem? (i := 890) (by decide +kernel), List.mem_of_getElem? (i := 891) (by decide +kernel)⟩
theorem lw_p31 : lw_okq (⟨"SoldNewsModel", "isCase", "(I)Z"⟩, 32) := ⟨⟨by decide +kernel, by decide +kernel⟩, List.mem_of_getElem? (i := 752) (by decide +kernel), List.mem_of_getElem? (i := 902) (by decide +kernel), List.mem_of_getElem? (i := 903) (by decide +kernel)⟩
def lw_privs_2 : List (MethodName × Nat) := [(⟨"SoldNews", "dealtFor", "(III)I"⟩, 14), (⟨"SoldNews", "worthOf", "(III)J"⟩, 14), (⟨"SoldNews", "settleAll", "(I)V"⟩, 14), (⟨"SoldNews", "bestSet", "(II)I"⟩, 14), (⟨"SoldNews", "takings", "(III)J"⟩, 14), (⟨"SoldNews", "oneMore", "(II)I"⟩, 14), (⟨"SoldNews", "toldBy", "(III)I"⟩, 14), (⟨"SoldNews", "looksLikeEarlier", "(III)Z"⟩, 14), (⟨"SoldNews", "lookAlike", "(IIII)Z"⟩, 14), (⟨"SoldNews", "newsMixedInto", "(JI)J"⟩, 14), (⟨"SoldNewsModel", "faultOf", "()I"⟩, 32), (⟨"SoldNewsModel", "next", "(I)V"⟩, 32), (⟨"SoldNewsModel", "go", "(I)Z"⟩, 32), (⟨"SoldNewsModel", "digit", "(II)Z"⟩, 32), (⟨"SoldNewsModel", "beginCase", "()Z"⟩, 32), (⟨"SoldNewsModel", "isCase", "(I)Z"⟩, 32)]
theorem lw_r2 : ∀ q ∈ lw_privs_2, lw_okq q := List.forall_mem_cons.mpr ⟨lw_p16, List.forall_mem_cons.mpr ⟨lw_p17, List.forall_mem_cons.mpr ⟨lw_p18, List.forall_mem_cons.mpr ⟨lw_p19, List.forall_mem_cons.mpr ⟨lw_p20, List.forall_mem_cons.mpr ⟨lw_p21, List.forall_mem_cons.mpr ⟨lw_p22, List.forall_mem_cons.mpr ⟨lw_p23, List.forall_mem_cons.mpr ⟨lw_p24, List.forall_mem_cons.mpr ⟨lw_p25, List.forall_mem_cons.mpr ⟨lw_p26, List.forall_mem_cons.mpr ⟨lw_p27, List.forall_mem_cons.mpr ⟨lw_p28, List.forall_mem_cons.mpr ⟨lw_p29, List.forall_mem_cons.mpr ⟨lw_p30, List.forall_mem_cons.mpr ⟨lw_p31, fun _ h => absurd h List.not_mem_nil⟩⟩⟩⟩⟩⟩⟩⟩⟩⟩⟩⟩⟩⟩⟩⟩
theorem lw_p32 : lw_okq (⟨"SoldNewsModel", "isBuyer", "(I)Z"⟩, 32) := ⟨⟨by decide +kernel, by decide +kernel⟩, List.mem_of_getElem? (i := 752) (by decide +kernel), List.mem_of_getElem? (i := 916) (by decide +kernel), List.mem_of_getElem? (i := 917) (by decide +kernel)⟩
theorem lw_p33 : lw_okq (⟨"SoldNewsModel", "isNews", "(I)Z"⟩, 32) := ⟨⟨by decide +kernel, by decide +kernel⟩, List.mem_of_getElem? (i := 752) (by decide +kernel), List.mem_of_getElem? (i := 930) (by decide +kernel), List.mem_of_getElem? (i := 931) (by decide +kernel)⟩
theorem lw_p34 : lw_okq (⟨"SoldNewsModel", "refusal", "(IZZ)I"⟩, 32) := ⟨⟨by decide +kernel, by decide +kernel⟩, List.mem_of_getElem? (i := 752) (by decide +kernel), List.mem_of_getElem? (i := 944) (by decide +kernel), List.mem_of_getElem? (i := 945) (by decide +kernel)⟩
theorem lw_p35 : lw_okq (⟨"SoldNewsModel", "heardOf", "(II)I"⟩, 32) := ⟨⟨by decide +kernel, by decide +kernel⟩, List.mem_of_getElem? (i := 752) (by decide +kernel), List.mem_of_getElem? (i := 954) (by decide +kernel), List.mem_of_getElem? (i := 955) (by decide +kernel)⟩
theorem lw_p36 : lw_okq (⟨"SoldNewsModel", "often", "(III)I"⟩, 32) := ⟨⟨by decide +kernel, by decide +kernel⟩, List.mem_of_getElem? (i := 752) (by decide +kernel), List.mem_of_getElem? (i := 958) (by decide +kernel), List.mem_of_getElem? (i := 959) (by decide +kernel)⟩
theorem lw_p37 : lw_okq (⟨"SoldNewsModel", "others", "()I"⟩, 32) := ⟨⟨by decide +kernel, by decide +kernel⟩, List.mem_of_getElem? (i := 752) (by decide +kernel), List.mem_of_getElem? (i := 962) (by decide +kernel), List.mem_of_getElem? (i := 963) (by decide +kernel)⟩
theorem lw_p38 : lw_okq (⟨"SoldNewsModel", "unit", "()I"⟩, 32) := ⟨⟨by decide +kernel, by decide +kernel⟩, List.mem_of_getElem? (i := 752) (by decide +kernel), List.mem_of_getElem? (i := 966) (by decide +kernel), List.mem_of_getElem? (i := 967) (by decide +kernel)⟩
theorem lw_p39 : lw_okq (⟨"SoldNewsModel", "allWeights", "()I"⟩, 32) := ⟨⟨by decide +kernel, by decide +kernel⟩, List.mem_of_getElem? (i := 752) (by decide +kernel), List.mem_of_getElem? (i := 970) (by decide +kernel), List.mem_of_getElem? (i := 971) (by decide +kernel)⟩
theorem lw_p40 : lw_okq (⟨"SoldNewsModel", "edgeOf", "(II)J"⟩, 32) := ⟨⟨by decide +kernel, by decide +kernel⟩, List.mem_of_getElem? (i := 752) (by decide +kernel), List.mem_of_getElem? (i := 985) (by decide +kernel), List.mem_of_getElem? (i := 986) (by decide +kernel)⟩
theorem lw_p41 : lw_okq (⟨"SoldNewsModel", "baseOf", "(II)I"⟩, 32) := ⟨⟨by decide +kernel, by decide +kernel⟩, List.mem_of_getElem? (i := 752) (by decide +kernel), List.mem_of_getElem? (i := 989) (by decide +kernel), List.mem_of_getElem? (i := 990) (by decide +kernel)⟩
theorem lw_p42 : lw_okq (⟨"SoldNewsModel", "isSet", "(I)Z"⟩, 32) := ⟨⟨by decide +kernel, by decide +kernel⟩, List.mem_of_getElem? (i := 752) (by decide +kernel), List.mem_of_getElem? (i := 997) (by decide +kernel), List.mem_of_getElem? (i := 998) (by decide +kernel)⟩
theorem lw_p43 : lw_okq (⟨"SoldNewsModel", "dealtFor", "(IIII)I"⟩, 32) := ⟨⟨by decide +kernel, by decide +kernel⟩, List.mem_of_getElem? (i := 752) (by decide +kernel), List.mem_of_getElem? (i := 1002) (by decide +kernel), List.mem_of_getElem? (i := 1003) (by decide +kernel)⟩
theorem lw_p44 : lw_okq (⟨"SoldNewsModel", "take", "(II)V"⟩, 32) := ⟨⟨by decide +kernel, by decide +kernel⟩, List.mem_of_getElem? (i := 752) (by decide +kernel), List.mem_of_getElem? (i := 1006) (by decide +kernel), List.mem_of_getElem? (i := 1007) (by decide +kernel)⟩
theorem lw_p45 : lw_okq (⟨"SoldNewsModel", "dealings", "()I"⟩, 32) := ⟨⟨by decide +kernel, by decide +kernel⟩, List.mem_of_getElem? (i := 752) (by decide +kernel), List.mem_of_getElem? (i := 1010) (by decide +kernel), List.mem_of_getElem? (i := 1011) (by decide +kernel)⟩
theorem lw_p46 : lw_okq (⟨"SoldNewsModel", "isOf", "(II)Z"⟩, 32) := ⟨⟨by decide +kernel, by decide +kernel⟩, List.mem_of_getElem? (i := 752) (by decide +kernel), List.mem_of_getElem? (i := 1014) (by decide +kernel), List.mem_of_getElem? (i := 1015) (by decide +kernel)⟩
theorem lw_p47 : lw_okq (⟨"SoldNewsModel", "isAtRest", "(II)Z"⟩, 32) := ⟨⟨by decide +kernel, by decide +kernel⟩, List.mem_of_getElem? (i := 752) (by decide +kernel), List.mem_of_getElem? (i := 1024) (by decide +kernel), List.mem_of_getElem? (i := 1025) (by decide +kernel)⟩
def lw_privs_3 : List (MethodName × Nat) := [(⟨"SoldNewsModel", "isBuyer", "(I)Z"⟩, 32), (⟨"SoldNewsModel", "isNews", "(I)Z"⟩, 32), (⟨"SoldNewsModel", "refusal", "(IZZ)I"⟩, 32), (⟨"SoldNewsModel", "heardOf", "(II)I"⟩, 32), (⟨"SoldNewsModel", "often", "(III)I"⟩, 32), (⟨"SoldNewsModel", "others", "()I"⟩, 32), (⟨"SoldNewsModel", "unit", "()I"⟩, 32), (⟨"SoldNewsModel", "allWeights", "()I"⟩, 32), (⟨"SoldNewsModel", "edgeOf", "(II)J"⟩, 32), (⟨"SoldNewsModel", "baseOf", "(II)I"⟩, 32), (⟨"SoldNewsModel", "isSet", "(I)Z"⟩, 32), (⟨"SoldNewsModel", "dealtFor", "(IIII)I"⟩, 32), (⟨"SoldNewsModel", "take", "(II)V"⟩, 32), (⟨"SoldNewsModel", "dealings", "()I"⟩, 32), (⟨"SoldNewsModel", "isOf", "(II)Z"⟩, 32), (⟨"SoldNewsModel", "isAtRest", "(II)Z"⟩, 32)]
theorem lw_r3 : ∀ q ∈ lw_privs_3, lw_okq q := List.forall_mem_cons.mpr ⟨lw_p32, List.forall_mem_cons.mpr ⟨lw_p33, List.forall_mem_cons.mpr ⟨lw_p34, List.forall_mem_cons.mpr ⟨lw_p35, List.forall_mem_cons.mpr ⟨lw_p36, List.forall_mem_cons.mpr ⟨lw_p37, List.forall_mem_cons.mpr ⟨lw_p38, List.forall_mem_cons.mpr ⟨lw_p39, List.forall_mem_cons.mpr ⟨lw_p40, List.forall_mem_cons.mpr ⟨lw_p41, List.forall_mem_cons.mpr ⟨lw_p42, List.forall_mem_cons.mpr ⟨lw_p43, List.forall_mem_cons.mpr ⟨lw_p44, List.forall_mem_cons.mpr ⟨lw_p45, List.forall_mem_cons.mpr ⟨lw_p46, List.forall_mem_cons.mpr ⟨lw_p47, fun _ h => absurd h List.not_mem_nil⟩⟩⟩⟩⟩⟩⟩⟩⟩⟩⟩⟩⟩⟩⟩⟩
theorem lw_p48 : lw_okq (⟨"SoldNewsModel", "together", "(I)I"⟩, 32) := ⟨⟨by decide +kernel, by decide +kernel⟩, List.mem_of_getElem? (i := 752) (by decide +kernel), List.mem_of_getElem? (i := 1028) (by decide +kernel), List.mem_of_getElem? (i := 1029) (by decide +kernel)⟩
theorem lw_p49 : lw_okq (⟨"SoldNewsModel", "made", "(III)J"⟩, 32) := ⟨⟨by decide +kernel, by decide +kernel⟩, List.mem_of_getElem? (i := 752) (by decide +kernel), List.mem_of_getElem? (i := 1032) (by decide +kernel), List.mem_of_getElem? (i := 1033) (by decide +kernel)⟩
theorem lw_p50 : lw_okq (⟨"SoldNewsModel", "allMake", "(I)J"⟩, 32) := ⟨⟨by decide +kernel, by decide +kernel⟩, List.mem_of_getElem? (i := 752) (by decide +kernel), List.mem_of_getElem? (i := 1036) (by decide +kernel), List.mem_of_getElem? (i := 1037) (by decide +kernel)⟩
theorem lw_p51 : lw_okq (⟨"SoldNewsModel", "isDealt", "(I)Z"⟩, 32) := ⟨⟨by decide +kernel, by decide +kernel⟩, List.mem_of_getElem? (i := 752) (by decide +kernel), List.mem_of_getElem? (i := 1044) (by decide +kernel), List.mem_of_getElem? (i := 1045) (by decide +kernel)⟩
theorem lw_p52 : lw_okq (⟨"SoldNewsModel", "worthOf", "(III)J"⟩, 32) := ⟨⟨by decide +kernel, by decide +kernel⟩, List.mem_of_getElem? (i := 752) (by decide +kernel), List.mem_of_getElem? (i := 1052) (by decide +kernel), List.mem_of_getElem? (i := 1053) (by decide +kernel)⟩
theorem lw_p53 : lw_okq (⟨"SoldNewsModel", "layWorth", "(II)V"⟩, 32) := ⟨⟨by decide +kernel, by decide +kernel⟩, List.mem_of_getElem? (i := 752) (by decide +kernel), List.mem_of_getElem? (i := 1056) (by decide +kernel), List.mem_of_getElem? (i := 1057) (by decide +kernel)⟩
theorem lw_p54 : lw_okq (⟨"SoldNewsModel", "below", "()J"⟩, 32) := ⟨⟨by decide +kernel, by decide +kernel⟩, List.mem_of_getElem? (i := 752) (by decide +kernel), List.mem_of_getElem? (i := 1060) (by decide +kernel), List.mem_of_getElem? (i := 1061) (by decide +kernel)⟩
theorem lw_p55 : lw_okq (⟨"SoldNewsModel", "mostAsked", "(II)J"⟩, 32) := ⟨⟨by decide +kernel, by decide +kernel⟩, List.mem_of_getElem? (i := 752) (by decide +kernel), List.mem_of_getElem? (i := 1068) (by decide +kernel), List.mem_of_getElem? (i := 1069) (by decide +kernel)⟩
theorem lw_p56 : lw_okq (⟨"SoldNewsModel", "moreOf", "(II)I"⟩, 32) := ⟨⟨by decide +kernel, by decide +kernel⟩, List.mem_of_getElem? (i := 752) (by decide +kernel), List.mem_of_getElem? (i := 1080) (by decide +kernel), List.mem_of_getElem? (i := 1081) (by decide +kernel)⟩
theorem lw_p57 : lw_okq (⟨"SoldNewsModel", "layStepsBySign", "(II)V"⟩, 32) := ⟨⟨by decide +kernel, by decide +kernel⟩, List.mem_of_getElem? (i := 752) (by decide +kernel), List.mem_of_getElem? (i := 1104) (by decide +kernel), List.mem_of_getElem? (i := 1105) (by decide +kernel)⟩
theorem lw_p58 : lw_okq (⟨"SoldNewsModel", "boundOf", "()J"⟩, 32) := ⟨⟨by decide +kernel, by decide +kernel⟩, List.mem_of_getElem? (i := 752) (by decide +kernel), List.mem_of_getElem? (i := 1116) (by decide +kernel), List.mem_of_getElem? (i := 1117) (by decide +kernel)⟩
theorem lw_p59 : lw_okq (⟨"SoldNewsModel", "layDealtBySign", "(II)V"⟩, 32) := ⟨⟨by decide +kernel, by decide +kernel⟩, List.mem_of_getElem? (i := 752) (by decide +kernel), List.mem_of_getElem? (i := 1125) (by decide +kernel), List.mem_of_getElem? (i := 1126) (by decide +kernel)⟩
theorem lw_p60 : lw_okq (⟨"SoldNewsModel", "drawSign", "(I)I"⟩, 32) := ⟨⟨by decide +kernel, by decide +kernel⟩, List.mem_of_getElem? (i := 752) (by decide +kernel), List.mem_of_getElem? (i := 1129) (by decide +kernel), List.mem_of_getElem? (i := 1130) (by decide +kernel)⟩
theorem lw_p61 : lw_okq (⟨"SoldNewsModel", "drawCase", "()I"⟩, 32) := ⟨⟨by decide +kernel, by decide +kernel⟩, List.mem_of_getElem? (i := 752) (by decide +kernel), List.mem_of_getElem? (i := 1133) (by decide +kernel), List.mem_of_getElem? (i := 1134) (by decide +kernel)⟩
theorem lw_p62 : lw_okq (⟨"SoldNewsModel", "draw", "(I)I"⟩, 32) := ⟨⟨by decide +kernel, by decide +kernel⟩, List.mem_of_getElem? (i := 752) (by decide +kernel), List.mem_of_getElem? (i := 1137) (by decide +kernel), List.mem_of_getElem? (i := 1138) (by decide +kernel)⟩
theorem lw_p63 : lw_okq (⟨"SoldNewsModel", "tell", "(J)V"⟩, 32) := ⟨⟨by decide +kernel, by decide +kernel⟩, List.mem_of_getElem? (i := 752) (by decide +kernel), List.mem_of_getElem? (i := 1154) (by decide +kernel), List.mem_of_getElem? (i := 1155) (by decide +kernel)⟩
def lw_privs_4 : List (MethodName × Nat) := [(⟨"SoldNewsModel", "together", "(I)I"⟩, 32), (⟨"SoldNewsModel", "made", "(III)J"⟩, 32), (⟨"SoldNewsModel", "allMake", "(I)J"⟩, 32), (⟨"SoldNewsModel", "isDealt", "(I)Z"⟩, 32), (⟨"SoldNewsModel", "worthOf", "(III)J"⟩, 32), (⟨"SoldNewsModel", "layWorth", "(II)V"⟩, 32), (⟨"SoldNewsModel", "below", "()J"⟩, 32), (⟨"SoldNewsModel", "mostAsked", "(II)J"⟩, 32), (⟨"SoldNewsModel", "moreOf", "(II)I"⟩, 32), (⟨"SoldNewsModel", "layStepsBySign", "(II)V"⟩, 32), (⟨"SoldNewsModel", "boundOf", "()J"⟩, 32), (⟨"SoldNewsModel", "layDealtBySign", "(II)V"⟩, 32), (⟨"SoldNewsModel", "drawSign", "(I)I"⟩, 32), (⟨"SoldNewsModel", "drawCase", "()I"⟩, 32), (⟨"SoldNewsModel", "draw", "(I)I"⟩, 32), (⟨"SoldNewsModel", "tell", "(J)V"⟩, 32)]
theorem lw_r4 : ∀ q ∈ lw_privs_4, lw_okq q := List.forall_mem_cons.mpr ⟨lw_p48, List.forall_mem_cons.mpr ⟨lw_p49, List.forall_mem_cons.mpr ⟨lw_p50, List.forall_mem_cons.mpr ⟨lw_p51, List.forall_mem_cons.mpr ⟨lw_p52, List.forall_mem_cons.mpr ⟨lw_p53, List.forall_mem_cons.mpr ⟨lw_p54, List.forall_mem_cons.mpr ⟨lw_p55, List.forall_mem_cons.mpr ⟨lw_p56, List.forall_mem_cons.mpr ⟨lw_p57, List.forall_mem_cons.mpr ⟨lw_p58, List.forall_mem_cons.mpr ⟨lw_p59, List.forall_mem_cons.mpr ⟨lw_p60, List.forall_mem_cons.mpr ⟨lw_p61, List.forall_mem_cons.mpr ⟨lw_p62, List.forall_mem_cons.mpr ⟨lw_p63, fun _ h => absurd h List.not_mem_nil⟩⟩⟩⟩⟩⟩⟩⟩⟩⟩⟩⟩⟩⟩⟩⟩
theorem lw_p64 : lw_okq (⟨"SoldNewsModel", "tellNews", "(I)V"⟩, 32) := ⟨⟨by decide +kernel, by decide +kernel⟩, List.mem_of_getElem? (i := 752) (by decide +kernel), List.mem_of_getElem? (i := 1159) (by decide +kernel), List.mem_of_getElem? (i := 1160) (by decide +kernel)⟩
def lw_privs_5 : List (MethodName × Nat) := [(⟨"SoldNewsModel", "tellNews", "(I)V"⟩, 32)]
theorem lw_r5 : ∀ q ∈ lw_privs_5, lw_okq q := List.forall_mem_cons.mpr ⟨lw_p64, fun _ h => absurd h List.not_mem_nil⟩
def lw_privs : List (MethodName × Nat) := lw_privs_1 ++ (lw_privs_2 ++ (lw_privs_3 ++ (lw_privs_4 ++ (lw_privs_5))))
def lw_tbl : List Cond := k2_sels lw_privs ++ tables_1
theorem lw_privs_ok : ∀ q ∈ lw_privs, lw_okq q := by
  show ∀ q ∈ lw_privs_1 ++ (lw_privs_2 ++ (lw_privs_3 ++ (lw_privs_4 ++ (lw_privs_5)))), lw_okq q
  exact List.forall_mem_append.mpr ⟨lw_r1, List.forall_mem_append.mpr ⟨lw_r2, List.forall_mem_append.mpr ⟨lw_r3, List.forall_mem_append.mpr ⟨lw_r4, lw_r5⟩⟩⟩⟩
/-- the tables' words that go on holding -/
def wB : List Cond := lw_tbl.filter goodWord
theorem wB_in {w : Cond} (i : Nat) (h : lw_tbl[i]? = some w) (hg : goodWord w = true) : w ∈ wB := List.mem_filter.mpr ⟨List.mem_of_getElem? h, hg⟩
theorem wB_tbl {w : Cond} (h : w ∈ wB) : w ∈ lw_tbl := (List.mem_filter.mp h).1
theorem wB_good {w : Cond} (h : w ∈ wB) : (w.onTables && w.keeps) = true ∨ ∃ ty, w = .arrayClass ty := good_of_word (List.mem_filter.mp h).2
theorem wB_of (ws : List Cond) (ps : List Nat) (hp : ws = ps.filterMap (fun i => lw_tbl[i]?)) (h : ws.all goodWord = true) : ∀ w ∈ ws, w ∈ wB := by
  intro w hw
  have h1 := List.all_eq_true.mp h w hw
  rw [hp] at hw
  obtain ⟨i, -, hi⟩ := List.mem_filterMap.mp hw
  exact wB_in i hi h1
def RX0 : String := "SoldNews$Blur"
def TX0 : u_T := fun k => match k with
  | 0 => ("SoldNews$News", "kind", "I", true)
  | _ => ("SoldNews$News", "n", "I", true)
def tyX0 : Nat → FieldType := fun k => match k with
  | 0 => .int
  | _ => .int
abbrev wsX00 : List Cond := u_ws RX0 TX0 2
theorem nmX0 : ∀ a, a < 2 → ∀ b, b < 2 → a ≠ b → (TX0 a).2.1 ≠ (TX0 b).2.1 := by decide +kernel
theorem tyX0_ok : ∀ k, k < 2 → parseFieldDescriptor (TX0 k).2.2.1 = some (tyX0 k) := by decide +kernel
abbrev cX0_init : ByteArray := prog_2_method_1_code
def yX0_init : MethodName := ⟨RX0, "<init>", "(II)V"⟩
abbrev cX0_share : ByteArray := prog_2_method_2_code
def yX0_share : MethodName := ⟨RX0, "share", "(III)I"⟩
abbrev cX0_hears : ByteArray := prog_2_method_3_code
def yX0_hears : MethodName := ⟨RX0, "hears", "(IILSoldNews$Seed;)I"⟩
def RX1 : String := "SoldNews$Buyers"
def TX1 : u_T := fun k => match k with
  | 0 => ("SoldNews$Buyers", "limit", "[I", true)
  | 1 => ("SoldNews$Buyers", "fee", "[I", true)
  | _ => ("SoldNews$Buyers", "count", "I", false)
def tyX1 : Nat → FieldType := fun k => match k with
  | 0 => .array .int
  | 1 => .array .int
  | _ => .int
abbrev wsX10 : List Cond := u_ws RX1 TX1 3
theorem nmX1 : ∀ a, a < 3 → ∀ b, b < 3 → a ≠ b → (TX1 a).2.1 ≠ (TX1 b).2.1 := by decide +kernel
theorem tyX1_ok : ∀ k, k < 3 → parseFieldDescriptor (TX1 k).2.2.1 = some (tyX1 k) := by decide +kernel
abbrev cX1_init : ByteArray := prog_3_method_1_code
def yX1_init : MethodName := ⟨RX1, "<init>", "()V"⟩
abbrev cX1_isLimit : ByteArray := prog_3_method_2_code
def yX1_isLimit : MethodName := ⟨RX1, "isLimit", "(I)Z"⟩
abbrev cX1_isFee : ByteArray := prog_3_method_3_code
def yX1_isFee : MethodName := ⟨RX1, "isFee", "(I)Z"⟩
abbrev cX1_stepOf : ByteArray := prog_3_method_4_code
def yX1_stepOf : MethodName := ⟨RX1, "stepOf", "(II)I"⟩
abbrev cX1_has : ByteArray := prog_3_method_5_code
def yX1_has : MethodName := ⟨RX1, "has", "(I)Z"⟩
abbrev cX1_everybody : ByteArray := prog_3_method_6_code
def yX1_everybody : MethodName := ⟨RX1, "everybody", "()I"⟩
abbrev cX1_append : ByteArray := prog_3_method_7_code
def yX1_append : MethodName := ⟨RX1, "append", "(II)I"⟩
abbrev cX1_limitOf : ByteArray := prog_3_method_8_code
def yX1_limitOf : MethodName := ⟨RX1, "limitOf", "(I)I"⟩
abbrev cX1_feeOf : ByteArray := prog_3_method_9_code
def yX1_feeOf : MethodName := ⟨RX1, "feeOf", "(I)I"⟩
abbrev cX1_swapLimit : ByteArray := prog_3_method_10_code
def yX1_swapLimit : MethodName := ⟨RX1, "swapLimit", "(II)I"⟩
abbrev cX1_swapFee : ByteArray := prog_3_method_11_code
def yX1_swapFee : MethodName := ⟨RX1, "swapFee", "(II)I"⟩
abbrev cX1_allLimits : ByteArray := prog_3_method_12_code
def yX1_allLimits : MethodName := ⟨RX1, "allLimits", "()I"⟩
abbrev cX1_canDeal : ByteArray := prog_3_method_13_code
def yX1_canDeal : MethodName := ⟨RX1, "canDeal", "(I)Z"⟩
abbrev cX1_stepsOf : ByteArray := prog_3_method_14_code
def yX1_stepsOf : MethodName := ⟨RX1, "stepsOf", "(I)I"⟩
abbrev cX1_sizesOf : ByteArray := prog_3_method_15_code
def yX1_sizesOf : MethodName := ⟨RX1, "sizesOf", "(I)I"⟩
abbrev cX1_mixedInto : ByteArray := prog_3_method_16_code
def yX1_mixedInto : MethodName := ⟨RX1, "mixedInto", "(J)J"⟩
def RX2 : String := "SoldNews$Deals"
def TX2 : u_T := fun k => match k with
  | 0 => ("SoldNews$Deals", "buyers", "LSoldNews$Buyers;", true)
  | 1 => ("SoldNews$Deals", "steps", "[I", true)
  | 2 => ("SoldNews$Deals", "together", "I", false)
  | 3 => ("SoldNews$Deals", "set", "I", false)
  | 4 => ("SoldNews$Deals", "weight", "J", false)
  | 5 => ("SoldNews$Deals", "edge", "J", false)
  | _ => ("SoldNews$Deals", "slope", "I", false)
def tyX2 : Nat → FieldType := fun k => match k with
  | 0 => .object "SoldNews$Buyers"
  | 1 => .array .int
  | 2 => .int
  | 3 => .int
  | 4 => .long
  | 5 => .long
  | _ => .int
abbrev wsX20 : List Cond := u_ws RX2 TX2 7
theorem nmX2 : ∀ a, a < 7 → ∀ b, b < 7 → a ≠ b → (TX2 a).2.1 ≠ (TX2 b).2.1 := by decide +kernel
theorem tyX2_ok : ∀ k, k < 7 → parseFieldDescriptor (TX2 k).2.2.1 = some (tyX2 k) := by decide +kernel
abbrev cX2_init : ByteArray := prog_4_method_1_code
def yX2_init : MethodName := ⟨RX2, "<init>", "()V"⟩
abbrev cX2_begin : ByteArray := prog_4_method_2_code
def yX2_begin : MethodName := ⟨RX2, "begin", "(LSoldNews$Hearing;II)V"⟩
abbrev cX2_look : ByteArray := prog_4_method_3_code
def yX2_look : MethodName := ⟨RX2, "look", "(I)I"⟩
abbrev cX2_deal : ByteArray := prog_4_method_4_code
def yX2_deal : MethodName := ⟨RX2, "deal", "(I)V"⟩
abbrev cX2_madeBy : ByteArray := prog_4_method_5_code
def yX2_madeBy : MethodName := ⟨RX2, "madeBy", "(II)J"⟩
abbrev cX2_gain : ByteArray := prog_4_method_6_code
def yX2_gain : MethodName := ⟨RX2, "gain", "(II)J"⟩
abbrev cX2_sellMost : ByteArray := prog_4_method_7_code
def yX2_sellMost : MethodName := ⟨RX2, "sellMost", "()V"⟩
abbrev cX2_goOn : ByteArray := prog_4_method_8_code
def yX2_goOn : MethodName := ⟨RX2, "goOn", "()Z"⟩
abbrev cX2_isAtRest : ByteArray := prog_4_method_9_code
def yX2_isAtRest : MethodName := ⟨RX2, "isAtRest", "()Z"⟩
abbrev cX2_madeTogether : ByteArray := prog_4_method_10_code
def yX2_madeTogether : MethodName := ⟨RX2, "madeTogether", "()J"⟩
abbrev cX2_number : ByteArray := prog_4_method_11_code
def yX2_number : MethodName := ⟨RX2, "number", "()I"⟩
def RX3 : String := "SoldNews$Hearing"
def TX3 : u_T := fun k => match k with
  | 0 => ("SoldNews$Hearing", "weight", "J", false)
  | 1 => ("SoldNews$Hearing", "value", "J", false)
  | _ => ("SoldNews$Hearing", "edge", "J", false)
def tyX3 : Nat → FieldType := fun k => match k with
  | 0 => .long
  | 1 => .long
  | _ => .long
abbrev wsX30 : List Cond := u_ws RX3 TX3 3
theorem nmX3 : ∀ a, a < 3 → ∀ b, b < 3 → a ≠ b → (TX3 a).2.1 ≠ (TX3 b).2.1 := by decide +kernel
theorem tyX3_ok : ∀ k, k < 3 → parseFieldDescriptor (TX3 k).2.2.1 = some (tyX3 k) := by decide +kernel
abbrev cX3_init : ByteArray := prog_5_method_1_code
def yX3_init : MethodName := ⟨RX3, "<init>", "()V"⟩
abbrev cX3_take : ByteArray := prog_5_method_2_code
def yX3_take : MethodName := ⟨RX3, "take", "(LSoldNews$Market;LSoldNews$News;I)V"⟩
abbrev cX3_takeCase : ByteArray := prog_5_method_3_code
def yX3_takeCase : MethodName := ⟨RX3, "takeCase", "(LSoldNews$Market;LSoldNews$News;I)V"⟩
abbrev cX3_narrow : ByteArray := prog_5_method_4_code
def yX3_narrow : MethodName := ⟨RX3, "narrow", "(LSoldNews$Market;LSoldNews$News;)V"⟩
abbrev cX3_isNever : ByteArray := prog_5_method_5_code
def yX3_isNever : MethodName := ⟨RX3, "isNever", "()Z"⟩
def RX4 : String := "SoldNews$Late"
def TX4 : u_T := fun k => match k with
  | 0 => ("SoldNews$News", "kind", "I", true)
  | _ => ("SoldNews$News", "n", "I", true)
def tyX4 : Nat → FieldType := fun k => match k with
  | 0 => .int
  | _ => .int
abbrev wsX40 : List Cond := u_ws RX4 TX4 2
theorem nmX4 : ∀ a, a < 2 → ∀ b, b < 2 → a ≠ b → (TX4 a).2.1 ≠ (TX4 b).2.1 := by decide +kernel
theorem tyX4_ok : ∀ k, k < 2 → parseFieldDescriptor (TX4 k).2.2.1 = some (tyX4 k) := by decide +kernel
abbrev cX4_init : ByteArray := prog_6_method_1_code
def yX4_init : MethodName := ⟨RX4, "<init>", "(II)V"⟩
abbrev cX4_nearer : ByteArray := prog_6_method_2_code
def yX4_nearer : MethodName := ⟨RX4, "nearer", "()I"⟩
def RX5 : String := "SoldNews$Market"
def TX5 : u_T := fun k => match k with
  | 0 => ("SoldNews$Market", "base", "I", false)
  | 1 => ("SoldNews$Market", "slope", "I", false)
  | 2 => ("SoldNews$Market", "cases", "I", false)
  | 3 => ("SoldNews$Market", "weights", "I", false)
  | 4 => ("SoldNews$Market", "weight", "[I", true)
  | _ => ("SoldNews$Market", "value", "[I", true)
def tyX5 : Nat → FieldType := fun k => match k with
  | 0 => .int
  | 1 => .int
  | 2 => .int
  | 3 => .int
  | 4 => .array .int
  | _ => .array .int
abbrev wsX50 : List Cond := u_ws RX5 TX5 6
theorem nmX5 : ∀ a, a < 6 → ∀ b, b < 6 → a ≠ b → (TX5 a).2.1 ≠ (TX5 b).2.1 := by decide +kernel
theorem tyX5_ok : ∀ k, k < 6 → parseFieldDescriptor (TX5 k).2.2.1 = some (tyX5 k) := by decide +kernel
abbrev cX5_init : ByteArray := prog_7_method_1_code
def yX5_init : MethodName := ⟨RX5, "<init>", "()V"⟩
abbrev cX5_append : ByteArray := prog_7_method_2_code
def yX5_append : MethodName := ⟨RX5, "append", "(II)Z"⟩
abbrev cX5_weightOf : ByteArray := prog_7_method_3_code
def yX5_weightOf : MethodName := ⟨RX5, "weightOf", "(I)I"⟩
abbrev cX5_valueOf : ByteArray := prog_7_method_4_code
def yX5_valueOf : MethodName := ⟨RX5, "valueOf", "(I)I"⟩
abbrev cX5_wholeWeight : ByteArray := prog_7_method_5_code
def yX5_wholeWeight : MethodName := ⟨RX5, "wholeWeight", "()J"⟩
abbrev cX5_caseAt : ByteArray := prog_7_method_6_code
def yX5_caseAt : MethodName := ⟨RX5, "caseAt", "(I)I"⟩
abbrev cX5_mostFor : ByteArray := prog_7_method_7_code
def yX5_mostFor : MethodName := ⟨RX5, "mostFor", "(I)J"⟩
abbrev cX5_mixedInto : ByteArray := prog_7_method_8_code
def yX5_mixedInto : MethodName := ⟨RX5, "mixedInto", "(J)J"⟩
def RX6 : String := "SoldNews$News"
def TX6 : u_T := fun k => match k with
  | 0 => ("SoldNews$News", "kind", "I", true)
  | _ => ("SoldNews$News", "n", "I", true)
def tyX6 : Nat → FieldType := fun k => match k with
  | 0 => .int
  | _ => .int
abbrev wsX60 : List Cond := u_ws RX6 TX6 2
theorem nmX6 : ∀ a, a < 2 → ∀ b, b < 2 → a ≠ b → (TX6 a).2.1 ≠ (TX6 b).2.1 := by decide +kernel
theorem tyX6_ok : ∀ k, k < 2 → parseFieldDescriptor (TX6 k).2.2.1 = some (tyX6 k) := by decide +kernel
abbrev cX6_init : ByteArray := prog_8_method_1_code
def yX6_init : MethodName := ⟨RX6, "<init>", "(II)V"⟩
abbrev cX6_ofKind : ByteArray := prog_8_method_2_code
def yX6_ofKind : MethodName := ⟨RX6, "ofKind", "(II)LSoldNews$News;"⟩
abbrev cX6_mostOf : ByteArray := prog_8_method_3_code
def yX6_mostOf : MethodName := ⟨RX6, "mostOf", "(I)I"⟩
abbrev cX6_wholeOf : ByteArray := prog_8_method_4_code
def yX6_wholeOf : MethodName := ⟨RX6, "wholeOf", "(I)I"⟩
abbrev cX6_isOf : ByteArray := prog_8_method_5_code
def yX6_isOf : MethodName := ⟨RX6, "isOf", "(I)Z"⟩
abbrev cX6_signOf : ByteArray := prog_8_method_6_code
def yX6_signOf : MethodName := ⟨RX6, "signOf", "(I)I"⟩
abbrev cX6_share : ByteArray := prog_8_method_7_code
def yX6_share : MethodName := ⟨RX6, "share", "(III)I"⟩
abbrev cX6_hears : ByteArray := prog_8_method_8_code
def yX6_hears : MethodName := ⟨RX6, "hears", "(IILSoldNews$Seed;)I"⟩
abbrev cX6_nearer : ByteArray := prog_8_method_9_code
def yX6_nearer : MethodName := ⟨RX6, "nearer", "()I"⟩
def RX7 : String := "SoldNews$Page"
def TX7 : u_T := fun k => match k with
  | 0 => ("SoldNews$Page", "letters", "[I", true)
  | 1 => ("SoldNews$Page", "size", "I", false)
  | _ => ("SoldNews$Page", "place", "I", false)
def tyX7 : Nat → FieldType := fun k => match k with
  | 0 => .array .int
  | 1 => .int
  | _ => .int
abbrev wsX70 : List Cond := u_ws RX7 TX7 3
theorem nmX7 : ∀ a, a < 3 → ∀ b, b < 3 → a ≠ b → (TX7 a).2.1 ≠ (TX7 b).2.1 := by decide +kernel
theorem tyX7_ok : ∀ k, k < 3 → parseFieldDescriptor (TX7 k).2.2.1 = some (tyX7 k) := by decide +kernel
abbrev cX7_init : ByteArray := prog_9_method_1_code
def yX7_init : MethodName := ⟨RX7, "<init>", "()V"⟩
abbrev cX7_lettersIn : ByteArray := prog_9_method_2_code
def yX7_lettersIn : MethodName := ⟨RX7, "lettersIn", "(J)I"⟩
abbrev cX7_letterOf : ByteArray := prog_9_method_3_code
def yX7_letterOf : MethodName := ⟨RX7, "letterOf", "(JI)I"⟩
abbrev cX7_append : ByteArray := prog_9_method_4_code
def yX7_append : MethodName := ⟨RX7, "append", "(JI)Z"⟩
abbrev cX7_readInto : ByteArray := prog_9_method_5_code
def yX7_readInto : MethodName := ⟨RX7, "readInto", "(LSoldNews$Market;)Z"⟩
abbrev cX7_letterHere : ByteArray := prog_9_method_6_code
def yX7_letterHere : MethodName := ⟨RX7, "letterHere", "()I"⟩
abbrev cX7_reads : ByteArray := prog_9_method_7_code
def yX7_reads : MethodName := ⟨RX7, "reads", "(C)Z"⟩
abbrev cX7_readNumber : ByteArray := prog_9_method_8_code
def yX7_readNumber : MethodName := ⟨RX7, "readNumber", "(IC)I"⟩
abbrev cX7_mixedInto : ByteArray := prog_9_method_9_code
def yX7_mixedInto : MethodName := ⟨RX7, "mixedInto", "(J)J"⟩
def RX8 : String := "SoldNews$Part"
def TX8 : u_T := fun k => match k with
  | 0 => ("SoldNews$News", "kind", "I", true)
  | _ => ("SoldNews$News", "n", "I", true)
def tyX8 : Nat → FieldType := fun k => match k with
  | 0 => .int
  | _ => .int
abbrev wsX80 : List Cond := u_ws RX8 TX8 2
theorem nmX8 : ∀ a, a < 2 → ∀ b, b < 2 → a ≠ b → (TX8 a).2.1 ≠ (TX8 b).2.1 := by decide +kernel
theorem tyX8_ok : ∀ k, k < 2 → parseFieldDescriptor (TX8 k).2.2.1 = some (tyX8 k) := by decide +kernel
abbrev cX8_init : ByteArray := prog_10_method_1_code
def yX8_init : MethodName := ⟨RX8, "<init>", "(II)V"⟩
abbrev cX8_signOf : ByteArray := prog_10_method_2_code
def yX8_signOf : MethodName := ⟨RX8, "signOf", "(I)I"⟩
def RX9 : String := "SoldNews$Plain"
def TX9 : u_T := fun k => match k with
  | 0 => ("SoldNews$News", "kind", "I", true)
  | _ => ("SoldNews$News", "n", "I", true)
def tyX9 : Nat → FieldType := fun k => match k with
  | 0 => .int
  | _ => .int
abbrev wsX90 : List Cond := u_ws RX9 TX9 2
theorem nmX9 : ∀ a, a < 2 → ∀ b, b < 2 → a ≠ b → (TX9 a).2.1 ≠ (TX9 b).2.1 := by decide +kernel
theorem tyX9_ok : ∀ k, k < 2 → parseFieldDescriptor (TX9 k).2.2.1 = some (tyX9 k) := by decide +kernel
abbrev cX9_init : ByteArray := prog_11_method_1_code
def yX9_init : MethodName := ⟨RX9, "<init>", "(II)V"⟩
abbrev cX9_signOf : ByteArray := prog_11_method_2_code
def yX9_signOf : MethodName := ⟨RX9, "signOf", "(I)I"⟩
def RX10 : String := "SoldNews$Seed"
def TX10 : u_T := fun k => match k with
  | _ => ("SoldNews$Seed", "now", "J", false)
def tyX10 : Nat → FieldType := fun k => match k with
  | _ => .long
abbrev wsX100 : List Cond := u_ws RX10 TX10 1
theorem nmX10 : ∀ a, a < 1 → ∀ b, b < 1 → a ≠ b → (TX10 a).2.1 ≠ (TX10 b).2.1 := by decide +kernel
theorem tyX10_ok : ∀ k, k < 1 → parseFieldDescriptor (TX10 k).2.2.1 = some (tyX10 k) := by decide +kernel
abbrev cX10_init : ByteArray := prog_12_method_1_code
def yX10_init : MethodName := ⟨RX10, "<init>", "()V"⟩
abbrev cX10_draw : ByteArray := prog_12_method_2_code
def yX10_draw : MethodName := ⟨RX10, "draw", "(I)I"⟩
def RX11 : String := "SoldNews"
def TX11 : u_T := fun k => match k with
  | 0 => ("SoldNews", "page", "LSoldNews$Page;", true)
  | 1 => ("SoldNews", "market", "LSoldNews$Market;", false)
  | 2 => ("SoldNews", "draft", "LSoldNews$Market;", false)
  | 3 => ("SoldNews", "open", "Z", false)
  | 4 => ("SoldNews", "buyers", "LSoldNews$Buyers;", true)
  | 5 => ("SoldNews", "all", "[LSoldNews$News;", true)
  | 6 => ("SoldNews", "newsCount", "I", false)
  | 7 => ("SoldNews", "sales", "I", false)
  | 8 => ("SoldNews", "hearing", "LSoldNews$Hearing;", true)
  | 9 => ("SoldNews", "deals", "LSoldNews$Deals;", true)
  | 10 => ("SoldNews", "draws", "LSoldNews$Seed;", true)
  | 11 => ("SoldNews", "settled", "[Z", true)
  | 12 => ("SoldNews", "dealt", "[I", true)
  | _ => ("SoldNews", "worths", "[J", true)
def tyX11 : Nat → FieldType := fun k => match k with
  | 0 => .object "SoldNews$Page"
  | 1 => .object "SoldNews$Market"
  | 2 => .object "SoldNews$Market"
  | 3 => .boolean
  | 4 => .object "SoldNews$Buyers"
  | 5 => .array (.object "SoldNews$News")
  | 6 => .int
  | 7 => .int
  | 8 => .object "SoldNews$Hearing"
  | 9 => .object "SoldNews$Deals"
  | 10 => .object "SoldNews$Seed"
  | 11 => .array .boolean
  | 12 => .array .int
  | _ => .array .long
abbrev wsX110 : List Cond := u_ws RX11 TX11 14
theorem nmX11 : ∀ a, a < 14 → ∀ b, b < 14 → a ≠ b → (TX11 a).2.1 ≠ (TX11 b).2.1 := by decide +kernel
theorem tyX11_ok : ∀ k, k < 14 → parseFieldDescriptor (TX11 k).2.2.1 = some (tyX11 k) := by decide +kernel
abbrev cX11_init : ByteArray := prog_1_method_1_code
def yX11_init : MethodName := ⟨RX11, "<init>", "()V"⟩
abbrev cX11_letters : ByteArray := prog_1_method_2_code
def yX11_letters : MethodName := ⟨RX11, "letters", "(J)I"⟩
abbrev cX11_blank : ByteArray := prog_1_method_3_code
def yX11_blank : MethodName := ⟨RX11, "blank", "()I"⟩
abbrev cX11_fault : ByteArray := prog_1_method_4_code
def yX11_fault : MethodName := ⟨RX11, "fault", "()I"⟩
abbrev cX11_market : ByteArray := prog_1_method_5_code
def yX11_market : MethodName := ⟨RX11, "market", "()I"⟩
abbrev cX11_told : ByteArray := prog_1_method_6_code
def yX11_told : MethodName := ⟨RX11, "told", "(II)I"⟩
abbrev cX11_buyer : ByteArray := prog_1_method_7_code
def yX11_buyer : MethodName := ⟨RX11, "buyer", "(II)I"⟩
abbrev cX11_change : ByteArray := prog_1_method_8_code
def yX11_change : MethodName := ⟨RX11, "change", "(III)I"⟩
abbrev cX11_news : ByteArray := prog_1_method_9_code
def yX11_news : MethodName := ⟨RX11, "news", "(II)I"⟩
abbrev cX11_as : ByteArray := prog_1_method_10_code
def yX11_as : MethodName := ⟨RX11, "as", "(II)I"⟩
abbrev cX11_heard : ByteArray := prog_1_method_11_code
def yX11_heard : MethodName := ⟨RX11, "heard", "(III)J"⟩
abbrev cX11_edge : ByteArray := prog_1_method_12_code
def yX11_edge : MethodName := ⟨RX11, "edge", "(III)J"⟩
abbrev cX11_rests : ByteArray := prog_1_method_13_code
def yX11_rests : MethodName := ⟨RX11, "rests", "(IIII)I"⟩
abbrev cX11_makes : ByteArray := prog_1_method_14_code
def yX11_makes : MethodName := ⟨RX11, "makes", "(IIIII)J"⟩
abbrev cX11_worth : ByteArray := prog_1_method_15_code
def yX11_worth : MethodName := ⟨RX11, "worth", "(IIII)J"⟩
abbrev cX11_whom : ByteArray := prog_1_method_16_code
def yX11_whom : MethodName := ⟨RX11, "whom", "(II)I"⟩
abbrev cX11_plainly : ByteArray := prog_1_method_17_code
def yX11_plainly : MethodName := ⟨RX11, "plainly", "(I)I"⟩
abbrev cX11_more : ByteArray := prog_1_method_18_code
def yX11_more : MethodName := ⟨RX11, "more", "(II)I"⟩
abbrev cX11_pledge : ByteArray := prog_1_method_19_code
def yX11_pledge : MethodName := ⟨RX11, "pledge", "(III)J"⟩
abbrev cX11_on : ByteArray := prog_1_method_20_code
def yX11_on : MethodName := ⟨RX11, "on", "(III)I"⟩
abbrev cX11_shut : ByteArray := prog_1_method_21_code
def yX11_shut : MethodName := ⟨RX11, "shut", "(III)J"⟩
abbrev cX11_wrongly : ByteArray := prog_1_method_22_code
def yX11_wrongly : MethodName := ⟨RX11, "wrongly", "(IIIIII)J"⟩
abbrev cX11_shown : ByteArray := prog_1_method_23_code
def yX11_shown : MethodName := ⟨RX11, "shown", "(II)I"⟩
abbrev cX11_thought : ByteArray := prog_1_method_24_code
def yX11_thought : MethodName := ⟨RX11, "thought", "(IIII)J"⟩
abbrev cX11_bound : ByteArray := prog_1_method_25_code
def yX11_bound : MethodName := ⟨RX11, "bound", "(I)J"⟩
abbrev cX11_run : ByteArray := prog_1_method_26_code
def yX11_run : MethodName := ⟨RX11, "run", "(IIIII)I"⟩
abbrev cX11_count : ByteArray := prog_1_method_27_code
def yX11_count : MethodName := ⟨RX11, "count", "(I)I"⟩
abbrev cX11_digest : ByteArray := prog_1_method_28_code
def yX11_digest : MethodName := ⟨RX11, "digest", "()J"⟩
abbrev cX11_newsMixedInto : ByteArray := prog_1_method_29_code
def yX11_newsMixedInto : MethodName := ⟨RX11, "newsMixedInto", "(JI)J"⟩
abbrev cX11_mixed : ByteArray := prog_1_method_30_code
def yX11_mixed : MethodName := ⟨RX11, "mixed", "(JJ)J"⟩
abbrev cX11_refusal : ByteArray := prog_1_method_31_code
def yX11_refusal : MethodName := ⟨RX11, "refusal", "(IZZ)I"⟩
abbrev cX11_refusedPart : ByteArray := prog_1_method_32_code
def yX11_refusedPart : MethodName := ⟨RX11, "refusedPart", "(I)J"⟩
abbrev cX11_newsAt : ByteArray := prog_1_method_33_code
def yX11_newsAt : MethodName := ⟨RX11, "newsAt", "(I)LSoldNews$News;"⟩
abbrev cX11_isCase : ByteArray := prog_1_method_34_code
def yX11_isCase : MethodName := ⟨RX11, "isCase", "(I)Z"⟩
abbrev cX11_isSet : ByteArray := prog_1_method_35_code
def yX11_isSet : MethodName := ⟨RX11, "isSet", "(I)Z"⟩
abbrev cX11_isSign : ByteArray := prog_1_method_36_code
def yX11_isSign : MethodName := ⟨RX11, "isSign", "(I)Z"⟩
abbrev cX11_isPart : ByteArray := prog_1_method_37_code
def yX11_isPart : MethodName := ⟨RX11, "isPart", "(I)Z"⟩
abbrev cX11_isHow : ByteArray := prog_1_method_38_code
def yX11_isHow : MethodName := ⟨RX11, "isHow", "(I)Z"⟩
abbrev cX11_isIn : ByteArray := prog_1_method_39_code
def yX11_isIn : MethodName := ⟨RX11, "isIn", "(II)Z"⟩
abbrev cX11_bit : ByteArray := prog_1_method_40_code
def yX11_bit : MethodName := ⟨RX11, "bit", "(I)I"⟩
abbrev cX11_partOf : ByteArray := prog_1_method_41_code
def yX11_partOf : MethodName := ⟨RX11, "partOf", "(JJI)J"⟩
abbrev cX11_commonDivisor : ByteArray := prog_1_method_42_code
def yX11_commonDivisor : MethodName := ⟨RX11, "commonDivisor", "(JJ)J"⟩
abbrev cX11_unsettle : ByteArray := prog_1_method_43_code
def yX11_unsettle : MethodName := ⟨RX11, "unsettle", "()V"⟩
abbrev cX11_settleAll : ByteArray := prog_1_method_44_code
def yX11_settleAll : MethodName := ⟨RX11, "settleAll", "(I)V"⟩
abbrev cX11_settle : ByteArray := prog_1_method_45_code
def yX11_settle : MethodName := ⟨RX11, "settle", "(II)V"⟩
abbrev cX11_keepWorths : ByteArray := prog_1_method_46_code
def yX11_keepWorths : MethodName := ⟨RX11, "keepWorths", "(IZ)V"⟩
abbrev cX11_dealtFor : ByteArray := prog_1_method_47_code
def yX11_dealtFor : MethodName := ⟨RX11, "dealtFor", "(III)I"⟩
abbrev cX11_worthOf : ByteArray := prog_1_method_48_code
def yX11_worthOf : MethodName := ⟨RX11, "worthOf", "(III)J"⟩
abbrev cX11_bestSet : ByteArray := prog_1_method_49_code
def yX11_bestSet : MethodName := ⟨RX11, "bestSet", "(II)I"⟩
abbrev cX11_takings : ByteArray := prog_1_method_50_code
def yX11_takings : MethodName := ⟨RX11, "takings", "(III)J"⟩
abbrev cX11_oneMore : ByteArray := prog_1_method_51_code
def yX11_oneMore : MethodName := ⟨RX11, "oneMore", "(II)I"⟩
abbrev cX11_toldBy : ByteArray := prog_1_method_52_code
def yX11_toldBy : MethodName := ⟨RX11, "toldBy", "(III)I"⟩
abbrev cX11_looksLikeEarlier : ByteArray := prog_1_method_53_code
def yX11_looksLikeEarlier : MethodName := ⟨RX11, "looksLikeEarlier", "(III)Z"⟩
abbrev cX11_lookAlike : ByteArray := prog_1_method_54_code
def yX11_lookAlike : MethodName := ⟨RX11, "lookAlike", "(IIII)Z"⟩
def RX12 : String := "SoldNewsModel"
def TX12 : u_T := fun k => match k with
  | 0 => ("SoldNewsModel", "page", "[I", true)
  | 1 => ("SoldNewsModel", "pageMany", "I", false)
  | 2 => ("SoldNewsModel", "base", "I", false)
  | 3 => ("SoldNewsModel", "slope", "I", false)
  | 4 => ("SoldNewsModel", "cases", "I", false)
  | 5 => ("SoldNewsModel", "weights", "[I", true)
  | 6 => ("SoldNewsModel", "values", "[I", true)
  | 7 => ("SoldNewsModel", "state", "I", false)
  | 8 => ("SoldNewsModel", "digits", "I", false)
  | 9 => ("SoldNewsModel", "number", "I", false)
  | 10 => ("SoldNewsModel", "readBase", "I", false)
  | 11 => ("SoldNewsModel", "readSlope", "I", false)
  | 12 => ("SoldNewsModel", "readCases", "I", false)
  | 13 => ("SoldNewsModel", "readWeights", "[I", true)
  | 14 => ("SoldNewsModel", "readValues", "[I", true)
  | 15 => ("SoldNewsModel", "buyers", "I", false)
  | 16 => ("SoldNewsModel", "limits", "[I", true)
  | 17 => ("SoldNewsModel", "fees", "[I", true)
  | 18 => ("SoldNewsModel", "many", "I", false)
  | 19 => ("SoldNewsModel", "kinds", "[I", true)
  | 20 => ("SoldNewsModel", "numbers", "[I", true)
  | 21 => ("SoldNewsModel", "edge", "J", false)
  | 22 => ("SoldNewsModel", "heard", "J", false)
  | 23 => ("SoldNewsModel", "restMany", "I", false)
  | 24 => ("SoldNewsModel", "restAt", "I", false)
  | 25 => ("SoldNewsModel", "worths", "[J", true)
  | 26 => ("SoldNewsModel", "done", "I", false)
  | 27 => ("SoldNewsModel", "bestSet", "I", false)
  | 28 => ("SoldNewsModel", "pledgeOf", "J", false)
  | 29 => ("SoldNewsModel", "bySign", "[I", true)
  | 30 => ("SoldNewsModel", "seedNow", "I", false)
  | _ => ("SoldNewsModel", "hash", "J", false)
def tyX12 : Nat → FieldType := fun k => match k with
  | 0 => .array .int
  | 1 => .int
  | 2 => .int
  | 3 => .int
  | 4 => .int
  | 5 => .array .int
  | 6 => .array .int
  | 7 => .int
  | 8 => .int
  | 9 => .int
  | 10 => .int
  | 11 => .int
  | 12 => .int
  | 13 => .array .int
  | 14 => .array .int
  | 15 => .int
  | 16 => .array .int
  | 17 => .array .int
  | 18 => .int
  | 19 => .array .int
  | 20 => .array .int
  | 21 => .long
  | 22 => .long
  | 23 => .int
  | 24 => .int
  | 25 => .array .long
  | 26 => .int
  | 27 => .int
  | 28 => .long
  | 29 => .array .int
  | 30 => .int
  | _ => .long
abbrev wsX120 : List Cond := u_ws RX12 TX12 32
theorem nmX12 : ∀ a, a < 32 → ∀ b, b < 32 → a ≠ b → (TX12 a).2.1 ≠ (TX12 b).2.1 := by decide +kernel
theorem tyX12_ok : ∀ k, k < 32 → parseFieldDescriptor (TX12 k).2.2.1 = some (tyX12 k) := by decide +kernel
abbrev cX12_init : ByteArray := prog_14_method_1_code
def yX12_init : MethodName := ⟨RX12, "<init>", "()V"⟩
abbrev cX12_in : ByteArray := prog_14_method_2_code
def yX12_in : MethodName := ⟨RX12, "in", "(JJJ)Z"⟩
abbrev cX12_letters : ByteArray := prog_14_method_3_code
def yX12_letters : MethodName := ⟨RX12, "letters", "(J)I"⟩
abbrev cX12_blank : ByteArray := prog_14_method_4_code
def yX12_blank : MethodName := ⟨RX12, "blank", "()I"⟩
abbrev cX12_next : ByteArray := prog_14_method_5_code
def yX12_next : MethodName := ⟨RX12, "next", "(I)V"⟩
abbrev cX12_digit : ByteArray := prog_14_method_6_code
def yX12_digit : MethodName := ⟨RX12, "digit", "(II)Z"⟩
abbrev cX12_beginCase : ByteArray := prog_14_method_7_code
def yX12_beginCase : MethodName := ⟨RX12, "beginCase", "()Z"⟩
abbrev cX12_go : ByteArray := prog_14_method_8_code
def yX12_go : MethodName := ⟨RX12, "go", "(I)Z"⟩
abbrev cX12_faultOf : ByteArray := prog_14_method_9_code
def yX12_faultOf : MethodName := ⟨RX12, "faultOf", "()I"⟩
abbrev cX12_fault : ByteArray := prog_14_method_10_code
def yX12_fault : MethodName := ⟨RX12, "fault", "()I"⟩
abbrev cX12_market : ByteArray := prog_14_method_11_code
def yX12_market : MethodName := ⟨RX12, "market", "()I"⟩
abbrev cX12_isCase : ByteArray := prog_14_method_12_code
def yX12_isCase : MethodName := ⟨RX12, "isCase", "(I)Z"⟩
abbrev cX12_told : ByteArray := prog_14_method_13_code
def yX12_told : MethodName := ⟨RX12, "told", "(II)I"⟩
abbrev cX12_buyer : ByteArray := prog_14_method_14_code
def yX12_buyer : MethodName := ⟨RX12, "buyer", "(II)I"⟩
abbrev cX12_isBuyer : ByteArray := prog_14_method_15_code
def yX12_isBuyer : MethodName := ⟨RX12, "isBuyer", "(I)Z"⟩
abbrev cX12_change : ByteArray := prog_14_method_16_code
def yX12_change : MethodName := ⟨RX12, "change", "(III)I"⟩
abbrev cX12_news : ByteArray := prog_14_method_17_code
def yX12_news : MethodName := ⟨RX12, "news", "(II)I"⟩
abbrev cX12_isNews : ByteArray := prog_14_method_18_code
def yX12_isNews : MethodName := ⟨RX12, "isNews", "(I)Z"⟩
abbrev cX12_as : ByteArray := prog_14_method_19_code
def yX12_as : MethodName := ⟨RX12, "as", "(II)I"⟩
abbrev cX12_others : ByteArray := prog_14_method_20_code
def yX12_others : MethodName := ⟨RX12, "others", "()I"⟩
abbrev cX12_unit : ByteArray := prog_14_method_21_code
def yX12_unit : MethodName := ⟨RX12, "unit", "()I"⟩
abbrev cX12_allWeights : ByteArray := prog_14_method_22_code
def yX12_allWeights : MethodName := ⟨RX12, "allWeights", "()I"⟩
abbrev cX12_often : ByteArray := prog_14_method_23_code
def yX12_often : MethodName := ⟨RX12, "often", "(III)I"⟩
abbrev cX12_heardOf : ByteArray := prog_14_method_24_code
def yX12_heardOf : MethodName := ⟨RX12, "heardOf", "(II)I"⟩
abbrev cX12_baseOf : ByteArray := prog_14_method_25_code
def yX12_baseOf : MethodName := ⟨RX12, "baseOf", "(II)I"⟩
abbrev cX12_edgeOf : ByteArray := prog_14_method_26_code
def yX12_edgeOf : MethodName := ⟨RX12, "edgeOf", "(II)J"⟩
abbrev cX12_common : ByteArray := prog_14_method_27_code
def yX12_common : MethodName := ⟨RX12, "common", "(JJ)J"⟩
abbrev cX12_term : ByteArray := prog_14_method_28_code
def yX12_term : MethodName := ⟨RX12, "term", "(JJI)J"⟩
abbrev cX12_isSign : ByteArray := prog_14_method_29_code
def yX12_isSign : MethodName := ⟨RX12, "isSign", "(I)Z"⟩
abbrev cX12_isPart : ByteArray := prog_14_method_30_code
def yX12_isPart : MethodName := ⟨RX12, "isPart", "(I)Z"⟩
abbrev cX12_refusal : ByteArray := prog_14_method_31_code
def yX12_refusal : MethodName := ⟨RX12, "refusal", "(IZZ)I"⟩
abbrev cX12_asLong : ByteArray := prog_14_method_32_code
def yX12_asLong : MethodName := ⟨RX12, "asLong", "(I)J"⟩
abbrev cX12_heard : ByteArray := prog_14_method_33_code
def yX12_heard : MethodName := ⟨RX12, "heard", "(III)J"⟩
abbrev cX12_edge : ByteArray := prog_14_method_34_code
def yX12_edge : MethodName := ⟨RX12, "edge", "(III)J"⟩
abbrev cX12_isSet : ByteArray := prog_14_method_35_code
def yX12_isSet : MethodName := ⟨RX12, "isSet", "(I)Z"⟩
abbrev cX12_dealings : ByteArray := prog_14_method_36_code
def yX12_dealings : MethodName := ⟨RX12, "dealings", "()I"⟩
abbrev cX12_power : ByteArray := prog_14_method_37_code
def yX12_power : MethodName := ⟨RX12, "power", "(I)I"⟩
abbrev cX12_stepsOf : ByteArray := prog_14_method_38_code
def yX12_stepsOf : MethodName := ⟨RX12, "stepsOf", "(II)I"⟩
abbrev cX12_together : ByteArray := prog_14_method_39_code
def yX12_together : MethodName := ⟨RX12, "together", "(I)I"⟩
abbrev cX12_isOf : ByteArray := prog_14_method_40_code
def yX12_isOf : MethodName := ⟨RX12, "isOf", "(II)Z"⟩
abbrev cX12_take : ByteArray := prog_14_method_41_code
def yX12_take : MethodName := ⟨RX12, "take", "(II)V"⟩
abbrev cX12_made : ByteArray := prog_14_method_42_code
def yX12_made : MethodName := ⟨RX12, "made", "(III)J"⟩
abbrev cX12_isAtRest : ByteArray := prog_14_method_43_code
def yX12_isAtRest : MethodName := ⟨RX12, "isAtRest", "(II)Z"⟩
abbrev cX12_allMake : ByteArray := prog_14_method_44_code
def yX12_allMake : MethodName := ⟨RX12, "allMake", "(I)J"⟩
abbrev cX12_dealtFor : ByteArray := prog_14_method_45_code
def yX12_dealtFor : MethodName := ⟨RX12, "dealtFor", "(IIII)I"⟩
abbrev cX12_rests : ByteArray := prog_14_method_46_code
def yX12_rests : MethodName := ⟨RX12, "rests", "(IIII)I"⟩
abbrev cX12_isDealt : ByteArray := prog_14_method_47_code
def yX12_isDealt : MethodName := ⟨RX12, "isDealt", "(I)Z"⟩
abbrev cX12_makes : ByteArray := prog_14_method_48_code
def yX12_makes : MethodName := ⟨RX12, "makes", "(IIIII)J"⟩
abbrev cX12_below : ByteArray := prog_14_method_49_code
def yX12_below : MethodName := ⟨RX12, "below", "()J"⟩
abbrev cX12_layWorth : ByteArray := prog_14_method_50_code
def yX12_layWorth : MethodName := ⟨RX12, "layWorth", "(II)V"⟩
abbrev cX12_worthOf : ByteArray := prog_14_method_51_code
def yX12_worthOf : MethodName := ⟨RX12, "worthOf", "(III)J"⟩
abbrev cX12_worth : ByteArray := prog_14_method_52_code
def yX12_worth : MethodName := ⟨RX12, "worth", "(IIII)J"⟩
abbrev cX12_mostAsked : ByteArray := prog_14_method_53_code
def yX12_mostAsked : MethodName := ⟨RX12, "mostAsked", "(II)J"⟩
abbrev cX12_whom : ByteArray := prog_14_method_54_code
def yX12_whom : MethodName := ⟨RX12, "whom", "(II)I"⟩
abbrev cX12_plainly : ByteArray := prog_14_method_55_code
def yX12_plainly : MethodName := ⟨RX12, "plainly", "(I)I"⟩
abbrev cX12_moreOf : ByteArray := prog_14_method_56_code
def yX12_moreOf : MethodName := ⟨RX12, "moreOf", "(II)I"⟩
abbrev cX12_more : ByteArray := prog_14_method_57_code
def yX12_more : MethodName := ⟨RX12, "more", "(II)I"⟩
abbrev cX12_pledge : ByteArray := prog_14_method_58_code
def yX12_pledge : MethodName := ⟨RX12, "pledge", "(III)J"⟩
abbrev cX12_on : ByteArray := prog_14_method_59_code
def yX12_on : MethodName := ⟨RX12, "on", "(III)I"⟩
abbrev cX12_shut : ByteArray := prog_14_method_60_code
def yX12_shut : MethodName := ⟨RX12, "shut", "(III)J"⟩
abbrev cX12_wrongly : ByteArray := prog_14_method_61_code
def yX12_wrongly : MethodName := ⟨RX12, "wrongly", "(IIIIII)J"⟩
abbrev cX12_shown : ByteArray := prog_14_method_62_code
def yX12_shown : MethodName := ⟨RX12, "shown", "(II)I"⟩
abbrev cX12_layStepsBySign : ByteArray := prog_14_method_63_code
def yX12_layStepsBySign : MethodName := ⟨RX12, "layStepsBySign", "(II)V"⟩
abbrev cX12_thought : ByteArray := prog_14_method_64_code
def yX12_thought : MethodName := ⟨RX12, "thought", "(IIII)J"⟩
abbrev cX12_boundOf : ByteArray := prog_14_method_65_code
def yX12_boundOf : MethodName := ⟨RX12, "boundOf", "()J"⟩
abbrev cX12_bound : ByteArray := prog_14_method_66_code
def yX12_bound : MethodName := ⟨RX12, "bound", "(I)J"⟩
abbrev cX12_draw : ByteArray := prog_14_method_67_code
def yX12_draw : MethodName := ⟨RX12, "draw", "(I)I"⟩
abbrev cX12_drawCase : ByteArray := prog_14_method_68_code
def yX12_drawCase : MethodName := ⟨RX12, "drawCase", "()I"⟩
abbrev cX12_drawSign : ByteArray := prog_14_method_69_code
def yX12_drawSign : MethodName := ⟨RX12, "drawSign", "(I)I"⟩
abbrev cX12_run : ByteArray := prog_14_method_70_code
def yX12_run : MethodName := ⟨RX12, "run", "(IIIII)I"⟩
abbrev cX12_layDealtBySign : ByteArray := prog_14_method_71_code
def yX12_layDealtBySign : MethodName := ⟨RX12, "layDealtBySign", "(II)V"⟩
abbrev cX12_count : ByteArray := prog_14_method_72_code
def yX12_count : MethodName := ⟨RX12, "count", "(I)I"⟩
abbrev cX12_tell : ByteArray := prog_14_method_73_code
def yX12_tell : MethodName := ⟨RX12, "tell", "(J)V"⟩
abbrev cX12_tellNews : ByteArray := prog_14_method_74_code
def yX12_tellNews : MethodName := ⟨RX12, "tellNews", "(I)V"⟩
abbrev cX12_digest : ByteArray := prog_14_method_75_code
def yX12_digest : MethodName := ⟨RX12, "digest", "()J"⟩
def RL : String := "SoldNewsLaw"
abbrev cL_law : ByteArray := code
def yL_law : MethodName := ⟨RL, "law", "([I)Z"⟩
abbrev vwCl : List vw_C := [(RX0, TX0, 2), (RX1, TX1, 3), (RX2, TX2, 7), (RX3, TX3, 3), (RX4, TX4, 2), (RX5, TX5, 6), (RX6, TX6, 2), (RX7, TX7, 3), (RX8, TX8, 2), (RX9, TX9, 2), (RX10, TX10, 1), (RX11, TX11, 14), (RX12, TX12, 32)]
theorem inBX0 : ∀ w ∈ wsX00, w ∈ wB := wB_of _ [422, 423] (by decide +kernel) (by decide +kernel)
theorem inBX1 : ∀ w ∈ wsX10, w ∈ wB := wB_of _ [182, 184, 186] (by decide +kernel) (by decide +kernel)
theorem inBX2 : ∀ w ∈ wsX20, w ∈ wB := wB_of _ [197, 199, 201, 203, 205, 207, 209] (by decide +kernel) (by decide +kernel)
theorem inBX3 : ∀ w ∈ wsX30, w ∈ wB := wB_of _ [158, 160, 162] (by decide +kernel) (by decide +kernel)
theorem inBX4 : ∀ w ∈ wsX40, w ∈ wB := wB_of _ [431, 432] (by decide +kernel) (by decide +kernel)
theorem inBX5 : ∀ w ∈ wsX50, w ∈ wB := wB_of _ [129, 131, 133, 135, 137, 139] (by decide +kernel) (by decide +kernel)
theorem inBX6 : ∀ w ∈ wsX60, w ∈ wB := wB_of _ [437, 438] (by decide +kernel) (by decide +kernel)
theorem inBX7 : ∀ w ∈ wsX70, w ∈ wB := wB_of _ [99, 101, 103] (by decide +kernel) (by decide +kernel)
theorem inBX8 : ∀ w ∈ wsX80, w ∈ wB := wB_of _ [413, 414] (by decide +kernel) (by decide +kernel)
theorem inBX9 : ∀ w ∈ wsX90, w ∈ wB := wB_of _ [402, 404] (by decide +kernel) (by decide +kernel)
theorem inBX10 : ∀ w ∈ wsX100, w ∈ wB := wB_of _ [220] (by decide +kernel) (by decide +kernel)
theorem inBX11 : ∀ w ∈ wsX110, w ∈ wB := wB_of _ [237, 239, 241, 243, 245, 247, 249, 251, 253, 255, 257, 259, 261, 263] (by decide +kernel) (by decide +kernel)
theorem inBX12 : ∀ w ∈ wsX120, w ∈ wB := wB_of _ [854, 856, 858, 860, 862, 864, 866, 868, 870, 872, 874, 876, 878, 880, 882, 884, 886, 888, 890, 892, 894, 896, 898, 900, 902, 904, 906, 908, 910, 912, 914, 916] (by decide +kernel) (by decide +kernel)
