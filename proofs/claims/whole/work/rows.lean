section
-- ===== PART A: goes FIRST, ahead of the names: the tables' words, and 'selects' of the private methods out of them =====
/-- a private method of a class that the tables say can be made, by its rows of tables_1 -/
def lw_okq (q : MethodName × Nat) : Prop := (q.1.cls ≠ "java/lang/invoke/MethodHandle" ∧ q.1.cls ≠ "java/lang/invoke/VarHandle") ∧ Cond.instantiable q.1.cls q.2 ∈ tables_1 ∧ Cond.privateMethod q.1 ∈ tables_1 ∧ Cond.instanceMethod q.1 ∈ tables_1
theorem lw_p0 : lw_okq (⟨"SoldNews$Page", "reads", "(C)Z"⟩, 3) := ⟨⟨by decide +kernel, by decide +kernel⟩, List.mem_of_getElem? (i := 24) (by decide +kernel), List.mem_of_getElem? (i := 230) (by decide +kernel), List.mem_of_getElem? (i := 231) (by decide +kernel)⟩
theorem lw_p1 : lw_okq (⟨"SoldNews$Page", "letterHere", "()I"⟩, 3) := ⟨⟨by decide +kernel, by decide +kernel⟩, List.mem_of_getElem? (i := 24) (by decide +kernel), List.mem_of_getElem? (i := 234) (by decide +kernel), List.mem_of_getElem? (i := 235) (by decide +kernel)⟩
theorem lw_p2 : lw_okq (⟨"SoldNews$Page", "readNumber", "(IC)I"⟩, 3) := ⟨⟨by decide +kernel, by decide +kernel⟩, List.mem_of_getElem? (i := 24) (by decide +kernel), List.mem_of_getElem? (i := 238) (by decide +kernel), List.mem_of_getElem? (i := 239) (by decide +kernel)⟩
theorem lw_p3 : lw_okq (⟨"SoldNews", "unsettle", "()V"⟩, 14) := ⟨⟨by decide +kernel, by decide +kernel⟩, List.mem_of_getElem? (i := 16) (by decide +kernel), List.mem_of_getElem? (i := 250) (by decide +kernel), List.mem_of_getElem? (i := 251) (by decide +kernel)⟩
theorem lw_p4 : lw_okq (⟨"SoldNews", "isCase", "(I)Z"⟩, 14) := ⟨⟨by decide +kernel, by decide +kernel⟩, List.mem_of_getElem? (i := 16) (by decide +kernel), List.mem_of_getElem? (i := 258) (by decide +kernel), List.mem_of_getElem? (i := 259) (by decide +kernel)⟩
theorem lw_p5 : lw_okq (⟨"SoldNews", "newsAt", "(I)LSoldNews$News;"⟩, 14) := ⟨⟨by decide +kernel, by decide +kernel⟩, List.mem_of_getElem? (i := 16) (by decide +kernel), List.mem_of_getElem? (i := 379) (by decide +kernel), List.mem_of_getElem? (i := 380) (by decide +kernel)⟩
theorem lw_p6 : lw_okq (⟨"SoldNews", "refusal", "(IZZ)I"⟩, 14) := ⟨⟨by decide +kernel, by decide +kernel⟩, List.mem_of_getElem? (i := 16) (by decide +kernel), List.mem_of_getElem? (i := 402) (by decide +kernel), List.mem_of_getElem? (i := 403) (by decide +kernel)⟩
theorem lw_p7 : lw_okq (⟨"SoldNews$Hearing", "narrow", "(LSoldNews$Market;LSoldNews$News;)V"⟩, 3) := ⟨⟨by decide +kernel, by decide +kernel⟩, List.mem_of_getElem? (i := 98) (by decide +kernel), List.mem_of_getElem? (i := 450) (by decide +kernel), List.mem_of_getElem? (i := 451) (by decide +kernel)⟩
theorem lw_p8 : lw_okq (⟨"SoldNews", "isSet", "(I)Z"⟩, 14) := ⟨⟨by decide +kernel, by decide +kernel⟩, List.mem_of_getElem? (i := 16) (by decide +kernel), List.mem_of_getElem? (i := 493) (by decide +kernel), List.mem_of_getElem? (i := 494) (by decide +kernel)⟩
theorem lw_p9 : lw_okq (⟨"SoldNews", "settle", "(II)V"⟩, 14) := ⟨⟨by decide +kernel, by decide +kernel⟩, List.mem_of_getElem? (i := 16) (by decide +kernel), List.mem_of_getElem? (i := 501) (by decide +kernel), List.mem_of_getElem? (i := 502) (by decide +kernel)⟩
theorem lw_p10 : lw_okq (⟨"SoldNews", "keepWorths", "(IZ)V"⟩, 14) := ⟨⟨by decide +kernel, by decide +kernel⟩, List.mem_of_getElem? (i := 16) (by decide +kernel), List.mem_of_getElem? (i := 505) (by decide +kernel), List.mem_of_getElem? (i := 506) (by decide +kernel)⟩
theorem lw_p11 : lw_okq (⟨"SoldNews$Deals", "sellMost", "()V"⟩, 7) := ⟨⟨by decide +kernel, by decide +kernel⟩, List.mem_of_getElem? (i := 119) (by decide +kernel), List.mem_of_getElem? (i := 522) (by decide +kernel), List.mem_of_getElem? (i := 523) (by decide +kernel)⟩
theorem lw_p12 : lw_okq (⟨"SoldNews$Deals", "isAtRest", "()Z"⟩, 7) := ⟨⟨by decide +kernel, by decide +kernel⟩, List.mem_of_getElem? (i := 119) (by decide +kernel), List.mem_of_getElem? (i := 530) (by decide +kernel), List.mem_of_getElem? (i := 531) (by decide +kernel)⟩
theorem lw_p13 : lw_okq (⟨"SoldNews$Deals", "number", "()I"⟩, 7) := ⟨⟨by decide +kernel, by decide +kernel⟩, List.mem_of_getElem? (i := 119) (by decide +kernel), List.mem_of_getElem? (i := 535) (by decide +kernel), List.mem_of_getElem? (i := 536) (by decide +kernel)⟩
theorem lw_p14 : lw_okq (⟨"SoldNews$Deals", "madeTogether", "()J"⟩, 7) := ⟨⟨by decide +kernel, by decide +kernel⟩, List.mem_of_getElem? (i := 119) (by decide +kernel), List.mem_of_getElem? (i := 541) (by decide +kernel), List.mem_of_getElem? (i := 542) (by decide +kernel)⟩
theorem lw_p15 : lw_okq (⟨"SoldNews$Deals", "goOn", "()Z"⟩, 7) := ⟨⟨by decide +kernel, by decide +kernel⟩, List.mem_of_getElem? (i := 119) (by decide +kernel), List.mem_of_getElem? (i := 545) (by decide +kernel), List.mem_of_getElem? (i := 546) (by decide +kernel)⟩
def lw_privs_1 : List (MethodName × Nat) := [(⟨"SoldNews$Page", "reads", "(C)Z"⟩, 3), (⟨"SoldNews$Page", "letterHere", "()I"⟩, 3), (⟨"SoldNews$Page", "readNumber", "(IC)I"⟩, 3), (⟨"SoldNews", "unsettle", "()V"⟩, 14), (⟨"SoldNews", "isCase", "(I)Z"⟩, 14), (⟨"SoldNews", "newsAt", "(I)LSoldNews$News;"⟩, 14), (⟨"SoldNews", "refusal", "(IZZ)I"⟩, 14), (⟨"SoldNews$Hearing", "narrow", "(LSoldNews$Market;LSoldNews$News;)V"⟩, 3), (⟨"SoldNews", "isSet", "(I)Z"⟩, 14), (⟨"SoldNews", "settle", "(II)V"⟩, 14), (⟨"SoldNews", "keepWorths", "(IZ)V"⟩, 14), (⟨"SoldNews$Deals", "sellMost", "()V"⟩, 7), (⟨"SoldNews$Deals", "isAtRest", "()Z"⟩, 7), (⟨"SoldNews$Deals", "number", "()I"⟩, 7), (⟨"SoldNews$Deals", "madeTogether", "()J"⟩, 7), (⟨"SoldNews$Deals", "goOn", "()Z"⟩, 7)]
theorem lw_r1 : ∀ q ∈ lw_privs_1, lw_okq q := List.forall_mem_cons.mpr ⟨lw_p0, List.forall_mem_cons.mpr ⟨lw_p1, List.forall_mem_cons.mpr ⟨lw_p2, List.forall_mem_cons.mpr ⟨lw_p3, List.forall_mem_cons.mpr ⟨lw_p4, List.forall_mem_cons.mpr ⟨lw_p5, List.forall_mem_cons.mpr ⟨lw_p6, List.forall_mem_cons.mpr ⟨lw_p7, List.forall_mem_cons.mpr ⟨lw_p8, List.forall_mem_cons.mpr ⟨lw_p9, List.forall_mem_cons.mpr ⟨lw_p10, List.forall_mem_cons.mpr ⟨lw_p11, List.forall_mem_cons.mpr ⟨lw_p12, List.forall_mem_cons.mpr ⟨lw_p13, List.forall_mem_cons.mpr ⟨lw_p14, List.forall_mem_cons.mpr ⟨lw_p15, fun _ h => absurd h List.not_mem_nil⟩⟩⟩⟩⟩⟩⟩⟩⟩⟩⟩⟩⟩⟩⟩⟩
theorem lw_p16 : lw_okq (⟨"SoldNews", "dealtFor", "(III)I"⟩, 14) := ⟨⟨by decide +kernel, by decide +kernel⟩, List.mem_of_getElem? (i := 16) (by decide +kernel), List.mem_of_getElem? (i := 557) (by decide +kernel), List.mem_of_getElem? (i := 558) (by decide +kernel)⟩
theorem lw_p17 : lw_okq (⟨"SoldNews", "worthOf", "(III)J"⟩, 14) := ⟨⟨by decide +kernel, by decide +kernel⟩, List.mem_of_getElem? (i := 16) (by decide +kernel), List.mem_of_getElem? (i := 581) (by decide +kernel), List.mem_of_getElem? (i := 582) (by decide +kernel)⟩
theorem lw_p18 : lw_okq (⟨"SoldNews", "settleAll", "(I)V"⟩, 14) := ⟨⟨by decide +kernel, by decide +kernel⟩, List.mem_of_getElem? (i := 16) (by decide +kernel), List.mem_of_getElem? (i := 592) (by decide +kernel), List.mem_of_getElem? (i := 593) (by decide +kernel)⟩
theorem lw_p19 : lw_okq (⟨"SoldNews", "bestSet", "(II)I"⟩, 14) := ⟨⟨by decide +kernel, by decide +kernel⟩, List.mem_of_getElem? (i := 16) (by decide +kernel), List.mem_of_getElem? (i := 596) (by decide +kernel), List.mem_of_getElem? (i := 597) (by decide +kernel)⟩
theorem lw_p20 : lw_okq (⟨"SoldNews", "takings", "(III)J"⟩, 14) := ⟨⟨by decide +kernel, by decide +kernel⟩, List.mem_of_getElem? (i := 16) (by decide +kernel), List.mem_of_getElem? (i := 600) (by decide +kernel), List.mem_of_getElem? (i := 601) (by decide +kernel)⟩
theorem lw_p21 : lw_okq (⟨"SoldNews", "oneMore", "(II)I"⟩, 14) := ⟨⟨by decide +kernel, by decide +kernel⟩, List.mem_of_getElem? (i := 16) (by decide +kernel), List.mem_of_getElem? (i := 616) (by decide +kernel), List.mem_of_getElem? (i := 617) (by decide +kernel)⟩
theorem lw_p22 : lw_okq (⟨"SoldNews", "toldBy", "(III)I"⟩, 14) := ⟨⟨by decide +kernel, by decide +kernel⟩, List.mem_of_getElem? (i := 16) (by decide +kernel), List.mem_of_getElem? (i := 631) (by decide +kernel), List.mem_of_getElem? (i := 632) (by decide +kernel)⟩
theorem lw_p23 : lw_okq (⟨"SoldNews", "looksLikeEarlier", "(III)Z"⟩, 14) := ⟨⟨by decide +kernel, by decide +kernel⟩, List.mem_of_getElem? (i := 16) (by decide +kernel), List.mem_of_getElem? (i := 651) (by decide +kernel), List.mem_of_getElem? (i := 652) (by decide +kernel)⟩
theorem lw_p24 : lw_okq (⟨"SoldNews", "lookAlike", "(IIII)Z"⟩, 14) := ⟨⟨by decide +kernel, by decide +kernel⟩, List.mem_of_getElem? (i := 16) (by decide +kernel), List.mem_of_getElem? (i := 655) (by decide +kernel), List.mem_of_getElem? (i := 656) (by decide +kernel)⟩
theorem lw_p25 : lw_okq (⟨"SoldNews", "newsMixedInto", "(JI)J"⟩, 14) := ⟨⟨by decide +kernel, by decide +kernel⟩, List.mem_of_getElem? (i := 16) (by decide +kernel), List.mem_of_getElem? (i := 739) (by decide +kernel), List.mem_of_getElem? (i := 740) (by decide +kernel)⟩
theorem lw_p26 : lw_okq (⟨"SoldNewsModel", "faultOf", "()I"⟩, 32) := ⟨⟨by decide +kernel, by decide +kernel⟩, List.mem_of_getElem? (i := 751) (by decide +kernel), List.mem_of_getElem? (i := 867) (by decide +kernel), List.mem_of_getElem? (i := 868) (by decide +kernel)⟩
theorem lw_p27 : lw_okq (⟨"SoldNewsModel", "next", "(I)V"⟩, 32) := ⟨⟨by decide +kernel, by decide +kernel⟩, List.mem_of_getElem? (i := 751) (by decide +kernel), List.mem_of_getElem? (i := 871) (by decide +kernel), List.mem_of_getElem? (i := 872) (by decide +kernel)⟩
theorem lw_p28 : lw_okq (⟨"SoldNewsModel", "go", "(I)Z"⟩, 32) := ⟨⟨by decide +kernel, by decide +kernel⟩, List.mem_of_getElem? (i := 751) (by decide +kernel), List.mem_of_getElem? (i := 875) (by decide +kernel), List.mem_of_getElem? (i := 876) (by decide +kernel)⟩
theorem lw_p29 : lw_okq (⟨"SoldNewsModel", "digit", "(II)Z"⟩, 32) := ⟨⟨by decide +kernel, by decide +kernel⟩, List.mem_of_getElem? (i := 751) (by decide +kernel), List.mem_of_getElem? (i := 884) (by decide +kernel), List.mem_of_getElem? (i := 885) (by decide +kernel)⟩
theorem lw_p30 : lw_okq (⟨"SoldNewsModel", "beginCase", "()Z"⟩, 32) := ⟨⟨by decide +kernel, by decide +kernel⟩, List.mem_of_getElem? (i := 751) (by decide +kernel), List.mem_of_getElem? (i := 889) (by decide +kernel), List.mem_of_getElem? (i := 890) (by decide +kernel)⟩
theorem lw_p31 : lw_okq (⟨"SoldNewsModel", "isCase", "(I)Z"⟩, 32) := ⟨⟨by decide +kernel, by decide +kernel⟩, List.mem_of_getElem? (i := 751) (by decide +kernel), List.mem_of_getElem? (i := 901) (by decide +kernel), List.mem_of_getElem? (i := 902) (by decide +kernel)⟩
def lw_privs_2 : List (MethodName × Nat) := [(⟨"SoldNews", "dealtFor", "(III)I"⟩, 14), (⟨"SoldNews", "worthOf", "(III)J"⟩, 14), (⟨"SoldNews", "settleAll", "(I)V"⟩, 14), (⟨"SoldNews", "bestSet", "(II)I"⟩, 14), (⟨"SoldNews", "takings", "(III)J"⟩, 14), (⟨"SoldNews", "oneMore", "(II)I"⟩, 14), (⟨"SoldNews", "toldBy", "(III)I"⟩, 14), (⟨"SoldNews", "looksLikeEarlier", "(III)Z"⟩, 14), (⟨"SoldNews", "lookAlike", "(IIII)Z"⟩, 14), (⟨"SoldNews", "newsMixedInto", "(JI)J"⟩, 14), (⟨"SoldNewsModel", "faultOf", "()I"⟩, 32), (⟨"SoldNewsModel", "next", "(I)V"⟩, 32), (⟨"SoldNewsModel", "go", "(I)Z"⟩, 32), (⟨"SoldNewsModel", "digit", "(II)Z"⟩, 32), (⟨"SoldNewsModel", "beginCase", "()Z"⟩, 32), (⟨"SoldNewsModel", "isCase", "(I)Z"⟩, 32)]
theorem lw_r2 : ∀ q ∈ lw_privs_2, lw_okq q := List.forall_mem_cons.mpr ⟨lw_p16, List.forall_mem_cons.mpr ⟨lw_p17, List.forall_mem_cons.mpr ⟨lw_p18, List.forall_mem_cons.mpr ⟨lw_p19, List.forall_mem_cons.mpr ⟨lw_p20, List.forall_mem_cons.mpr ⟨lw_p21, List.forall_mem_cons.mpr ⟨lw_p22, List.forall_mem_cons.mpr ⟨lw_p23, List.forall_mem_cons.mpr ⟨lw_p24, List.forall_mem_cons.mpr ⟨lw_p25, List.forall_mem_cons.mpr ⟨lw_p26, List.forall_mem_cons.mpr ⟨lw_p27, List.forall_mem_cons.mpr ⟨lw_p28, List.forall_mem_cons.mpr ⟨lw_p29, List.forall_mem_cons.mpr ⟨lw_p30, List.forall_mem_cons.mpr ⟨lw_p31, fun _ h => absurd h List.not_mem_nil⟩⟩⟩⟩⟩⟩⟩⟩⟩⟩⟩⟩⟩⟩⟩⟩
theorem lw_p32 : lw_okq (⟨"SoldNewsModel", "isBuyer", "(I)Z"⟩, 32) := ⟨⟨by decide +kernel, by decide +kernel⟩, List.mem_of_getElem? (i := 751) (by decide +kernel), List.mem_of_getElem? (i := 915) (by decide +kernel), List.mem_of_getElem? (i := 916) (by decide +kernel)⟩
theorem lw_p33 : lw_okq (⟨"SoldNewsModel", "isNews", "(I)Z"⟩, 32) := ⟨⟨by decide +kernel, by decide +kernel⟩, List.mem_of_getElem? (i := 751) (by decide +kernel), List.mem_of_getElem? (i := 929) (by decide +kernel), List.mem_of_getElem? (i := 930) (by decide +kernel)⟩
theorem lw_p34 : lw_okq (⟨"SoldNewsModel", "refusal", "(IZZ)I"⟩, 32) := ⟨⟨by decide +kernel, by decide +kernel⟩, List.mem_of_getElem? (i := 751) (by decide +kernel), List.mem_of_getElem? (i := 943) (by decide +kernel), List.mem_of_getElem? (i := 944) (by decide +kernel)⟩
theorem lw_p35 : lw_okq (⟨"SoldNewsModel", "heardOf", "(II)I"⟩, 32) := ⟨⟨by decide +kernel, by decide +kernel⟩, List.mem_of_getElem? (i := 751) (by decide +kernel), List.mem_of_getElem? (i := 953) (by decide +kernel), List.mem_of_getElem? (i := 954) (by decide +kernel)⟩
theorem lw_p36 : lw_okq (⟨"SoldNewsModel", "often", "(III)I"⟩, 32) := ⟨⟨by decide +kernel, by decide +kernel⟩, List.mem_of_getElem? (i := 751) (by decide +kernel), List.mem_of_getElem? (i := 957) (by decide +kernel), List.mem_of_getElem? (i := 958) (by decide +kernel)⟩
theorem lw_p37 : lw_okq (⟨"SoldNewsModel", "others", "()I"⟩, 32) := ⟨⟨by decide +kernel, by decide +kernel⟩, List.mem_of_getElem? (i := 751) (by decide +kernel), List.mem_of_getElem? (i := 961) (by decide +kernel), List.mem_of_getElem? (i := 962) (by decide +kernel)⟩
theorem lw_p38 : lw_okq (⟨"SoldNewsModel", "unit", "()I"⟩, 32) := ⟨⟨by decide +kernel, by decide +kernel⟩, List.mem_of_getElem? (i := 751) (by decide +kernel), List.mem_of_getElem? (i := 965) (by decide +kernel), List.mem_of_getElem? (i := 966) (by decide +kernel)⟩
theorem lw_p39 : lw_okq (⟨"SoldNewsModel", "allWeights", "()I"⟩, 32) := ⟨⟨by decide +kernel, by decide +kernel⟩, List.mem_of_getElem? (i := 751) (by decide +kernel), List.mem_of_getElem? (i := 969) (by decide +kernel), List.mem_of_getElem? (i := 970) (by decide +kernel)⟩
theorem lw_p40 : lw_okq (⟨"SoldNewsModel", "edgeOf", "(II)J"⟩, 32) := ⟨⟨by decide +kernel, by decide +kernel⟩, List.mem_of_getElem? (i := 751) (by decide +kernel), List.mem_of_getElem? (i := 984) (by decide +kernel), List.mem_of_getElem? (i := 985) (by decide +kernel)⟩
theorem lw_p41 : lw_okq (⟨"SoldNewsModel", "baseOf", "(II)I"⟩, 32) := ⟨⟨by decide +kernel, by decide +kernel⟩, List.mem_of_getElem? (i := 751) (by decide +kernel), List.mem_of_getElem? (i := 988) (by decide +kernel), List.mem_of_getElem? (i := 989) (by decide +kernel)⟩
theorem lw_p42 : lw_okq (⟨"SoldNewsModel", "isSet", "(I)Z"⟩, 32) := ⟨⟨by decide +kernel, by decide +kernel⟩, List.mem_of_getElem? (i := 751) (by decide +kernel), List.mem_of_getElem? (i := 996) (by decide +kernel), List.mem_of_getElem? (i := 997) (by decide +kernel)⟩
theorem lw_p43 : lw_okq (⟨"SoldNewsModel", "dealtFor", "(IIII)I"⟩, 32) := ⟨⟨by decide +kernel, by decide +kernel⟩, List.mem_of_getElem? (i := 751) (by decide +kernel), List.mem_of_getElem? (i := 1001) (by decide +kernel), List.mem_of_getElem? (i := 1002) (by decide +kernel)⟩
theorem lw_p44 : lw_okq (⟨"SoldNewsModel", "take", "(II)V"⟩, 32) := ⟨⟨by decide +kernel, by decide +kernel⟩, List.mem_of_getElem? (i := 751) (by decide +kernel), List.mem_of_getElem? (i := 1005) (by decide +kernel), List.mem_of_getElem? (i := 1006) (by decide +kernel)⟩
theorem lw_p45 : lw_okq (⟨"SoldNewsModel", "dealings", "()I"⟩, 32) := ⟨⟨by decide +kernel, by decide +kernel⟩, List.mem_of_getElem? (i := 751) (by decide +kernel), List.mem_of_getElem? (i := 1009) (by decide +kernel), List.mem_of_getElem? (i := 1010) (by decide +kernel)⟩
theorem lw_p46 : lw_okq (⟨"SoldNewsModel", "isOf", "(II)Z"⟩, 32) := ⟨⟨by decide +kernel, by decide +kernel⟩, List.mem_of_getElem? (i := 751) (by decide +kernel), List.mem_of_getElem? (i := 1013) (by decide +kernel), List.mem_of_getElem? (i := 1014) (by decide +kernel)⟩
theorem lw_p47 : lw_okq (⟨"SoldNewsModel", "isAtRest", "(II)Z"⟩, 32) := ⟨⟨by decide +kernel, by decide +kernel⟩, List.mem_of_getElem? (i := 751) (by decide +kernel), List.mem_of_getElem? (i := 1023) (by decide +kernel), List.mem_of_getElem? (i := 1024) (by decide +kernel)⟩
def lw_privs_3 : List (MethodName × Nat) := [(⟨"SoldNewsModel", "isBuyer", "(I)Z"⟩, 32), (⟨"SoldNewsModel", "isNews", "(I)Z"⟩, 32), (⟨"SoldNewsModel", "refusal", "(IZZ)I"⟩, 32), (⟨"SoldNewsModel", "heardOf", "(II)I"⟩, 32), (⟨"SoldNewsModel", "often", "(III)I"⟩, 32), (⟨"SoldNewsModel", "others", "()I"⟩, 32), (⟨"SoldNewsModel", "unit", "()I"⟩, 32), (⟨"SoldNewsModel", "allWeights", "()I"⟩, 32), (⟨"SoldNewsModel", "edgeOf", "(II)J"⟩, 32), (⟨"SoldNewsModel", "baseOf", "(II)I"⟩, 32), (⟨"SoldNewsModel", "isSet", "(I)Z"⟩, 32), (⟨"SoldNewsModel", "dealtFor", "(IIII)I"⟩, 32), (⟨"SoldNewsModel", "take", "(II)V"⟩, 32), (⟨"SoldNewsModel", "dealings", "()I"⟩, 32), (⟨"SoldNewsModel", "isOf", "(II)Z"⟩, 32), (⟨"SoldNewsModel", "isAtRest", "(II)Z"⟩, 32)]
theorem lw_r3 : ∀ q ∈ lw_privs_3, lw_okq q := List.forall_mem_cons.mpr ⟨lw_p32, List.forall_mem_cons.mpr ⟨lw_p33, List.forall_mem_cons.mpr ⟨lw_p34, List.forall_mem_cons.mpr ⟨lw_p35, List.forall_mem_cons.mpr ⟨lw_p36, List.forall_mem_cons.mpr ⟨lw_p37, List.forall_mem_cons.mpr ⟨lw_p38, List.forall_mem_cons.mpr ⟨lw_p39, List.forall_mem_cons.mpr ⟨lw_p40, List.forall_mem_cons.mpr ⟨lw_p41, List.forall_mem_cons.mpr ⟨lw_p42, List.forall_mem_cons.mpr ⟨lw_p43, List.forall_mem_cons.mpr ⟨lw_p44, List.forall_mem_cons.mpr ⟨lw_p45, List.forall_mem_cons.mpr ⟨lw_p46, List.forall_mem_cons.mpr ⟨lw_p47, fun _ h => absurd h List.not_mem_nil⟩⟩⟩⟩⟩⟩⟩⟩⟩⟩⟩⟩⟩⟩⟩⟩
theorem lw_p48 : lw_okq (⟨"SoldNewsModel", "together", "(I)I"⟩, 32) := ⟨⟨by decide +kernel, by decide +kernel⟩, List.mem_of_getElem? (i := 751) (by decide +kernel), List.mem_of_getElem? (i := 1027) (by decide +kernel), List.mem_of_getElem? (i := 1028) (by decide +kernel)⟩
theorem lw_p49 : lw_okq (⟨"SoldNewsModel", "made", "(III)J"⟩, 32) := ⟨⟨by decide +kernel, by decide +kernel⟩, List.mem_of_getElem? (i := 751) (by decide +kernel), List.mem_of_getElem? (i := 1031) (by decide +kernel), List.mem_of_getElem? (i := 1032) (by decide +kernel)⟩
theorem lw_p50 : lw_okq (⟨"SoldNewsModel", "allMake", "(I)J"⟩, 32) := ⟨⟨by decide +kernel, by decide +kernel⟩, List.mem_of_getElem? (i := 751) (by decide +kernel), List.mem_of_getElem? (i := 1035) (by decide +kernel), List.mem_of_getElem? (i := 1036) (by decide +kernel)⟩
theorem lw_p51 : lw_okq (⟨"SoldNewsModel", "isDealt", "(I)Z"⟩, 32) := ⟨⟨by decide +kernel, by decide +kernel⟩, List.mem_of_getElem? (i := 751) (by decide +kernel), List.mem_of_getElem? (i := 1043) (by decide +kernel), List.mem_of_getElem? (i := 1044) (by decide +kernel)⟩
theorem lw_p52 : lw_okq (⟨"SoldNewsModel", "worthOf", "(III)J"⟩, 32) := ⟨⟨by decide +kernel, by decide +kernel⟩, List.mem_of_getElem? (i := 751) (by decide +kernel), List.mem_of_getElem? (i := 1051) (by decide +kernel), List.mem_of_getElem? (i := 1052) (by decide +kernel)⟩
theorem lw_p53 : lw_okq (⟨"SoldNewsModel", "layWorth", "(II)V"⟩, 32) := ⟨⟨by decide +kernel, by decide +kernel⟩, List.mem_of_getElem? (i := 751) (by decide +kernel), List.mem_of_getElem? (i := 1055) (by decide +kernel), List.mem_of_getElem? (i := 1056) (by decide +kernel)⟩
theorem lw_p54 : lw_okq (⟨"SoldNewsModel", "below", "()J"⟩, 32) := ⟨⟨by decide +kernel, by decide +kernel⟩, List.mem_of_getElem? (i := 751) (by decide +kernel), List.mem_of_getElem? (i := 1059) (by decide +kernel), List.mem_of_getElem? (i := 1060) (by decide +kernel)⟩
theorem lw_p55 : lw_okq (⟨"SoldNewsModel", "mostAsked", "(II)J"⟩, 32) := ⟨⟨by decide +kernel, by decide +kernel⟩, List.mem_of_getElem? (i := 751) (by decide +kernel), List.mem_of_getElem? (i := 1067) (by decide +kernel), List.mem_of_getElem? (i := 1068) (by decide +kernel)⟩
theorem lw_p56 : lw_okq (⟨"SoldNewsModel", "moreOf", "(II)I"⟩, 32) := ⟨⟨by decide +kernel, by decide +kernel⟩, List.mem_of_getElem? (i := 751) (by decide +kernel), List.mem_of_getElem? (i := 1079) (by decide +kernel), List.mem_of_getElem? (i := 1080) (by decide +kernel)⟩
theorem lw_p57 : lw_okq (⟨"SoldNewsModel", "layStepsBySign", "(II)V"⟩, 32) := ⟨⟨by decide +kernel, by decide +kernel⟩, List.mem_of_getElem? (i := 751) (by decide +kernel), List.mem_of_getElem? (i := 1103) (by decide +kernel), List.mem_of_getElem? (i := 1104) (by decide +kernel)⟩
theorem lw_p58 : lw_okq (⟨"SoldNewsModel", "boundOf", "()J"⟩, 32) := ⟨⟨by decide +kernel, by decide +kernel⟩, List.mem_of_getElem? (i := 751) (by decide +kernel), List.mem_of_getElem? (i := 1115) (by decide +kernel), List.mem_of_getElem? (i := 1116) (by decide +kernel)⟩
theorem lw_p59 : lw_okq (⟨"SoldNewsModel", "layDealtBySign", "(II)V"⟩, 32) := ⟨⟨by decide +kernel, by decide +kernel⟩, List.mem_of_getElem? (i := 751) (by decide +kernel), List.mem_of_getElem? (i := 1124) (by decide +kernel), List.mem_of_getElem? (i := 1125) (by decide +kernel)⟩
theorem lw_p60 : lw_okq (⟨"SoldNewsModel", "drawSign", "(I)I"⟩, 32) := ⟨⟨by decide +kernel, by decide +kernel⟩, List.mem_of_getElem? (i := 751) (by decide +kernel), List.mem_of_getElem? (i := 1128) (by decide +kernel), List.mem_of_getElem? (i := 1129) (by decide +kernel)⟩
theorem lw_p61 : lw_okq (⟨"SoldNewsModel", "drawCase", "()I"⟩, 32) := ⟨⟨by decide +kernel, by decide +kernel⟩, List.mem_of_getElem? (i := 751) (by decide +kernel), List.mem_of_getElem? (i := 1132) (by decide +kernel), List.mem_of_getElem? (i := 1133) (by decide +kernel)⟩
theorem lw_p62 : lw_okq (⟨"SoldNewsModel", "draw", "(I)I"⟩, 32) := ⟨⟨by decide +kernel, by decide +kernel⟩, List.mem_of_getElem? (i := 751) (by decide +kernel), List.mem_of_getElem? (i := 1136) (by decide +kernel), List.mem_of_getElem? (i := 1137) (by decide +kernel)⟩
theorem lw_p63 : lw_okq (⟨"SoldNewsModel", "tell", "(J)V"⟩, 32) := ⟨⟨by decide +kernel, by decide +kernel⟩, List.mem_of_getElem? (i := 751) (by decide +kernel), List.mem_of_getElem? (i := 1153) (by decide +kernel), List.mem_of_getElem? (i := 1154) (by decide +kernel)⟩
def lw_privs_4 : List (MethodName × Nat) := [(⟨"SoldNewsModel", "together", "(I)I"⟩, 32), (⟨"SoldNewsModel", "made", "(III)J"⟩, 32), (⟨"SoldNewsModel", "allMake", "(I)J"⟩, 32), (⟨"SoldNewsModel", "isDealt", "(I)Z"⟩, 32), (⟨"SoldNewsModel", "worthOf", "(III)J"⟩, 32), (⟨"SoldNewsModel", "layWorth", "(II)V"⟩, 32), (⟨"SoldNewsModel", "below", "()J"⟩, 32), (⟨"SoldNewsModel", "mostAsked", "(II)J"⟩, 32), (⟨"SoldNewsModel", "moreOf", "(II)I"⟩, 32), (⟨"SoldNewsModel", "layStepsBySign", "(II)V"⟩, 32), (⟨"SoldNewsModel", "boundOf", "()J"⟩, 32), (⟨"SoldNewsModel", "layDealtBySign", "(II)V"⟩, 32), (⟨"SoldNewsModel", "drawSign", "(I)I"⟩, 32), (⟨"SoldNewsModel", "drawCase", "()I"⟩, 32), (⟨"SoldNewsModel", "draw", "(I)I"⟩, 32), (⟨"SoldNewsModel", "tell", "(J)V"⟩, 32)]
theorem lw_r4 : ∀ q ∈ lw_privs_4, lw_okq q := List.forall_mem_cons.mpr ⟨lw_p48, List.forall_mem_cons.mpr ⟨lw_p49, List.forall_mem_cons.mpr ⟨lw_p50, List.forall_mem_cons.mpr ⟨lw_p51, List.forall_mem_cons.mpr ⟨lw_p52, List.forall_mem_cons.mpr ⟨lw_p53, List.forall_mem_cons.mpr ⟨lw_p54, List.forall_mem_cons.mpr ⟨lw_p55, List.forall_mem_cons.mpr ⟨lw_p56, List.forall_mem_cons.mpr ⟨lw_p57, List.forall_mem_cons.mpr ⟨lw_p58, List.forall_mem_cons.mpr ⟨lw_p59, List.forall_mem_cons.mpr ⟨lw_p60, List.forall_mem_cons.mpr ⟨lw_p61, List.forall_mem_cons.mpr ⟨lw_p62, List.forall_mem_cons.mpr ⟨lw_p63, fun _ h => absurd h List.not_mem_nil⟩⟩⟩⟩⟩⟩⟩⟩⟩⟩⟩⟩⟩⟩⟩⟩
theorem lw_p64 : lw_okq (⟨"SoldNewsModel", "tellNews", "(I)V"⟩, 32) := ⟨⟨by decide +kernel, by decide +kernel⟩, List.mem_of_getElem? (i := 751) (by decide +kernel), List.mem_of_getElem? (i := 1158) (by decide +kernel), List.mem_of_getElem? (i := 1159) (by decide +kernel)⟩
def lw_privs_5 : List (MethodName × Nat) := [(⟨"SoldNewsModel", "tellNews", "(I)V"⟩, 32)]
theorem lw_r5 : ∀ q ∈ lw_privs_5, lw_okq q := List.forall_mem_cons.mpr ⟨lw_p64, fun _ h => absurd h List.not_mem_nil⟩
def lw_privs : List (MethodName × Nat) := lw_privs_1 ++ (lw_privs_2 ++ (lw_privs_3 ++ (lw_privs_4 ++ (lw_privs_5))))
def lw_tbl : List Cond := k2_sels lw_privs ++ tables_1
theorem lw_privs_ok : ∀ q ∈ lw_privs, lw_okq q := by
  show ∀ q ∈ lw_privs_1 ++ (lw_privs_2 ++ (lw_privs_3 ++ (lw_privs_4 ++ (lw_privs_5)))), lw_okq q
  exact List.forall_mem_append.mpr ⟨lw_r1, List.forall_mem_append.mpr ⟨lw_r2, List.forall_mem_append.mpr ⟨lw_r3, List.forall_mem_append.mpr ⟨lw_r4, lw_r5⟩⟩⟩⟩
/-- the tables' words that go on holding -/
def wB : List Cond := lw_tbl.filter goodWord
theorem wB_in {w : Cond} (i : Nat) (h : lw_tbl[i]? = some w) (hg : goodWord w = true) : w ∈ wB := List.mem_filter.mpr ⟨List.mem_of_getElem? h, hg⟩
theorem wB_tbl {w : Cond} (h : w ∈ wB) : w ∈ lw_tbl := (List.mem_filter.mp h).1
theorem wB_good {w : Cond} (h : w ∈ wB) : (w.onTables && w.keeps) = true ∨ ∃ ty, w = .arrayClass ty := good_of_word (List.mem_filter.mp h).2
theorem wB_of (ws : List Cond) (ps : List Nat) (hp : ws = ps.filterMap (fun i => lw_tbl[i]?)) (h : ws.all goodWord = true) : ∀ w ∈ ws, w ∈ wB := by
  intro w hw
  have h1 := List.all_eq_true.mp h w hw
  rw [hp] at hw
  obtain ⟨i, -, hi⟩ := List.mem_filterMap.mp hw
  exact wB_in i hi h1
def RX0 : String := "SoldNews$Blur"
def TX0 : u_T := fun k => match k with
  | 0 => ("SoldNews$News", "kind", "I", true)
  | _ => ("SoldNews$News", "n", "I", true)
def tyX0 : Nat → FieldType := fun k => match k with
  | 0 => .int
  | _ => .int
abbrev wsX00 : List Cond := u_ws RX0 TX0 2
theorem nmX0 : ∀ a, a < 2 → ∀ b, b < 2 → a ≠ b → (TX0 a).2.1 ≠ (TX0 b).2.1 := by decide +kernel
theorem tyX0_ok : ∀ k, k < 2 → parseFieldDescriptor (TX0 k).2.2.1 = some (tyX0 k) := by decide +kernel
abbrev cX0_init : ByteArray := prog_2_method_1_code
def yX0_init : MethodName := ⟨RX0, "<init>", "(II)V"⟩
abbrev cX0_share : ByteArray := prog_2_method_2_code
def yX0_share : MethodName := ⟨RX0, "share", "(III)I"⟩
abbrev cX0_hears : ByteArray := prog_2_method_3_code
def yX0_hears : MethodName := ⟨RX0, "hears", "(IILSoldNews$Seed;)I"⟩
def RX1 : String := "SoldNews$Buyers"
def TX1 : u_T := fun k => match k with
  | 0 => ("SoldNews$Buyers", "limit", "[I", true)
  | 1 => ("SoldNews$Buyers", "fee", "[I", true)
  | _ => ("SoldNews$Buyers", "count", "I", false)
def tyX1 : Nat → FieldType := fun k => match k with
  | 0 => .array .int
  | 1 => .array .int
  | _ => .int
abbrev wsX10 : List Cond := u_ws RX1 TX1 3
theorem nmX1 : ∀ a, a < 3 → ∀ b, b < 3 → a ≠ b → (TX1 a).2.1 ≠ (TX1 b).2.1 := by decide +kernel
theorem tyX1_ok : ∀ k, k < 3 → parseFieldDescriptor (TX1 k).2.2.1 = some (tyX1 k) := by decide +kernel
abbrev cX1_init : ByteArray := prog_3_method_1_code
def yX1_init : MethodName := ⟨RX1, "<init>", "()V"⟩
abbrev cX1_isLimit : ByteArray := prog_3_method_2_code
def yX1_isLimit : MethodName := ⟨RX1, "isLimit", "(I)Z"⟩
abbrev cX1_isFee : ByteArray := prog_3_method_3_code
def yX1_isFee : MethodName := ⟨RX1, "isFee", "(I)Z"⟩
abbrev cX1_stepOf : ByteArray := prog_3_method_4_code
def yX1_stepOf : MethodName := ⟨RX1, "stepOf", "(II)I"⟩
abbrev cX1_has : ByteArray := prog_3_method_5_code
def yX1_has : MethodName := ⟨RX1, "has", "(I)Z"⟩
abbrev cX1_everybody : ByteArray := prog_3_method_6_code
def yX1_everybody : MethodName := ⟨RX1, "everybody", "()I"⟩
abbrev cX1_append : ByteArray := prog_3_method_7_code
def yX1_append : MethodName := ⟨RX1, "append", "(II)I"⟩
abbrev cX1_limitOf : ByteArray := prog_3_method_8_code
def yX1_limitOf : MethodName := ⟨RX1, "limitOf", "(I)I"⟩
abbrev cX1_feeOf : ByteArray := prog_3_method_9_code
def yX1_feeOf : MethodName := ⟨RX1, "feeOf", "(I)I"⟩
abbrev cX1_swapLimit : ByteArray := prog_3_method_10_code
def yX1_swapLimit : MethodName := ⟨RX1, "swapLimit", "(II)I"⟩
abbrev cX1_swapFee : ByteArray := prog_3_method_11_code
def yX1_swapFee : MethodName := ⟨RX1, "swapFee", "(II)I"⟩
abbrev cX1_allLimits : ByteArray := prog_3_method_12_code
def yX1_allLimits : MethodName := ⟨RX1, "allLimits", "()I"⟩
abbrev cX1_canDeal : ByteArray := prog_3_method_13_code
def yX1_canDeal : MethodName := ⟨RX1, "canDeal", "(I)Z"⟩
abbrev cX1_stepsOf : ByteArray := prog_3_method_14_code
def yX1_stepsOf : MethodName := ⟨RX1, "stepsOf", "(I)I"⟩
abbrev cX1_sizesOf : ByteArray := prog_3_method_15_code
def yX1_sizesOf : MethodName := ⟨RX1, "sizesOf", "(I)I"⟩
abbrev cX1_mixedInto : ByteArray := prog_3_method_16_code
def yX1_mixedInto : MethodName := ⟨RX1, "mixedInto", "(J)J"⟩
def RX2 : String := "SoldNews$Deals"
def TX2 : u_T := fun k => match k with
  | 0 => ("SoldNews$Deals", "buyers", "LSoldNews$Buyers;", true)
  | 1 => ("SoldNews$Deals", "steps", "[I", true)
  | 2 => ("SoldNews$Deals", "together", "I", false)
  | 3 => ("SoldNews$Deals", "set", "I", false)
  | 4 => ("SoldNews$Deals", "weight", "J", false)
  | 5 => ("SoldNews$Deals", "edge", "J", false)
  | _ => ("SoldNews$Deals", "slope", "I", false)
def tyX2 : Nat → FieldType := fun k => match k with
  | 0 => .object "SoldNews$Buyers"
  | 1 => .array .int
  | 2 => .int
  | 3 => .int
  | 4 => .long
  | 5 => .long
  | _ => .int
abbrev wsX20 : List Cond := u_ws RX2 TX2 7
theorem nmX2 : ∀ a, a < 7 → ∀ b, b < 7 → a ≠ b → (TX2 a).2.1 ≠ (TX2 b).2.1 := by decide +kernel
theorem tyX2_ok : ∀ k, k < 7 → parseFieldDescriptor (TX2 k).2.2.1 = some (tyX2 k) := by decide +kernel
abbrev cX2_init : ByteArray := prog_4_method_1_code
def yX2_init : MethodName := ⟨RX2, "<init>", "(LSoldNews$Buyers;)V"⟩
abbrev cX2_begin : ByteArray := prog_4_method_2_code
def yX2_begin : MethodName := ⟨RX2, "begin", "(LSoldNews$Hearing;II)V"⟩
abbrev cX2_look : ByteArray := prog_4_method_3_code
def yX2_look : MethodName := ⟨RX2, "look", "(I)I"⟩
abbrev cX2_deal : ByteArray := prog_4_method_4_code
def yX2_deal : MethodName := ⟨RX2, "deal", "(I)V"⟩
abbrev cX2_madeBy : ByteArray := prog_4_method_5_code
def yX2_madeBy : MethodName := ⟨RX2, "madeBy", "(II)J"⟩
abbrev cX2_gain : ByteArray := prog_4_method_6_code
def yX2_gain : MethodName := ⟨RX2, "gain", "(II)J"⟩
abbrev cX2_sellMost : ByteArray := prog_4_method_7_code
def yX2_sellMost : MethodName := ⟨RX2, "sellMost", "()V"⟩
abbrev cX2_goOn : ByteArray := prog_4_method_8_code
def yX2_goOn : MethodName := ⟨RX2, "goOn", "()Z"⟩
abbrev cX2_isAtRest : ByteArray := prog_4_method_9_code
def yX2_isAtRest : MethodName := ⟨RX2, "isAtRest", "()Z"⟩
abbrev cX2_madeTogether : ByteArray := prog_4_method_10_code
def yX2_madeTogether : MethodName := ⟨RX2, "madeTogether", "()J"⟩
abbrev cX2_number : ByteArray := prog_4_method_11_code
def yX2_number : MethodName := ⟨RX2, "number", "()I"⟩
def RX3 : String := "SoldNews$Hearing"
def TX3 : u_T := fun k => match k with
  | 0 => ("SoldNews$Hearing", "weight", "J", false)
  | 1 => ("SoldNews$Hearing", "value", "J", false)
  | _ => ("SoldNews$Hearing", "edge", "J", false)
def tyX3 : Nat → FieldType := fun k => match k with
  | 0 => .long
  | 1 => .long
  | _ => .long
abbrev wsX30 : List Cond := u_ws RX3 TX3 3
theorem nmX3 : ∀ a, a < 3 → ∀ b, b < 3 → a ≠ b → (TX3 a).2.1 ≠ (TX3 b).2.1 := by decide +kernel
theorem tyX3_ok : ∀ k, k < 3 → parseFieldDescriptor (TX3 k).2.2.1 = some (tyX3 k) := by decide +kernel
abbrev cX3_init : ByteArray := prog_5_method_1_code
def yX3_init : MethodName := ⟨RX3, "<init>", "()V"⟩
abbrev cX3_take : ByteArray := prog_5_method_2_code
def yX3_take : MethodName := ⟨RX3, "take", "(LSoldNews$Market;LSoldNews$News;I)V"⟩
abbrev cX3_takeCase : ByteArray := prog_5_method_3_code
def yX3_takeCase : MethodName := ⟨RX3, "takeCase", "(LSoldNews$Market;LSoldNews$News;I)V"⟩
abbrev cX3_narrow : ByteArray := prog_5_method_4_code
def yX3_narrow : MethodName := ⟨RX3, "narrow", "(LSoldNews$Market;LSoldNews$News;)V"⟩
abbrev cX3_isNever : ByteArray := prog_5_method_5_code
def yX3_isNever : MethodName := ⟨RX3, "isNever", "()Z"⟩
def RX4 : String := "SoldNews$Late"
def TX4 : u_T := fun k => match k with
  | 0 => ("SoldNews$News", "kind", "I", true)
  | _ => ("SoldNews$News", "n", "I", true)
def tyX4 : Nat → FieldType := fun k => match k with
  | 0 => .int
  | _ => .int
abbrev wsX40 : List Cond := u_ws RX4 TX4 2
theorem nmX4 : ∀ a, a < 2 → ∀ b, b < 2 → a ≠ b → (TX4 a).2.1 ≠ (TX4 b).2.1 := by decide +kernel
theorem tyX4_ok : ∀ k, k < 2 → parseFieldDescriptor (TX4 k).2.2.1 = some (tyX4 k) := by decide +kernel
abbrev cX4_init : ByteArray := prog_6_method_1_code
def yX4_init : MethodName := ⟨RX4, "<init>", "(II)V"⟩
abbrev cX4_nearer : ByteArray := prog_6_method_2_code
def yX4_nearer : MethodName := ⟨RX4, "nearer", "()I"⟩
def RX5 : String := "SoldNews$Market"
def TX5 : u_T := fun k => match k with
  | 0 => ("SoldNews$Market", "base", "I", false)
  | 1 => ("SoldNews$Market", "slope", "I", false)
  | 2 => ("SoldNews$Market", "cases", "I", false)
  | 3 => ("SoldNews$Market", "weights", "I", false)
  | 4 => ("SoldNews$Market", "weight", "[I", true)
  | _ => ("SoldNews$Market", "value", "[I", true)
def tyX5 : Nat → FieldType := fun k => match k with
  | 0 => .int
  | 1 => .int
  | 2 => .int
  | 3 => .int
  | 4 => .array .int
  | _ => .array .int
abbrev wsX50 : List Cond := u_ws RX5 TX5 6
theorem nmX5 : ∀ a, a < 6 → ∀ b, b < 6 → a ≠ b → (TX5 a).2.1 ≠ (TX5 b).2.1 := by decide +kernel
theorem tyX5_ok : ∀ k, k < 6 → parseFieldDescriptor (TX5 k).2.2.1 = some (tyX5 k) := by decide +kernel
abbrev cX5_init : ByteArray := prog_7_method_1_code
def yX5_init : MethodName := ⟨RX5, "<init>", "()V"⟩
abbrev cX5_append : ByteArray := prog_7_method_2_code
def yX5_append : MethodName := ⟨RX5, "append", "(II)Z"⟩
abbrev cX5_weightOf : ByteArray := prog_7_method_3_code
def yX5_weightOf : MethodName := ⟨RX5, "weightOf", "(I)I"⟩
abbrev cX5_valueOf : ByteArray := prog_7_method_4_code
def yX5_valueOf : MethodName := ⟨RX5, "valueOf", "(I)I"⟩
abbrev cX5_wholeWeight : ByteArray := prog_7_method_5_code
def yX5_wholeWeight : MethodName := ⟨RX5, "wholeWeight", "()J"⟩
abbrev cX5_caseAt : ByteArray := prog_7_method_6_code
def yX5_caseAt : MethodName := ⟨RX5, "caseAt", "(I)I"⟩
abbrev cX5_mostFor : ByteArray := prog_7_method_7_code
def yX5_mostFor : MethodName := ⟨RX5, "mostFor", "(I)J"⟩
abbrev cX5_mixedInto : ByteArray := prog_7_method_8_code
def yX5_mixedInto : MethodName := ⟨RX5, "mixedInto", "(J)J"⟩
def RX6 : String := "SoldNews$News"
def TX6 : u_T := fun k => match k with
  | 0 => ("SoldNews$News", "kind", "I", true)
  | _ => ("SoldNews$News", "n", "I", true)
def tyX6 : Nat → FieldType := fun k => match k with
  | 0 => .int
  | _ => .int
abbrev wsX60 : List Cond := u_ws RX6 TX6 2
theorem nmX6 : ∀ a, a < 2 → ∀ b, b < 2 → a ≠ b → (TX6 a).2.1 ≠ (TX6 b).2.1 := by decide +kernel
theorem tyX6_ok : ∀ k, k < 2 → parseFieldDescriptor (TX6 k).2.2.1 = some (tyX6 k) := by decide +kernel
abbrev cX6_init : ByteArray := prog_8_method_1_code
def yX6_init : MethodName := ⟨RX6, "<init>", "(II)V"⟩
abbrev cX6_ofKind : ByteArray := prog_8_method_2_code
def yX6_ofKind : MethodName := ⟨RX6, "ofKind", "(II)LSoldNews$News;"⟩
abbrev cX6_mostOf : ByteArray := prog_8_method_3_code
def yX6_mostOf : MethodName := ⟨RX6, "mostOf", "(I)I"⟩
abbrev cX6_wholeOf : ByteArray := prog_8_method_4_code
def yX6_wholeOf : MethodName := ⟨RX6, "wholeOf", "(I)I"⟩
abbrev cX6_isOf : ByteArray := prog_8_method_5_code
def yX6_isOf : MethodName := ⟨RX6, "isOf", "(I)Z"⟩
abbrev cX6_signOf : ByteArray := prog_8_method_6_code
def yX6_signOf : MethodName := ⟨RX6, "signOf", "(I)I"⟩
abbrev cX6_share : ByteArray := prog_8_method_7_code
def yX6_share : MethodName := ⟨RX6, "share", "(III)I"⟩
abbrev cX6_hears : ByteArray := prog_8_method_8_code
def yX6_hears : MethodName := ⟨RX6, "hears", "(IILSoldNews$Seed;)I"⟩
abbrev cX6_nearer : ByteArray := prog_8_method_9_code
def yX6_nearer : MethodName := ⟨RX6, "nearer", "()I"⟩
def RX7 : String := "SoldNews$Page"
def TX7 : u_T := fun k => match k with
  | 0 => ("SoldNews$Page", "letters", "[I", true)
  | 1 => ("SoldNews$Page", "size", "I", false)
  | _ => ("SoldNews$Page", "place", "I", false)
def tyX7 : Nat → FieldType := fun k => match k with
  | 0 => .array .int
  | 1 => .int
  | _ => .int
abbrev wsX70 : List Cond := u_ws RX7 TX7 3
theorem nmX7 : ∀ a, a < 3 → ∀ b, b < 3 → a ≠ b → (TX7 a).2.1 ≠ (TX7 b).2.1 := by decide +kernel
theorem tyX7_ok : ∀ k, k < 3 → parseFieldDescriptor (TX7 k).2.2.1 = some (tyX7 k) := by decide +kernel
abbrev cX7_init : ByteArray := prog_9_method_1_code
def yX7_init : MethodName := ⟨RX7, "<init>", "()V"⟩
abbrev cX7_lettersIn : ByteArray := prog_9_method_2_code
def yX7_lettersIn : MethodName := ⟨RX7, "lettersIn", "(J)I"⟩
abbrev cX7_letterOf : ByteArray := prog_9_method_3_code
def yX7_letterOf : MethodName := ⟨RX7, "letterOf", "(JI)I"⟩
abbrev cX7_append : ByteArray := prog_9_method_4_code
def yX7_append : MethodName := ⟨RX7, "append", "(JI)Z"⟩
abbrev cX7_readInto : ByteArray := prog_9_method_5_code
def yX7_readInto : MethodName := ⟨RX7, "readInto", "(LSoldNews$Market;)Z"⟩
abbrev cX7_letterHere : ByteArray := prog_9_method_6_code
def yX7_letterHere : MethodName := ⟨RX7, "letterHere", "()I"⟩
abbrev cX7_reads : ByteArray := prog_9_method_7_code
def yX7_reads : MethodName := ⟨RX7, "reads", "(C)Z"⟩
abbrev cX7_readNumber : ByteArray := prog_9_method_8_code
def yX7_readNumber : MethodName := ⟨RX7, "readNumber", "(IC)I"⟩
abbrev cX7_mixedInto : ByteArray := prog_9_method_9_code
def yX7_mixedInto : MethodName := ⟨RX7, "mixedInto", "(J)J"⟩
def RX8 : String := "SoldNews$Part"
def TX8 : u_T := fun k => match k with
  | 0 => ("SoldNews$News", "kind", "I", true)
  | _ => ("SoldNews$News", "n", "I", true)
def tyX8 : Nat → FieldType := fun k => match k with
  | 0 => .int
  | _ => .int
abbrev wsX80 : List Cond := u_ws RX8 TX8 2
theorem nmX8 : ∀ a, a < 2 → ∀ b, b < 2 → a ≠ b → (TX8 a).2.1 ≠ (TX8 b).2.1 := by decide +kernel
theorem tyX8_ok : ∀ k, k < 2 → parseFieldDescriptor (TX8 k).2.2.1 = some (tyX8 k) := by decide +kernel
abbrev cX8_init : ByteArray := prog_10_method_1_code
def yX8_init : MethodName := ⟨RX8, "<init>", "(II)V"⟩
abbrev cX8_signOf : ByteArray := prog_10_method_2_code
def yX8_signOf : MethodName := ⟨RX8, "signOf", "(I)I"⟩
def RX9 : String := "SoldNews$Plain"
def TX9 : u_T := fun k => match k with
  | 0 => ("SoldNews$News", "kind", "I", true)
  | _ => ("SoldNews$News", "n", "I", true)
def tyX9 : Nat → FieldType := fun k => match k with
  | 0 => .int
  | _ => .int
abbrev wsX90 : List Cond := u_ws RX9 TX9 2
theorem nmX9 : ∀ a, a < 2 → ∀ b, b < 2 → a ≠ b → (TX9 a).2.1 ≠ (TX9 b).2.1 := by decide +kernel
theorem tyX9_ok : ∀ k, k < 2 → parseFieldDescriptor (TX9 k).2.2.1 = some (tyX9 k) := by decide +kernel
abbrev cX9_init : ByteArray := prog_11_method_1_code
def yX9_init : MethodName := ⟨RX9, "<init>", "(II)V"⟩
abbrev cX9_signOf : ByteArray := prog_11_method_2_code
def yX9_signOf : MethodName := ⟨RX9, "signOf", "(I)I"⟩
def RX10 : String := "SoldNews$Seed"
def TX10 : u_T := fun k => match k with
  | _ => ("SoldNews$Seed", "now", "J", false)
def tyX10 : Nat → FieldType := fun k => match k with
  | _ => .long
abbrev wsX100 : List Cond := u_ws RX10 TX10 1
theorem nmX10 : ∀ a, a < 1 → ∀ b, b < 1 → a ≠ b → (TX10 a).2.1 ≠ (TX10 b).2.1 := by decide +kernel
theorem tyX10_ok : ∀ k, k < 1 → parseFieldDescriptor (TX10 k).2.2.1 = some (tyX10 k) := by decide +kernel
abbrev cX10_init : ByteArray := prog_12_method_1_code
def yX10_init : MethodName := ⟨RX10, "<init>", "()V"⟩
abbrev cX10_draw : ByteArray := prog_12_method_2_code
def yX10_draw : MethodName := ⟨RX10, "draw", "(I)I"⟩
def RX11 : String := "SoldNews"
def TX11 : u_T := fun k => match k with
  | 0 => ("SoldNews", "page", "LSoldNews$Page;", true)
  | 1 => ("SoldNews", "market", "LSoldNews$Market;", false)
  | 2 => ("SoldNews", "draft", "LSoldNews$Market;", false)
  | 3 => ("SoldNews", "open", "Z", false)
  | 4 => ("SoldNews", "buyers", "LSoldNews$Buyers;", true)
  | 5 => ("SoldNews", "all", "[LSoldNews$News;", true)
  | 6 => ("SoldNews", "newsCount", "I", false)
  | 7 => ("SoldNews", "sales", "I", false)
  | 8 => ("SoldNews", "hearing", "LSoldNews$Hearing;", true)
  | 9 => ("SoldNews", "deals", "LSoldNews$Deals;", true)
  | 10 => ("SoldNews", "draws", "LSoldNews$Seed;", true)
  | 11 => ("SoldNews", "settled", "[Z", true)
  | 12 => ("SoldNews", "dealt", "[I", true)
  | _ => ("SoldNews", "worths", "[J", true)
def tyX11 : Nat → FieldType := fun k => match k with
  | 0 => .object "SoldNews$Page"
  | 1 => .object "SoldNews$Market"
  | 2 => .object "SoldNews$Market"
  | 3 => .boolean
  | 4 => .object "SoldNews$Buyers"
  | 5 => .array (.object "SoldNews$News")
  | 6 => .int
  | 7 => .int
  | 8 => .object "SoldNews$Hearing"
  | 9 => .object "SoldNews$Deals"
  | 10 => .object "SoldNews$Seed"
  | 11 => .array .boolean
  | 12 => .array .int
  | _ => .array .long
abbrev wsX110 : List Cond := u_ws RX11 TX11 14
theorem nmX11 : ∀ a, a < 14 → ∀ b, b < 14 → a ≠ b → (TX11 a).2.1 ≠ (TX11 b).2.1 := by decide +kernel
theorem tyX11_ok : ∀ k, k < 14 → parseFieldDescriptor (TX11 k).2.2.1 = some (tyX11 k) := by decide +kernel
abbrev cX11_init : ByteArray := prog_1_method_1_code
def yX11_init : MethodName := ⟨RX11, "<init>", "()V"⟩
abbrev cX11_letters : ByteArray := prog_1_method_2_code
def yX11_letters : MethodName := ⟨RX11, "letters", "(J)I"⟩
abbrev cX11_blank : ByteArray := prog_1_method_3_code
def yX11_blank : MethodName := ⟨RX11, "blank", "()I"⟩
abbrev cX11_fault : ByteArray := prog_1_method_4_code
def yX11_fault : MethodName := ⟨RX11, "fault", "()I"⟩
abbrev cX11_market : ByteArray := prog_1_method_5_code
def yX11_market : MethodName := ⟨RX11, "market", "()I"⟩
abbrev cX11_told : ByteArray := prog_1_method_6_code
def yX11_told : MethodName := ⟨RX11, "told", "(II)I"⟩
abbrev cX11_buyer : ByteArray := prog_1_method_7_code
def yX11_buyer : MethodName := ⟨RX11, "buyer", "(II)I"⟩
abbrev cX11_change : ByteArray := prog_1_method_8_code
def yX11_change : MethodName := ⟨RX11, "change", "(III)I"⟩
abbrev cX11_news : ByteArray := prog_1_method_9_code
def yX11_news : MethodName := ⟨RX11, "news", "(II)I"⟩
abbrev cX11_as : ByteArray := prog_1_method_10_code
def yX11_as : MethodName := ⟨RX11, "as", "(II)I"⟩
abbrev cX11_heard : ByteArray := prog_1_method_11_code
def yX11_heard : MethodName := ⟨RX11, "heard", "(III)J"⟩
abbrev cX11_edge : ByteArray := prog_1_method_12_code
def yX11_edge : MethodName := ⟨RX11, "edge", "(III)J"⟩
abbrev cX11_rests : ByteArray := prog_1_method_13_code
def yX11_rests : MethodName := ⟨RX11, "rests", "(IIII)I"⟩
abbrev cX11_makes : ByteArray := prog_1_method_14_code
def yX11_makes : MethodName := ⟨RX11, "makes", "(IIIII)J"⟩
abbrev cX11_worth : ByteArray := prog_1_method_15_code
def yX11_worth : MethodName := ⟨RX11, "worth", "(IIII)J"⟩
abbrev cX11_whom : ByteArray := prog_1_method_16_code
def yX11_whom : MethodName := ⟨RX11, "whom", "(II)I"⟩
abbrev cX11_plainly : ByteArray := prog_1_method_17_code
def yX11_plainly : MethodName := ⟨RX11, "plainly", "(I)I"⟩
abbrev cX11_more : ByteArray := prog_1_method_18_code
def yX11_more : MethodName := ⟨RX11, "more", "(II)I"⟩
abbrev cX11_pledge : ByteArray := prog_1_method_19_code
def yX11_pledge : MethodName := ⟨RX11, "pledge", "(III)J"⟩
abbrev cX11_on : ByteArray := prog_1_method_20_code
def yX11_on : MethodName := ⟨RX11, "on", "(III)I"⟩
abbrev cX11_shut : ByteArray := prog_1_method_21_code
def yX11_shut : MethodName := ⟨RX11, "shut", "(III)J"⟩
abbrev cX11_wrongly : ByteArray := prog_1_method_22_code
def yX11_wrongly : MethodName := ⟨RX11, "wrongly", "(IIIIII)J"⟩
abbrev cX11_shown : ByteArray := prog_1_method_23_code
def yX11_shown : MethodName := ⟨RX11, "shown", "(II)I"⟩
abbrev cX11_thought : ByteArray := prog_1_method_24_code
def yX11_thought : MethodName := ⟨RX11, "thought", "(IIII)J"⟩
abbrev cX11_bound : ByteArray := prog_1_method_25_code
def yX11_bound : MethodName := ⟨RX11, "bound", "(I)J"⟩
abbrev cX11_run : ByteArray := prog_1_method_26_code
def yX11_run : MethodName := ⟨RX11, "run", "(IIIII)I"⟩
abbrev cX11_count : ByteArray := prog_1_method_27_code
def yX11_count : MethodName := ⟨RX11, "count", "(I)I"⟩
abbrev cX11_digest : ByteArray := prog_1_method_28_code
def yX11_digest : MethodName := ⟨RX11, "digest", "()J"⟩
abbrev cX11_newsMixedInto : ByteArray := prog_1_method_29_code
def yX11_newsMixedInto : MethodName := ⟨RX11, "newsMixedInto", "(JI)J"⟩
abbrev cX11_mixed : ByteArray := prog_1_method_30_code
def yX11_mixed : MethodName := ⟨RX11, "mixed", "(JJ)J"⟩
abbrev cX11_refusal : ByteArray := prog_1_method_31_code
def yX11_refusal : MethodName := ⟨RX11, "refusal", "(IZZ)I"⟩
abbrev cX11_refusedPart : ByteArray := prog_1_method_32_code
def yX11_refusedPart : MethodName := ⟨RX11, "refusedPart", "(I)J"⟩
abbrev cX11_newsAt : ByteArray := prog_1_method_33_code
def yX11_newsAt : MethodName := ⟨RX11, "newsAt", "(I)LSoldNews$News;"⟩
abbrev cX11_isCase : ByteArray := prog_1_method_34_code
def yX11_isCase : MethodName := ⟨RX11, "isCase", "(I)Z"⟩
abbrev cX11_isSet : ByteArray := prog_1_method_35_code
def yX11_isSet : MethodName := ⟨RX11, "isSet", "(I)Z"⟩
abbrev cX11_isSign : ByteArray := prog_1_method_36_code
def yX11_isSign : MethodName := ⟨RX11, "isSign", "(I)Z"⟩
abbrev cX11_isPart : ByteArray := prog_1_method_37_code
def yX11_isPart : MethodName := ⟨RX11, "isPart", "(I)Z"⟩
abbrev cX11_isHow : ByteArray := prog_1_method_38_code
def yX11_isHow : MethodName := ⟨RX11, "isHow", "(I)Z"⟩
abbrev cX11_isIn : ByteArray := prog_1_method_39_code
def yX11_isIn : MethodName := ⟨RX11, "isIn", "(II)Z"⟩
abbrev cX11_bit : ByteArray := prog_1_method_40_code
def yX11_bit : MethodName := ⟨RX11, "bit", "(I)I"⟩
abbrev cX11_partOf : ByteArray := prog_1_method_41_code
def yX11_partOf : MethodName := ⟨RX11, "partOf", "(JJI)J"⟩
abbrev cX11_commonDivisor : ByteArray := prog_1_method_42_code
def yX11_commonDivisor : MethodName := ⟨RX11, "commonDivisor", "(JJ)J"⟩
abbrev cX11_unsettle : ByteArray := prog_1_method_43_code
def yX11_unsettle : MethodName := ⟨RX11, "unsettle", "()V"⟩
abbrev cX11_settleAll : ByteArray := prog_1_method_44_code
def yX11_settleAll : MethodName := ⟨RX11, "settleAll", "(I)V"⟩
abbrev cX11_settle : ByteArray := prog_1_method_45_code
def yX11_settle : MethodName := ⟨RX11, "settle", "(II)V"⟩
abbrev cX11_keepWorths : ByteArray := prog_1_method_46_code
def yX11_keepWorths : MethodName := ⟨RX11, "keepWorths", "(IZ)V"⟩
abbrev cX11_dealtFor : ByteArray := prog_1_method_47_code
def yX11_dealtFor : MethodName := ⟨RX11, "dealtFor", "(III)I"⟩
abbrev cX11_worthOf : ByteArray := prog_1_method_48_code
def yX11_worthOf : MethodName := ⟨RX11, "worthOf", "(III)J"⟩
abbrev cX11_bestSet : ByteArray := prog_1_method_49_code
def yX11_bestSet : MethodName := ⟨RX11, "bestSet", "(II)I"⟩
abbrev cX11_takings : ByteArray := prog_1_method_50_code
def yX11_takings : MethodName := ⟨RX11, "takings", "(III)J"⟩
abbrev cX11_oneMore : ByteArray := prog_1_method_51_code
def yX11_oneMore : MethodName := ⟨RX11, "oneMore", "(II)I"⟩
abbrev cX11_toldBy : ByteArray := prog_1_method_52_code
def yX11_toldBy : MethodName := ⟨RX11, "toldBy", "(III)I"⟩
abbrev cX11_looksLikeEarlier : ByteArray := prog_1_method_53_code
def yX11_looksLikeEarlier : MethodName := ⟨RX11, "looksLikeEarlier", "(III)Z"⟩
abbrev cX11_lookAlike : ByteArray := prog_1_method_54_code
def yX11_lookAlike : MethodName := ⟨RX11, "lookAlike", "(IIII)Z"⟩
def RX12 : String := "SoldNewsModel"
def TX12 : u_T := fun k => match k with
  | 0 => ("SoldNewsModel", "page", "[I", true)
  | 1 => ("SoldNewsModel", "pageMany", "I", false)
  | 2 => ("SoldNewsModel", "base", "I", false)
  | 3 => ("SoldNewsModel", "slope", "I", false)
  | 4 => ("SoldNewsModel", "cases", "I", false)
  | 5 => ("SoldNewsModel", "weights", "[I", true)
  | 6 => ("SoldNewsModel", "values", "[I", true)
  | 7 => ("SoldNewsModel", "state", "I", false)
  | 8 => ("SoldNewsModel", "digits", "I", false)
  | 9 => ("SoldNewsModel", "number", "I", false)
  | 10 => ("SoldNewsModel", "readBase", "I", false)
  | 11 => ("SoldNewsModel", "readSlope", "I", false)
  | 12 => ("SoldNewsModel", "readCases", "I", false)
  | 13 => ("SoldNewsModel", "readWeights", "[I", true)
  | 14 => ("SoldNewsModel", "readValues", "[I", true)
  | 15 => ("SoldNewsModel", "buyers", "I", false)
  | 16 => ("SoldNewsModel", "limits", "[I", true)
  | 17 => ("SoldNewsModel", "fees", "[I", true)
  | 18 => ("SoldNewsModel", "many", "I", false)
  | 19 => ("SoldNewsModel", "kinds", "[I", true)
  | 20 => ("SoldNewsModel", "numbers", "[I", true)
  | 21 => ("SoldNewsModel", "edge", "J", false)
  | 22 => ("SoldNewsModel", "heard", "J", false)
  | 23 => ("SoldNewsModel", "restMany", "I", false)
  | 24 => ("SoldNewsModel", "restAt", "I", false)
  | 25 => ("SoldNewsModel", "worths", "[J", true)
  | 26 => ("SoldNewsModel", "done", "I", false)
  | 27 => ("SoldNewsModel", "bestSet", "I", false)
  | 28 => ("SoldNewsModel", "pledgeOf", "J", false)
  | 29 => ("SoldNewsModel", "bySign", "[I", true)
  | 30 => ("SoldNewsModel", "seedNow", "I", false)
  | _ => ("SoldNewsModel", "hash", "J", false)
def tyX12 : Nat → FieldType := fun k => match k with
  | 0 => .array .int
  | 1 => .int
  | 2 => .int
  | 3 => .int
  | 4 => .int
  | 5 => .array .int
  | 6 => .array .int
  | 7 => .int
  | 8 => .int
  | 9 => .int
  | 10 => .int
  | 11 => .int
  | 12 => .int
  | 13 => .array .int
  | 14 => .array .int
  | 15 => .int
  | 16 => .array .int
  | 17 => .array .int
  | 18 => .int
  | 19 => .array .int
  | 20 => .array .int
  | 21 => .long
  | 22 => .long
  | 23 => .int
  | 24 => .int
  | 25 => .array .long
  | 26 => .int
  | 27 => .int
  | 28 => .long
  | 29 => .array .int
  | 30 => .int
  | _ => .long
abbrev wsX120 : List Cond := u_ws RX12 TX12 32
theorem nmX12 : ∀ a, a < 32 → ∀ b, b < 32 → a ≠ b → (TX12 a).2.1 ≠ (TX12 b).2.1 := by decide +kernel
theorem tyX12_ok : ∀ k, k < 32 → parseFieldDescriptor (TX12 k).2.2.1 = some (tyX12 k) := by decide +kernel
abbrev cX12_init : ByteArray := prog_14_method_1_code
def yX12_init : MethodName := ⟨RX12, "<init>", "()V"⟩
abbrev cX12_in : ByteArray := prog_14_method_2_code
def yX12_in : MethodName := ⟨RX12, "in", "(JJJ)Z"⟩
abbrev cX12_letters : ByteArray := prog_14_method_3_code
def yX12_letters : MethodName := ⟨RX12, "letters", "(J)I"⟩
abbrev cX12_blank : ByteArray := prog_14_method_4_code
def yX12_blank : MethodName := ⟨RX12, "blank", "()I"⟩
abbrev cX12_next : ByteArray := prog_14_method_5_code
def yX12_next : MethodName := ⟨RX12, "next", "(I)V"⟩
abbrev cX12_digit : ByteArray := prog_14_method_6_code
def yX12_digit : MethodName := ⟨RX12, "digit", "(II)Z"⟩
abbrev cX12_beginCase : ByteArray := prog_14_method_7_code
def yX12_beginCase : MethodName := ⟨RX12, "beginCase", "()Z"⟩
abbrev cX12_go : ByteArray := prog_14_method_8_code
def yX12_go : MethodName := ⟨RX12, "go", "(I)Z"⟩
abbrev cX12_faultOf : ByteArray := prog_14_method_9_code
def yX12_faultOf : MethodName := ⟨RX12, "faultOf", "()I"⟩
abbrev cX12_fault : ByteArray := prog_14_method_10_code
def yX12_fault : MethodName := ⟨RX12, "fault", "()I"⟩
abbrev cX12_market : ByteArray := prog_14_method_11_code
def yX12_market : MethodName := ⟨RX12, "market", "()I"⟩
abbrev cX12_isCase : ByteArray := prog_14_method_12_code
def yX12_isCase : MethodName := ⟨RX12, "isCase", "(I)Z"⟩
abbrev cX12_told : ByteArray := prog_14_method_13_code
def yX12_told : MethodName := ⟨RX12, "told", "(II)I"⟩
abbrev cX12_buyer : ByteArray := prog_14_method_14_code
def yX12_buyer : MethodName := ⟨RX12, "buyer", "(II)I"⟩
abbrev cX12_isBuyer : ByteArray := prog_14_method_15_code
def yX12_isBuyer : MethodName := ⟨RX12, "isBuyer", "(I)Z"⟩
abbrev cX12_change : ByteArray := prog_14_method_16_code
def yX12_change : MethodName := ⟨RX12, "change", "(III)I"⟩
abbrev cX12_news : ByteArray := prog_14_method_17_code
def yX12_news : MethodName := ⟨RX12, "news", "(II)I"⟩
abbrev cX12_isNews : ByteArray := prog_14_method_18_code
def yX12_isNews : MethodName := ⟨RX12, "isNews", "(I)Z"⟩
abbrev cX12_as : ByteArray := prog_14_method_19_code
def yX12_as : MethodName := ⟨RX12, "as", "(II)I"⟩
abbrev cX12_others : ByteArray := prog_14_method_20_code
def yX12_others : MethodName := ⟨RX12, "others", "()I"⟩
abbrev cX12_unit : ByteArray := prog_14_method_21_code
def yX12_unit : MethodName := ⟨RX12, "unit", "()I"⟩
abbrev cX12_allWeights : ByteArray := prog_14_method_22_code
def yX12_allWeights : MethodName := ⟨RX12, "allWeights", "()I"⟩
abbrev cX12_often : ByteArray := prog_14_method_23_code
def yX12_often : MethodName := ⟨RX12, "often", "(III)I"⟩
abbrev cX12_heardOf : ByteArray := prog_14_method_24_code
def yX12_heardOf : MethodName := ⟨RX12, "heardOf", "(II)I"⟩
abbrev cX12_baseOf : ByteArray := prog_14_method_25_code
def yX12_baseOf : MethodName := ⟨RX12, "baseOf", "(II)I"⟩
abbrev cX12_edgeOf : ByteArray := prog_14_method_26_code
def yX12_edgeOf : MethodName := ⟨RX12, "edgeOf", "(II)J"⟩
abbrev cX12_common : ByteArray := prog_14_method_27_code
def yX12_common : MethodName := ⟨RX12, "common", "(JJ)J"⟩
abbrev cX12_term : ByteArray := prog_14_method_28_code
def yX12_term : MethodName := ⟨RX12, "term", "(JJI)J"⟩
abbrev cX12_isSign : ByteArray := prog_14_method_29_code
def yX12_isSign : MethodName := ⟨RX12, "isSign", "(I)Z"⟩
abbrev cX12_isPart : ByteArray := prog_14_method_30_code
def yX12_isPart : MethodName := ⟨RX12, "isPart", "(I)Z"⟩
abbrev cX12_refusal : ByteArray := prog_14_method_31_code
def yX12_refusal : MethodName := ⟨RX12, "refusal", "(IZZ)I"⟩
abbrev cX12_asLong : ByteArray := prog_14_method_32_code
def yX12_asLong : MethodName := ⟨RX12, "asLong", "(I)J"⟩
abbrev cX12_heard : ByteArray := prog_14_method_33_code
def yX12_heard : MethodName := ⟨RX12, "heard", "(III)J"⟩
abbrev cX12_edge : ByteArray := prog_14_method_34_code
def yX12_edge : MethodName := ⟨RX12, "edge", "(III)J"⟩
abbrev cX12_isSet : ByteArray := prog_14_method_35_code
def yX12_isSet : MethodName := ⟨RX12, "isSet", "(I)Z"⟩
abbrev cX12_dealings : ByteArray := prog_14_method_36_code
def yX12_dealings : MethodName := ⟨RX12, "dealings", "()I"⟩
abbrev cX12_power : ByteArray := prog_14_method_37_code
def yX12_power : MethodName := ⟨RX12, "power", "(I)I"⟩
abbrev cX12_stepsOf : ByteArray := prog_14_method_38_code
def yX12_stepsOf : MethodName := ⟨RX12, "stepsOf", "(II)I"⟩
abbrev cX12_together : ByteArray := prog_14_method_39_code
def yX12_together : MethodName := ⟨RX12, "together", "(I)I"⟩
abbrev cX12_isOf : ByteArray := prog_14_method_40_code
def yX12_isOf : MethodName := ⟨RX12, "isOf", "(II)Z"⟩
abbrev cX12_take : ByteArray := prog_14_method_41_code
def yX12_take : MethodName := ⟨RX12, "take", "(II)V"⟩
abbrev cX12_made : ByteArray := prog_14_method_42_code
def yX12_made : MethodName := ⟨RX12, "made", "(III)J"⟩
abbrev cX12_isAtRest : ByteArray := prog_14_method_43_code
def yX12_isAtRest : MethodName := ⟨RX12, "isAtRest", "(II)Z"⟩
abbrev cX12_allMake : ByteArray := prog_14_method_44_code
def yX12_allMake : MethodName := ⟨RX12, "allMake", "(I)J"⟩
abbrev cX12_dealtFor : ByteArray := prog_14_method_45_code
def yX12_dealtFor : MethodName := ⟨RX12, "dealtFor", "(IIII)I"⟩
abbrev cX12_rests : ByteArray := prog_14_method_46_code
def yX12_rests : MethodName := ⟨RX12, "rests", "(IIII)I"⟩
abbrev cX12_isDealt : ByteArray := prog_14_method_47_code
def yX12_isDealt : MethodName := ⟨RX12, "isDealt", "(I)Z"⟩
abbrev cX12_makes : ByteArray := prog_14_method_48_code
def yX12_makes : MethodName := ⟨RX12, "makes", "(IIIII)J"⟩
abbrev cX12_below : ByteArray := prog_14_method_49_code
def yX12_below : MethodName := ⟨RX12, "below", "()J"⟩
abbrev cX12_layWorth : ByteArray := prog_14_method_50_code
def yX12_layWorth : MethodName := ⟨RX12, "layWorth", "(II)V"⟩
abbrev cX12_worthOf : ByteArray := prog_14_method_51_code
def yX12_worthOf : MethodName := ⟨RX12, "worthOf", "(III)J"⟩
abbrev cX12_worth : ByteArray := prog_14_method_52_code
def yX12_worth : MethodName := ⟨RX12, "worth", "(IIII)J"⟩
abbrev cX12_mostAsked : ByteArray := prog_14_method_53_code
def yX12_mostAsked : MethodName := ⟨RX12, "mostAsked", "(II)J"⟩
abbrev cX12_whom : ByteArray := prog_14_method_54_code
def yX12_whom : MethodName := ⟨RX12, "whom", "(II)I"⟩
abbrev cX12_plainly : ByteArray := prog_14_method_55_code
def yX12_plainly : MethodName := ⟨RX12, "plainly", "(I)I"⟩
abbrev cX12_moreOf : ByteArray := prog_14_method_56_code
def yX12_moreOf : MethodName := ⟨RX12, "moreOf", "(II)I"⟩
abbrev cX12_more : ByteArray := prog_14_method_57_code
def yX12_more : MethodName := ⟨RX12, "more", "(II)I"⟩
abbrev cX12_pledge : ByteArray := prog_14_method_58_code
def yX12_pledge : MethodName := ⟨RX12, "pledge", "(III)J"⟩
abbrev cX12_on : ByteArray := prog_14_method_59_code
def yX12_on : MethodName := ⟨RX12, "on", "(III)I"⟩
abbrev cX12_shut : ByteArray := prog_14_method_60_code
def yX12_shut : MethodName := ⟨RX12, "shut", "(III)J"⟩
abbrev cX12_wrongly : ByteArray := prog_14_method_61_code
def yX12_wrongly : MethodName := ⟨RX12, "wrongly", "(IIIIII)J"⟩
abbrev cX12_shown : ByteArray := prog_14_method_62_code
def yX12_shown : MethodName := ⟨RX12, "shown", "(II)I"⟩
abbrev cX12_layStepsBySign : ByteArray := prog_14_method_63_code
def yX12_layStepsBySign : MethodName := ⟨RX12, "layStepsBySign", "(II)V"⟩
abbrev cX12_thought : ByteArray := prog_14_method_64_code
def yX12_thought : MethodName := ⟨RX12, "thought", "(IIII)J"⟩
abbrev cX12_boundOf : ByteArray := prog_14_method_65_code
def yX12_boundOf : MethodName := ⟨RX12, "boundOf", "()J"⟩
abbrev cX12_bound : ByteArray := prog_14_method_66_code
def yX12_bound : MethodName := ⟨RX12, "bound", "(I)J"⟩
abbrev cX12_draw : ByteArray := prog_14_method_67_code
def yX12_draw : MethodName := ⟨RX12, "draw", "(I)I"⟩
abbrev cX12_drawCase : ByteArray := prog_14_method_68_code
def yX12_drawCase : MethodName := ⟨RX12, "drawCase", "()I"⟩
abbrev cX12_drawSign : ByteArray := prog_14_method_69_code
def yX12_drawSign : MethodName := ⟨RX12, "drawSign", "(I)I"⟩
abbrev cX12_run : ByteArray := prog_14_method_70_code
def yX12_run : MethodName := ⟨RX12, "run", "(IIIII)I"⟩
abbrev cX12_layDealtBySign : ByteArray := prog_14_method_71_code
def yX12_layDealtBySign : MethodName := ⟨RX12, "layDealtBySign", "(II)V"⟩
abbrev cX12_count : ByteArray := prog_14_method_72_code
def yX12_count : MethodName := ⟨RX12, "count", "(I)I"⟩
abbrev cX12_tell : ByteArray := prog_14_method_73_code
def yX12_tell : MethodName := ⟨RX12, "tell", "(J)V"⟩
abbrev cX12_tellNews : ByteArray := prog_14_method_74_code
def yX12_tellNews : MethodName := ⟨RX12, "tellNews", "(I)V"⟩
abbrev cX12_digest : ByteArray := prog_14_method_75_code
def yX12_digest : MethodName := ⟨RX12, "digest", "()J"⟩
def RL : String := "SoldNewsLaw"
abbrev cL_law : ByteArray := code
def yL_law : MethodName := ⟨RL, "law", "([I)Z"⟩
abbrev vwCl : List vw_C := [(RX0, TX0, 2), (RX1, TX1, 3), (RX2, TX2, 7), (RX3, TX3, 3), (RX4, TX4, 2), (RX5, TX5, 6), (RX6, TX6, 2), (RX7, TX7, 3), (RX8, TX8, 2), (RX9, TX9, 2), (RX10, TX10, 1), (RX11, TX11, 14), (RX12, TX12, 32)]
theorem inBX0 : ∀ w ∈ wsX00, w ∈ wB := wB_of _ [421, 422] (by decide +kernel) (by decide +kernel)
theorem inBX1 : ∀ w ∈ wsX10, w ∈ wB := wB_of _ [153, 155, 157] (by decide +kernel) (by decide +kernel)
theorem inBX2 : ∀ w ∈ wsX20, w ∈ wB := wB_of _ [196, 198, 200, 202, 204, 206, 208] (by decide +kernel) (by decide +kernel)
theorem inBX3 : ∀ w ∈ wsX30, w ∈ wB := wB_of _ [176, 178, 180] (by decide +kernel) (by decide +kernel)
theorem inBX4 : ∀ w ∈ wsX40, w ∈ wB := wB_of _ [430, 431] (by decide +kernel) (by decide +kernel)
theorem inBX5 : ∀ w ∈ wsX50, w ∈ wB := wB_of _ [129, 131, 133, 135, 137, 139] (by decide +kernel) (by decide +kernel)
theorem inBX6 : ∀ w ∈ wsX60, w ∈ wB := wB_of _ [436, 437] (by decide +kernel) (by decide +kernel)
theorem inBX7 : ∀ w ∈ wsX70, w ∈ wB := wB_of _ [99, 101, 103] (by decide +kernel) (by decide +kernel)
theorem inBX8 : ∀ w ∈ wsX80, w ∈ wB := wB_of _ [412, 413] (by decide +kernel) (by decide +kernel)
theorem inBX9 : ∀ w ∈ wsX90, w ∈ wB := wB_of _ [401, 403] (by decide +kernel) (by decide +kernel)
theorem inBX10 : ∀ w ∈ wsX100, w ∈ wB := wB_of _ [219] (by decide +kernel) (by decide +kernel)
theorem inBX11 : ∀ w ∈ wsX110, w ∈ wB := wB_of _ [236, 238, 240, 242, 244, 246, 248, 250, 252, 254, 256, 258, 260, 262] (by decide +kernel) (by decide +kernel)
theorem inBX12 : ∀ w ∈ wsX120, w ∈ wB := wB_of _ [853, 855, 857, 859, 861, 863, 865, 867, 869, 871, 873, 875, 877, 879, 881, 883, 885, 887, 889, 891, 893, 895, 897, 899, 901, 903, 905, 907, 909, 911, 913, 915] (by decide +kernel) (by decide +kernel)
end
section
theorem dX0_init_0 : decode cX0_init 0 = .ok (.aload_n 0, 1) := by decide +kernel
theorem dX0_init_1 : decode cX0_init 1 = .ok (.iload_n 1, 1) := by decide +kernel
theorem dX0_init_2 : decode cX0_init 2 = .ok (.iload_n 2, 1) := by decide +kernel
theorem dX0_init_3 : decode cX0_init 3 = .ok (.invokespecial 3, 3) := by decide +kernel
theorem dX0_init_6 : decode cX0_init 6 = .ok (.return_, 1) := by decide +kernel
theorem dX0_share_0 : decode cX0_share 0 = .ok (.iload_n 3, 1) := by decide +kernel
theorem dX0_share_1 : decode cX0_share 1 = .ok (.iconst 2, 1) := by decide +kernel
theorem dX0_share_2 : decode cX0_share 2 = .ok (.if_icmp .ge 17, 3) := by decide +kernel
theorem dX0_share_5 : decode cX0_share 5 = .ok (.iload_n 2, 1) := by decide +kernel
theorem dX0_share_6 : decode cX0_share 6 = .ok (.iload_n 1, 1) := by decide +kernel
theorem dX0_share_7 : decode cX0_share 7 = .ok (.if_icmp .ne 10, 3) := by decide +kernel
theorem dX0_share_10 : decode cX0_share 10 = .ok (.iload_n 3, 1) := by decide +kernel
theorem dX0_share_11 : decode cX0_share 11 = .ok (.invokestatic 9, 3) := by decide +kernel
theorem dX0_share_14 : decode cX0_share 14 = .ok (.goto 4, 3) := by decide +kernel
theorem dX0_share_17 : decode cX0_share 17 = .ok (.iconst 0, 1) := by decide +kernel
theorem dX0_share_18 : decode cX0_share 18 = .ok (.ireturn, 1) := by decide +kernel
theorem dX0_share_19 : decode cX0_share 19 = .ok (.iload_n 2, 1) := by decide +kernel
theorem dX0_share_20 : decode cX0_share 20 = .ok (.iload_n 3, 1) := by decide +kernel
theorem dX0_share_21 : decode cX0_share 21 = .ok (.if_icmp .lt 5, 3) := by decide +kernel
theorem dX0_share_24 : decode cX0_share 24 = .ok (.iconst 0, 1) := by decide +kernel
theorem dX0_share_25 : decode cX0_share 25 = .ok (.ireturn, 1) := by decide +kernel
theorem dX0_share_26 : decode cX0_share 26 = .ok (.iload_n 2, 1) := by decide +kernel
theorem dX0_share_27 : decode cX0_share 27 = .ok (.iload_n 1, 1) := by decide +kernel
theorem dX0_share_28 : decode cX0_share 28 = .ok (.if_icmp .ne 17, 3) := by decide +kernel
theorem dX0_share_31 : decode cX0_share 31 = .ok (.bipush 100, 2) := by decide +kernel
theorem dX0_share_33 : decode cX0_share 33 = .ok (.aload_n 0, 1) := by decide +kernel
theorem dX0_share_34 : decode cX0_share 34 = .ok (.getfield 15, 3) := by decide +kernel
theorem dX0_share_37 : decode cX0_share 37 = .ok (.isub, 1) := by decide +kernel
theorem dX0_share_38 : decode cX0_share 38 = .ok (.iload_n 3, 1) := by decide +kernel
theorem dX0_share_39 : decode cX0_share 39 = .ok (.iconst 1, 1) := by decide +kernel
theorem dX0_share_40 : decode cX0_share 40 = .ok (.isub, 1) := by decide +kernel
theorem dX0_share_41 : decode cX0_share 41 = .ok (.imul, 1) := by decide +kernel
theorem dX0_share_42 : decode cX0_share 42 = .ok (.goto 7, 3) := by decide +kernel
theorem dX0_share_45 : decode cX0_share 45 = .ok (.aload_n 0, 1) := by decide +kernel
theorem dX0_share_46 : decode cX0_share 46 = .ok (.getfield 15, 3) := by decide +kernel
theorem dX0_share_49 : decode cX0_share 49 = .ok (.ireturn, 1) := by decide +kernel
theorem dX0_hears_0 : decode cX0_hears 0 = .ok (.iload_n 2, 1) := by decide +kernel
theorem dX0_hears_1 : decode cX0_hears 1 = .ok (.iconst 2, 1) := by decide +kernel
theorem dX0_hears_2 : decode cX0_hears 2 = .ok (.if_icmp .lt 16, 3) := by decide +kernel
theorem dX0_hears_5 : decode cX0_hears 5 = .ok (.aload_n 3, 1) := by decide +kernel
theorem dX0_hears_6 : decode cX0_hears 6 = .ok (.bipush 100, 2) := by decide +kernel
theorem dX0_hears_8 : decode cX0_hears 8 = .ok (.invokevirtual 19, 3) := by decide +kernel
theorem dX0_hears_11 : decode cX0_hears 11 = .ok (.aload_n 0, 1) := by decide +kernel
theorem dX0_hears_12 : decode cX0_hears 12 = .ok (.getfield 15, 3) := by decide +kernel
theorem dX0_hears_15 : decode cX0_hears 15 = .ok (.if_icmp .lt 5, 3) := by decide +kernel
theorem dX0_hears_18 : decode cX0_hears 18 = .ok (.iload_n 1, 1) := by decide +kernel
theorem dX0_hears_19 : decode cX0_hears 19 = .ok (.ireturn, 1) := by decide +kernel
theorem dX0_hears_20 : decode cX0_hears 20 = .ok (.aload_n 3, 1) := by decide +kernel
theorem dX0_hears_21 : decode cX0_hears 21 = .ok (.iload_n 2, 1) := by decide +kernel
theorem dX0_hears_22 : decode cX0_hears 22 = .ok (.iconst 1, 1) := by decide +kernel
theorem dX0_hears_23 : decode cX0_hears 23 = .ok (.isub, 1) := by decide +kernel
theorem dX0_hears_24 : decode cX0_hears 24 = .ok (.invokevirtual 19, 3) := by decide +kernel
theorem dX0_hears_27 : decode cX0_hears 27 = .ok (.istore 4, 2) := by decide +kernel
theorem dX0_hears_29 : decode cX0_hears 29 = .ok (.iload 4, 2) := by decide +kernel
theorem dX0_hears_31 : decode cX0_hears 31 = .ok (.iload_n 1, 1) := by decide +kernel
theorem dX0_hears_32 : decode cX0_hears 32 = .ok (.if_icmp .ge 8, 3) := by decide +kernel
theorem dX0_hears_35 : decode cX0_hears 35 = .ok (.iload 4, 2) := by decide +kernel
theorem dX0_hears_37 : decode cX0_hears 37 = .ok (.goto 7, 3) := by decide +kernel
theorem dX0_hears_40 : decode cX0_hears 40 = .ok (.iload 4, 2) := by decide +kernel
theorem dX0_hears_42 : decode cX0_hears 42 = .ok (.iconst 1, 1) := by decide +kernel
theorem dX0_hears_43 : decode cX0_hears 43 = .ok (.iadd, 1) := by decide +kernel
theorem dX0_hears_44 : decode cX0_hears 44 = .ok (.ireturn, 1) := by decide +kernel
theorem dX1_init_0 : decode cX1_init 0 = .ok (.aload_n 0, 1) := by decide +kernel
theorem dX1_init_1 : decode cX1_init 1 = .ok (.invokespecial 3, 3) := by decide +kernel
theorem dX1_init_4 : decode cX1_init 4 = .ok (.aload_n 0, 1) := by decide +kernel
theorem dX1_init_5 : decode cX1_init 5 = .ok (.iconst 4, 1) := by decide +kernel
theorem dX1_init_6 : decode cX1_init 6 = .ok (.newarray .int, 2) := by decide +kernel
theorem dX1_init_8 : decode cX1_init 8 = .ok (.putfield 9, 3) := by decide +kernel
theorem dX1_init_11 : decode cX1_init 11 = .ok (.aload_n 0, 1) := by decide +kernel
theorem dX1_init_12 : decode cX1_init 12 = .ok (.iconst 4, 1) := by decide +kernel
theorem dX1_init_13 : decode cX1_init 13 = .ok (.newarray .int, 2) := by decide +kernel
theorem dX1_init_15 : decode cX1_init 15 = .ok (.putfield 15, 3) := by decide +kernel
theorem dX1_init_18 : decode cX1_init 18 = .ok (.return_, 1) := by decide +kernel
theorem dX1_isLimit_0 : decode cX1_isLimit 0 = .ok (.iload_n 0, 1) := by decide +kernel
theorem dX1_isLimit_1 : decode cX1_isLimit 1 = .ok (.iconst 1, 1) := by decide +kernel
theorem dX1_isLimit_2 : decode cX1_isLimit 2 = .ok (.if_icmp .lt 12, 3) := by decide +kernel
theorem dX1_isLimit_5 : decode cX1_isLimit 5 = .ok (.iload_n 0, 1) := by decide +kernel
theorem dX1_isLimit_6 : decode cX1_isLimit 6 = .ok (.iconst 3, 1) := by decide +kernel
theorem dX1_isLimit_7 : decode cX1_isLimit 7 = .ok (.if_icmp .gt 7, 3) := by decide +kernel
theorem dX1_isLimit_10 : decode cX1_isLimit 10 = .ok (.iconst 1, 1) := by decide +kernel
theorem dX1_isLimit_11 : decode cX1_isLimit 11 = .ok (.goto 4, 3) := by decide +kernel
theorem dX1_isLimit_14 : decode cX1_isLimit 14 = .ok (.iconst 0, 1) := by decide +kernel
theorem dX1_isLimit_15 : decode cX1_isLimit 15 = .ok (.ireturn, 1) := by decide +kernel
theorem dX1_isFee_0 : decode cX1_isFee 0 = .ok (.iload_n 0, 1) := by decide +kernel
theorem dX1_isFee_1 : decode cX1_isFee 1 = .ok (.ifCond .lt 13, 3) := by decide +kernel
theorem dX1_isFee_4 : decode cX1_isFee 4 = .ok (.iload_n 0, 1) := by decide +kernel
theorem dX1_isFee_5 : decode cX1_isFee 5 = .ok (.bipush 99, 2) := by decide +kernel
theorem dX1_isFee_7 : decode cX1_isFee 7 = .ok (.if_icmp .gt 7, 3) := by decide +kernel
theorem dX1_isFee_10 : decode cX1_isFee 10 = .ok (.iconst 1, 1) := by decide +kernel
theorem dX1_isFee_11 : decode cX1_isFee 11 = .ok (.goto 4, 3) := by decide +kernel
theorem dX1_isFee_14 : decode cX1_isFee 14 = .ok (.iconst 0, 1) := by decide +kernel
theorem dX1_isFee_15 : decode cX1_isFee 15 = .ok (.ireturn, 1) := by decide +kernel
theorem dX1_stepOf_0 : decode cX1_stepOf 0 = .ok (.iload_n 0, 1) := by decide +kernel
theorem dX1_stepOf_1 : decode cX1_stepOf 1 = .ok (.ifCond .lt 24, 3) := by decide +kernel
theorem dX1_stepOf_4 : decode cX1_stepOf 4 = .ok (.iload_n 1, 1) := by decide +kernel
theorem dX1_stepOf_5 : decode cX1_stepOf 5 = .ok (.ifCond .lt 20, 3) := by decide +kernel
theorem dX1_stepOf_8 : decode cX1_stepOf 8 = .ok (.iload_n 1, 1) := by decide +kernel
theorem dX1_stepOf_9 : decode cX1_stepOf 9 = .ok (.getstatic 18, 3) := by decide +kernel
theorem dX1_stepOf_12 : decode cX1_stepOf 12 = .ok (.arraylength, 1) := by decide +kernel
theorem dX1_stepOf_13 : decode cX1_stepOf 13 = .ok (.if_icmp .ge 12, 3) := by decide +kernel
theorem dX1_stepOf_16 : decode cX1_stepOf 16 = .ok (.getstatic 18, 3) := by decide +kernel
theorem dX1_stepOf_19 : decode cX1_stepOf 19 = .ok (.iload_n 1, 1) := by decide +kernel
theorem dX1_stepOf_20 : decode cX1_stepOf 20 = .ok (.iaload, 1) := by decide +kernel
theorem dX1_stepOf_21 : decode cX1_stepOf 21 = .ok (.iconst 1, 1) := by decide +kernel
theorem dX1_stepOf_22 : decode cX1_stepOf 22 = .ok (.if_icmp .ge 5, 3) := by decide +kernel
theorem dX1_stepOf_25 : decode cX1_stepOf 25 = .ok (.iconst 0, 1) := by decide +kernel
theorem dX1_stepOf_26 : decode cX1_stepOf 26 = .ok (.ireturn, 1) := by decide +kernel
theorem dX1_stepOf_27 : decode cX1_stepOf 27 = .ok (.iload_n 0, 1) := by decide +kernel
theorem dX1_stepOf_28 : decode cX1_stepOf 28 = .ok (.getstatic 18, 3) := by decide +kernel
theorem dX1_stepOf_31 : decode cX1_stepOf 31 = .ok (.iload_n 1, 1) := by decide +kernel
theorem dX1_stepOf_32 : decode cX1_stepOf 32 = .ok (.iaload, 1) := by decide +kernel
theorem dX1_stepOf_33 : decode cX1_stepOf 33 = .ok (.idiv, 1) := by decide +kernel
theorem dX1_stepOf_34 : decode cX1_stepOf 34 = .ok (.bipush 7, 2) := by decide +kernel
theorem dX1_stepOf_36 : decode cX1_stepOf 36 = .ok (.irem, 1) := by decide +kernel
theorem dX1_stepOf_37 : decode cX1_stepOf 37 = .ok (.iconst 3, 1) := by decide +kernel
theorem dX1_stepOf_38 : decode cX1_stepOf 38 = .ok (.isub, 1) := by decide +kernel
theorem dX1_stepOf_39 : decode cX1_stepOf 39 = .ok (.ireturn, 1) := by decide +kernel
theorem dX1_has_0 : decode cX1_has 0 = .ok (.iload_n 1, 1) := by decide +kernel
theorem dX1_has_1 : decode cX1_has 1 = .ok (.ifCond .lt 15, 3) := by decide +kernel
theorem dX1_has_4 : decode cX1_has 4 = .ok (.iload_n 1, 1) := by decide +kernel
theorem dX1_has_5 : decode cX1_has 5 = .ok (.aload_n 0, 1) := by decide +kernel
theorem dX1_has_6 : decode cX1_has 6 = .ok (.getfield 21, 3) := by decide +kernel
theorem dX1_has_9 : decode cX1_has 9 = .ok (.if_icmp .ge 7, 3) := by decide +kernel
theorem dX1_has_12 : decode cX1_has 12 = .ok (.iconst 1, 1) := by decide +kernel
theorem dX1_has_13 : decode cX1_has 13 = .ok (.goto 4, 3) := by decide +kernel
theorem dX1_has_16 : decode cX1_has 16 = .ok (.iconst 0, 1) := by decide +kernel
theorem dX1_has_17 : decode cX1_has 17 = .ok (.ireturn, 1) := by decide +kernel
theorem dX1_everybody_0 : decode cX1_everybody 0 = .ok (.iconst 1, 1) := by decide +kernel
theorem dX1_everybody_1 : decode cX1_everybody 1 = .ok (.aload_n 0, 1) := by decide +kernel
theorem dX1_everybody_2 : decode cX1_everybody 2 = .ok (.getfield 21, 3) := by decide +kernel
theorem dX1_everybody_5 : decode cX1_everybody 5 = .ok (.ishl, 1) := by decide +kernel
theorem dX1_everybody_6 : decode cX1_everybody 6 = .ok (.iconst 1, 1) := by decide +kernel
theorem dX1_everybody_7 : decode cX1_everybody 7 = .ok (.isub, 1) := by decide +kernel
theorem dX1_everybody_8 : decode cX1_everybody 8 = .ok (.ireturn, 1) := by decide +kernel
theorem dX1_append_0 : decode cX1_append 0 = .ok (.aload_n 0, 1) := by decide +kernel
theorem dX1_append_1 : decode cX1_append 1 = .ok (.getfield 21, 3) := by decide +kernel
theorem dX1_append_4 : decode cX1_append 4 = .ok (.ifCond .lt 27, 3) := by decide +kernel
theorem dX1_append_7 : decode cX1_append 7 = .ok (.aload_n 0, 1) := by decide +kernel
theorem dX1_append_8 : decode cX1_append 8 = .ok (.getfield 21, 3) := by decide +kernel
theorem dX1_append_11 : decode cX1_append 11 = .ok (.aload_n 0, 1) := by decide +kernel
theorem dX1_append_12 : decode cX1_append 12 = .ok (.getfield 9, 3) := by decide +kernel
theorem dX1_append_15 : decode cX1_append 15 = .ok (.arraylength, 1) := by decide +kernel
theorem dX1_append_16 : decode cX1_append 16 = .ok (.if_icmp .ge 15, 3) := by decide +kernel
theorem dX1_append_19 : decode cX1_append 19 = .ok (.aload_n 0, 1) := by decide +kernel
theorem dX1_append_20 : decode cX1_append 20 = .ok (.getfield 21, 3) := by decide +kernel
theorem dX1_append_23 : decode cX1_append 23 = .ok (.aload_n 0, 1) := by decide +kernel
theorem dX1_append_24 : decode cX1_append 24 = .ok (.getfield 15, 3) := by decide +kernel
theorem dX1_append_27 : decode cX1_append 27 = .ok (.arraylength, 1) := by decide +kernel
theorem dX1_append_28 : decode cX1_append 28 = .ok (.if_icmp .lt 5, 3) := by decide +kernel
theorem dX1_append_31 : decode cX1_append 31 = .ok (.iconst (-1), 1) := by decide +kernel
theorem dX1_append_32 : decode cX1_append 32 = .ok (.ireturn, 1) := by decide +kernel
theorem dX1_append_33 : decode cX1_append 33 = .ok (.aload_n 0, 1) := by decide +kernel
theorem dX1_append_34 : decode cX1_append 34 = .ok (.getfield 9, 3) := by decide +kernel
theorem dX1_append_37 : decode cX1_append 37 = .ok (.aload_n 0, 1) := by decide +kernel
theorem dX1_append_38 : decode cX1_append 38 = .ok (.getfield 21, 3) := by decide +kernel
theorem dX1_append_41 : decode cX1_append 41 = .ok (.iload_n 1, 1) := by decide +kernel
theorem dX1_append_42 : decode cX1_append 42 = .ok (.iastore, 1) := by decide +kernel
theorem dX1_append_43 : decode cX1_append 43 = .ok (.aload_n 0, 1) := by decide +kernel
theorem dX1_append_44 : decode cX1_append 44 = .ok (.getfield 15, 3) := by decide +kernel
theorem dX1_append_47 : decode cX1_append 47 = .ok (.aload_n 0, 1) := by decide +kernel
theorem dX1_append_48 : decode cX1_append 48 = .ok (.getfield 21, 3) := by decide +kernel
theorem dX1_append_51 : decode cX1_append 51 = .ok (.iload_n 2, 1) := by decide +kernel
theorem dX1_append_52 : decode cX1_append 52 = .ok (.iastore, 1) := by decide +kernel
theorem dX1_append_53 : decode cX1_append 53 = .ok (.aload_n 0, 1) := by decide +kernel
theorem dX1_append_54 : decode cX1_append 54 = .ok (.dup, 1) := by decide +kernel
theorem dX1_append_55 : decode cX1_append 55 = .ok (.getfield 21, 3) := by decide +kernel
theorem dX1_append_58 : decode cX1_append 58 = .ok (.dup_x1, 1) := by decide +kernel
theorem dX1_append_59 : decode cX1_append 59 = .ok (.iconst 1, 1) := by decide +kernel
theorem dX1_append_60 : decode cX1_append 60 = .ok (.iadd, 1) := by decide +kernel
theorem dX1_append_61 : decode cX1_append 61 = .ok (.putfield 21, 3) := by decide +kernel
theorem dX1_append_64 : decode cX1_append 64 = .ok (.ireturn, 1) := by decide +kernel
theorem dX1_limitOf_0 : decode cX1_limitOf 0 = .ok (.iload_n 1, 1) := by decide +kernel
theorem dX1_limitOf_1 : decode cX1_limitOf 1 = .ok (.ifCond .lt 29, 3) := by decide +kernel
theorem dX1_limitOf_4 : decode cX1_limitOf 4 = .ok (.iload_n 1, 1) := by decide +kernel
theorem dX1_limitOf_5 : decode cX1_limitOf 5 = .ok (.aload_n 0, 1) := by decide +kernel
theorem dX1_limitOf_6 : decode cX1_limitOf 6 = .ok (.getfield 21, 3) := by decide +kernel
theorem dX1_limitOf_9 : decode cX1_limitOf 9 = .ok (.if_icmp .ge 21, 3) := by decide +kernel
theorem dX1_limitOf_12 : decode cX1_limitOf 12 = .ok (.iload_n 1, 1) := by decide +kernel
theorem dX1_limitOf_13 : decode cX1_limitOf 13 = .ok (.aload_n 0, 1) := by decide +kernel
theorem dX1_limitOf_14 : decode cX1_limitOf 14 = .ok (.getfield 9, 3) := by decide +kernel
theorem dX1_limitOf_17 : decode cX1_limitOf 17 = .ok (.arraylength, 1) := by decide +kernel
theorem dX1_limitOf_18 : decode cX1_limitOf 18 = .ok (.if_icmp .ge 12, 3) := by decide +kernel
theorem dX1_limitOf_21 : decode cX1_limitOf 21 = .ok (.aload_n 0, 1) := by decide +kernel
theorem dX1_limitOf_22 : decode cX1_limitOf 22 = .ok (.getfield 9, 3) := by decide +kernel
theorem dX1_limitOf_25 : decode cX1_limitOf 25 = .ok (.iload_n 1, 1) := by decide +kernel
theorem dX1_limitOf_26 : decode cX1_limitOf 26 = .ok (.iaload, 1) := by decide +kernel
theorem dX1_limitOf_27 : decode cX1_limitOf 27 = .ok (.goto 4, 3) := by decide +kernel
theorem dX1_limitOf_30 : decode cX1_limitOf 30 = .ok (.iconst 0, 1) := by decide +kernel
theorem dX1_limitOf_31 : decode cX1_limitOf 31 = .ok (.ireturn, 1) := by decide +kernel
theorem dX1_feeOf_0 : decode cX1_feeOf 0 = .ok (.iload_n 1, 1) := by decide +kernel
theorem dX1_feeOf_1 : decode cX1_feeOf 1 = .ok (.ifCond .lt 29, 3) := by decide +kernel
theorem dX1_feeOf_4 : decode cX1_feeOf 4 = .ok (.iload_n 1, 1) := by decide +kernel
theorem dX1_feeOf_5 : decode cX1_feeOf 5 = .ok (.aload_n 0, 1) := by decide +kernel
theorem dX1_feeOf_6 : decode cX1_feeOf 6 = .ok (.getfield 21, 3) := by decide +kernel
theorem dX1_feeOf_9 : decode cX1_feeOf 9 = .ok (.if_icmp .ge 21, 3) := by decide +kernel
theorem dX1_feeOf_12 : decode cX1_feeOf 12 = .ok (.iload_n 1, 1) := by decide +kernel
theorem dX1_feeOf_13 : decode cX1_feeOf 13 = .ok (.aload_n 0, 1) := by decide +kernel
theorem dX1_feeOf_14 : decode cX1_feeOf 14 = .ok (.getfield 15, 3) := by decide +kernel
theorem dX1_feeOf_17 : decode cX1_feeOf 17 = .ok (.arraylength, 1) := by decide +kernel
theorem dX1_feeOf_18 : decode cX1_feeOf 18 = .ok (.if_icmp .ge 12, 3) := by decide +kernel
theorem dX1_feeOf_21 : decode cX1_feeOf 21 = .ok (.aload_n 0, 1) := by decide +kernel
theorem dX1_feeOf_22 : decode cX1_feeOf 22 = .ok (.getfield 15, 3) := by decide +kernel
theorem dX1_feeOf_25 : decode cX1_feeOf 25 = .ok (.iload_n 1, 1) := by decide +kernel
theorem dX1_feeOf_26 : decode cX1_feeOf 26 = .ok (.iaload, 1) := by decide +kernel
theorem dX1_feeOf_27 : decode cX1_feeOf 27 = .ok (.goto 4, 3) := by decide +kernel
theorem dX1_feeOf_30 : decode cX1_feeOf 30 = .ok (.iconst 0, 1) := by decide +kernel
theorem dX1_feeOf_31 : decode cX1_feeOf 31 = .ok (.ireturn, 1) := by decide +kernel
theorem dX1_swapLimit_0 : decode cX1_swapLimit 0 = .ok (.aload_n 0, 1) := by decide +kernel
theorem dX1_swapLimit_1 : decode cX1_swapLimit 1 = .ok (.iload_n 1, 1) := by decide +kernel
theorem dX1_swapLimit_2 : decode cX1_swapLimit 2 = .ok (.invokevirtual 25, 3) := by decide +kernel
theorem dX1_swapLimit_5 : decode cX1_swapLimit 5 = .ok (.istore_n 3, 1) := by decide +kernel
theorem dX1_swapLimit_6 : decode cX1_swapLimit 6 = .ok (.iload_n 1, 1) := by decide +kernel
theorem dX1_swapLimit_7 : decode cX1_swapLimit 7 = .ok (.ifCond .lt 27, 3) := by decide +kernel
theorem dX1_swapLimit_10 : decode cX1_swapLimit 10 = .ok (.iload_n 1, 1) := by decide +kernel
theorem dX1_swapLimit_11 : decode cX1_swapLimit 11 = .ok (.aload_n 0, 1) := by decide +kernel
theorem dX1_swapLimit_12 : decode cX1_swapLimit 12 = .ok (.getfield 21, 3) := by decide +kernel
theorem dX1_swapLimit_15 : decode cX1_swapLimit 15 = .ok (.if_icmp .ge 19, 3) := by decide +kernel
theorem dX1_swapLimit_18 : decode cX1_swapLimit 18 = .ok (.iload_n 1, 1) := by decide +kernel
theorem dX1_swapLimit_19 : decode cX1_swapLimit 19 = .ok (.aload_n 0, 1) := by decide +kernel
theorem dX1_swapLimit_20 : decode cX1_swapLimit 20 = .ok (.getfield 9, 3) := by decide +kernel
theorem dX1_swapLimit_23 : decode cX1_swapLimit 23 = .ok (.arraylength, 1) := by decide +kernel
theorem dX1_swapLimit_24 : decode cX1_swapLimit 24 = .ok (.if_icmp .ge 10, 3) := by decide +kernel
theorem dX1_swapLimit_27 : decode cX1_swapLimit 27 = .ok (.aload_n 0, 1) := by decide +kernel
theorem dX1_swapLimit_28 : decode cX1_swapLimit 28 = .ok (.getfield 9, 3) := by decide +kernel
theorem dX1_swapLimit_31 : decode cX1_swapLimit 31 = .ok (.iload_n 1, 1) := by decide +kernel
theorem dX1_swapLimit_32 : decode cX1_swapLimit 32 = .ok (.iload_n 2, 1) := by decide +kernel
theorem dX1_swapLimit_33 : decode cX1_swapLimit 33 = .ok (.iastore, 1) := by decide +kernel
theorem dX1_swapLimit_34 : decode cX1_swapLimit 34 = .ok (.iload_n 3, 1) := by decide +kernel
theorem dX1_swapLimit_35 : decode cX1_swapLimit 35 = .ok (.ireturn, 1) := by decide +kernel
theorem dX1_swapFee_0 : decode cX1_swapFee 0 = .ok (.aload_n 0, 1) := by decide +kernel
theorem dX1_swapFee_1 : decode cX1_swapFee 1 = .ok (.iload_n 1, 1) := by decide +kernel
theorem dX1_swapFee_2 : decode cX1_swapFee 2 = .ok (.invokevirtual 29, 3) := by decide +kernel
theorem dX1_swapFee_5 : decode cX1_swapFee 5 = .ok (.istore_n 3, 1) := by decide +kernel
theorem dX1_swapFee_6 : decode cX1_swapFee 6 = .ok (.iload_n 1, 1) := by decide +kernel
theorem dX1_swapFee_7 : decode cX1_swapFee 7 = .ok (.ifCond .lt 27, 3) := by decide +kernel
theorem dX1_swapFee_10 : decode cX1_swapFee 10 = .ok (.iload_n 1, 1) := by decide +kernel
theorem dX1_swapFee_11 : decode cX1_swapFee 11 = .ok (.aload_n 0, 1) := by decide +kernel
theorem dX1_swapFee_12 : decode cX1_swapFee 12 = .ok (.getfield 21, 3) := by decide +kernel
theorem dX1_swapFee_15 : decode cX1_swapFee 15 = .ok (.if_icmp .ge 19, 3) := by decide +kernel
theorem dX1_swapFee_18 : decode cX1_swapFee 18 = .ok (.iload_n 1, 1) := by decide +kernel
theorem dX1_swapFee_19 : decode cX1_swapFee 19 = .ok (.aload_n 0, 1) := by decide +kernel
theorem dX1_swapFee_20 : decode cX1_swapFee 20 = .ok (.getfield 15, 3) := by decide +kernel
theorem dX1_swapFee_23 : decode cX1_swapFee 23 = .ok (.arraylength, 1) := by decide +kernel
theorem dX1_swapFee_24 : decode cX1_swapFee 24 = .ok (.if_icmp .ge 10, 3) := by decide +kernel
theorem dX1_swapFee_27 : decode cX1_swapFee 27 = .ok (.aload_n 0, 1) := by decide +kernel
theorem dX1_swapFee_28 : decode cX1_swapFee 28 = .ok (.getfield 15, 3) := by decide +kernel
theorem dX1_swapFee_31 : decode cX1_swapFee 31 = .ok (.iload_n 1, 1) := by decide +kernel
theorem dX1_swapFee_32 : decode cX1_swapFee 32 = .ok (.iload_n 2, 1) := by decide +kernel
theorem dX1_swapFee_33 : decode cX1_swapFee 33 = .ok (.iastore, 1) := by decide +kernel
theorem dX1_swapFee_34 : decode cX1_swapFee 34 = .ok (.iload_n 3, 1) := by decide +kernel
theorem dX1_swapFee_35 : decode cX1_swapFee 35 = .ok (.ireturn, 1) := by decide +kernel
theorem dX1_allLimits_0 : decode cX1_allLimits 0 = .ok (.iconst 0, 1) := by decide +kernel
theorem dX1_allLimits_1 : decode cX1_allLimits 1 = .ok (.istore_n 1, 1) := by decide +kernel
theorem dX1_allLimits_2 : decode cX1_allLimits 2 = .ok (.iconst 0, 1) := by decide +kernel
theorem dX1_allLimits_3 : decode cX1_allLimits 3 = .ok (.istore_n 2, 1) := by decide +kernel
theorem dX1_allLimits_4 : decode cX1_allLimits 4 = .ok (.iload_n 2, 1) := by decide +kernel
theorem dX1_allLimits_5 : decode cX1_allLimits 5 = .ok (.aload_n 0, 1) := by decide +kernel
theorem dX1_allLimits_6 : decode cX1_allLimits 6 = .ok (.getfield 21, 3) := by decide +kernel
theorem dX1_allLimits_9 : decode cX1_allLimits 9 = .ok (.if_icmp .ge 17, 3) := by decide +kernel
theorem dX1_allLimits_12 : decode cX1_allLimits 12 = .ok (.iload_n 1, 1) := by decide +kernel
theorem dX1_allLimits_13 : decode cX1_allLimits 13 = .ok (.aload_n 0, 1) := by decide +kernel
theorem dX1_allLimits_14 : decode cX1_allLimits 14 = .ok (.iload_n 2, 1) := by decide +kernel
theorem dX1_allLimits_15 : decode cX1_allLimits 15 = .ok (.invokevirtual 25, 3) := by decide +kernel
theorem dX1_allLimits_18 : decode cX1_allLimits 18 = .ok (.iadd, 1) := by decide +kernel
theorem dX1_allLimits_19 : decode cX1_allLimits 19 = .ok (.istore_n 1, 1) := by decide +kernel
theorem dX1_allLimits_20 : decode cX1_allLimits 20 = .ok (.iinc 2 1, 3) := by decide +kernel
theorem dX1_allLimits_23 : decode cX1_allLimits 23 = .ok (.goto (-19), 3) := by decide +kernel
theorem dX1_allLimits_26 : decode cX1_allLimits 26 = .ok (.iload_n 1, 1) := by decide +kernel
theorem dX1_allLimits_27 : decode cX1_allLimits 27 = .ok (.ireturn, 1) := by decide +kernel
theorem dX1_canDeal_0 : decode cX1_canDeal 0 = .ok (.iload_n 1, 1) := by decide +kernel
theorem dX1_canDeal_1 : decode cX1_canDeal 1 = .ok (.ifCond .ge 5, 3) := by decide +kernel
theorem dX1_canDeal_4 : decode cX1_canDeal 4 = .ok (.iconst 0, 1) := by decide +kernel
theorem dX1_canDeal_5 : decode cX1_canDeal 5 = .ok (.ireturn, 1) := by decide +kernel
theorem dX1_canDeal_6 : decode cX1_canDeal 6 = .ok (.iload_n 1, 1) := by decide +kernel
theorem dX1_canDeal_7 : decode cX1_canDeal 7 = .ok (.istore_n 2, 1) := by decide +kernel
theorem dX1_canDeal_8 : decode cX1_canDeal 8 = .ok (.iconst 0, 1) := by decide +kernel
theorem dX1_canDeal_9 : decode cX1_canDeal 9 = .ok (.istore_n 3, 1) := by decide +kernel
theorem dX1_canDeal_10 : decode cX1_canDeal 10 = .ok (.iload_n 3, 1) := by decide +kernel
theorem dX1_canDeal_11 : decode cX1_canDeal 11 = .ok (.aload_n 0, 1) := by decide +kernel
theorem dX1_canDeal_12 : decode cX1_canDeal 12 = .ok (.getfield 21, 3) := by decide +kernel
theorem dX1_canDeal_15 : decode cX1_canDeal 15 = .ok (.if_icmp .ge 33, 3) := by decide +kernel
theorem dX1_canDeal_18 : decode cX1_canDeal 18 = .ok (.iload_n 2, 1) := by decide +kernel
theorem dX1_canDeal_19 : decode cX1_canDeal 19 = .ok (.bipush 7, 2) := by decide +kernel
theorem dX1_canDeal_21 : decode cX1_canDeal 21 = .ok (.irem, 1) := by decide +kernel
theorem dX1_canDeal_22 : decode cX1_canDeal 22 = .ok (.iconst 3, 1) := by decide +kernel
theorem dX1_canDeal_23 : decode cX1_canDeal 23 = .ok (.isub, 1) := by decide +kernel
theorem dX1_canDeal_24 : decode cX1_canDeal 24 = .ok (.invokestatic 32, 3) := by decide +kernel
theorem dX1_canDeal_27 : decode cX1_canDeal 27 = .ok (.aload_n 0, 1) := by decide +kernel
theorem dX1_canDeal_28 : decode cX1_canDeal 28 = .ok (.iload_n 3, 1) := by decide +kernel
theorem dX1_canDeal_29 : decode cX1_canDeal 29 = .ok (.invokevirtual 25, 3) := by decide +kernel
theorem dX1_canDeal_32 : decode cX1_canDeal 32 = .ok (.if_icmp .le 5, 3) := by decide +kernel
theorem dX1_canDeal_35 : decode cX1_canDeal 35 = .ok (.iconst 0, 1) := by decide +kernel
theorem dX1_canDeal_36 : decode cX1_canDeal 36 = .ok (.ireturn, 1) := by decide +kernel
theorem dX1_canDeal_37 : decode cX1_canDeal 37 = .ok (.iload_n 2, 1) := by decide +kernel
theorem dX1_canDeal_38 : decode cX1_canDeal 38 = .ok (.bipush 7, 2) := by decide +kernel
theorem dX1_canDeal_40 : decode cX1_canDeal 40 = .ok (.idiv, 1) := by decide +kernel
theorem dX1_canDeal_41 : decode cX1_canDeal 41 = .ok (.istore_n 2, 1) := by decide +kernel
theorem dX1_canDeal_42 : decode cX1_canDeal 42 = .ok (.iinc 3 1, 3) := by decide +kernel
theorem dX1_canDeal_45 : decode cX1_canDeal 45 = .ok (.goto (-35), 3) := by decide +kernel
theorem dX1_canDeal_48 : decode cX1_canDeal 48 = .ok (.iload_n 2, 1) := by decide +kernel
theorem dX1_canDeal_49 : decode cX1_canDeal 49 = .ok (.ifCond .ne 7, 3) := by decide +kernel
theorem dX1_canDeal_52 : decode cX1_canDeal 52 = .ok (.iconst 1, 1) := by decide +kernel
theorem dX1_canDeal_53 : decode cX1_canDeal 53 = .ok (.goto 4, 3) := by decide +kernel
theorem dX1_canDeal_56 : decode cX1_canDeal 56 = .ok (.iconst 0, 1) := by decide +kernel
theorem dX1_canDeal_57 : decode cX1_canDeal 57 = .ok (.ireturn, 1) := by decide +kernel
theorem dX1_stepsOf_0 : decode cX1_stepsOf 0 = .ok (.iconst 0, 1) := by decide +kernel
theorem dX1_stepsOf_1 : decode cX1_stepsOf 1 = .ok (.istore_n 2, 1) := by decide +kernel
theorem dX1_stepsOf_2 : decode cX1_stepsOf 2 = .ok (.iconst 0, 1) := by decide +kernel
theorem dX1_stepsOf_3 : decode cX1_stepsOf 3 = .ok (.istore_n 3, 1) := by decide +kernel
theorem dX1_stepsOf_4 : decode cX1_stepsOf 4 = .ok (.iload_n 3, 1) := by decide +kernel
theorem dX1_stepsOf_5 : decode cX1_stepsOf 5 = .ok (.aload_n 0, 1) := by decide +kernel
theorem dX1_stepsOf_6 : decode cX1_stepsOf 6 = .ok (.getfield 21, 3) := by decide +kernel
theorem dX1_stepsOf_9 : decode cX1_stepsOf 9 = .ok (.if_icmp .ge 17, 3) := by decide +kernel
theorem dX1_stepsOf_12 : decode cX1_stepsOf 12 = .ok (.iload_n 2, 1) := by decide +kernel
theorem dX1_stepsOf_13 : decode cX1_stepsOf 13 = .ok (.iload_n 1, 1) := by decide +kernel
theorem dX1_stepsOf_14 : decode cX1_stepsOf 14 = .ok (.iload_n 3, 1) := by decide +kernel
theorem dX1_stepsOf_15 : decode cX1_stepsOf 15 = .ok (.invokestatic 37, 3) := by decide +kernel
theorem dX1_stepsOf_18 : decode cX1_stepsOf 18 = .ok (.iadd, 1) := by decide +kernel
theorem dX1_stepsOf_19 : decode cX1_stepsOf 19 = .ok (.istore_n 2, 1) := by decide +kernel
theorem dX1_stepsOf_20 : decode cX1_stepsOf 20 = .ok (.iinc 3 1, 3) := by decide +kernel
theorem dX1_stepsOf_23 : decode cX1_stepsOf 23 = .ok (.goto (-19), 3) := by decide +kernel
theorem dX1_stepsOf_26 : decode cX1_stepsOf 26 = .ok (.iload_n 2, 1) := by decide +kernel
theorem dX1_stepsOf_27 : decode cX1_stepsOf 27 = .ok (.ireturn, 1) := by decide +kernel
theorem dX1_sizesOf_0 : decode cX1_sizesOf 0 = .ok (.iconst 0, 1) := by decide +kernel
theorem dX1_sizesOf_1 : decode cX1_sizesOf 1 = .ok (.istore_n 2, 1) := by decide +kernel
theorem dX1_sizesOf_2 : decode cX1_sizesOf 2 = .ok (.iconst 0, 1) := by decide +kernel
theorem dX1_sizesOf_3 : decode cX1_sizesOf 3 = .ok (.istore_n 3, 1) := by decide +kernel
theorem dX1_sizesOf_4 : decode cX1_sizesOf 4 = .ok (.iload_n 3, 1) := by decide +kernel
theorem dX1_sizesOf_5 : decode cX1_sizesOf 5 = .ok (.aload_n 0, 1) := by decide +kernel
theorem dX1_sizesOf_6 : decode cX1_sizesOf 6 = .ok (.getfield 21, 3) := by decide +kernel
theorem dX1_sizesOf_9 : decode cX1_sizesOf 9 = .ok (.if_icmp .ge 20, 3) := by decide +kernel
theorem dX1_sizesOf_12 : decode cX1_sizesOf 12 = .ok (.iload_n 2, 1) := by decide +kernel
theorem dX1_sizesOf_13 : decode cX1_sizesOf 13 = .ok (.iload_n 1, 1) := by decide +kernel
theorem dX1_sizesOf_14 : decode cX1_sizesOf 14 = .ok (.iload_n 3, 1) := by decide +kernel
theorem dX1_sizesOf_15 : decode cX1_sizesOf 15 = .ok (.invokestatic 37, 3) := by decide +kernel
theorem dX1_sizesOf_18 : decode cX1_sizesOf 18 = .ok (.invokestatic 32, 3) := by decide +kernel
theorem dX1_sizesOf_21 : decode cX1_sizesOf 21 = .ok (.iadd, 1) := by decide +kernel
theorem dX1_sizesOf_22 : decode cX1_sizesOf 22 = .ok (.istore_n 2, 1) := by decide +kernel
theorem dX1_sizesOf_23 : decode cX1_sizesOf 23 = .ok (.iinc 3 1, 3) := by decide +kernel
theorem dX1_sizesOf_26 : decode cX1_sizesOf 26 = .ok (.goto (-22), 3) := by decide +kernel
theorem dX1_sizesOf_29 : decode cX1_sizesOf 29 = .ok (.iload_n 2, 1) := by decide +kernel
theorem dX1_sizesOf_30 : decode cX1_sizesOf 30 = .ok (.ireturn, 1) := by decide +kernel
theorem dX1_mixedInto_0 : decode cX1_mixedInto 0 = .ok (.lload_n 1, 1) := by decide +kernel
theorem dX1_mixedInto_1 : decode cX1_mixedInto 1 = .ok (.lstore_n 3, 1) := by decide +kernel
theorem dX1_mixedInto_2 : decode cX1_mixedInto 2 = .ok (.iconst 0, 1) := by decide +kernel
theorem dX1_mixedInto_3 : decode cX1_mixedInto 3 = .ok (.istore 5, 2) := by decide +kernel
theorem dX1_mixedInto_5 : decode cX1_mixedInto 5 = .ok (.iload 5, 2) := by decide +kernel
theorem dX1_mixedInto_7 : decode cX1_mixedInto 7 = .ok (.aload_n 0, 1) := by decide +kernel
theorem dX1_mixedInto_8 : decode cX1_mixedInto 8 = .ok (.getfield 21, 3) := by decide +kernel
theorem dX1_mixedInto_11 : decode cX1_mixedInto 11 = .ok (.if_icmp .ge 31, 3) := by decide +kernel
theorem dX1_mixedInto_14 : decode cX1_mixedInto 14 = .ok (.lload_n 3, 1) := by decide +kernel
theorem dX1_mixedInto_15 : decode cX1_mixedInto 15 = .ok (.aload_n 0, 1) := by decide +kernel
theorem dX1_mixedInto_16 : decode cX1_mixedInto 16 = .ok (.iload 5, 2) := by decide +kernel
theorem dX1_mixedInto_18 : decode cX1_mixedInto 18 = .ok (.invokevirtual 25, 3) := by decide +kernel
theorem dX1_mixedInto_21 : decode cX1_mixedInto 21 = .ok (.i2l, 1) := by decide +kernel
theorem dX1_mixedInto_22 : decode cX1_mixedInto 22 = .ok (.invokestatic 41, 3) := by decide +kernel
theorem dX1_mixedInto_25 : decode cX1_mixedInto 25 = .ok (.aload_n 0, 1) := by decide +kernel
theorem dX1_mixedInto_26 : decode cX1_mixedInto 26 = .ok (.iload 5, 2) := by decide +kernel
theorem dX1_mixedInto_28 : decode cX1_mixedInto 28 = .ok (.invokevirtual 29, 3) := by decide +kernel
theorem dX1_mixedInto_31 : decode cX1_mixedInto 31 = .ok (.i2l, 1) := by decide +kernel
theorem dX1_mixedInto_32 : decode cX1_mixedInto 32 = .ok (.invokestatic 41, 3) := by decide +kernel
theorem dX1_mixedInto_35 : decode cX1_mixedInto 35 = .ok (.lstore_n 3, 1) := by decide +kernel
theorem dX1_mixedInto_36 : decode cX1_mixedInto 36 = .ok (.iinc 5 1, 3) := by decide +kernel
theorem dX1_mixedInto_39 : decode cX1_mixedInto 39 = .ok (.goto (-34), 3) := by decide +kernel
theorem dX1_mixedInto_42 : decode cX1_mixedInto 42 = .ok (.lload_n 3, 1) := by decide +kernel
theorem dX1_mixedInto_43 : decode cX1_mixedInto 43 = .ok (.lreturn, 1) := by decide +kernel
theorem dX2_init_0 : decode cX2_init 0 = .ok (.aload_n 0, 1) := by decide +kernel
theorem dX2_init_1 : decode cX2_init 1 = .ok (.invokespecial 3, 3) := by decide +kernel
theorem dX2_init_4 : decode cX2_init 4 = .ok (.aload_n 0, 1) := by decide +kernel
theorem dX2_init_5 : decode cX2_init 5 = .ok (.iconst 4, 1) := by decide +kernel
theorem dX2_init_6 : decode cX2_init 6 = .ok (.newarray .int, 2) := by decide +kernel
theorem dX2_init_8 : decode cX2_init 8 = .ok (.putfield 9, 3) := by decide +kernel
theorem dX2_init_11 : decode cX2_init 11 = .ok (.aload_n 0, 1) := by decide +kernel
theorem dX2_init_12 : decode cX2_init 12 = .ok (.aload_n 1, 1) := by decide +kernel
theorem dX2_init_13 : decode cX2_init 13 = .ok (.putfield 15, 3) := by decide +kernel
theorem dX2_init_16 : decode cX2_init 16 = .ok (.return_, 1) := by decide +kernel
theorem dX2_begin_0 : decode cX2_begin 0 = .ok (.aload_n 0, 1) := by decide +kernel
theorem dX2_begin_1 : decode cX2_begin 1 = .ok (.aload_n 1, 1) := by decide +kernel
theorem dX2_begin_2 : decode cX2_begin 2 = .ok (.getfield 19, 3) := by decide +kernel
theorem dX2_begin_5 : decode cX2_begin 5 = .ok (.putfield 25, 3) := by decide +kernel
theorem dX2_begin_8 : decode cX2_begin 8 = .ok (.aload_n 0, 1) := by decide +kernel
theorem dX2_begin_9 : decode cX2_begin 9 = .ok (.aload_n 1, 1) := by decide +kernel
theorem dX2_begin_10 : decode cX2_begin 10 = .ok (.getfield 26, 3) := by decide +kernel
theorem dX2_begin_13 : decode cX2_begin 13 = .ok (.putfield 29, 3) := by decide +kernel
theorem dX2_begin_16 : decode cX2_begin 16 = .ok (.aload_n 0, 1) := by decide +kernel
theorem dX2_begin_17 : decode cX2_begin 17 = .ok (.iload_n 2, 1) := by decide +kernel
theorem dX2_begin_18 : decode cX2_begin 18 = .ok (.putfield 30, 3) := by decide +kernel
theorem dX2_begin_21 : decode cX2_begin 21 = .ok (.aload_n 0, 1) := by decide +kernel
theorem dX2_begin_22 : decode cX2_begin 22 = .ok (.iload_n 3, 1) := by decide +kernel
theorem dX2_begin_23 : decode cX2_begin 23 = .ok (.putfield 34, 3) := by decide +kernel
theorem dX2_begin_26 : decode cX2_begin 26 = .ok (.return_, 1) := by decide +kernel
theorem dX2_look_0 : decode cX2_look 0 = .ok (.iconst 0, 1) := by decide +kernel
theorem dX2_look_1 : decode cX2_look 1 = .ok (.istore_n 2, 1) := by decide +kernel
theorem dX2_look_2 : decode cX2_look 2 = .ok (.iconst (-1), 1) := by decide +kernel
theorem dX2_look_3 : decode cX2_look 3 = .ok (.istore_n 3, 1) := by decide +kernel
theorem dX2_look_4 : decode cX2_look 4 = .ok (.lconst 0, 1) := by decide +kernel
theorem dX2_look_5 : decode cX2_look 5 = .ok (.lstore 4, 2) := by decide +kernel
theorem dX2_look_7 : decode cX2_look 7 = .ok (.aload_n 0, 1) := by decide +kernel
theorem dX2_look_8 : decode cX2_look 8 = .ok (.invokevirtual 37, 3) := by decide +kernel
theorem dX2_look_11 : decode cX2_look 11 = .ok (.iconst 0, 1) := by decide +kernel
theorem dX2_look_12 : decode cX2_look 12 = .ok (.istore 6, 2) := by decide +kernel
theorem dX2_look_14 : decode cX2_look 14 = .ok (.iload 6, 2) := by decide +kernel
theorem dX2_look_16 : decode cX2_look 16 = .ok (.sipush 2401, 3) := by decide +kernel
theorem dX2_look_19 : decode cX2_look 19 = .ok (.if_icmp .ge 70, 3) := by decide +kernel
theorem dX2_look_22 : decode cX2_look 22 = .ok (.aload_n 0, 1) := by decide +kernel
theorem dX2_look_23 : decode cX2_look 23 = .ok (.invokevirtual 40, 3) := by decide +kernel
theorem dX2_look_26 : decode cX2_look 26 = .ok (.ifCond .eq 47, 3) := by decide +kernel
theorem dX2_look_29 : decode cX2_look 29 = .ok (.iload_n 1, 1) := by decide +kernel
theorem dX2_look_30 : decode cX2_look 30 = .ok (.bipush 10, 2) := by decide +kernel
theorem dX2_look_32 : decode cX2_look 32 = .ok (.isub, 1) := by decide +kernel
theorem dX2_look_33 : decode cX2_look 33 = .ok (.iload_n 2, 1) := by decide +kernel
theorem dX2_look_34 : decode cX2_look 34 = .ok (.if_icmp .ne 8, 3) := by decide +kernel
theorem dX2_look_37 : decode cX2_look 37 = .ok (.aload_n 0, 1) := by decide +kernel
theorem dX2_look_38 : decode cX2_look 38 = .ok (.invokevirtual 44, 3) := by decide +kernel
theorem dX2_look_41 : decode cX2_look 41 = .ok (.ireturn, 1) := by decide +kernel
theorem dX2_look_42 : decode cX2_look 42 = .ok (.iinc 2 1, 3) := by decide +kernel
theorem dX2_look_45 : decode cX2_look 45 = .ok (.aload_n 0, 1) := by decide +kernel
theorem dX2_look_46 : decode cX2_look 46 = .ok (.invokevirtual 48, 3) := by decide +kernel
theorem dX2_look_49 : decode cX2_look 49 = .ok (.lstore 7, 2) := by decide +kernel
theorem dX2_look_51 : decode cX2_look 51 = .ok (.iload_n 3, 1) := by decide +kernel
theorem dX2_look_52 : decode cX2_look 52 = .ok (.iconst (-1), 1) := by decide +kernel
theorem dX2_look_53 : decode cX2_look 53 = .ok (.if_icmp .eq 11, 3) := by decide +kernel
theorem dX2_look_56 : decode cX2_look 56 = .ok (.lload 7, 2) := by decide +kernel
theorem dX2_look_58 : decode cX2_look 58 = .ok (.lload 4, 2) := by decide +kernel
theorem dX2_look_60 : decode cX2_look 60 = .ok (.lcmp, 1) := by decide +kernel
theorem dX2_look_61 : decode cX2_look 61 = .ok (.ifCond .le 12, 3) := by decide +kernel
theorem dX2_look_64 : decode cX2_look 64 = .ok (.aload_n 0, 1) := by decide +kernel
theorem dX2_look_65 : decode cX2_look 65 = .ok (.invokevirtual 44, 3) := by decide +kernel
theorem dX2_look_68 : decode cX2_look 68 = .ok (.istore_n 3, 1) := by decide +kernel
theorem dX2_look_69 : decode cX2_look 69 = .ok (.lload 7, 2) := by decide +kernel
theorem dX2_look_71 : decode cX2_look 71 = .ok (.lstore 4, 2) := by decide +kernel
theorem dX2_look_73 : decode cX2_look 73 = .ok (.aload_n 0, 1) := by decide +kernel
theorem dX2_look_74 : decode cX2_look 74 = .ok (.invokevirtual 52, 3) := by decide +kernel
theorem dX2_look_77 : decode cX2_look 77 = .ok (.ifCond .ne 6, 3) := by decide +kernel
theorem dX2_look_80 : decode cX2_look 80 = .ok (.goto 9, 3) := by decide +kernel
theorem dX2_look_83 : decode cX2_look 83 = .ok (.iinc 6 1, 3) := by decide +kernel
theorem dX2_look_86 : decode cX2_look 86 = .ok (.goto (-72), 3) := by decide +kernel
theorem dX2_look_89 : decode cX2_look 89 = .ok (.iload_n 1, 1) := by decide +kernel
theorem dX2_look_90 : decode cX2_look 90 = .ok (.ifCond .ne 5, 3) := by decide +kernel
theorem dX2_look_93 : decode cX2_look 93 = .ok (.iload_n 2, 1) := by decide +kernel
theorem dX2_look_94 : decode cX2_look 94 = .ok (.ireturn, 1) := by decide +kernel
theorem dX2_look_95 : decode cX2_look 95 = .ok (.iload_n 1, 1) := by decide +kernel
theorem dX2_look_96 : decode cX2_look 96 = .ok (.iconst 1, 1) := by decide +kernel
theorem dX2_look_97 : decode cX2_look 97 = .ok (.if_icmp .ne 7, 3) := by decide +kernel
theorem dX2_look_100 : decode cX2_look 100 = .ok (.iload_n 3, 1) := by decide +kernel
theorem dX2_look_101 : decode cX2_look 101 = .ok (.goto 4, 3) := by decide +kernel
theorem dX2_look_104 : decode cX2_look 104 = .ok (.iconst (-1), 1) := by decide +kernel
theorem dX2_look_105 : decode cX2_look 105 = .ok (.ireturn, 1) := by decide +kernel
theorem dX2_deal_0 : decode cX2_deal 0 = .ok (.aload_n 0, 1) := by decide +kernel
theorem dX2_deal_1 : decode cX2_deal 1 = .ok (.iconst 0, 1) := by decide +kernel
theorem dX2_deal_2 : decode cX2_deal 2 = .ok (.putfield 55, 3) := by decide +kernel
theorem dX2_deal_5 : decode cX2_deal 5 = .ok (.iconst 0, 1) := by decide +kernel
theorem dX2_deal_6 : decode cX2_deal 6 = .ok (.istore_n 2, 1) := by decide +kernel
theorem dX2_deal_7 : decode cX2_deal 7 = .ok (.iload_n 2, 1) := by decide +kernel
theorem dX2_deal_8 : decode cX2_deal 8 = .ok (.aload_n 0, 1) := by decide +kernel
theorem dX2_deal_9 : decode cX2_deal 9 = .ok (.getfield 9, 3) := by decide +kernel
theorem dX2_deal_12 : decode cX2_deal 12 = .ok (.arraylength, 1) := by decide +kernel
theorem dX2_deal_13 : decode cX2_deal 13 = .ok (.if_icmp .ge 50, 3) := by decide +kernel
theorem dX2_deal_16 : decode cX2_deal 16 = .ok (.aload_n 0, 1) := by decide +kernel
theorem dX2_deal_17 : decode cX2_deal 17 = .ok (.getfield 9, 3) := by decide +kernel
theorem dX2_deal_20 : decode cX2_deal 20 = .ok (.iload_n 2, 1) := by decide +kernel
theorem dX2_deal_21 : decode cX2_deal 21 = .ok (.iload_n 2, 1) := by decide +kernel
theorem dX2_deal_22 : decode cX2_deal 22 = .ok (.aload_n 0, 1) := by decide +kernel
theorem dX2_deal_23 : decode cX2_deal 23 = .ok (.getfield 15, 3) := by decide +kernel
theorem dX2_deal_26 : decode cX2_deal 26 = .ok (.getfield 58, 3) := by decide +kernel
theorem dX2_deal_29 : decode cX2_deal 29 = .ok (.if_icmp .ge 11, 3) := by decide +kernel
theorem dX2_deal_32 : decode cX2_deal 32 = .ok (.iload_n 1, 1) := by decide +kernel
theorem dX2_deal_33 : decode cX2_deal 33 = .ok (.iload_n 2, 1) := by decide +kernel
theorem dX2_deal_34 : decode cX2_deal 34 = .ok (.invokestatic 63, 3) := by decide +kernel
theorem dX2_deal_37 : decode cX2_deal 37 = .ok (.goto 4, 3) := by decide +kernel
theorem dX2_deal_40 : decode cX2_deal 40 = .ok (.iconst 0, 1) := by decide +kernel
theorem dX2_deal_41 : decode cX2_deal 41 = .ok (.iastore, 1) := by decide +kernel
theorem dX2_deal_42 : decode cX2_deal 42 = .ok (.aload_n 0, 1) := by decide +kernel
theorem dX2_deal_43 : decode cX2_deal 43 = .ok (.dup, 1) := by decide +kernel
theorem dX2_deal_44 : decode cX2_deal 44 = .ok (.getfield 55, 3) := by decide +kernel
theorem dX2_deal_47 : decode cX2_deal 47 = .ok (.aload_n 0, 1) := by decide +kernel
theorem dX2_deal_48 : decode cX2_deal 48 = .ok (.getfield 9, 3) := by decide +kernel
theorem dX2_deal_51 : decode cX2_deal 51 = .ok (.iload_n 2, 1) := by decide +kernel
theorem dX2_deal_52 : decode cX2_deal 52 = .ok (.iaload, 1) := by decide +kernel
theorem dX2_deal_53 : decode cX2_deal 53 = .ok (.iadd, 1) := by decide +kernel
theorem dX2_deal_54 : decode cX2_deal 54 = .ok (.putfield 55, 3) := by decide +kernel
theorem dX2_deal_57 : decode cX2_deal 57 = .ok (.iinc 2 1, 3) := by decide +kernel
theorem dX2_deal_60 : decode cX2_deal 60 = .ok (.goto (-53), 3) := by decide +kernel
theorem dX2_deal_63 : decode cX2_deal 63 = .ok (.return_, 1) := by decide +kernel
theorem dX2_madeBy_0 : decode cX2_madeBy 0 = .ok (.aload_n 0, 1) := by decide +kernel
theorem dX2_madeBy_1 : decode cX2_madeBy 1 = .ok (.iload_n 1, 1) := by decide +kernel
theorem dX2_madeBy_2 : decode cX2_madeBy 2 = .ok (.invokevirtual 67, 3) := by decide +kernel
theorem dX2_madeBy_5 : decode cX2_madeBy 5 = .ok (.aload_n 0, 1) := by decide +kernel
theorem dX2_madeBy_6 : decode cX2_madeBy 6 = .ok (.iload_n 2, 1) := by decide +kernel
theorem dX2_madeBy_7 : decode cX2_madeBy 7 = .ok (.iconst 0, 1) := by decide +kernel
theorem dX2_madeBy_8 : decode cX2_madeBy 8 = .ok (.invokevirtual 71, 3) := by decide +kernel
theorem dX2_madeBy_11 : decode cX2_madeBy 11 = .ok (.lreturn, 1) := by decide +kernel
theorem dX2_gain_0 : decode cX2_gain 0 = .ok (.iload_n 1, 1) := by decide +kernel
theorem dX2_gain_1 : decode cX2_gain 1 = .ok (.ifCond .lt 12, 3) := by decide +kernel
theorem dX2_gain_4 : decode cX2_gain 4 = .ok (.iload_n 1, 1) := by decide +kernel
theorem dX2_gain_5 : decode cX2_gain 5 = .ok (.aload_n 0, 1) := by decide +kernel
theorem dX2_gain_6 : decode cX2_gain 6 = .ok (.getfield 9, 3) := by decide +kernel
theorem dX2_gain_9 : decode cX2_gain 9 = .ok (.arraylength, 1) := by decide +kernel
theorem dX2_gain_10 : decode cX2_gain 10 = .ok (.if_icmp .lt 5, 3) := by decide +kernel
theorem dX2_gain_13 : decode cX2_gain 13 = .ok (.lconst 0, 1) := by decide +kernel
theorem dX2_gain_14 : decode cX2_gain 14 = .ok (.lreturn, 1) := by decide +kernel
theorem dX2_gain_15 : decode cX2_gain 15 = .ok (.aload_n 0, 1) := by decide +kernel
theorem dX2_gain_16 : decode cX2_gain 16 = .ok (.getfield 9, 3) := by decide +kernel
theorem dX2_gain_19 : decode cX2_gain 19 = .ok (.iload_n 1, 1) := by decide +kernel
theorem dX2_gain_20 : decode cX2_gain 20 = .ok (.iaload, 1) := by decide +kernel
theorem dX2_gain_21 : decode cX2_gain 21 = .ok (.iload_n 2, 1) := by decide +kernel
theorem dX2_gain_22 : decode cX2_gain 22 = .ok (.iadd, 1) := by decide +kernel
theorem dX2_gain_23 : decode cX2_gain 23 = .ok (.i2l, 1) := by decide +kernel
theorem dX2_gain_24 : decode cX2_gain 24 = .ok (.lstore_n 3, 1) := by decide +kernel
theorem dX2_gain_25 : decode cX2_gain 25 = .ok (.aload_n 0, 1) := by decide +kernel
theorem dX2_gain_26 : decode cX2_gain 26 = .ok (.getfield 25, 3) := by decide +kernel
theorem dX2_gain_29 : decode cX2_gain 29 = .ok (.aload_n 0, 1) := by decide +kernel
theorem dX2_gain_30 : decode cX2_gain 30 = .ok (.getfield 30, 3) := by decide +kernel
theorem dX2_gain_33 : decode cX2_gain 33 = .ok (.i2l, 1) := by decide +kernel
theorem dX2_gain_34 : decode cX2_gain 34 = .ok (.lmul, 1) := by decide +kernel
theorem dX2_gain_35 : decode cX2_gain 35 = .ok (.aload_n 0, 1) := by decide +kernel
theorem dX2_gain_36 : decode cX2_gain 36 = .ok (.getfield 55, 3) := by decide +kernel
theorem dX2_gain_39 : decode cX2_gain 39 = .ok (.iload_n 2, 1) := by decide +kernel
theorem dX2_gain_40 : decode cX2_gain 40 = .ok (.iadd, 1) := by decide +kernel
theorem dX2_gain_41 : decode cX2_gain 41 = .ok (.i2l, 1) := by decide +kernel
theorem dX2_gain_42 : decode cX2_gain 42 = .ok (.lmul, 1) := by decide +kernel
theorem dX2_gain_43 : decode cX2_gain 43 = .ok (.lstore 5, 2) := by decide +kernel
theorem dX2_gain_45 : decode cX2_gain 45 = .ok (.lload_n 3, 1) := by decide +kernel
theorem dX2_gain_46 : decode cX2_gain 46 = .ok (.aload_n 0, 1) := by decide +kernel
theorem dX2_gain_47 : decode cX2_gain 47 = .ok (.getfield 29, 3) := by decide +kernel
theorem dX2_gain_50 : decode cX2_gain 50 = .ok (.lload 5, 2) := by decide +kernel
theorem dX2_gain_52 : decode cX2_gain 52 = .ok (.lsub, 1) := by decide +kernel
theorem dX2_gain_53 : decode cX2_gain 53 = .ok (.lmul, 1) := by decide +kernel
theorem dX2_gain_54 : decode cX2_gain 54 = .ok (.aload_n 0, 1) := by decide +kernel
theorem dX2_gain_55 : decode cX2_gain 55 = .ok (.getfield 25, 3) := by decide +kernel
theorem dX2_gain_58 : decode cX2_gain 58 = .ok (.aload_n 0, 1) := by decide +kernel
theorem dX2_gain_59 : decode cX2_gain 59 = .ok (.getfield 15, 3) := by decide +kernel
theorem dX2_gain_62 : decode cX2_gain 62 = .ok (.iload_n 1, 1) := by decide +kernel
theorem dX2_gain_63 : decode cX2_gain 63 = .ok (.invokevirtual 75, 3) := by decide +kernel
theorem dX2_gain_66 : decode cX2_gain 66 = .ok (.i2l, 1) := by decide +kernel
theorem dX2_gain_67 : decode cX2_gain 67 = .ok (.lmul, 1) := by decide +kernel
theorem dX2_gain_68 : decode cX2_gain 68 = .ok (.lload_n 3, 1) := by decide +kernel
theorem dX2_gain_69 : decode cX2_gain 69 = .ok (.lconst 0, 1) := by decide +kernel
theorem dX2_gain_70 : decode cX2_gain 70 = .ok (.lcmp, 1) := by decide +kernel
theorem dX2_gain_71 : decode cX2_gain 71 = .ok (.ifCond .ge 8, 3) := by decide +kernel
theorem dX2_gain_74 : decode cX2_gain 74 = .ok (.lload_n 3, 1) := by decide +kernel
theorem dX2_gain_75 : decode cX2_gain 75 = .ok (.lneg, 1) := by decide +kernel
theorem dX2_gain_76 : decode cX2_gain 76 = .ok (.goto 4, 3) := by decide +kernel
theorem dX2_gain_79 : decode cX2_gain 79 = .ok (.lload_n 3, 1) := by decide +kernel
theorem dX2_gain_80 : decode cX2_gain 80 = .ok (.lmul, 1) := by decide +kernel
theorem dX2_gain_81 : decode cX2_gain 81 = .ok (.lsub, 1) := by decide +kernel
theorem dX2_gain_82 : decode cX2_gain 82 = .ok (.lreturn, 1) := by decide +kernel
theorem dX2_sellMost_0 : decode cX2_sellMost 0 = .ok (.aload_n 0, 1) := by decide +kernel
theorem dX2_sellMost_1 : decode cX2_sellMost 1 = .ok (.iconst 0, 1) := by decide +kernel
theorem dX2_sellMost_2 : decode cX2_sellMost 2 = .ok (.putfield 55, 3) := by decide +kernel
theorem dX2_sellMost_5 : decode cX2_sellMost 5 = .ok (.iconst 0, 1) := by decide +kernel
theorem dX2_sellMost_6 : decode cX2_sellMost 6 = .ok (.istore_n 1, 1) := by decide +kernel
theorem dX2_sellMost_7 : decode cX2_sellMost 7 = .ok (.iload_n 1, 1) := by decide +kernel
theorem dX2_sellMost_8 : decode cX2_sellMost 8 = .ok (.aload_n 0, 1) := by decide +kernel
theorem dX2_sellMost_9 : decode cX2_sellMost 9 = .ok (.getfield 9, 3) := by decide +kernel
theorem dX2_sellMost_12 : decode cX2_sellMost 12 = .ok (.arraylength, 1) := by decide +kernel
theorem dX2_sellMost_13 : decode cX2_sellMost 13 = .ok (.if_icmp .ge 54, 3) := by decide +kernel
theorem dX2_sellMost_16 : decode cX2_sellMost 16 = .ok (.aload_n 0, 1) := by decide +kernel
theorem dX2_sellMost_17 : decode cX2_sellMost 17 = .ok (.getfield 9, 3) := by decide +kernel
theorem dX2_sellMost_20 : decode cX2_sellMost 20 = .ok (.iload_n 1, 1) := by decide +kernel
theorem dX2_sellMost_21 : decode cX2_sellMost 21 = .ok (.aload_n 0, 1) := by decide +kernel
theorem dX2_sellMost_22 : decode cX2_sellMost 22 = .ok (.getfield 34, 3) := by decide +kernel
theorem dX2_sellMost_25 : decode cX2_sellMost 25 = .ok (.iload_n 1, 1) := by decide +kernel
theorem dX2_sellMost_26 : decode cX2_sellMost 26 = .ok (.invokestatic 79, 3) := by decide +kernel
theorem dX2_sellMost_29 : decode cX2_sellMost 29 = .ok (.ifCond .eq 15, 3) := by decide +kernel
theorem dX2_sellMost_32 : decode cX2_sellMost 32 = .ok (.aload_n 0, 1) := by decide +kernel
theorem dX2_sellMost_33 : decode cX2_sellMost 33 = .ok (.getfield 15, 3) := by decide +kernel
theorem dX2_sellMost_36 : decode cX2_sellMost 36 = .ok (.iload_n 1, 1) := by decide +kernel
theorem dX2_sellMost_37 : decode cX2_sellMost 37 = .ok (.invokevirtual 83, 3) := by decide +kernel
theorem dX2_sellMost_40 : decode cX2_sellMost 40 = .ok (.ineg, 1) := by decide +kernel
theorem dX2_sellMost_41 : decode cX2_sellMost 41 = .ok (.goto 4, 3) := by decide +kernel
theorem dX2_sellMost_44 : decode cX2_sellMost 44 = .ok (.iconst 0, 1) := by decide +kernel
theorem dX2_sellMost_45 : decode cX2_sellMost 45 = .ok (.iastore, 1) := by decide +kernel
theorem dX2_sellMost_46 : decode cX2_sellMost 46 = .ok (.aload_n 0, 1) := by decide +kernel
theorem dX2_sellMost_47 : decode cX2_sellMost 47 = .ok (.dup, 1) := by decide +kernel
theorem dX2_sellMost_48 : decode cX2_sellMost 48 = .ok (.getfield 55, 3) := by decide +kernel
theorem dX2_sellMost_51 : decode cX2_sellMost 51 = .ok (.aload_n 0, 1) := by decide +kernel
theorem dX2_sellMost_52 : decode cX2_sellMost 52 = .ok (.getfield 9, 3) := by decide +kernel
theorem dX2_sellMost_55 : decode cX2_sellMost 55 = .ok (.iload_n 1, 1) := by decide +kernel
theorem dX2_sellMost_56 : decode cX2_sellMost 56 = .ok (.iaload, 1) := by decide +kernel
theorem dX2_sellMost_57 : decode cX2_sellMost 57 = .ok (.iadd, 1) := by decide +kernel
theorem dX2_sellMost_58 : decode cX2_sellMost 58 = .ok (.putfield 55, 3) := by decide +kernel
theorem dX2_sellMost_61 : decode cX2_sellMost 61 = .ok (.iinc 1 1, 3) := by decide +kernel
theorem dX2_sellMost_64 : decode cX2_sellMost 64 = .ok (.goto (-57), 3) := by decide +kernel
theorem dX2_sellMost_67 : decode cX2_sellMost 67 = .ok (.return_, 1) := by decide +kernel
theorem dX2_goOn_0 : decode cX2_goOn 0 = .ok (.iconst 0, 1) := by decide +kernel
theorem dX2_goOn_1 : decode cX2_goOn 1 = .ok (.istore_n 1, 1) := by decide +kernel
theorem dX2_goOn_2 : decode cX2_goOn 2 = .ok (.iload_n 1, 1) := by decide +kernel
theorem dX2_goOn_3 : decode cX2_goOn 3 = .ok (.aload_n 0, 1) := by decide +kernel
theorem dX2_goOn_4 : decode cX2_goOn 4 = .ok (.getfield 9, 3) := by decide +kernel
theorem dX2_goOn_7 : decode cX2_goOn 7 = .ok (.arraylength, 1) := by decide +kernel
theorem dX2_goOn_8 : decode cX2_goOn 8 = .ok (.if_icmp .ge 92, 3) := by decide +kernel
theorem dX2_goOn_11 : decode cX2_goOn 11 = .ok (.aload_n 0, 1) := by decide +kernel
theorem dX2_goOn_12 : decode cX2_goOn 12 = .ok (.getfield 15, 3) := by decide +kernel
theorem dX2_goOn_15 : decode cX2_goOn 15 = .ok (.iload_n 1, 1) := by decide +kernel
theorem dX2_goOn_16 : decode cX2_goOn 16 = .ok (.invokevirtual 83, 3) := by decide +kernel
theorem dX2_goOn_19 : decode cX2_goOn 19 = .ok (.istore_n 2, 1) := by decide +kernel
theorem dX2_goOn_20 : decode cX2_goOn 20 = .ok (.aload_n 0, 1) := by decide +kernel
theorem dX2_goOn_21 : decode cX2_goOn 21 = .ok (.getfield 34, 3) := by decide +kernel
theorem dX2_goOn_24 : decode cX2_goOn 24 = .ok (.iload_n 1, 1) := by decide +kernel
theorem dX2_goOn_25 : decode cX2_goOn 25 = .ok (.invokestatic 79, 3) := by decide +kernel
theorem dX2_goOn_28 : decode cX2_goOn 28 = .ok (.ifCond .eq 35, 3) := by decide +kernel
theorem dX2_goOn_31 : decode cX2_goOn 31 = .ok (.aload_n 0, 1) := by decide +kernel
theorem dX2_goOn_32 : decode cX2_goOn 32 = .ok (.getfield 9, 3) := by decide +kernel
theorem dX2_goOn_35 : decode cX2_goOn 35 = .ok (.iload_n 1, 1) := by decide +kernel
theorem dX2_goOn_36 : decode cX2_goOn 36 = .ok (.iaload, 1) := by decide +kernel
theorem dX2_goOn_37 : decode cX2_goOn 37 = .ok (.iload_n 2, 1) := by decide +kernel
theorem dX2_goOn_38 : decode cX2_goOn 38 = .ok (.if_icmp .ge 25, 3) := by decide +kernel
theorem dX2_goOn_41 : decode cX2_goOn 41 = .ok (.aload_n 0, 1) := by decide +kernel
theorem dX2_goOn_42 : decode cX2_goOn 42 = .ok (.getfield 9, 3) := by decide +kernel
theorem dX2_goOn_45 : decode cX2_goOn 45 = .ok (.iload_n 1, 1) := by decide +kernel
theorem dX2_goOn_46 : decode cX2_goOn 46 = .ok (.dup2, 1) := by decide +kernel
theorem dX2_goOn_47 : decode cX2_goOn 47 = .ok (.iaload, 1) := by decide +kernel
theorem dX2_goOn_48 : decode cX2_goOn 48 = .ok (.iconst 1, 1) := by decide +kernel
theorem dX2_goOn_49 : decode cX2_goOn 49 = .ok (.iadd, 1) := by decide +kernel
theorem dX2_goOn_50 : decode cX2_goOn 50 = .ok (.iastore, 1) := by decide +kernel
theorem dX2_goOn_51 : decode cX2_goOn 51 = .ok (.aload_n 0, 1) := by decide +kernel
theorem dX2_goOn_52 : decode cX2_goOn 52 = .ok (.dup, 1) := by decide +kernel
theorem dX2_goOn_53 : decode cX2_goOn 53 = .ok (.getfield 55, 3) := by decide +kernel
theorem dX2_goOn_56 : decode cX2_goOn 56 = .ok (.iconst 1, 1) := by decide +kernel
theorem dX2_goOn_57 : decode cX2_goOn 57 = .ok (.iadd, 1) := by decide +kernel
theorem dX2_goOn_58 : decode cX2_goOn 58 = .ok (.putfield 55, 3) := by decide +kernel
theorem dX2_goOn_61 : decode cX2_goOn 61 = .ok (.iconst 1, 1) := by decide +kernel
theorem dX2_goOn_62 : decode cX2_goOn 62 = .ok (.ireturn, 1) := by decide +kernel
theorem dX2_goOn_63 : decode cX2_goOn 63 = .ok (.aload_n 0, 1) := by decide +kernel
theorem dX2_goOn_64 : decode cX2_goOn 64 = .ok (.getfield 34, 3) := by decide +kernel
theorem dX2_goOn_67 : decode cX2_goOn 67 = .ok (.iload_n 1, 1) := by decide +kernel
theorem dX2_goOn_68 : decode cX2_goOn 68 = .ok (.invokestatic 79, 3) := by decide +kernel
theorem dX2_goOn_71 : decode cX2_goOn 71 = .ok (.ifCond .eq 23, 3) := by decide +kernel
theorem dX2_goOn_74 : decode cX2_goOn 74 = .ok (.aload_n 0, 1) := by decide +kernel
theorem dX2_goOn_75 : decode cX2_goOn 75 = .ok (.getfield 9, 3) := by decide +kernel
theorem dX2_goOn_78 : decode cX2_goOn 78 = .ok (.iload_n 1, 1) := by decide +kernel
theorem dX2_goOn_79 : decode cX2_goOn 79 = .ok (.iload_n 2, 1) := by decide +kernel
theorem dX2_goOn_80 : decode cX2_goOn 80 = .ok (.ineg, 1) := by decide +kernel
theorem dX2_goOn_81 : decode cX2_goOn 81 = .ok (.iastore, 1) := by decide +kernel
theorem dX2_goOn_82 : decode cX2_goOn 82 = .ok (.aload_n 0, 1) := by decide +kernel
theorem dX2_goOn_83 : decode cX2_goOn 83 = .ok (.dup, 1) := by decide +kernel
theorem dX2_goOn_84 : decode cX2_goOn 84 = .ok (.getfield 55, 3) := by decide +kernel
theorem dX2_goOn_87 : decode cX2_goOn 87 = .ok (.iconst 2, 1) := by decide +kernel
theorem dX2_goOn_88 : decode cX2_goOn 88 = .ok (.iload_n 2, 1) := by decide +kernel
theorem dX2_goOn_89 : decode cX2_goOn 89 = .ok (.imul, 1) := by decide +kernel
theorem dX2_goOn_90 : decode cX2_goOn 90 = .ok (.isub, 1) := by decide +kernel
theorem dX2_goOn_91 : decode cX2_goOn 91 = .ok (.putfield 55, 3) := by decide +kernel
theorem dX2_goOn_94 : decode cX2_goOn 94 = .ok (.iinc 1 1, 3) := by decide +kernel
theorem dX2_goOn_97 : decode cX2_goOn 97 = .ok (.goto (-95), 3) := by decide +kernel
theorem dX2_goOn_100 : decode cX2_goOn 100 = .ok (.iconst 0, 1) := by decide +kernel
theorem dX2_goOn_101 : decode cX2_goOn 101 = .ok (.ireturn, 1) := by decide +kernel
theorem dX2_isAtRest_0 : decode cX2_isAtRest 0 = .ok (.iconst 0, 1) := by decide +kernel
theorem dX2_isAtRest_1 : decode cX2_isAtRest 1 = .ok (.istore_n 1, 1) := by decide +kernel
theorem dX2_isAtRest_2 : decode cX2_isAtRest 2 = .ok (.iload_n 1, 1) := by decide +kernel
theorem dX2_isAtRest_3 : decode cX2_isAtRest 3 = .ok (.aload_n 0, 1) := by decide +kernel
theorem dX2_isAtRest_4 : decode cX2_isAtRest 4 = .ok (.getfield 9, 3) := by decide +kernel
theorem dX2_isAtRest_7 : decode cX2_isAtRest 7 = .ok (.arraylength, 1) := by decide +kernel
theorem dX2_isAtRest_8 : decode cX2_isAtRest 8 = .ok (.if_icmp .ge 105, 3) := by decide +kernel
theorem dX2_isAtRest_11 : decode cX2_isAtRest 11 = .ok (.aload_n 0, 1) := by decide +kernel
theorem dX2_isAtRest_12 : decode cX2_isAtRest 12 = .ok (.getfield 34, 3) := by decide +kernel
theorem dX2_isAtRest_15 : decode cX2_isAtRest 15 = .ok (.iload_n 1, 1) := by decide +kernel
theorem dX2_isAtRest_16 : decode cX2_isAtRest 16 = .ok (.invokestatic 79, 3) := by decide +kernel
theorem dX2_isAtRest_19 : decode cX2_isAtRest 19 = .ok (.ifCond .eq 88, 3) := by decide +kernel
theorem dX2_isAtRest_22 : decode cX2_isAtRest 22 = .ok (.aload_n 0, 1) := by decide +kernel
theorem dX2_isAtRest_23 : decode cX2_isAtRest 23 = .ok (.getfield 15, 3) := by decide +kernel
theorem dX2_isAtRest_26 : decode cX2_isAtRest 26 = .ok (.iload_n 1, 1) := by decide +kernel
theorem dX2_isAtRest_27 : decode cX2_isAtRest 27 = .ok (.invokevirtual 83, 3) := by decide +kernel
theorem dX2_isAtRest_30 : decode cX2_isAtRest 30 = .ok (.istore_n 2, 1) := by decide +kernel
theorem dX2_isAtRest_31 : decode cX2_isAtRest 31 = .ok (.aload_n 0, 1) := by decide +kernel
theorem dX2_isAtRest_32 : decode cX2_isAtRest 32 = .ok (.iload_n 1, 1) := by decide +kernel
theorem dX2_isAtRest_33 : decode cX2_isAtRest 33 = .ok (.iconst 0, 1) := by decide +kernel
theorem dX2_isAtRest_34 : decode cX2_isAtRest 34 = .ok (.invokevirtual 71, 3) := by decide +kernel
theorem dX2_isAtRest_37 : decode cX2_isAtRest 37 = .ok (.lstore_n 3, 1) := by decide +kernel
theorem dX2_isAtRest_38 : decode cX2_isAtRest 38 = .ok (.aload_n 0, 1) := by decide +kernel
theorem dX2_isAtRest_39 : decode cX2_isAtRest 39 = .ok (.getfield 9, 3) := by decide +kernel
theorem dX2_isAtRest_42 : decode cX2_isAtRest 42 = .ok (.iload_n 1, 1) := by decide +kernel
theorem dX2_isAtRest_43 : decode cX2_isAtRest 43 = .ok (.iaload, 1) := by decide +kernel
theorem dX2_isAtRest_44 : decode cX2_isAtRest 44 = .ok (.iload_n 2, 1) := by decide +kernel
theorem dX2_isAtRest_45 : decode cX2_isAtRest 45 = .ok (.if_icmp .ge 18, 3) := by decide +kernel
theorem dX2_isAtRest_48 : decode cX2_isAtRest 48 = .ok (.aload_n 0, 1) := by decide +kernel
theorem dX2_isAtRest_49 : decode cX2_isAtRest 49 = .ok (.iload_n 1, 1) := by decide +kernel
theorem dX2_isAtRest_50 : decode cX2_isAtRest 50 = .ok (.iconst 1, 1) := by decide +kernel
theorem dX2_isAtRest_51 : decode cX2_isAtRest 51 = .ok (.invokevirtual 71, 3) := by decide +kernel
theorem dX2_isAtRest_54 : decode cX2_isAtRest 54 = .ok (.lload_n 3, 1) := by decide +kernel
theorem dX2_isAtRest_55 : decode cX2_isAtRest 55 = .ok (.lcmp, 1) := by decide +kernel
theorem dX2_isAtRest_56 : decode cX2_isAtRest 56 = .ok (.ifCond .le 7, 3) := by decide +kernel
theorem dX2_isAtRest_59 : decode cX2_isAtRest 59 = .ok (.iconst 1, 1) := by decide +kernel
theorem dX2_isAtRest_60 : decode cX2_isAtRest 60 = .ok (.goto 4, 3) := by decide +kernel
theorem dX2_isAtRest_63 : decode cX2_isAtRest 63 = .ok (.iconst 0, 1) := by decide +kernel
theorem dX2_isAtRest_64 : decode cX2_isAtRest 64 = .ok (.istore 5, 2) := by decide +kernel
theorem dX2_isAtRest_66 : decode cX2_isAtRest 66 = .ok (.aload_n 0, 1) := by decide +kernel
theorem dX2_isAtRest_67 : decode cX2_isAtRest 67 = .ok (.getfield 9, 3) := by decide +kernel
theorem dX2_isAtRest_70 : decode cX2_isAtRest 70 = .ok (.iload_n 1, 1) := by decide +kernel
theorem dX2_isAtRest_71 : decode cX2_isAtRest 71 = .ok (.iaload, 1) := by decide +kernel
theorem dX2_isAtRest_72 : decode cX2_isAtRest 72 = .ok (.iload_n 2, 1) := by decide +kernel
theorem dX2_isAtRest_73 : decode cX2_isAtRest 73 = .ok (.ineg, 1) := by decide +kernel
theorem dX2_isAtRest_74 : decode cX2_isAtRest 74 = .ok (.if_icmp .le 18, 3) := by decide +kernel
theorem dX2_isAtRest_77 : decode cX2_isAtRest 77 = .ok (.aload_n 0, 1) := by decide +kernel
theorem dX2_isAtRest_78 : decode cX2_isAtRest 78 = .ok (.iload_n 1, 1) := by decide +kernel
theorem dX2_isAtRest_79 : decode cX2_isAtRest 79 = .ok (.iconst (-1), 1) := by decide +kernel
theorem dX2_isAtRest_80 : decode cX2_isAtRest 80 = .ok (.invokevirtual 71, 3) := by decide +kernel
theorem dX2_isAtRest_83 : decode cX2_isAtRest 83 = .ok (.lload_n 3, 1) := by decide +kernel
theorem dX2_isAtRest_84 : decode cX2_isAtRest 84 = .ok (.lcmp, 1) := by decide +kernel
theorem dX2_isAtRest_85 : decode cX2_isAtRest 85 = .ok (.ifCond .le 7, 3) := by decide +kernel
theorem dX2_isAtRest_88 : decode cX2_isAtRest 88 = .ok (.iconst 1, 1) := by decide +kernel
theorem dX2_isAtRest_89 : decode cX2_isAtRest 89 = .ok (.goto 4, 3) := by decide +kernel
theorem dX2_isAtRest_92 : decode cX2_isAtRest 92 = .ok (.iconst 0, 1) := by decide +kernel
theorem dX2_isAtRest_93 : decode cX2_isAtRest 93 = .ok (.istore 6, 2) := by decide +kernel
theorem dX2_isAtRest_95 : decode cX2_isAtRest 95 = .ok (.iload 5, 2) := by decide +kernel
theorem dX2_isAtRest_97 : decode cX2_isAtRest 97 = .ok (.ifCond .ne 8, 3) := by decide +kernel
theorem dX2_isAtRest_100 : decode cX2_isAtRest 100 = .ok (.iload 6, 2) := by decide +kernel
theorem dX2_isAtRest_102 : decode cX2_isAtRest 102 = .ok (.ifCond .eq 5, 3) := by decide +kernel
theorem dX2_isAtRest_105 : decode cX2_isAtRest 105 = .ok (.iconst 0, 1) := by decide +kernel
theorem dX2_isAtRest_106 : decode cX2_isAtRest 106 = .ok (.ireturn, 1) := by decide +kernel
theorem dX2_isAtRest_107 : decode cX2_isAtRest 107 = .ok (.iinc 1 1, 3) := by decide +kernel
theorem dX2_isAtRest_110 : decode cX2_isAtRest 110 = .ok (.goto (-108), 3) := by decide +kernel
theorem dX2_isAtRest_113 : decode cX2_isAtRest 113 = .ok (.iconst 1, 1) := by decide +kernel
theorem dX2_isAtRest_114 : decode cX2_isAtRest 114 = .ok (.ireturn, 1) := by decide +kernel
theorem dX2_madeTogether_0 : decode cX2_madeTogether 0 = .ok (.lconst 0, 1) := by decide +kernel
theorem dX2_madeTogether_1 : decode cX2_madeTogether 1 = .ok (.lstore_n 1, 1) := by decide +kernel
theorem dX2_madeTogether_2 : decode cX2_madeTogether 2 = .ok (.iconst 0, 1) := by decide +kernel
theorem dX2_madeTogether_3 : decode cX2_madeTogether 3 = .ok (.istore_n 3, 1) := by decide +kernel
theorem dX2_madeTogether_4 : decode cX2_madeTogether 4 = .ok (.iload_n 3, 1) := by decide +kernel
theorem dX2_madeTogether_5 : decode cX2_madeTogether 5 = .ok (.aload_n 0, 1) := by decide +kernel
theorem dX2_madeTogether_6 : decode cX2_madeTogether 6 = .ok (.getfield 9, 3) := by decide +kernel
theorem dX2_madeTogether_9 : decode cX2_madeTogether 9 = .ok (.arraylength, 1) := by decide +kernel
theorem dX2_madeTogether_10 : decode cX2_madeTogether 10 = .ok (.if_icmp .ge 18, 3) := by decide +kernel
theorem dX2_madeTogether_13 : decode cX2_madeTogether 13 = .ok (.lload_n 1, 1) := by decide +kernel
theorem dX2_madeTogether_14 : decode cX2_madeTogether 14 = .ok (.aload_n 0, 1) := by decide +kernel
theorem dX2_madeTogether_15 : decode cX2_madeTogether 15 = .ok (.iload_n 3, 1) := by decide +kernel
theorem dX2_madeTogether_16 : decode cX2_madeTogether 16 = .ok (.iconst 0, 1) := by decide +kernel
theorem dX2_madeTogether_17 : decode cX2_madeTogether 17 = .ok (.invokevirtual 71, 3) := by decide +kernel
theorem dX2_madeTogether_20 : decode cX2_madeTogether 20 = .ok (.ladd, 1) := by decide +kernel
theorem dX2_madeTogether_21 : decode cX2_madeTogether 21 = .ok (.lstore_n 1, 1) := by decide +kernel
theorem dX2_madeTogether_22 : decode cX2_madeTogether 22 = .ok (.iinc 3 1, 3) := by decide +kernel
theorem dX2_madeTogether_25 : decode cX2_madeTogether 25 = .ok (.goto (-21), 3) := by decide +kernel
theorem dX2_madeTogether_28 : decode cX2_madeTogether 28 = .ok (.lload_n 1, 1) := by decide +kernel
theorem dX2_madeTogether_29 : decode cX2_madeTogether 29 = .ok (.lreturn, 1) := by decide +kernel
theorem dX2_number_0 : decode cX2_number 0 = .ok (.iconst 0, 1) := by decide +kernel
theorem dX2_number_1 : decode cX2_number 1 = .ok (.istore_n 1, 1) := by decide +kernel
theorem dX2_number_2 : decode cX2_number 2 = .ok (.iconst 0, 1) := by decide +kernel
theorem dX2_number_3 : decode cX2_number 3 = .ok (.istore_n 2, 1) := by decide +kernel
theorem dX2_number_4 : decode cX2_number 4 = .ok (.iload_n 2, 1) := by decide +kernel
theorem dX2_number_5 : decode cX2_number 5 = .ok (.aload_n 0, 1) := by decide +kernel
theorem dX2_number_6 : decode cX2_number 6 = .ok (.getfield 9, 3) := by decide +kernel
theorem dX2_number_9 : decode cX2_number 9 = .ok (.arraylength, 1) := by decide +kernel
theorem dX2_number_10 : decode cX2_number 10 = .ok (.if_icmp .ge 45, 3) := by decide +kernel
theorem dX2_number_13 : decode cX2_number 13 = .ok (.iload_n 2, 1) := by decide +kernel
theorem dX2_number_14 : decode cX2_number 14 = .ok (.aload_n 0, 1) := by decide +kernel
theorem dX2_number_15 : decode cX2_number 15 = .ok (.getfield 15, 3) := by decide +kernel
theorem dX2_number_18 : decode cX2_number 18 = .ok (.getfield 58, 3) := by decide +kernel
theorem dX2_number_21 : decode cX2_number 21 = .ok (.if_icmp .ge 34, 3) := by decide +kernel
theorem dX2_number_24 : decode cX2_number 24 = .ok (.iload_n 2, 1) := by decide +kernel
theorem dX2_number_25 : decode cX2_number 25 = .ok (.getstatic 86, 3) := by decide +kernel
theorem dX2_number_28 : decode cX2_number 28 = .ok (.arraylength, 1) := by decide +kernel
theorem dX2_number_29 : decode cX2_number 29 = .ok (.if_icmp .ge 26, 3) := by decide +kernel
theorem dX2_number_32 : decode cX2_number 32 = .ok (.iload_n 1, 1) := by decide +kernel
theorem dX2_number_33 : decode cX2_number 33 = .ok (.aload_n 0, 1) := by decide +kernel
theorem dX2_number_34 : decode cX2_number 34 = .ok (.getfield 9, 3) := by decide +kernel
theorem dX2_number_37 : decode cX2_number 37 = .ok (.iload_n 2, 1) := by decide +kernel
theorem dX2_number_38 : decode cX2_number 38 = .ok (.iaload, 1) := by decide +kernel
theorem dX2_number_39 : decode cX2_number 39 = .ok (.iconst 3, 1) := by decide +kernel
theorem dX2_number_40 : decode cX2_number 40 = .ok (.iadd, 1) := by decide +kernel
theorem dX2_number_41 : decode cX2_number 41 = .ok (.getstatic 86, 3) := by decide +kernel
theorem dX2_number_44 : decode cX2_number 44 = .ok (.iload_n 2, 1) := by decide +kernel
theorem dX2_number_45 : decode cX2_number 45 = .ok (.iaload, 1) := by decide +kernel
theorem dX2_number_46 : decode cX2_number 46 = .ok (.imul, 1) := by decide +kernel
theorem dX2_number_47 : decode cX2_number 47 = .ok (.iadd, 1) := by decide +kernel
theorem dX2_number_48 : decode cX2_number 48 = .ok (.istore_n 1, 1) := by decide +kernel
theorem dX2_number_49 : decode cX2_number 49 = .ok (.iinc 2 1, 3) := by decide +kernel
theorem dX2_number_52 : decode cX2_number 52 = .ok (.goto (-48), 3) := by decide +kernel
theorem dX2_number_55 : decode cX2_number 55 = .ok (.iload_n 1, 1) := by decide +kernel
theorem dX2_number_56 : decode cX2_number 56 = .ok (.ireturn, 1) := by decide +kernel
theorem dX3_init_0 : decode cX3_init 0 = .ok (.aload_n 0, 1) := by decide +kernel
theorem dX3_init_1 : decode cX3_init 1 = .ok (.invokespecial 3, 3) := by decide +kernel
theorem dX3_init_4 : decode cX3_init 4 = .ok (.return_, 1) := by decide +kernel
theorem dX3_take_0 : decode cX3_take 0 = .ok (.aload_n 0, 1) := by decide +kernel
theorem dX3_take_1 : decode cX3_take 1 = .ok (.lconst 0, 1) := by decide +kernel
theorem dX3_take_2 : decode cX3_take 2 = .ok (.putfield 9, 3) := by decide +kernel
theorem dX3_take_5 : decode cX3_take 5 = .ok (.aload_n 0, 1) := by decide +kernel
theorem dX3_take_6 : decode cX3_take 6 = .ok (.lconst 0, 1) := by decide +kernel
theorem dX3_take_7 : decode cX3_take 7 = .ok (.putfield 15, 3) := by decide +kernel
theorem dX3_take_10 : decode cX3_take 10 = .ok (.aload_n 0, 1) := by decide +kernel
theorem dX3_take_11 : decode cX3_take 11 = .ok (.lconst 0, 1) := by decide +kernel
theorem dX3_take_12 : decode cX3_take 12 = .ok (.putfield 18, 3) := by decide +kernel
theorem dX3_take_15 : decode cX3_take 15 = .ok (.aload_n 2, 1) := by decide +kernel
theorem dX3_take_16 : decode cX3_take 16 = .ok (.ifnonnull 4, 3) := by decide +kernel
theorem dX3_take_19 : decode cX3_take 19 = .ok (.return_, 1) := by decide +kernel
theorem dX3_take_20 : decode cX3_take 20 = .ok (.iconst 0, 1) := by decide +kernel
theorem dX3_take_21 : decode cX3_take 21 = .ok (.istore 4, 2) := by decide +kernel
theorem dX3_take_23 : decode cX3_take 23 = .ok (.iload 4, 2) := by decide +kernel
theorem dX3_take_25 : decode cX3_take 25 = .ok (.aload_n 1, 1) := by decide +kernel
theorem dX3_take_26 : decode cX3_take 26 = .ok (.getfield 21, 3) := by decide +kernel
theorem dX3_take_29 : decode cX3_take 29 = .ok (.if_icmp .ge 61, 3) := by decide +kernel
theorem dX3_take_32 : decode cX3_take 32 = .ok (.aload_n 1, 1) := by decide +kernel
theorem dX3_take_33 : decode cX3_take 33 = .ok (.iload 4, 2) := by decide +kernel
theorem dX3_take_35 : decode cX3_take 35 = .ok (.invokevirtual 27, 3) := by decide +kernel
theorem dX3_take_38 : decode cX3_take 38 = .ok (.i2l, 1) := by decide +kernel
theorem dX3_take_39 : decode cX3_take 39 = .ok (.aload_n 2, 1) := by decide +kernel
theorem dX3_take_40 : decode cX3_take 40 = .ok (.iload 4, 2) := by decide +kernel
theorem dX3_take_42 : decode cX3_take 42 = .ok (.iload_n 3, 1) := by decide +kernel
theorem dX3_take_43 : decode cX3_take 43 = .ok (.aload_n 1, 1) := by decide +kernel
theorem dX3_take_44 : decode cX3_take 44 = .ok (.getfield 21, 3) := by decide +kernel
theorem dX3_take_47 : decode cX3_take 47 = .ok (.invokevirtual 31, 3) := by decide +kernel
theorem dX3_take_50 : decode cX3_take 50 = .ok (.i2l, 1) := by decide +kernel
theorem dX3_take_51 : decode cX3_take 51 = .ok (.lmul, 1) := by decide +kernel
theorem dX3_take_52 : decode cX3_take 52 = .ok (.lstore 5, 2) := by decide +kernel
theorem dX3_take_54 : decode cX3_take 54 = .ok (.aload_n 0, 1) := by decide +kernel
theorem dX3_take_55 : decode cX3_take 55 = .ok (.dup, 1) := by decide +kernel
theorem dX3_take_56 : decode cX3_take 56 = .ok (.getfield 9, 3) := by decide +kernel
theorem dX3_take_59 : decode cX3_take 59 = .ok (.lload 5, 2) := by decide +kernel
theorem dX3_take_61 : decode cX3_take 61 = .ok (.ladd, 1) := by decide +kernel
theorem dX3_take_62 : decode cX3_take 62 = .ok (.putfield 9, 3) := by decide +kernel
theorem dX3_take_65 : decode cX3_take 65 = .ok (.aload_n 0, 1) := by decide +kernel
theorem dX3_take_66 : decode cX3_take 66 = .ok (.dup, 1) := by decide +kernel
theorem dX3_take_67 : decode cX3_take 67 = .ok (.getfield 15, 3) := by decide +kernel
theorem dX3_take_70 : decode cX3_take 70 = .ok (.lload 5, 2) := by decide +kernel
theorem dX3_take_72 : decode cX3_take 72 = .ok (.aload_n 1, 1) := by decide +kernel
theorem dX3_take_73 : decode cX3_take 73 = .ok (.iload 4, 2) := by decide +kernel
theorem dX3_take_75 : decode cX3_take 75 = .ok (.invokevirtual 37, 3) := by decide +kernel
theorem dX3_take_78 : decode cX3_take 78 = .ok (.i2l, 1) := by decide +kernel
theorem dX3_take_79 : decode cX3_take 79 = .ok (.lmul, 1) := by decide +kernel
theorem dX3_take_80 : decode cX3_take 80 = .ok (.ladd, 1) := by decide +kernel
theorem dX3_take_81 : decode cX3_take 81 = .ok (.putfield 15, 3) := by decide +kernel
theorem dX3_take_84 : decode cX3_take 84 = .ok (.iinc 4 1, 3) := by decide +kernel
theorem dX3_take_87 : decode cX3_take 87 = .ok (.goto (-64), 3) := by decide +kernel
theorem dX3_take_90 : decode cX3_take 90 = .ok (.aload_n 0, 1) := by decide +kernel
theorem dX3_take_91 : decode cX3_take 91 = .ok (.aload_n 1, 1) := by decide +kernel
theorem dX3_take_92 : decode cX3_take 92 = .ok (.aload_n 2, 1) := by decide +kernel
theorem dX3_take_93 : decode cX3_take 93 = .ok (.invokevirtual 40, 3) := by decide +kernel
theorem dX3_take_96 : decode cX3_take 96 = .ok (.return_, 1) := by decide +kernel
theorem dX3_takeCase_0 : decode cX3_takeCase 0 = .ok (.aload_n 0, 1) := by decide +kernel
theorem dX3_takeCase_1 : decode cX3_takeCase 1 = .ok (.ldc2_w 44, 3) := by decide +kernel
theorem dX3_takeCase_4 : decode cX3_takeCase 4 = .ok (.putfield 9, 3) := by decide +kernel
theorem dX3_takeCase_7 : decode cX3_takeCase 7 = .ok (.aload_n 0, 1) := by decide +kernel
theorem dX3_takeCase_8 : decode cX3_takeCase 8 = .ok (.aload_n 0, 1) := by decide +kernel
theorem dX3_takeCase_9 : decode cX3_takeCase 9 = .ok (.getfield 9, 3) := by decide +kernel
theorem dX3_takeCase_12 : decode cX3_takeCase 12 = .ok (.aload_n 1, 1) := by decide +kernel
theorem dX3_takeCase_13 : decode cX3_takeCase 13 = .ok (.iload_n 3, 1) := by decide +kernel
theorem dX3_takeCase_14 : decode cX3_takeCase 14 = .ok (.invokevirtual 37, 3) := by decide +kernel
theorem dX3_takeCase_17 : decode cX3_takeCase 17 = .ok (.i2l, 1) := by decide +kernel
theorem dX3_takeCase_18 : decode cX3_takeCase 18 = .ok (.lmul, 1) := by decide +kernel
theorem dX3_takeCase_19 : decode cX3_takeCase 19 = .ok (.putfield 15, 3) := by decide +kernel
theorem dX3_takeCase_22 : decode cX3_takeCase 22 = .ok (.aload_n 0, 1) := by decide +kernel
theorem dX3_takeCase_23 : decode cX3_takeCase 23 = .ok (.lconst 0, 1) := by decide +kernel
theorem dX3_takeCase_24 : decode cX3_takeCase 24 = .ok (.putfield 18, 3) := by decide +kernel
theorem dX3_takeCase_27 : decode cX3_takeCase 27 = .ok (.aload_n 2, 1) := by decide +kernel
theorem dX3_takeCase_28 : decode cX3_takeCase 28 = .ok (.ifnull 9, 3) := by decide +kernel
theorem dX3_takeCase_31 : decode cX3_takeCase 31 = .ok (.aload_n 0, 1) := by decide +kernel
theorem dX3_takeCase_32 : decode cX3_takeCase 32 = .ok (.aload_n 1, 1) := by decide +kernel
theorem dX3_takeCase_33 : decode cX3_takeCase 33 = .ok (.aload_n 2, 1) := by decide +kernel
theorem dX3_takeCase_34 : decode cX3_takeCase 34 = .ok (.invokevirtual 40, 3) := by decide +kernel
theorem dX3_takeCase_37 : decode cX3_takeCase 37 = .ok (.return_, 1) := by decide +kernel
theorem dX3_narrow_0 : decode cX3_narrow 0 = .ok (.aload_n 0, 1) := by decide +kernel
theorem dX3_narrow_1 : decode cX3_narrow 1 = .ok (.aload_n 0, 1) := by decide +kernel
theorem dX3_narrow_2 : decode cX3_narrow 2 = .ok (.getfield 15, 3) := by decide +kernel
theorem dX3_narrow_5 : decode cX3_narrow 5 = .ok (.aload_n 0, 1) := by decide +kernel
theorem dX3_narrow_6 : decode cX3_narrow 6 = .ok (.getfield 9, 3) := by decide +kernel
theorem dX3_narrow_9 : decode cX3_narrow 9 = .ok (.aload_n 1, 1) := by decide +kernel
theorem dX3_narrow_10 : decode cX3_narrow 10 = .ok (.getfield 46, 3) := by decide +kernel
theorem dX3_narrow_13 : decode cX3_narrow 13 = .ok (.i2l, 1) := by decide +kernel
theorem dX3_narrow_14 : decode cX3_narrow 14 = .ok (.lmul, 1) := by decide +kernel
theorem dX3_narrow_15 : decode cX3_narrow 15 = .ok (.lsub, 1) := by decide +kernel
theorem dX3_narrow_16 : decode cX3_narrow 16 = .ok (.bipush 100, 2) := by decide +kernel
theorem dX3_narrow_18 : decode cX3_narrow 18 = .ok (.aload_n 2, 1) := by decide +kernel
theorem dX3_narrow_19 : decode cX3_narrow 19 = .ok (.invokevirtual 49, 3) := by decide +kernel
theorem dX3_narrow_22 : decode cX3_narrow 22 = .ok (.isub, 1) := by decide +kernel
theorem dX3_narrow_23 : decode cX3_narrow 23 = .ok (.i2l, 1) := by decide +kernel
theorem dX3_narrow_24 : decode cX3_narrow 24 = .ok (.lmul, 1) := by decide +kernel
theorem dX3_narrow_25 : decode cX3_narrow 25 = .ok (.ldc2_w 44, 3) := by decide +kernel
theorem dX3_narrow_28 : decode cX3_narrow 28 = .ok (.ldiv, 1) := by decide +kernel
theorem dX3_narrow_29 : decode cX3_narrow 29 = .ok (.putfield 18, 3) := by decide +kernel
theorem dX3_narrow_32 : decode cX3_narrow 32 = .ok (.return_, 1) := by decide +kernel
theorem dX3_isNever_0 : decode cX3_isNever 0 = .ok (.aload_n 0, 1) := by decide +kernel
theorem dX3_isNever_1 : decode cX3_isNever 1 = .ok (.getfield 9, 3) := by decide +kernel
theorem dX3_isNever_4 : decode cX3_isNever 4 = .ok (.lconst 0, 1) := by decide +kernel
theorem dX3_isNever_5 : decode cX3_isNever 5 = .ok (.lcmp, 1) := by decide +kernel
theorem dX3_isNever_6 : decode cX3_isNever 6 = .ok (.ifCond .ne 7, 3) := by decide +kernel
theorem dX3_isNever_9 : decode cX3_isNever 9 = .ok (.iconst 1, 1) := by decide +kernel
theorem dX3_isNever_10 : decode cX3_isNever 10 = .ok (.goto 4, 3) := by decide +kernel
theorem dX3_isNever_13 : decode cX3_isNever 13 = .ok (.iconst 0, 1) := by decide +kernel
theorem dX3_isNever_14 : decode cX3_isNever 14 = .ok (.ireturn, 1) := by decide +kernel
theorem dX4_init_0 : decode cX4_init 0 = .ok (.aload_n 0, 1) := by decide +kernel
theorem dX4_init_1 : decode cX4_init 1 = .ok (.iload_n 1, 1) := by decide +kernel
theorem dX4_init_2 : decode cX4_init 2 = .ok (.iload_n 2, 1) := by decide +kernel
theorem dX4_init_3 : decode cX4_init 3 = .ok (.invokespecial 1, 3) := by decide +kernel
theorem dX4_init_6 : decode cX4_init 6 = .ok (.return_, 1) := by decide +kernel
theorem dX4_nearer_0 : decode cX4_nearer 0 = .ok (.aload_n 0, 1) := by decide +kernel
theorem dX4_nearer_1 : decode cX4_nearer 1 = .ok (.getfield 7, 3) := by decide +kernel
theorem dX4_nearer_4 : decode cX4_nearer 4 = .ok (.ireturn, 1) := by decide +kernel
theorem dX5_init_0 : decode cX5_init 0 = .ok (.aload_n 0, 1) := by decide +kernel
theorem dX5_init_1 : decode cX5_init 1 = .ok (.invokespecial 3, 3) := by decide +kernel
theorem dX5_init_4 : decode cX5_init 4 = .ok (.aload_n 0, 1) := by decide +kernel
theorem dX5_init_5 : decode cX5_init 5 = .ok (.iconst 4, 1) := by decide +kernel
theorem dX5_init_6 : decode cX5_init 6 = .ok (.newarray .int, 2) := by decide +kernel
theorem dX5_init_8 : decode cX5_init 8 = .ok (.putfield 9, 3) := by decide +kernel
theorem dX5_init_11 : decode cX5_init 11 = .ok (.aload_n 0, 1) := by decide +kernel
theorem dX5_init_12 : decode cX5_init 12 = .ok (.iconst 4, 1) := by decide +kernel
theorem dX5_init_13 : decode cX5_init 13 = .ok (.newarray .int, 2) := by decide +kernel
theorem dX5_init_15 : decode cX5_init 15 = .ok (.putfield 15, 3) := by decide +kernel
theorem dX5_init_18 : decode cX5_init 18 = .ok (.return_, 1) := by decide +kernel
theorem dX5_append_0 : decode cX5_append 0 = .ok (.aload_n 0, 1) := by decide +kernel
theorem dX5_append_1 : decode cX5_append 1 = .ok (.getfield 18, 3) := by decide +kernel
theorem dX5_append_4 : decode cX5_append 4 = .ok (.ifCond .lt 27, 3) := by decide +kernel
theorem dX5_append_7 : decode cX5_append 7 = .ok (.aload_n 0, 1) := by decide +kernel
theorem dX5_append_8 : decode cX5_append 8 = .ok (.getfield 18, 3) := by decide +kernel
theorem dX5_append_11 : decode cX5_append 11 = .ok (.aload_n 0, 1) := by decide +kernel
theorem dX5_append_12 : decode cX5_append 12 = .ok (.getfield 9, 3) := by decide +kernel
theorem dX5_append_15 : decode cX5_append 15 = .ok (.arraylength, 1) := by decide +kernel
theorem dX5_append_16 : decode cX5_append 16 = .ok (.if_icmp .ge 15, 3) := by decide +kernel
theorem dX5_append_19 : decode cX5_append 19 = .ok (.aload_n 0, 1) := by decide +kernel
theorem dX5_append_20 : decode cX5_append 20 = .ok (.getfield 18, 3) := by decide +kernel
theorem dX5_append_23 : decode cX5_append 23 = .ok (.aload_n 0, 1) := by decide +kernel
theorem dX5_append_24 : decode cX5_append 24 = .ok (.getfield 15, 3) := by decide +kernel
theorem dX5_append_27 : decode cX5_append 27 = .ok (.arraylength, 1) := by decide +kernel
theorem dX5_append_28 : decode cX5_append 28 = .ok (.if_icmp .lt 5, 3) := by decide +kernel
theorem dX5_append_31 : decode cX5_append 31 = .ok (.iconst 0, 1) := by decide +kernel
theorem dX5_append_32 : decode cX5_append 32 = .ok (.ireturn, 1) := by decide +kernel
theorem dX5_append_33 : decode cX5_append 33 = .ok (.aload_n 0, 1) := by decide +kernel
theorem dX5_append_34 : decode cX5_append 34 = .ok (.getfield 9, 3) := by decide +kernel
theorem dX5_append_37 : decode cX5_append 37 = .ok (.aload_n 0, 1) := by decide +kernel
theorem dX5_append_38 : decode cX5_append 38 = .ok (.getfield 18, 3) := by decide +kernel
theorem dX5_append_41 : decode cX5_append 41 = .ok (.iload_n 1, 1) := by decide +kernel
theorem dX5_append_42 : decode cX5_append 42 = .ok (.iastore, 1) := by decide +kernel
theorem dX5_append_43 : decode cX5_append 43 = .ok (.aload_n 0, 1) := by decide +kernel
theorem dX5_append_44 : decode cX5_append 44 = .ok (.getfield 15, 3) := by decide +kernel
theorem dX5_append_47 : decode cX5_append 47 = .ok (.aload_n 0, 1) := by decide +kernel
theorem dX5_append_48 : decode cX5_append 48 = .ok (.getfield 18, 3) := by decide +kernel
theorem dX5_append_51 : decode cX5_append 51 = .ok (.iload_n 2, 1) := by decide +kernel
theorem dX5_append_52 : decode cX5_append 52 = .ok (.iastore, 1) := by decide +kernel
theorem dX5_append_53 : decode cX5_append 53 = .ok (.aload_n 0, 1) := by decide +kernel
theorem dX5_append_54 : decode cX5_append 54 = .ok (.dup, 1) := by decide +kernel
theorem dX5_append_55 : decode cX5_append 55 = .ok (.getfield 22, 3) := by decide +kernel
theorem dX5_append_58 : decode cX5_append 58 = .ok (.iload_n 1, 1) := by decide +kernel
theorem dX5_append_59 : decode cX5_append 59 = .ok (.iadd, 1) := by decide +kernel
theorem dX5_append_60 : decode cX5_append 60 = .ok (.putfield 22, 3) := by decide +kernel
theorem dX5_append_63 : decode cX5_append 63 = .ok (.aload_n 0, 1) := by decide +kernel
theorem dX5_append_64 : decode cX5_append 64 = .ok (.dup, 1) := by decide +kernel
theorem dX5_append_65 : decode cX5_append 65 = .ok (.getfield 18, 3) := by decide +kernel
theorem dX5_append_68 : decode cX5_append 68 = .ok (.iconst 1, 1) := by decide +kernel
theorem dX5_append_69 : decode cX5_append 69 = .ok (.iadd, 1) := by decide +kernel
theorem dX5_append_70 : decode cX5_append 70 = .ok (.putfield 18, 3) := by decide +kernel
theorem dX5_append_73 : decode cX5_append 73 = .ok (.iconst 1, 1) := by decide +kernel
theorem dX5_append_74 : decode cX5_append 74 = .ok (.ireturn, 1) := by decide +kernel
theorem dX5_weightOf_0 : decode cX5_weightOf 0 = .ok (.iload_n 1, 1) := by decide +kernel
theorem dX5_weightOf_1 : decode cX5_weightOf 1 = .ok (.ifCond .lt 29, 3) := by decide +kernel
theorem dX5_weightOf_4 : decode cX5_weightOf 4 = .ok (.iload_n 1, 1) := by decide +kernel
theorem dX5_weightOf_5 : decode cX5_weightOf 5 = .ok (.aload_n 0, 1) := by decide +kernel
theorem dX5_weightOf_6 : decode cX5_weightOf 6 = .ok (.getfield 18, 3) := by decide +kernel
theorem dX5_weightOf_9 : decode cX5_weightOf 9 = .ok (.if_icmp .ge 21, 3) := by decide +kernel
theorem dX5_weightOf_12 : decode cX5_weightOf 12 = .ok (.iload_n 1, 1) := by decide +kernel
theorem dX5_weightOf_13 : decode cX5_weightOf 13 = .ok (.aload_n 0, 1) := by decide +kernel
theorem dX5_weightOf_14 : decode cX5_weightOf 14 = .ok (.getfield 9, 3) := by decide +kernel
theorem dX5_weightOf_17 : decode cX5_weightOf 17 = .ok (.arraylength, 1) := by decide +kernel
theorem dX5_weightOf_18 : decode cX5_weightOf 18 = .ok (.if_icmp .ge 12, 3) := by decide +kernel
theorem dX5_weightOf_21 : decode cX5_weightOf 21 = .ok (.aload_n 0, 1) := by decide +kernel
theorem dX5_weightOf_22 : decode cX5_weightOf 22 = .ok (.getfield 9, 3) := by decide +kernel
theorem dX5_weightOf_25 : decode cX5_weightOf 25 = .ok (.iload_n 1, 1) := by decide +kernel
theorem dX5_weightOf_26 : decode cX5_weightOf 26 = .ok (.iaload, 1) := by decide +kernel
theorem dX5_weightOf_27 : decode cX5_weightOf 27 = .ok (.goto 4, 3) := by decide +kernel
theorem dX5_weightOf_30 : decode cX5_weightOf 30 = .ok (.iconst 0, 1) := by decide +kernel
theorem dX5_weightOf_31 : decode cX5_weightOf 31 = .ok (.ireturn, 1) := by decide +kernel
theorem dX5_valueOf_0 : decode cX5_valueOf 0 = .ok (.iload_n 1, 1) := by decide +kernel
theorem dX5_valueOf_1 : decode cX5_valueOf 1 = .ok (.ifCond .lt 29, 3) := by decide +kernel
theorem dX5_valueOf_4 : decode cX5_valueOf 4 = .ok (.iload_n 1, 1) := by decide +kernel
theorem dX5_valueOf_5 : decode cX5_valueOf 5 = .ok (.aload_n 0, 1) := by decide +kernel
theorem dX5_valueOf_6 : decode cX5_valueOf 6 = .ok (.getfield 18, 3) := by decide +kernel
theorem dX5_valueOf_9 : decode cX5_valueOf 9 = .ok (.if_icmp .ge 21, 3) := by decide +kernel
theorem dX5_valueOf_12 : decode cX5_valueOf 12 = .ok (.iload_n 1, 1) := by decide +kernel
theorem dX5_valueOf_13 : decode cX5_valueOf 13 = .ok (.aload_n 0, 1) := by decide +kernel
theorem dX5_valueOf_14 : decode cX5_valueOf 14 = .ok (.getfield 15, 3) := by decide +kernel
theorem dX5_valueOf_17 : decode cX5_valueOf 17 = .ok (.arraylength, 1) := by decide +kernel
theorem dX5_valueOf_18 : decode cX5_valueOf 18 = .ok (.if_icmp .ge 12, 3) := by decide +kernel
theorem dX5_valueOf_21 : decode cX5_valueOf 21 = .ok (.aload_n 0, 1) := by decide +kernel
theorem dX5_valueOf_22 : decode cX5_valueOf 22 = .ok (.getfield 15, 3) := by decide +kernel
theorem dX5_valueOf_25 : decode cX5_valueOf 25 = .ok (.iload_n 1, 1) := by decide +kernel
theorem dX5_valueOf_26 : decode cX5_valueOf 26 = .ok (.iaload, 1) := by decide +kernel
theorem dX5_valueOf_27 : decode cX5_valueOf 27 = .ok (.goto 4, 3) := by decide +kernel
theorem dX5_valueOf_30 : decode cX5_valueOf 30 = .ok (.iconst 0, 1) := by decide +kernel
theorem dX5_valueOf_31 : decode cX5_valueOf 31 = .ok (.ireturn, 1) := by decide +kernel
theorem dX5_wholeWeight_0 : decode cX5_wholeWeight 0 = .ok (.aload_n 0, 1) := by decide +kernel
theorem dX5_wholeWeight_1 : decode cX5_wholeWeight 1 = .ok (.getfield 22, 3) := by decide +kernel
theorem dX5_wholeWeight_4 : decode cX5_wholeWeight 4 = .ok (.i2l, 1) := by decide +kernel
theorem dX5_wholeWeight_5 : decode cX5_wholeWeight 5 = .ok (.aload_n 0, 1) := by decide +kernel
theorem dX5_wholeWeight_6 : decode cX5_wholeWeight 6 = .ok (.getfield 18, 3) := by decide +kernel
theorem dX5_wholeWeight_9 : decode cX5_wholeWeight 9 = .ok (.invokestatic 25, 3) := by decide +kernel
theorem dX5_wholeWeight_12 : decode cX5_wholeWeight 12 = .ok (.i2l, 1) := by decide +kernel
theorem dX5_wholeWeight_13 : decode cX5_wholeWeight 13 = .ok (.lmul, 1) := by decide +kernel
theorem dX5_wholeWeight_14 : decode cX5_wholeWeight 14 = .ok (.lreturn, 1) := by decide +kernel
theorem dX5_caseAt_0 : decode cX5_caseAt 0 = .ok (.iconst 0, 1) := by decide +kernel
theorem dX5_caseAt_1 : decode cX5_caseAt 1 = .ok (.istore_n 2, 1) := by decide +kernel
theorem dX5_caseAt_2 : decode cX5_caseAt 2 = .ok (.iconst 0, 1) := by decide +kernel
theorem dX5_caseAt_3 : decode cX5_caseAt 3 = .ok (.istore_n 3, 1) := by decide +kernel
theorem dX5_caseAt_4 : decode cX5_caseAt 4 = .ok (.iload_n 3, 1) := by decide +kernel
theorem dX5_caseAt_5 : decode cX5_caseAt 5 = .ok (.aload_n 0, 1) := by decide +kernel
theorem dX5_caseAt_6 : decode cX5_caseAt 6 = .ok (.getfield 18, 3) := by decide +kernel
theorem dX5_caseAt_9 : decode cX5_caseAt 9 = .ok (.if_icmp .ge 24, 3) := by decide +kernel
theorem dX5_caseAt_12 : decode cX5_caseAt 12 = .ok (.iload_n 2, 1) := by decide +kernel
theorem dX5_caseAt_13 : decode cX5_caseAt 13 = .ok (.aload_n 0, 1) := by decide +kernel
theorem dX5_caseAt_14 : decode cX5_caseAt 14 = .ok (.iload_n 3, 1) := by decide +kernel
theorem dX5_caseAt_15 : decode cX5_caseAt 15 = .ok (.invokevirtual 31, 3) := by decide +kernel
theorem dX5_caseAt_18 : decode cX5_caseAt 18 = .ok (.iadd, 1) := by decide +kernel
theorem dX5_caseAt_19 : decode cX5_caseAt 19 = .ok (.istore_n 2, 1) := by decide +kernel
theorem dX5_caseAt_20 : decode cX5_caseAt 20 = .ok (.iload_n 1, 1) := by decide +kernel
theorem dX5_caseAt_21 : decode cX5_caseAt 21 = .ok (.iload_n 2, 1) := by decide +kernel
theorem dX5_caseAt_22 : decode cX5_caseAt 22 = .ok (.if_icmp .ge 5, 3) := by decide +kernel
theorem dX5_caseAt_25 : decode cX5_caseAt 25 = .ok (.iload_n 3, 1) := by decide +kernel
theorem dX5_caseAt_26 : decode cX5_caseAt 26 = .ok (.ireturn, 1) := by decide +kernel
theorem dX5_caseAt_27 : decode cX5_caseAt 27 = .ok (.iinc 3 1, 3) := by decide +kernel
theorem dX5_caseAt_30 : decode cX5_caseAt 30 = .ok (.goto (-26), 3) := by decide +kernel
theorem dX5_caseAt_33 : decode cX5_caseAt 33 = .ok (.iconst 0, 1) := by decide +kernel
theorem dX5_caseAt_34 : decode cX5_caseAt 34 = .ok (.ireturn, 1) := by decide +kernel
theorem dX5_mostFor_0 : decode cX5_mostFor 0 = .ok (.lconst 0, 1) := by decide +kernel
theorem dX5_mostFor_1 : decode cX5_mostFor 1 = .ok (.lstore_n 2, 1) := by decide +kernel
theorem dX5_mostFor_2 : decode cX5_mostFor 2 = .ok (.iconst 0, 1) := by decide +kernel
theorem dX5_mostFor_3 : decode cX5_mostFor 3 = .ok (.istore 4, 2) := by decide +kernel
theorem dX5_mostFor_5 : decode cX5_mostFor 5 = .ok (.iload 4, 2) := by decide +kernel
theorem dX5_mostFor_7 : decode cX5_mostFor 7 = .ok (.aload_n 0, 1) := by decide +kernel
theorem dX5_mostFor_8 : decode cX5_mostFor 8 = .ok (.getfield 18, 3) := by decide +kernel
theorem dX5_mostFor_11 : decode cX5_mostFor 11 = .ok (.if_icmp .ge 72, 3) := by decide +kernel
theorem dX5_mostFor_14 : decode cX5_mostFor 14 = .ok (.lconst 0, 1) := by decide +kernel
theorem dX5_mostFor_15 : decode cX5_mostFor 15 = .ok (.lstore 5, 2) := by decide +kernel
theorem dX5_mostFor_17 : decode cX5_mostFor 17 = .ok (.iload_n 1, 1) := by decide +kernel
theorem dX5_mostFor_18 : decode cX5_mostFor 18 = .ok (.ineg, 1) := by decide +kernel
theorem dX5_mostFor_19 : decode cX5_mostFor 19 = .ok (.istore 7, 2) := by decide +kernel
theorem dX5_mostFor_21 : decode cX5_mostFor 21 = .ok (.iload 7, 2) := by decide +kernel
theorem dX5_mostFor_23 : decode cX5_mostFor 23 = .ok (.iload_n 1, 1) := by decide +kernel
theorem dX5_mostFor_24 : decode cX5_mostFor 24 = .ok (.if_icmp .gt 40, 3) := by decide +kernel
theorem dX5_mostFor_27 : decode cX5_mostFor 27 = .ok (.lload 5, 2) := by decide +kernel
theorem dX5_mostFor_29 : decode cX5_mostFor 29 = .ok (.iload 7, 2) := by decide +kernel
theorem dX5_mostFor_31 : decode cX5_mostFor 31 = .ok (.i2l, 1) := by decide +kernel
theorem dX5_mostFor_32 : decode cX5_mostFor 32 = .ok (.aload_n 0, 1) := by decide +kernel
theorem dX5_mostFor_33 : decode cX5_mostFor 33 = .ok (.iload 4, 2) := by decide +kernel
theorem dX5_mostFor_35 : decode cX5_mostFor 35 = .ok (.invokevirtual 34, 3) := by decide +kernel
theorem dX5_mostFor_38 : decode cX5_mostFor 38 = .ok (.aload_n 0, 1) := by decide +kernel
theorem dX5_mostFor_39 : decode cX5_mostFor 39 = .ok (.getfield 37, 3) := by decide +kernel
theorem dX5_mostFor_42 : decode cX5_mostFor 42 = .ok (.isub, 1) := by decide +kernel
theorem dX5_mostFor_43 : decode cX5_mostFor 43 = .ok (.aload_n 0, 1) := by decide +kernel
theorem dX5_mostFor_44 : decode cX5_mostFor 44 = .ok (.getfield 40, 3) := by decide +kernel
theorem dX5_mostFor_47 : decode cX5_mostFor 47 = .ok (.iload 7, 2) := by decide +kernel
theorem dX5_mostFor_49 : decode cX5_mostFor 49 = .ok (.imul, 1) := by decide +kernel
theorem dX5_mostFor_50 : decode cX5_mostFor 50 = .ok (.isub, 1) := by decide +kernel
theorem dX5_mostFor_51 : decode cX5_mostFor 51 = .ok (.i2l, 1) := by decide +kernel
theorem dX5_mostFor_52 : decode cX5_mostFor 52 = .ok (.lmul, 1) := by decide +kernel
theorem dX5_mostFor_53 : decode cX5_mostFor 53 = .ok (.invokestatic 43, 3) := by decide +kernel
theorem dX5_mostFor_56 : decode cX5_mostFor 56 = .ok (.lstore 5, 2) := by decide +kernel
theorem dX5_mostFor_58 : decode cX5_mostFor 58 = .ok (.iinc 7 1, 3) := by decide +kernel
theorem dX5_mostFor_61 : decode cX5_mostFor 61 = .ok (.goto (-40), 3) := by decide +kernel
theorem dX5_mostFor_64 : decode cX5_mostFor 64 = .ok (.lload_n 2, 1) := by decide +kernel
theorem dX5_mostFor_65 : decode cX5_mostFor 65 = .ok (.aload_n 0, 1) := by decide +kernel
theorem dX5_mostFor_66 : decode cX5_mostFor 66 = .ok (.iload 4, 2) := by decide +kernel
theorem dX5_mostFor_68 : decode cX5_mostFor 68 = .ok (.invokevirtual 31, 3) := by decide +kernel
theorem dX5_mostFor_71 : decode cX5_mostFor 71 = .ok (.i2l, 1) := by decide +kernel
theorem dX5_mostFor_72 : decode cX5_mostFor 72 = .ok (.lload 5, 2) := by decide +kernel
theorem dX5_mostFor_74 : decode cX5_mostFor 74 = .ok (.lmul, 1) := by decide +kernel
theorem dX5_mostFor_75 : decode cX5_mostFor 75 = .ok (.ladd, 1) := by decide +kernel
theorem dX5_mostFor_76 : decode cX5_mostFor 76 = .ok (.lstore_n 2, 1) := by decide +kernel
theorem dX5_mostFor_77 : decode cX5_mostFor 77 = .ok (.iinc 4 1, 3) := by decide +kernel
theorem dX5_mostFor_80 : decode cX5_mostFor 80 = .ok (.goto (-75), 3) := by decide +kernel
theorem dX5_mostFor_83 : decode cX5_mostFor 83 = .ok (.lload_n 2, 1) := by decide +kernel
theorem dX5_mostFor_84 : decode cX5_mostFor 84 = .ok (.lreturn, 1) := by decide +kernel
theorem dX5_mixedInto_0 : decode cX5_mixedInto 0 = .ok (.lload_n 1, 1) := by decide +kernel
theorem dX5_mixedInto_1 : decode cX5_mixedInto 1 = .ok (.aload_n 0, 1) := by decide +kernel
theorem dX5_mixedInto_2 : decode cX5_mixedInto 2 = .ok (.getfield 37, 3) := by decide +kernel
theorem dX5_mixedInto_5 : decode cX5_mixedInto 5 = .ok (.i2l, 1) := by decide +kernel
theorem dX5_mixedInto_6 : decode cX5_mixedInto 6 = .ok (.invokestatic 49, 3) := by decide +kernel
theorem dX5_mixedInto_9 : decode cX5_mixedInto 9 = .ok (.aload_n 0, 1) := by decide +kernel
theorem dX5_mixedInto_10 : decode cX5_mixedInto 10 = .ok (.getfield 40, 3) := by decide +kernel
theorem dX5_mixedInto_13 : decode cX5_mixedInto 13 = .ok (.i2l, 1) := by decide +kernel
theorem dX5_mixedInto_14 : decode cX5_mixedInto 14 = .ok (.invokestatic 49, 3) := by decide +kernel
theorem dX5_mixedInto_17 : decode cX5_mixedInto 17 = .ok (.lstore_n 3, 1) := by decide +kernel
theorem dX5_mixedInto_18 : decode cX5_mixedInto 18 = .ok (.iconst 0, 1) := by decide +kernel
theorem dX5_mixedInto_19 : decode cX5_mixedInto 19 = .ok (.istore 5, 2) := by decide +kernel
theorem dX5_mixedInto_21 : decode cX5_mixedInto 21 = .ok (.iload 5, 2) := by decide +kernel
theorem dX5_mixedInto_23 : decode cX5_mixedInto 23 = .ok (.aload_n 0, 1) := by decide +kernel
theorem dX5_mixedInto_24 : decode cX5_mixedInto 24 = .ok (.getfield 18, 3) := by decide +kernel
theorem dX5_mixedInto_27 : decode cX5_mixedInto 27 = .ok (.if_icmp .ge 31, 3) := by decide +kernel
theorem dX5_mixedInto_30 : decode cX5_mixedInto 30 = .ok (.lload_n 3, 1) := by decide +kernel
theorem dX5_mixedInto_31 : decode cX5_mixedInto 31 = .ok (.aload_n 0, 1) := by decide +kernel
theorem dX5_mixedInto_32 : decode cX5_mixedInto 32 = .ok (.iload 5, 2) := by decide +kernel
theorem dX5_mixedInto_34 : decode cX5_mixedInto 34 = .ok (.invokevirtual 31, 3) := by decide +kernel
theorem dX5_mixedInto_37 : decode cX5_mixedInto 37 = .ok (.i2l, 1) := by decide +kernel
theorem dX5_mixedInto_38 : decode cX5_mixedInto 38 = .ok (.invokestatic 49, 3) := by decide +kernel
theorem dX5_mixedInto_41 : decode cX5_mixedInto 41 = .ok (.aload_n 0, 1) := by decide +kernel
theorem dX5_mixedInto_42 : decode cX5_mixedInto 42 = .ok (.iload 5, 2) := by decide +kernel
theorem dX5_mixedInto_44 : decode cX5_mixedInto 44 = .ok (.invokevirtual 34, 3) := by decide +kernel
theorem dX5_mixedInto_47 : decode cX5_mixedInto 47 = .ok (.i2l, 1) := by decide +kernel
theorem dX5_mixedInto_48 : decode cX5_mixedInto 48 = .ok (.invokestatic 49, 3) := by decide +kernel
theorem dX5_mixedInto_51 : decode cX5_mixedInto 51 = .ok (.lstore_n 3, 1) := by decide +kernel
theorem dX5_mixedInto_52 : decode cX5_mixedInto 52 = .ok (.iinc 5 1, 3) := by decide +kernel
theorem dX5_mixedInto_55 : decode cX5_mixedInto 55 = .ok (.goto (-34), 3) := by decide +kernel
theorem dX5_mixedInto_58 : decode cX5_mixedInto 58 = .ok (.lload_n 3, 1) := by decide +kernel
theorem dX5_mixedInto_59 : decode cX5_mixedInto 59 = .ok (.lreturn, 1) := by decide +kernel
theorem dX6_init_0 : decode cX6_init 0 = .ok (.aload_n 0, 1) := by decide +kernel
theorem dX6_init_1 : decode cX6_init 1 = .ok (.invokespecial 3, 3) := by decide +kernel
theorem dX6_init_4 : decode cX6_init 4 = .ok (.aload_n 0, 1) := by decide +kernel
theorem dX6_init_5 : decode cX6_init 5 = .ok (.iload_n 1, 1) := by decide +kernel
theorem dX6_init_6 : decode cX6_init 6 = .ok (.putfield 9, 3) := by decide +kernel
theorem dX6_init_9 : decode cX6_init 9 = .ok (.aload_n 0, 1) := by decide +kernel
theorem dX6_init_10 : decode cX6_init 10 = .ok (.iload_n 2, 1) := by decide +kernel
theorem dX6_init_11 : decode cX6_init 11 = .ok (.putfield 15, 3) := by decide +kernel
theorem dX6_init_14 : decode cX6_init 14 = .ok (.return_, 1) := by decide +kernel
theorem dX6_ofKind_0 : decode cX6_ofKind 0 = .ok (.iload_n 0, 1) := by decide +kernel
theorem dX6_ofKind_1 : decode cX6_ofKind 1 = .ok (.tableswitch 71 1 4 #[31, 41, 51, 61], 31) := by decide +kernel
theorem dX6_ofKind_32 : decode cX6_ofKind 32 = .ok (.new 18, 3) := by decide +kernel
theorem dX6_ofKind_35 : decode cX6_ofKind 35 = .ok (.dup, 1) := by decide +kernel
theorem dX6_ofKind_36 : decode cX6_ofKind 36 = .ok (.iload_n 0, 1) := by decide +kernel
theorem dX6_ofKind_37 : decode cX6_ofKind 37 = .ok (.iload_n 1, 1) := by decide +kernel
theorem dX6_ofKind_38 : decode cX6_ofKind 38 = .ok (.invokespecial 20, 3) := by decide +kernel
theorem dX6_ofKind_41 : decode cX6_ofKind 41 = .ok (.areturn, 1) := by decide +kernel
theorem dX6_ofKind_42 : decode cX6_ofKind 42 = .ok (.new 23, 3) := by decide +kernel
theorem dX6_ofKind_45 : decode cX6_ofKind 45 = .ok (.dup, 1) := by decide +kernel
theorem dX6_ofKind_46 : decode cX6_ofKind 46 = .ok (.iload_n 0, 1) := by decide +kernel
theorem dX6_ofKind_47 : decode cX6_ofKind 47 = .ok (.iload_n 1, 1) := by decide +kernel
theorem dX6_ofKind_48 : decode cX6_ofKind 48 = .ok (.invokespecial 25, 3) := by decide +kernel
theorem dX6_ofKind_51 : decode cX6_ofKind 51 = .ok (.areturn, 1) := by decide +kernel
theorem dX6_ofKind_52 : decode cX6_ofKind 52 = .ok (.new 26, 3) := by decide +kernel
theorem dX6_ofKind_55 : decode cX6_ofKind 55 = .ok (.dup, 1) := by decide +kernel
theorem dX6_ofKind_56 : decode cX6_ofKind 56 = .ok (.iload_n 0, 1) := by decide +kernel
theorem dX6_ofKind_57 : decode cX6_ofKind 57 = .ok (.iload_n 1, 1) := by decide +kernel
theorem dX6_ofKind_58 : decode cX6_ofKind 58 = .ok (.invokespecial 28, 3) := by decide +kernel
theorem dX6_ofKind_61 : decode cX6_ofKind 61 = .ok (.areturn, 1) := by decide +kernel
theorem dX6_ofKind_62 : decode cX6_ofKind 62 = .ok (.new 29, 3) := by decide +kernel
theorem dX6_ofKind_65 : decode cX6_ofKind 65 = .ok (.dup, 1) := by decide +kernel
theorem dX6_ofKind_66 : decode cX6_ofKind 66 = .ok (.iload_n 0, 1) := by decide +kernel
theorem dX6_ofKind_67 : decode cX6_ofKind 67 = .ok (.iload_n 1, 1) := by decide +kernel
theorem dX6_ofKind_68 : decode cX6_ofKind 68 = .ok (.invokespecial 31, 3) := by decide +kernel
theorem dX6_ofKind_71 : decode cX6_ofKind 71 = .ok (.areturn, 1) := by decide +kernel
theorem dX6_ofKind_72 : decode cX6_ofKind 72 = .ok (.new 10, 3) := by decide +kernel
theorem dX6_ofKind_75 : decode cX6_ofKind 75 = .ok (.dup, 1) := by decide +kernel
theorem dX6_ofKind_76 : decode cX6_ofKind 76 = .ok (.iload_n 0, 1) := by decide +kernel
theorem dX6_ofKind_77 : decode cX6_ofKind 77 = .ok (.iload_n 1, 1) := by decide +kernel
theorem dX6_ofKind_78 : decode cX6_ofKind 78 = .ok (.invokespecial 32, 3) := by decide +kernel
theorem dX6_ofKind_81 : decode cX6_ofKind 81 = .ok (.areturn, 1) := by decide +kernel
theorem dX6_mostOf_0 : decode cX6_mostOf 0 = .ok (.iload_n 0, 1) := by decide +kernel
theorem dX6_mostOf_1 : decode cX6_mostOf 1 = .ok (.iconst 3, 1) := by decide +kernel
theorem dX6_mostOf_2 : decode cX6_mostOf 2 = .ok (.if_icmp .eq 8, 3) := by decide +kernel
theorem dX6_mostOf_5 : decode cX6_mostOf 5 = .ok (.iload_n 0, 1) := by decide +kernel
theorem dX6_mostOf_6 : decode cX6_mostOf 6 = .ok (.iconst 4, 1) := by decide +kernel
theorem dX6_mostOf_7 : decode cX6_mostOf 7 = .ok (.if_icmp .ne 8, 3) := by decide +kernel
theorem dX6_mostOf_10 : decode cX6_mostOf 10 = .ok (.bipush 100, 2) := by decide +kernel
theorem dX6_mostOf_12 : decode cX6_mostOf 12 = .ok (.goto 6, 3) := by decide +kernel
theorem dX6_mostOf_15 : decode cX6_mostOf 15 = .ok (.sipush 255, 3) := by decide +kernel
theorem dX6_mostOf_18 : decode cX6_mostOf 18 = .ok (.ireturn, 1) := by decide +kernel
theorem dX6_wholeOf_0 : decode cX6_wholeOf 0 = .ok (.bipush 100, 2) := by decide +kernel
theorem dX6_wholeOf_2 : decode cX6_wholeOf 2 = .ok (.iconst 1, 1) := by decide +kernel
theorem dX6_wholeOf_3 : decode cX6_wholeOf 3 = .ok (.iload_n 0, 1) := by decide +kernel
theorem dX6_wholeOf_4 : decode cX6_wholeOf 4 = .ok (.iconst 1, 1) := by decide +kernel
theorem dX6_wholeOf_5 : decode cX6_wholeOf 5 = .ok (.isub, 1) := by decide +kernel
theorem dX6_wholeOf_6 : decode cX6_wholeOf 6 = .ok (.invokestatic 33, 3) := by decide +kernel
theorem dX6_wholeOf_9 : decode cX6_wholeOf 9 = .ok (.imul, 1) := by decide +kernel
theorem dX6_wholeOf_10 : decode cX6_wholeOf 10 = .ok (.ireturn, 1) := by decide +kernel
theorem dX6_isOf_0 : decode cX6_isOf 0 = .ok (.iload_n 1, 1) := by decide +kernel
theorem dX6_isOf_1 : decode cX6_isOf 1 = .ok (.tableswitch 57 0 4 #[35, 37, 42, 47, 52], 35) := by decide +kernel
theorem dX6_isOf_36 : decode cX6_isOf 36 = .ok (.iconst 1, 1) := by decide +kernel
theorem dX6_isOf_37 : decode cX6_isOf 37 = .ok (.ireturn, 1) := by decide +kernel
theorem dX6_isOf_38 : decode cX6_isOf 38 = .ok (.aload_n 0, 1) := by decide +kernel
theorem dX6_isOf_39 : decode cX6_isOf 39 = .ok (.instanceof 18, 3) := by decide +kernel
theorem dX6_isOf_42 : decode cX6_isOf 42 = .ok (.ireturn, 1) := by decide +kernel
theorem dX6_isOf_43 : decode cX6_isOf 43 = .ok (.aload_n 0, 1) := by decide +kernel
theorem dX6_isOf_44 : decode cX6_isOf 44 = .ok (.instanceof 23, 3) := by decide +kernel
theorem dX6_isOf_47 : decode cX6_isOf 47 = .ok (.ireturn, 1) := by decide +kernel
theorem dX6_isOf_48 : decode cX6_isOf 48 = .ok (.aload_n 0, 1) := by decide +kernel
theorem dX6_isOf_49 : decode cX6_isOf 49 = .ok (.instanceof 26, 3) := by decide +kernel
theorem dX6_isOf_52 : decode cX6_isOf 52 = .ok (.ireturn, 1) := by decide +kernel
theorem dX6_isOf_53 : decode cX6_isOf 53 = .ok (.aload_n 0, 1) := by decide +kernel
theorem dX6_isOf_54 : decode cX6_isOf 54 = .ok (.instanceof 29, 3) := by decide +kernel
theorem dX6_isOf_57 : decode cX6_isOf 57 = .ok (.ireturn, 1) := by decide +kernel
theorem dX6_isOf_58 : decode cX6_isOf 58 = .ok (.iconst 0, 1) := by decide +kernel
theorem dX6_isOf_59 : decode cX6_isOf 59 = .ok (.ireturn, 1) := by decide +kernel
theorem dX6_signOf_0 : decode cX6_signOf 0 = .ok (.iconst 0, 1) := by decide +kernel
theorem dX6_signOf_1 : decode cX6_signOf 1 = .ok (.ireturn, 1) := by decide +kernel
theorem dX6_share_0 : decode cX6_share 0 = .ok (.iload_n 2, 1) := by decide +kernel
theorem dX6_share_1 : decode cX6_share 1 = .ok (.aload_n 0, 1) := by decide +kernel
theorem dX6_share_2 : decode cX6_share 2 = .ok (.iload_n 1, 1) := by decide +kernel
theorem dX6_share_3 : decode cX6_share 3 = .ok (.invokevirtual 39, 3) := by decide +kernel
theorem dX6_share_6 : decode cX6_share 6 = .ok (.if_icmp .ne 10, 3) := by decide +kernel
theorem dX6_share_9 : decode cX6_share 9 = .ok (.iload_n 3, 1) := by decide +kernel
theorem dX6_share_10 : decode cX6_share 10 = .ok (.invokestatic 43, 3) := by decide +kernel
theorem dX6_share_13 : decode cX6_share 13 = .ok (.goto 4, 3) := by decide +kernel
theorem dX6_share_16 : decode cX6_share 16 = .ok (.iconst 0, 1) := by decide +kernel
theorem dX6_share_17 : decode cX6_share 17 = .ok (.ireturn, 1) := by decide +kernel
theorem dX6_hears_0 : decode cX6_hears 0 = .ok (.aload_n 0, 1) := by decide +kernel
theorem dX6_hears_1 : decode cX6_hears 1 = .ok (.iload_n 1, 1) := by decide +kernel
theorem dX6_hears_2 : decode cX6_hears 2 = .ok (.invokevirtual 39, 3) := by decide +kernel
theorem dX6_hears_5 : decode cX6_hears 5 = .ok (.ireturn, 1) := by decide +kernel
theorem dX6_nearer_0 : decode cX6_nearer 0 = .ok (.iconst 0, 1) := by decide +kernel
theorem dX6_nearer_1 : decode cX6_nearer 1 = .ok (.ireturn, 1) := by decide +kernel
theorem dX7_init_0 : decode cX7_init 0 = .ok (.aload_n 0, 1) := by decide +kernel
theorem dX7_init_1 : decode cX7_init 1 = .ok (.invokespecial 3, 3) := by decide +kernel
theorem dX7_init_4 : decode cX7_init 4 = .ok (.aload_n 0, 1) := by decide +kernel
theorem dX7_init_5 : decode cX7_init 5 = .ok (.bipush 60, 2) := by decide +kernel
theorem dX7_init_7 : decode cX7_init 7 = .ok (.newarray .int, 2) := by decide +kernel
theorem dX7_init_9 : decode cX7_init 9 = .ok (.putfield 9, 3) := by decide +kernel
theorem dX7_init_12 : decode cX7_init 12 = .ok (.return_, 1) := by decide +kernel
theorem dX7_lettersIn_0 : decode cX7_lettersIn 0 = .ok (.iconst 0, 1) := by decide +kernel
theorem dX7_lettersIn_1 : decode cX7_lettersIn 1 = .ok (.istore_n 2, 1) := by decide +kernel
theorem dX7_lettersIn_2 : decode cX7_lettersIn 2 = .ok (.iconst 0, 1) := by decide +kernel
theorem dX7_lettersIn_3 : decode cX7_lettersIn 3 = .ok (.istore_n 3, 1) := by decide +kernel
theorem dX7_lettersIn_4 : decode cX7_lettersIn 4 = .ok (.iload_n 3, 1) := by decide +kernel
theorem dX7_lettersIn_5 : decode cX7_lettersIn 5 = .ok (.bipush 8, 2) := by decide +kernel
theorem dX7_lettersIn_7 : decode cX7_lettersIn 7 = .ok (.if_icmp .ge 48, 3) := by decide +kernel
theorem dX7_lettersIn_10 : decode cX7_lettersIn 10 = .ok (.lload_n 0, 1) := by decide +kernel
theorem dX7_lettersIn_11 : decode cX7_lettersIn 11 = .ok (.iload_n 3, 1) := by decide +kernel
theorem dX7_lettersIn_12 : decode cX7_lettersIn 12 = .ok (.invokestatic 15, 3) := by decide +kernel
theorem dX7_lettersIn_15 : decode cX7_lettersIn 15 = .ok (.istore 4, 2) := by decide +kernel
theorem dX7_lettersIn_17 : decode cX7_lettersIn 17 = .ok (.iload 4, 2) := by decide +kernel
theorem dX7_lettersIn_19 : decode cX7_lettersIn 19 = .ok (.bipush 126, 2) := by decide +kernel
theorem dX7_lettersIn_21 : decode cX7_lettersIn 21 = .ok (.if_icmp .gt 13, 3) := by decide +kernel
theorem dX7_lettersIn_24 : decode cX7_lettersIn 24 = .ok (.iload 4, 2) := by decide +kernel
theorem dX7_lettersIn_26 : decode cX7_lettersIn 26 = .ok (.ifCond .eq 10, 3) := by decide +kernel
theorem dX7_lettersIn_29 : decode cX7_lettersIn 29 = .ok (.iload_n 2, 1) := by decide +kernel
theorem dX7_lettersIn_30 : decode cX7_lettersIn 30 = .ok (.iload_n 3, 1) := by decide +kernel
theorem dX7_lettersIn_31 : decode cX7_lettersIn 31 = .ok (.if_icmp .ge 5, 3) := by decide +kernel
theorem dX7_lettersIn_34 : decode cX7_lettersIn 34 = .ok (.iconst (-1), 1) := by decide +kernel
theorem dX7_lettersIn_35 : decode cX7_lettersIn 35 = .ok (.ireturn, 1) := by decide +kernel
theorem dX7_lettersIn_36 : decode cX7_lettersIn 36 = .ok (.iload_n 2, 1) := by decide +kernel
theorem dX7_lettersIn_37 : decode cX7_lettersIn 37 = .ok (.iload 4, 2) := by decide +kernel
theorem dX7_lettersIn_39 : decode cX7_lettersIn 39 = .ok (.ifCond .eq 7, 3) := by decide +kernel
theorem dX7_lettersIn_42 : decode cX7_lettersIn 42 = .ok (.iconst 1, 1) := by decide +kernel
theorem dX7_lettersIn_43 : decode cX7_lettersIn 43 = .ok (.goto 4, 3) := by decide +kernel
theorem dX7_lettersIn_46 : decode cX7_lettersIn 46 = .ok (.iconst 0, 1) := by decide +kernel
theorem dX7_lettersIn_47 : decode cX7_lettersIn 47 = .ok (.iadd, 1) := by decide +kernel
theorem dX7_lettersIn_48 : decode cX7_lettersIn 48 = .ok (.istore_n 2, 1) := by decide +kernel
theorem dX7_lettersIn_49 : decode cX7_lettersIn 49 = .ok (.iinc 3 1, 3) := by decide +kernel
theorem dX7_lettersIn_52 : decode cX7_lettersIn 52 = .ok (.goto (-48), 3) := by decide +kernel
theorem dX7_lettersIn_55 : decode cX7_lettersIn 55 = .ok (.iload_n 2, 1) := by decide +kernel
theorem dX7_lettersIn_56 : decode cX7_lettersIn 56 = .ok (.ireturn, 1) := by decide +kernel
theorem dX7_letterOf_0 : decode cX7_letterOf 0 = .ok (.lload_n 0, 1) := by decide +kernel
theorem dX7_letterOf_1 : decode cX7_letterOf 1 = .ok (.bipush 8, 2) := by decide +kernel
theorem dX7_letterOf_3 : decode cX7_letterOf 3 = .ok (.iload_n 2, 1) := by decide +kernel
theorem dX7_letterOf_4 : decode cX7_letterOf 4 = .ok (.imul, 1) := by decide +kernel
theorem dX7_letterOf_5 : decode cX7_letterOf 5 = .ok (.lushr, 1) := by decide +kernel
theorem dX7_letterOf_6 : decode cX7_letterOf 6 = .ok (.ldc2_w 19, 3) := by decide +kernel
theorem dX7_letterOf_9 : decode cX7_letterOf 9 = .ok (.land, 1) := by decide +kernel
theorem dX7_letterOf_10 : decode cX7_letterOf 10 = .ok (.l2i, 1) := by decide +kernel
theorem dX7_letterOf_11 : decode cX7_letterOf 11 = .ok (.ireturn, 1) := by decide +kernel
theorem dX7_append_0 : decode cX7_append 0 = .ok (.aload_n 0, 1) := by decide +kernel
theorem dX7_append_1 : decode cX7_append 1 = .ok (.getfield 21, 3) := by decide +kernel
theorem dX7_append_4 : decode cX7_append 4 = .ok (.ifCond .lt 17, 3) := by decide +kernel
theorem dX7_append_7 : decode cX7_append 7 = .ok (.iload_n 3, 1) := by decide +kernel
theorem dX7_append_8 : decode cX7_append 8 = .ok (.aload_n 0, 1) := by decide +kernel
theorem dX7_append_9 : decode cX7_append 9 = .ok (.getfield 9, 3) := by decide +kernel
theorem dX7_append_12 : decode cX7_append 12 = .ok (.arraylength, 1) := by decide +kernel
theorem dX7_append_13 : decode cX7_append 13 = .ok (.aload_n 0, 1) := by decide +kernel
theorem dX7_append_14 : decode cX7_append 14 = .ok (.getfield 21, 3) := by decide +kernel
theorem dX7_append_17 : decode cX7_append 17 = .ok (.isub, 1) := by decide +kernel
theorem dX7_append_18 : decode cX7_append 18 = .ok (.if_icmp .le 5, 3) := by decide +kernel
theorem dX7_append_21 : decode cX7_append 21 = .ok (.iconst 0, 1) := by decide +kernel
theorem dX7_append_22 : decode cX7_append 22 = .ok (.ireturn, 1) := by decide +kernel
theorem dX7_append_23 : decode cX7_append 23 = .ok (.iconst 0, 1) := by decide +kernel
theorem dX7_append_24 : decode cX7_append 24 = .ok (.istore 4, 2) := by decide +kernel
theorem dX7_append_26 : decode cX7_append 26 = .ok (.iload 4, 2) := by decide +kernel
theorem dX7_append_28 : decode cX7_append 28 = .ok (.iload_n 3, 1) := by decide +kernel
theorem dX7_append_29 : decode cX7_append 29 = .ok (.if_icmp .ge 46, 3) := by decide +kernel
theorem dX7_append_32 : decode cX7_append 32 = .ok (.aload_n 0, 1) := by decide +kernel
theorem dX7_append_33 : decode cX7_append 33 = .ok (.getfield 21, 3) := by decide +kernel
theorem dX7_append_36 : decode cX7_append 36 = .ok (.aload_n 0, 1) := by decide +kernel
theorem dX7_append_37 : decode cX7_append 37 = .ok (.getfield 9, 3) := by decide +kernel
theorem dX7_append_40 : decode cX7_append 40 = .ok (.arraylength, 1) := by decide +kernel
theorem dX7_append_41 : decode cX7_append 41 = .ok (.if_icmp .ge 34, 3) := by decide +kernel
theorem dX7_append_44 : decode cX7_append 44 = .ok (.aload_n 0, 1) := by decide +kernel
theorem dX7_append_45 : decode cX7_append 45 = .ok (.getfield 9, 3) := by decide +kernel
theorem dX7_append_48 : decode cX7_append 48 = .ok (.aload_n 0, 1) := by decide +kernel
theorem dX7_append_49 : decode cX7_append 49 = .ok (.getfield 21, 3) := by decide +kernel
theorem dX7_append_52 : decode cX7_append 52 = .ok (.lload_n 1, 1) := by decide +kernel
theorem dX7_append_53 : decode cX7_append 53 = .ok (.iload 4, 2) := by decide +kernel
theorem dX7_append_55 : decode cX7_append 55 = .ok (.invokestatic 15, 3) := by decide +kernel
theorem dX7_append_58 : decode cX7_append 58 = .ok (.iastore, 1) := by decide +kernel
theorem dX7_append_59 : decode cX7_append 59 = .ok (.aload_n 0, 1) := by decide +kernel
theorem dX7_append_60 : decode cX7_append 60 = .ok (.dup, 1) := by decide +kernel
theorem dX7_append_61 : decode cX7_append 61 = .ok (.getfield 21, 3) := by decide +kernel
theorem dX7_append_64 : decode cX7_append 64 = .ok (.iconst 1, 1) := by decide +kernel
theorem dX7_append_65 : decode cX7_append 65 = .ok (.iadd, 1) := by decide +kernel
theorem dX7_append_66 : decode cX7_append 66 = .ok (.putfield 21, 3) := by decide +kernel
theorem dX7_append_69 : decode cX7_append 69 = .ok (.iinc 4 1, 3) := by decide +kernel
theorem dX7_append_72 : decode cX7_append 72 = .ok (.goto (-46), 3) := by decide +kernel
theorem dX7_append_75 : decode cX7_append 75 = .ok (.iconst 1, 1) := by decide +kernel
theorem dX7_append_76 : decode cX7_append 76 = .ok (.ireturn, 1) := by decide +kernel
theorem dX7_readInto_0 : decode cX7_readInto 0 = .ok (.aload_n 0, 1) := by decide +kernel
theorem dX7_readInto_1 : decode cX7_readInto 1 = .ok (.iconst 0, 1) := by decide +kernel
theorem dX7_readInto_2 : decode cX7_readInto 2 = .ok (.putfield 25, 3) := by decide +kernel
theorem dX7_readInto_5 : decode cX7_readInto 5 = .ok (.aload_n 1, 1) := by decide +kernel
theorem dX7_readInto_6 : decode cX7_readInto 6 = .ok (.iconst 0, 1) := by decide +kernel
theorem dX7_readInto_7 : decode cX7_readInto 7 = .ok (.putfield 28, 3) := by decide +kernel
theorem dX7_readInto_10 : decode cX7_readInto 10 = .ok (.aload_n 1, 1) := by decide +kernel
theorem dX7_readInto_11 : decode cX7_readInto 11 = .ok (.iconst 0, 1) := by decide +kernel
theorem dX7_readInto_12 : decode cX7_readInto 12 = .ok (.putfield 33, 3) := by decide +kernel
theorem dX7_readInto_15 : decode cX7_readInto 15 = .ok (.aload_n 0, 1) := by decide +kernel
theorem dX7_readInto_16 : decode cX7_readInto 16 = .ok (.bipush 112, 2) := by decide +kernel
theorem dX7_readInto_18 : decode cX7_readInto 18 = .ok (.invokevirtual 36, 3) := by decide +kernel
theorem dX7_readInto_21 : decode cX7_readInto 21 = .ok (.ifCond .ne 5, 3) := by decide +kernel
theorem dX7_readInto_24 : decode cX7_readInto 24 = .ok (.iconst 0, 1) := by decide +kernel
theorem dX7_readInto_25 : decode cX7_readInto 25 = .ok (.ireturn, 1) := by decide +kernel
theorem dX7_readInto_26 : decode cX7_readInto 26 = .ok (.aload_n 1, 1) := by decide +kernel
theorem dX7_readInto_27 : decode cX7_readInto 27 = .ok (.aload_n 0, 1) := by decide +kernel
theorem dX7_readInto_28 : decode cX7_readInto 28 = .ok (.iconst 3, 1) := by decide +kernel
theorem dX7_readInto_29 : decode cX7_readInto 29 = .ok (.bipush 48, 2) := by decide +kernel
theorem dX7_readInto_31 : decode cX7_readInto 31 = .ok (.invokevirtual 40, 3) := by decide +kernel
theorem dX7_readInto_34 : decode cX7_readInto 34 = .ok (.putfield 44, 3) := by decide +kernel
theorem dX7_readInto_37 : decode cX7_readInto 37 = .ok (.aload_n 1, 1) := by decide +kernel
theorem dX7_readInto_38 : decode cX7_readInto 38 = .ok (.getfield 44, 3) := by decide +kernel
theorem dX7_readInto_41 : decode cX7_readInto 41 = .ok (.iconst (-1), 1) := by decide +kernel
theorem dX7_readInto_42 : decode cX7_readInto 42 = .ok (.if_icmp .eq 12, 3) := by decide +kernel
theorem dX7_readInto_45 : decode cX7_readInto 45 = .ok (.aload_n 0, 1) := by decide +kernel
theorem dX7_readInto_46 : decode cX7_readInto 46 = .ok (.bipush 115, 2) := by decide +kernel
theorem dX7_readInto_48 : decode cX7_readInto 48 = .ok (.invokevirtual 36, 3) := by decide +kernel
theorem dX7_readInto_51 : decode cX7_readInto 51 = .ok (.ifCond .ne 5, 3) := by decide +kernel
theorem dX7_readInto_54 : decode cX7_readInto 54 = .ok (.iconst 0, 1) := by decide +kernel
theorem dX7_readInto_55 : decode cX7_readInto 55 = .ok (.ireturn, 1) := by decide +kernel
theorem dX7_readInto_56 : decode cX7_readInto 56 = .ok (.aload_n 1, 1) := by decide +kernel
theorem dX7_readInto_57 : decode cX7_readInto 57 = .ok (.aload_n 0, 1) := by decide +kernel
theorem dX7_readInto_58 : decode cX7_readInto 58 = .ok (.iconst 1, 1) := by decide +kernel
theorem dX7_readInto_59 : decode cX7_readInto 59 = .ok (.bipush 49, 2) := by decide +kernel
theorem dX7_readInto_61 : decode cX7_readInto 61 = .ok (.invokevirtual 40, 3) := by decide +kernel
theorem dX7_readInto_64 : decode cX7_readInto 64 = .ok (.putfield 47, 3) := by decide +kernel
theorem dX7_readInto_67 : decode cX7_readInto 67 = .ok (.aload_n 1, 1) := by decide +kernel
theorem dX7_readInto_68 : decode cX7_readInto 68 = .ok (.getfield 47, 3) := by decide +kernel
theorem dX7_readInto_71 : decode cX7_readInto 71 = .ok (.iconst (-1), 1) := by decide +kernel
theorem dX7_readInto_72 : decode cX7_readInto 72 = .ok (.if_icmp .ne 5, 3) := by decide +kernel
theorem dX7_readInto_75 : decode cX7_readInto 75 = .ok (.iconst 0, 1) := by decide +kernel
theorem dX7_readInto_76 : decode cX7_readInto 76 = .ok (.ireturn, 1) := by decide +kernel
theorem dX7_readInto_77 : decode cX7_readInto 77 = .ok (.iconst 0, 1) := by decide +kernel
theorem dX7_readInto_78 : decode cX7_readInto 78 = .ok (.istore_n 2, 1) := by decide +kernel
theorem dX7_readInto_79 : decode cX7_readInto 79 = .ok (.iload_n 2, 1) := by decide +kernel
theorem dX7_readInto_80 : decode cX7_readInto 80 = .ok (.iconst 4, 1) := by decide +kernel
theorem dX7_readInto_81 : decode cX7_readInto 81 = .ok (.if_icmp .ge 69, 3) := by decide +kernel
theorem dX7_readInto_84 : decode cX7_readInto 84 = .ok (.aload_n 0, 1) := by decide +kernel
theorem dX7_readInto_85 : decode cX7_readInto 85 = .ok (.bipush 59, 2) := by decide +kernel
theorem dX7_readInto_87 : decode cX7_readInto 87 = .ok (.invokevirtual 36, 3) := by decide +kernel
theorem dX7_readInto_90 : decode cX7_readInto 90 = .ok (.ifCond .eq 60, 3) := by decide +kernel
theorem dX7_readInto_93 : decode cX7_readInto 93 = .ok (.aload_n 0, 1) := by decide +kernel
theorem dX7_readInto_94 : decode cX7_readInto 94 = .ok (.iconst 2, 1) := by decide +kernel
theorem dX7_readInto_95 : decode cX7_readInto 95 = .ok (.bipush 49, 2) := by decide +kernel
theorem dX7_readInto_97 : decode cX7_readInto 97 = .ok (.invokevirtual 40, 3) := by decide +kernel
theorem dX7_readInto_100 : decode cX7_readInto 100 = .ok (.istore_n 3, 1) := by decide +kernel
theorem dX7_readInto_101 : decode cX7_readInto 101 = .ok (.iload_n 3, 1) := by decide +kernel
theorem dX7_readInto_102 : decode cX7_readInto 102 = .ok (.iconst (-1), 1) := by decide +kernel
theorem dX7_readInto_103 : decode cX7_readInto 103 = .ok (.if_icmp .eq 12, 3) := by decide +kernel
theorem dX7_readInto_106 : decode cX7_readInto 106 = .ok (.aload_n 0, 1) := by decide +kernel
theorem dX7_readInto_107 : decode cX7_readInto 107 = .ok (.bipush 58, 2) := by decide +kernel
theorem dX7_readInto_109 : decode cX7_readInto 109 = .ok (.invokevirtual 36, 3) := by decide +kernel
theorem dX7_readInto_112 : decode cX7_readInto 112 = .ok (.ifCond .ne 5, 3) := by decide +kernel
theorem dX7_readInto_115 : decode cX7_readInto 115 = .ok (.iconst 0, 1) := by decide +kernel
theorem dX7_readInto_116 : decode cX7_readInto 116 = .ok (.ireturn, 1) := by decide +kernel
theorem dX7_readInto_117 : decode cX7_readInto 117 = .ok (.aload_n 0, 1) := by decide +kernel
theorem dX7_readInto_118 : decode cX7_readInto 118 = .ok (.iconst 3, 1) := by decide +kernel
theorem dX7_readInto_119 : decode cX7_readInto 119 = .ok (.bipush 48, 2) := by decide +kernel
theorem dX7_readInto_121 : decode cX7_readInto 121 = .ok (.invokevirtual 40, 3) := by decide +kernel
theorem dX7_readInto_124 : decode cX7_readInto 124 = .ok (.istore 4, 2) := by decide +kernel
theorem dX7_readInto_126 : decode cX7_readInto 126 = .ok (.iload 4, 2) := by decide +kernel
theorem dX7_readInto_128 : decode cX7_readInto 128 = .ok (.iconst (-1), 1) := by decide +kernel
theorem dX7_readInto_129 : decode cX7_readInto 129 = .ok (.if_icmp .eq 13, 3) := by decide +kernel
theorem dX7_readInto_132 : decode cX7_readInto 132 = .ok (.aload_n 1, 1) := by decide +kernel
theorem dX7_readInto_133 : decode cX7_readInto 133 = .ok (.iload_n 3, 1) := by decide +kernel
theorem dX7_readInto_134 : decode cX7_readInto 134 = .ok (.iload 4, 2) := by decide +kernel
theorem dX7_readInto_136 : decode cX7_readInto 136 = .ok (.invokevirtual 50, 3) := by decide +kernel
theorem dX7_readInto_139 : decode cX7_readInto 139 = .ok (.ifCond .ne 5, 3) := by decide +kernel
theorem dX7_readInto_142 : decode cX7_readInto 142 = .ok (.iconst 0, 1) := by decide +kernel
theorem dX7_readInto_143 : decode cX7_readInto 143 = .ok (.ireturn, 1) := by decide +kernel
theorem dX7_readInto_144 : decode cX7_readInto 144 = .ok (.iinc 2 1, 3) := by decide +kernel
theorem dX7_readInto_147 : decode cX7_readInto 147 = .ok (.goto (-68), 3) := by decide +kernel
theorem dX7_readInto_150 : decode cX7_readInto 150 = .ok (.aload_n 1, 1) := by decide +kernel
theorem dX7_readInto_151 : decode cX7_readInto 151 = .ok (.getfield 28, 3) := by decide +kernel
theorem dX7_readInto_154 : decode cX7_readInto 154 = .ok (.ifCond .le 18, 3) := by decide +kernel
theorem dX7_readInto_157 : decode cX7_readInto 157 = .ok (.aload_n 0, 1) := by decide +kernel
theorem dX7_readInto_158 : decode cX7_readInto 158 = .ok (.getfield 25, 3) := by decide +kernel
theorem dX7_readInto_161 : decode cX7_readInto 161 = .ok (.aload_n 0, 1) := by decide +kernel
theorem dX7_readInto_162 : decode cX7_readInto 162 = .ok (.getfield 21, 3) := by decide +kernel
theorem dX7_readInto_165 : decode cX7_readInto 165 = .ok (.if_icmp .ne 7, 3) := by decide +kernel
theorem dX7_readInto_168 : decode cX7_readInto 168 = .ok (.iconst 1, 1) := by decide +kernel
theorem dX7_readInto_169 : decode cX7_readInto 169 = .ok (.goto 4, 3) := by decide +kernel
theorem dX7_readInto_172 : decode cX7_readInto 172 = .ok (.iconst 0, 1) := by decide +kernel
theorem dX7_readInto_173 : decode cX7_readInto 173 = .ok (.ireturn, 1) := by decide +kernel
theorem dX7_letterHere_0 : decode cX7_letterHere 0 = .ok (.aload_n 0, 1) := by decide +kernel
theorem dX7_letterHere_1 : decode cX7_letterHere 1 = .ok (.getfield 25, 3) := by decide +kernel
theorem dX7_letterHere_4 : decode cX7_letterHere 4 = .ok (.ifCond .lt 38, 3) := by decide +kernel
theorem dX7_letterHere_7 : decode cX7_letterHere 7 = .ok (.aload_n 0, 1) := by decide +kernel
theorem dX7_letterHere_8 : decode cX7_letterHere 8 = .ok (.getfield 25, 3) := by decide +kernel
theorem dX7_letterHere_11 : decode cX7_letterHere 11 = .ok (.aload_n 0, 1) := by decide +kernel
theorem dX7_letterHere_12 : decode cX7_letterHere 12 = .ok (.getfield 21, 3) := by decide +kernel
theorem dX7_letterHere_15 : decode cX7_letterHere 15 = .ok (.if_icmp .ge 27, 3) := by decide +kernel
theorem dX7_letterHere_18 : decode cX7_letterHere 18 = .ok (.aload_n 0, 1) := by decide +kernel
theorem dX7_letterHere_19 : decode cX7_letterHere 19 = .ok (.getfield 25, 3) := by decide +kernel
theorem dX7_letterHere_22 : decode cX7_letterHere 22 = .ok (.aload_n 0, 1) := by decide +kernel
theorem dX7_letterHere_23 : decode cX7_letterHere 23 = .ok (.getfield 9, 3) := by decide +kernel
theorem dX7_letterHere_26 : decode cX7_letterHere 26 = .ok (.arraylength, 1) := by decide +kernel
theorem dX7_letterHere_27 : decode cX7_letterHere 27 = .ok (.if_icmp .ge 15, 3) := by decide +kernel
theorem dX7_letterHere_30 : decode cX7_letterHere 30 = .ok (.aload_n 0, 1) := by decide +kernel
theorem dX7_letterHere_31 : decode cX7_letterHere 31 = .ok (.getfield 9, 3) := by decide +kernel
theorem dX7_letterHere_34 : decode cX7_letterHere 34 = .ok (.aload_n 0, 1) := by decide +kernel
theorem dX7_letterHere_35 : decode cX7_letterHere 35 = .ok (.getfield 25, 3) := by decide +kernel
theorem dX7_letterHere_38 : decode cX7_letterHere 38 = .ok (.iaload, 1) := by decide +kernel
theorem dX7_letterHere_39 : decode cX7_letterHere 39 = .ok (.goto 4, 3) := by decide +kernel
theorem dX7_letterHere_42 : decode cX7_letterHere 42 = .ok (.iconst 0, 1) := by decide +kernel
theorem dX7_letterHere_43 : decode cX7_letterHere 43 = .ok (.ireturn, 1) := by decide +kernel
theorem dX7_reads_0 : decode cX7_reads 0 = .ok (.aload_n 0, 1) := by decide +kernel
theorem dX7_reads_1 : decode cX7_reads 1 = .ok (.invokevirtual 54, 3) := by decide +kernel
theorem dX7_reads_4 : decode cX7_reads 4 = .ok (.iload_n 1, 1) := by decide +kernel
theorem dX7_reads_5 : decode cX7_reads 5 = .ok (.if_icmp .ne 7, 3) := by decide +kernel
theorem dX7_reads_8 : decode cX7_reads 8 = .ok (.iconst 1, 1) := by decide +kernel
theorem dX7_reads_9 : decode cX7_reads 9 = .ok (.goto 4, 3) := by decide +kernel
theorem dX7_reads_12 : decode cX7_reads 12 = .ok (.iconst 0, 1) := by decide +kernel
theorem dX7_reads_13 : decode cX7_reads 13 = .ok (.istore_n 2, 1) := by decide +kernel
theorem dX7_reads_14 : decode cX7_reads 14 = .ok (.aload_n 0, 1) := by decide +kernel
theorem dX7_reads_15 : decode cX7_reads 15 = .ok (.dup, 1) := by decide +kernel
theorem dX7_reads_16 : decode cX7_reads 16 = .ok (.getfield 25, 3) := by decide +kernel
theorem dX7_reads_19 : decode cX7_reads 19 = .ok (.iload_n 2, 1) := by decide +kernel
theorem dX7_reads_20 : decode cX7_reads 20 = .ok (.ifCond .eq 7, 3) := by decide +kernel
theorem dX7_reads_23 : decode cX7_reads 23 = .ok (.iconst 1, 1) := by decide +kernel
theorem dX7_reads_24 : decode cX7_reads 24 = .ok (.goto 4, 3) := by decide +kernel
theorem dX7_reads_27 : decode cX7_reads 27 = .ok (.iconst 0, 1) := by decide +kernel
theorem dX7_reads_28 : decode cX7_reads 28 = .ok (.iadd, 1) := by decide +kernel
theorem dX7_reads_29 : decode cX7_reads 29 = .ok (.putfield 25, 3) := by decide +kernel
theorem dX7_reads_32 : decode cX7_reads 32 = .ok (.iload_n 2, 1) := by decide +kernel
theorem dX7_reads_33 : decode cX7_reads 33 = .ok (.ireturn, 1) := by decide +kernel
theorem dX7_readNumber_0 : decode cX7_readNumber 0 = .ok (.iconst (-1), 1) := by decide +kernel
theorem dX7_readNumber_1 : decode cX7_readNumber 1 = .ok (.istore_n 3, 1) := by decide +kernel
theorem dX7_readNumber_2 : decode cX7_readNumber 2 = .ok (.iconst 0, 1) := by decide +kernel
theorem dX7_readNumber_3 : decode cX7_readNumber 3 = .ok (.istore 4, 2) := by decide +kernel
theorem dX7_readNumber_5 : decode cX7_readNumber 5 = .ok (.iload 4, 2) := by decide +kernel
theorem dX7_readNumber_7 : decode cX7_readNumber 7 = .ok (.iload_n 1, 1) := by decide +kernel
theorem dX7_readNumber_8 : decode cX7_readNumber 8 = .ok (.if_icmp .ge 70, 3) := by decide +kernel
theorem dX7_readNumber_11 : decode cX7_readNumber 11 = .ok (.aload_n 0, 1) := by decide +kernel
theorem dX7_readNumber_12 : decode cX7_readNumber 12 = .ok (.invokevirtual 54, 3) := by decide +kernel
theorem dX7_readNumber_15 : decode cX7_readNumber 15 = .ok (.istore 5, 2) := by decide +kernel
theorem dX7_readNumber_17 : decode cX7_readNumber 17 = .ok (.iload 5, 2) := by decide +kernel
theorem dX7_readNumber_19 : decode cX7_readNumber 19 = .ok (.iload 4, 2) := by decide +kernel
theorem dX7_readNumber_21 : decode cX7_readNumber 21 = .ok (.ifCond .ne 7, 3) := by decide +kernel
theorem dX7_readNumber_24 : decode cX7_readNumber 24 = .ok (.iload_n 2, 1) := by decide +kernel
theorem dX7_readNumber_25 : decode cX7_readNumber 25 = .ok (.goto 5, 3) := by decide +kernel
theorem dX7_readNumber_28 : decode cX7_readNumber 28 = .ok (.bipush 48, 2) := by decide +kernel
theorem dX7_readNumber_30 : decode cX7_readNumber 30 = .ok (.if_icmp .lt 10, 3) := by decide +kernel
theorem dX7_readNumber_33 : decode cX7_readNumber 33 = .ok (.iload 5, 2) := by decide +kernel
theorem dX7_readNumber_35 : decode cX7_readNumber 35 = .ok (.bipush 57, 2) := by decide +kernel
theorem dX7_readNumber_37 : decode cX7_readNumber 37 = .ok (.if_icmp .le 5, 3) := by decide +kernel
theorem dX7_readNumber_40 : decode cX7_readNumber 40 = .ok (.iload_n 3, 1) := by decide +kernel
theorem dX7_readNumber_41 : decode cX7_readNumber 41 = .ok (.ireturn, 1) := by decide +kernel
theorem dX7_readNumber_42 : decode cX7_readNumber 42 = .ok (.iload 4, 2) := by decide +kernel
theorem dX7_readNumber_44 : decode cX7_readNumber 44 = .ok (.ifCond .ne 7, 3) := by decide +kernel
theorem dX7_readNumber_47 : decode cX7_readNumber 47 = .ok (.iconst 0, 1) := by decide +kernel
theorem dX7_readNumber_48 : decode cX7_readNumber 48 = .ok (.goto 7, 3) := by decide +kernel
theorem dX7_readNumber_51 : decode cX7_readNumber 51 = .ok (.iload_n 3, 1) := by decide +kernel
theorem dX7_readNumber_52 : decode cX7_readNumber 52 = .ok (.bipush 10, 2) := by decide +kernel
theorem dX7_readNumber_54 : decode cX7_readNumber 54 = .ok (.imul, 1) := by decide +kernel
theorem dX7_readNumber_55 : decode cX7_readNumber 55 = .ok (.iload 5, 2) := by decide +kernel
theorem dX7_readNumber_57 : decode cX7_readNumber 57 = .ok (.iadd, 1) := by decide +kernel
theorem dX7_readNumber_58 : decode cX7_readNumber 58 = .ok (.bipush 48, 2) := by decide +kernel
theorem dX7_readNumber_60 : decode cX7_readNumber 60 = .ok (.isub, 1) := by decide +kernel
theorem dX7_readNumber_61 : decode cX7_readNumber 61 = .ok (.istore_n 3, 1) := by decide +kernel
theorem dX7_readNumber_62 : decode cX7_readNumber 62 = .ok (.aload_n 0, 1) := by decide +kernel
theorem dX7_readNumber_63 : decode cX7_readNumber 63 = .ok (.dup, 1) := by decide +kernel
theorem dX7_readNumber_64 : decode cX7_readNumber 64 = .ok (.getfield 25, 3) := by decide +kernel
theorem dX7_readNumber_67 : decode cX7_readNumber 67 = .ok (.iconst 1, 1) := by decide +kernel
theorem dX7_readNumber_68 : decode cX7_readNumber 68 = .ok (.iadd, 1) := by decide +kernel
theorem dX7_readNumber_69 : decode cX7_readNumber 69 = .ok (.putfield 25, 3) := by decide +kernel
theorem dX7_readNumber_72 : decode cX7_readNumber 72 = .ok (.iinc 4 1, 3) := by decide +kernel
theorem dX7_readNumber_75 : decode cX7_readNumber 75 = .ok (.goto (-70), 3) := by decide +kernel
theorem dX7_readNumber_78 : decode cX7_readNumber 78 = .ok (.iload_n 3, 1) := by decide +kernel
theorem dX7_readNumber_79 : decode cX7_readNumber 79 = .ok (.ireturn, 1) := by decide +kernel
theorem dX7_mixedInto_0 : decode cX7_mixedInto 0 = .ok (.lload_n 1, 1) := by decide +kernel
theorem dX7_mixedInto_1 : decode cX7_mixedInto 1 = .ok (.lstore_n 3, 1) := by decide +kernel
theorem dX7_mixedInto_2 : decode cX7_mixedInto 2 = .ok (.iconst 0, 1) := by decide +kernel
theorem dX7_mixedInto_3 : decode cX7_mixedInto 3 = .ok (.istore 5, 2) := by decide +kernel
theorem dX7_mixedInto_5 : decode cX7_mixedInto 5 = .ok (.iload 5, 2) := by decide +kernel
theorem dX7_mixedInto_7 : decode cX7_mixedInto 7 = .ok (.aload_n 0, 1) := by decide +kernel
theorem dX7_mixedInto_8 : decode cX7_mixedInto 8 = .ok (.getfield 21, 3) := by decide +kernel
theorem dX7_mixedInto_11 : decode cX7_mixedInto 11 = .ok (.if_icmp .ge 32, 3) := by decide +kernel
theorem dX7_mixedInto_14 : decode cX7_mixedInto 14 = .ok (.iload 5, 2) := by decide +kernel
theorem dX7_mixedInto_16 : decode cX7_mixedInto 16 = .ok (.aload_n 0, 1) := by decide +kernel
theorem dX7_mixedInto_17 : decode cX7_mixedInto 17 = .ok (.getfield 9, 3) := by decide +kernel
theorem dX7_mixedInto_20 : decode cX7_mixedInto 20 = .ok (.arraylength, 1) := by decide +kernel
theorem dX7_mixedInto_21 : decode cX7_mixedInto 21 = .ok (.if_icmp .ge 22, 3) := by decide +kernel
theorem dX7_mixedInto_24 : decode cX7_mixedInto 24 = .ok (.lload_n 3, 1) := by decide +kernel
theorem dX7_mixedInto_25 : decode cX7_mixedInto 25 = .ok (.aload_n 0, 1) := by decide +kernel
theorem dX7_mixedInto_26 : decode cX7_mixedInto 26 = .ok (.getfield 9, 3) := by decide +kernel
theorem dX7_mixedInto_29 : decode cX7_mixedInto 29 = .ok (.iload 5, 2) := by decide +kernel
theorem dX7_mixedInto_31 : decode cX7_mixedInto 31 = .ok (.iaload, 1) := by decide +kernel
theorem dX7_mixedInto_32 : decode cX7_mixedInto 32 = .ok (.i2l, 1) := by decide +kernel
theorem dX7_mixedInto_33 : decode cX7_mixedInto 33 = .ok (.invokestatic 58, 3) := by decide +kernel
theorem dX7_mixedInto_36 : decode cX7_mixedInto 36 = .ok (.lstore_n 3, 1) := by decide +kernel
theorem dX7_mixedInto_37 : decode cX7_mixedInto 37 = .ok (.iinc 5 1, 3) := by decide +kernel
theorem dX7_mixedInto_40 : decode cX7_mixedInto 40 = .ok (.goto (-35), 3) := by decide +kernel
theorem dX7_mixedInto_43 : decode cX7_mixedInto 43 = .ok (.lload_n 3, 1) := by decide +kernel
theorem dX7_mixedInto_44 : decode cX7_mixedInto 44 = .ok (.lreturn, 1) := by decide +kernel
theorem dX8_init_0 : decode cX8_init 0 = .ok (.aload_n 0, 1) := by decide +kernel
theorem dX8_init_1 : decode cX8_init 1 = .ok (.iload_n 1, 1) := by decide +kernel
theorem dX8_init_2 : decode cX8_init 2 = .ok (.iload_n 2, 1) := by decide +kernel
theorem dX8_init_3 : decode cX8_init 3 = .ok (.invokespecial 1, 3) := by decide +kernel
theorem dX8_init_6 : decode cX8_init 6 = .ok (.return_, 1) := by decide +kernel
theorem dX8_signOf_0 : decode cX8_signOf 0 = .ok (.aload_n 0, 1) := by decide +kernel
theorem dX8_signOf_1 : decode cX8_signOf 1 = .ok (.getfield 7, 3) := by decide +kernel
theorem dX8_signOf_4 : decode cX8_signOf 4 = .ok (.iconst 2, 1) := by decide +kernel
theorem dX8_signOf_5 : decode cX8_signOf 5 = .ok (.iload_n 1, 1) := by decide +kernel
theorem dX8_signOf_6 : decode cX8_signOf 6 = .ok (.imul, 1) := by decide +kernel
theorem dX8_signOf_7 : decode cX8_signOf 7 = .ok (.ishr, 1) := by decide +kernel
theorem dX8_signOf_8 : decode cX8_signOf 8 = .ok (.iconst 3, 1) := by decide +kernel
theorem dX8_signOf_9 : decode cX8_signOf 9 = .ok (.iand, 1) := by decide +kernel
theorem dX8_signOf_10 : decode cX8_signOf 10 = .ok (.ireturn, 1) := by decide +kernel
theorem dX9_init_0 : decode cX9_init 0 = .ok (.aload_n 0, 1) := by decide +kernel
theorem dX9_init_1 : decode cX9_init 1 = .ok (.iload_n 1, 1) := by decide +kernel
theorem dX9_init_2 : decode cX9_init 2 = .ok (.iload_n 2, 1) := by decide +kernel
theorem dX9_init_3 : decode cX9_init 3 = .ok (.invokespecial 1, 3) := by decide +kernel
theorem dX9_init_6 : decode cX9_init 6 = .ok (.return_, 1) := by decide +kernel
theorem dX9_signOf_0 : decode cX9_signOf 0 = .ok (.iload_n 1, 1) := by decide +kernel
theorem dX9_signOf_1 : decode cX9_signOf 1 = .ok (.ireturn, 1) := by decide +kernel
theorem dX10_init_0 : decode cX10_init 0 = .ok (.aload_n 0, 1) := by decide +kernel
theorem dX10_init_1 : decode cX10_init 1 = .ok (.invokespecial 1, 3) := by decide +kernel
theorem dX10_init_4 : decode cX10_init 4 = .ok (.return_, 1) := by decide +kernel
theorem dX10_draw_0 : decode cX10_draw 0 = .ok (.aload_n 0, 1) := by decide +kernel
theorem dX10_draw_1 : decode cX10_draw 1 = .ok (.ldc2_w 7, 3) := by decide +kernel
theorem dX10_draw_4 : decode cX10_draw 4 = .ok (.aload_n 0, 1) := by decide +kernel
theorem dX10_draw_5 : decode cX10_draw 5 = .ok (.getfield 9, 3) := by decide +kernel
theorem dX10_draw_8 : decode cX10_draw 8 = .ok (.lmul, 1) := by decide +kernel
theorem dX10_draw_9 : decode cX10_draw 9 = .ok (.ldc2_w 15, 3) := by decide +kernel
theorem dX10_draw_12 : decode cX10_draw 12 = .ok (.ladd, 1) := by decide +kernel
theorem dX10_draw_13 : decode cX10_draw 13 = .ok (.ldc2_w 17, 3) := by decide +kernel
theorem dX10_draw_16 : decode cX10_draw 16 = .ok (.lrem, 1) := by decide +kernel
theorem dX10_draw_17 : decode cX10_draw 17 = .ok (.putfield 9, 3) := by decide +kernel
theorem dX10_draw_20 : decode cX10_draw 20 = .ok (.iload_n 1, 1) := by decide +kernel
theorem dX10_draw_21 : decode cX10_draw 21 = .ok (.iconst 1, 1) := by decide +kernel
theorem dX10_draw_22 : decode cX10_draw 22 = .ok (.if_icmp .ge 7, 3) := by decide +kernel
theorem dX10_draw_25 : decode cX10_draw 25 = .ok (.iconst 0, 1) := by decide +kernel
theorem dX10_draw_26 : decode cX10_draw 26 = .ok (.goto 15, 3) := by decide +kernel
theorem dX10_draw_29 : decode cX10_draw 29 = .ok (.aload_n 0, 1) := by decide +kernel
theorem dX10_draw_30 : decode cX10_draw 30 = .ok (.getfield 9, 3) := by decide +kernel
theorem dX10_draw_33 : decode cX10_draw 33 = .ok (.ldc2_w 19, 3) := by decide +kernel
theorem dX10_draw_36 : decode cX10_draw 36 = .ok (.ldiv, 1) := by decide +kernel
theorem dX10_draw_37 : decode cX10_draw 37 = .ok (.iload_n 1, 1) := by decide +kernel
theorem dX10_draw_38 : decode cX10_draw 38 = .ok (.i2l, 1) := by decide +kernel
theorem dX10_draw_39 : decode cX10_draw 39 = .ok (.lrem, 1) := by decide +kernel
theorem dX10_draw_40 : decode cX10_draw 40 = .ok (.l2i, 1) := by decide +kernel
theorem dX10_draw_41 : decode cX10_draw 41 = .ok (.ireturn, 1) := by decide +kernel
theorem dX11_init_0 : decode cX11_init 0 = .ok (.aload_n 0, 1) := by decide +kernel
theorem dX11_init_1 : decode cX11_init 1 = .ok (.invokespecial 1, 3) := by decide +kernel
theorem dX11_init_4 : decode cX11_init 4 = .ok (.aload_n 0, 1) := by decide +kernel
theorem dX11_init_5 : decode cX11_init 5 = .ok (.new 7, 3) := by decide +kernel
theorem dX11_init_8 : decode cX11_init 8 = .ok (.dup, 1) := by decide +kernel
theorem dX11_init_9 : decode cX11_init 9 = .ok (.invokespecial 9, 3) := by decide +kernel
theorem dX11_init_12 : decode cX11_init 12 = .ok (.putfield 10, 3) := by decide +kernel
theorem dX11_init_15 : decode cX11_init 15 = .ok (.aload_n 0, 1) := by decide +kernel
theorem dX11_init_16 : decode cX11_init 16 = .ok (.new 16, 3) := by decide +kernel
theorem dX11_init_19 : decode cX11_init 19 = .ok (.dup, 1) := by decide +kernel
theorem dX11_init_20 : decode cX11_init 20 = .ok (.invokespecial 18, 3) := by decide +kernel
theorem dX11_init_23 : decode cX11_init 23 = .ok (.putfield 19, 3) := by decide +kernel
theorem dX11_init_26 : decode cX11_init 26 = .ok (.aload_n 0, 1) := by decide +kernel
theorem dX11_init_27 : decode cX11_init 27 = .ok (.new 16, 3) := by decide +kernel
theorem dX11_init_30 : decode cX11_init 30 = .ok (.dup, 1) := by decide +kernel
theorem dX11_init_31 : decode cX11_init 31 = .ok (.invokespecial 18, 3) := by decide +kernel
theorem dX11_init_34 : decode cX11_init 34 = .ok (.putfield 23, 3) := by decide +kernel
theorem dX11_init_37 : decode cX11_init 37 = .ok (.aload_n 0, 1) := by decide +kernel
theorem dX11_init_38 : decode cX11_init 38 = .ok (.new 26, 3) := by decide +kernel
theorem dX11_init_41 : decode cX11_init 41 = .ok (.dup, 1) := by decide +kernel
theorem dX11_init_42 : decode cX11_init 42 = .ok (.invokespecial 28, 3) := by decide +kernel
theorem dX11_init_45 : decode cX11_init 45 = .ok (.putfield 29, 3) := by decide +kernel
theorem dX11_init_48 : decode cX11_init 48 = .ok (.aload_n 0, 1) := by decide +kernel
theorem dX11_init_49 : decode cX11_init 49 = .ok (.bipush 8, 2) := by decide +kernel
theorem dX11_init_51 : decode cX11_init 51 = .ok (.anewarray 33, 3) := by decide +kernel
theorem dX11_init_54 : decode cX11_init 54 = .ok (.putfield 35, 3) := by decide +kernel
theorem dX11_init_57 : decode cX11_init 57 = .ok (.aload_n 0, 1) := by decide +kernel
theorem dX11_init_58 : decode cX11_init 58 = .ok (.new 39, 3) := by decide +kernel
theorem dX11_init_61 : decode cX11_init 61 = .ok (.dup, 1) := by decide +kernel
theorem dX11_init_62 : decode cX11_init 62 = .ok (.invokespecial 41, 3) := by decide +kernel
theorem dX11_init_65 : decode cX11_init 65 = .ok (.putfield 42, 3) := by decide +kernel
theorem dX11_init_68 : decode cX11_init 68 = .ok (.aload_n 0, 1) := by decide +kernel
theorem dX11_init_69 : decode cX11_init 69 = .ok (.new 46, 3) := by decide +kernel
theorem dX11_init_72 : decode cX11_init 72 = .ok (.dup, 1) := by decide +kernel
theorem dX11_init_73 : decode cX11_init 73 = .ok (.aload_n 0, 1) := by decide +kernel
theorem dX11_init_74 : decode cX11_init 74 = .ok (.getfield 29, 3) := by decide +kernel
theorem dX11_init_77 : decode cX11_init 77 = .ok (.invokespecial 48, 3) := by decide +kernel
theorem dX11_init_80 : decode cX11_init 80 = .ok (.putfield 51, 3) := by decide +kernel
theorem dX11_init_83 : decode cX11_init 83 = .ok (.aload_n 0, 1) := by decide +kernel
theorem dX11_init_84 : decode cX11_init 84 = .ok (.new 55, 3) := by decide +kernel
theorem dX11_init_87 : decode cX11_init 87 = .ok (.dup, 1) := by decide +kernel
theorem dX11_init_88 : decode cX11_init 88 = .ok (.invokespecial 57, 3) := by decide +kernel
theorem dX11_init_91 : decode cX11_init 91 = .ok (.putfield 58, 3) := by decide +kernel
theorem dX11_init_94 : decode cX11_init 94 = .ok (.aload_n 0, 1) := by decide +kernel
theorem dX11_init_95 : decode cX11_init 95 = .ok (.sipush 128, 3) := by decide +kernel
theorem dX11_init_98 : decode cX11_init 98 = .ok (.newarray .boolean, 2) := by decide +kernel
theorem dX11_init_100 : decode cX11_init 100 = .ok (.putfield 62, 3) := by decide +kernel
theorem dX11_init_103 : decode cX11_init 103 = .ok (.aload_n 0, 1) := by decide +kernel
theorem dX11_init_104 : decode cX11_init 104 = .ok (.sipush 512, 3) := by decide +kernel
theorem dX11_init_107 : decode cX11_init 107 = .ok (.newarray .int, 2) := by decide +kernel
theorem dX11_init_109 : decode cX11_init 109 = .ok (.putfield 66, 3) := by decide +kernel
theorem dX11_init_112 : decode cX11_init 112 = .ok (.aload_n 0, 1) := by decide +kernel
theorem dX11_init_113 : decode cX11_init 113 = .ok (.sipush 512, 3) := by decide +kernel
theorem dX11_init_116 : decode cX11_init 116 = .ok (.newarray .long, 2) := by decide +kernel
theorem dX11_init_118 : decode cX11_init 118 = .ok (.putfield 70, 3) := by decide +kernel
theorem dX11_init_121 : decode cX11_init 121 = .ok (.return_, 1) := by decide +kernel
theorem dX11_letters_0 : decode cX11_letters 0 = .ok (.lload_n 1, 1) := by decide +kernel
theorem dX11_letters_1 : decode cX11_letters 1 = .ok (.invokestatic 74, 3) := by decide +kernel
theorem dX11_letters_4 : decode cX11_letters 4 = .ok (.istore_n 3, 1) := by decide +kernel
theorem dX11_letters_5 : decode cX11_letters 5 = .ok (.iload_n 3, 1) := by decide +kernel
theorem dX11_letters_6 : decode cX11_letters 6 = .ok (.ifCond .ge 6, 3) := by decide +kernel
theorem dX11_letters_9 : decode cX11_letters 9 = .ok (.bipush (-102), 2) := by decide +kernel
theorem dX11_letters_11 : decode cX11_letters 11 = .ok (.ireturn, 1) := by decide +kernel
theorem dX11_letters_12 : decode cX11_letters 12 = .ok (.aload_n 0, 1) := by decide +kernel
theorem dX11_letters_13 : decode cX11_letters 13 = .ok (.getfield 10, 3) := by decide +kernel
theorem dX11_letters_16 : decode cX11_letters 16 = .ok (.lload_n 1, 1) := by decide +kernel
theorem dX11_letters_17 : decode cX11_letters 17 = .ok (.iload_n 3, 1) := by decide +kernel
theorem dX11_letters_18 : decode cX11_letters 18 = .ok (.invokevirtual 78, 3) := by decide +kernel
theorem dX11_letters_21 : decode cX11_letters 21 = .ok (.ifCond .eq 13, 3) := by decide +kernel
theorem dX11_letters_24 : decode cX11_letters 24 = .ok (.aload_n 0, 1) := by decide +kernel
theorem dX11_letters_25 : decode cX11_letters 25 = .ok (.getfield 10, 3) := by decide +kernel
theorem dX11_letters_28 : decode cX11_letters 28 = .ok (.getfield 82, 3) := by decide +kernel
theorem dX11_letters_31 : decode cX11_letters 31 = .ok (.goto 5, 3) := by decide +kernel
theorem dX11_letters_34 : decode cX11_letters 34 = .ok (.bipush (-104), 2) := by decide +kernel
theorem dX11_letters_36 : decode cX11_letters 36 = .ok (.ireturn, 1) := by decide +kernel
theorem dX11_blank_0 : decode cX11_blank 0 = .ok (.aload_n 0, 1) := by decide +kernel
theorem dX11_blank_1 : decode cX11_blank 1 = .ok (.getfield 10, 3) := by decide +kernel
theorem dX11_blank_4 : decode cX11_blank 4 = .ok (.getfield 82, 3) := by decide +kernel
theorem dX11_blank_7 : decode cX11_blank 7 = .ok (.istore_n 1, 1) := by decide +kernel
theorem dX11_blank_8 : decode cX11_blank 8 = .ok (.aload_n 0, 1) := by decide +kernel
theorem dX11_blank_9 : decode cX11_blank 9 = .ok (.getfield 10, 3) := by decide +kernel
theorem dX11_blank_12 : decode cX11_blank 12 = .ok (.iconst 0, 1) := by decide +kernel
theorem dX11_blank_13 : decode cX11_blank 13 = .ok (.putfield 82, 3) := by decide +kernel
theorem dX11_blank_16 : decode cX11_blank 16 = .ok (.iload_n 1, 1) := by decide +kernel
theorem dX11_blank_17 : decode cX11_blank 17 = .ok (.ireturn, 1) := by decide +kernel
theorem dX11_fault_0 : decode cX11_fault 0 = .ok (.aload_n 0, 1) := by decide +kernel
theorem dX11_fault_1 : decode cX11_fault 1 = .ok (.getfield 10, 3) := by decide +kernel
theorem dX11_fault_4 : decode cX11_fault 4 = .ok (.aload_n 0, 1) := by decide +kernel
theorem dX11_fault_5 : decode cX11_fault 5 = .ok (.getfield 23, 3) := by decide +kernel
theorem dX11_fault_8 : decode cX11_fault 8 = .ok (.invokevirtual 86, 3) := by decide +kernel
theorem dX11_fault_11 : decode cX11_fault 11 = .ok (.pop, 1) := by decide +kernel
theorem dX11_fault_12 : decode cX11_fault 12 = .ok (.aload_n 0, 1) := by decide +kernel
theorem dX11_fault_13 : decode cX11_fault 13 = .ok (.getfield 10, 3) := by decide +kernel
theorem dX11_fault_16 : decode cX11_fault 16 = .ok (.getfield 90, 3) := by decide +kernel
theorem dX11_fault_19 : decode cX11_fault 19 = .ok (.ireturn, 1) := by decide +kernel
theorem dX11_market_0 : decode cX11_market 0 = .ok (.aload_n 0, 1) := by decide +kernel
theorem dX11_market_1 : decode cX11_market 1 = .ok (.getfield 10, 3) := by decide +kernel
theorem dX11_market_4 : decode cX11_market 4 = .ok (.aload_n 0, 1) := by decide +kernel
theorem dX11_market_5 : decode cX11_market 5 = .ok (.getfield 23, 3) := by decide +kernel
theorem dX11_market_8 : decode cX11_market 8 = .ok (.invokevirtual 86, 3) := by decide +kernel
theorem dX11_market_11 : decode cX11_market 11 = .ok (.ifCond .ne 6, 3) := by decide +kernel
theorem dX11_market_14 : decode cX11_market 14 = .ok (.bipush (-103), 2) := by decide +kernel
theorem dX11_market_16 : decode cX11_market 16 = .ok (.ireturn, 1) := by decide +kernel
theorem dX11_market_17 : decode cX11_market 17 = .ok (.aload_n 0, 1) := by decide +kernel
theorem dX11_market_18 : decode cX11_market 18 = .ok (.getfield 19, 3) := by decide +kernel
theorem dX11_market_21 : decode cX11_market 21 = .ok (.astore_n 1, 1) := by decide +kernel
theorem dX11_market_22 : decode cX11_market 22 = .ok (.aload_n 0, 1) := by decide +kernel
theorem dX11_market_23 : decode cX11_market 23 = .ok (.aload_n 0, 1) := by decide +kernel
theorem dX11_market_24 : decode cX11_market 24 = .ok (.getfield 23, 3) := by decide +kernel
theorem dX11_market_27 : decode cX11_market 27 = .ok (.putfield 19, 3) := by decide +kernel
theorem dX11_market_30 : decode cX11_market 30 = .ok (.aload_n 0, 1) := by decide +kernel
theorem dX11_market_31 : decode cX11_market 31 = .ok (.aload_n 1, 1) := by decide +kernel
theorem dX11_market_32 : decode cX11_market 32 = .ok (.putfield 23, 3) := by decide +kernel
theorem dX11_market_35 : decode cX11_market 35 = .ok (.aload_n 0, 1) := by decide +kernel
theorem dX11_market_36 : decode cX11_market 36 = .ok (.iconst 1, 1) := by decide +kernel
theorem dX11_market_37 : decode cX11_market 37 = .ok (.putfield 93, 3) := by decide +kernel
theorem dX11_market_40 : decode cX11_market 40 = .ok (.aload_n 0, 1) := by decide +kernel
theorem dX11_market_41 : decode cX11_market 41 = .ok (.getfield 10, 3) := by decide +kernel
theorem dX11_market_44 : decode cX11_market 44 = .ok (.iconst 0, 1) := by decide +kernel
theorem dX11_market_45 : decode cX11_market 45 = .ok (.putfield 82, 3) := by decide +kernel
theorem dX11_market_48 : decode cX11_market 48 = .ok (.aload_n 0, 1) := by decide +kernel
theorem dX11_market_49 : decode cX11_market 49 = .ok (.invokevirtual 97, 3) := by decide +kernel
theorem dX11_market_52 : decode cX11_market 52 = .ok (.aload_n 0, 1) := by decide +kernel
theorem dX11_market_53 : decode cX11_market 53 = .ok (.getfield 19, 3) := by decide +kernel
theorem dX11_market_56 : decode cX11_market 56 = .ok (.getfield 100, 3) := by decide +kernel
theorem dX11_market_59 : decode cX11_market 59 = .ok (.ireturn, 1) := by decide +kernel
theorem dX11_told_0 : decode cX11_told 0 = .ok (.aload_n 0, 1) := by decide +kernel
theorem dX11_told_1 : decode cX11_told 1 = .ok (.getfield 93, 3) := by decide +kernel
theorem dX11_told_4 : decode cX11_told 4 = .ok (.ifCond .eq 16, 3) := by decide +kernel
theorem dX11_told_7 : decode cX11_told 7 = .ok (.iload_n 1, 1) := by decide +kernel
theorem dX11_told_8 : decode cX11_told 8 = .ok (.iconst (-1), 1) := by decide +kernel
theorem dX11_told_9 : decode cX11_told 9 = .ok (.if_icmp .eq 14, 3) := by decide +kernel
theorem dX11_told_12 : decode cX11_told 12 = .ok (.aload_n 0, 1) := by decide +kernel
theorem dX11_told_13 : decode cX11_told 13 = .ok (.iload_n 1, 1) := by decide +kernel
theorem dX11_told_14 : decode cX11_told 14 = .ok (.invokevirtual 103, 3) := by decide +kernel
theorem dX11_told_17 : decode cX11_told 17 = .ok (.ifCond .ne 6, 3) := by decide +kernel
theorem dX11_told_20 : decode cX11_told 20 = .ok (.bipush (-101), 2) := by decide +kernel
theorem dX11_told_22 : decode cX11_told 22 = .ok (.ireturn, 1) := by decide +kernel
theorem dX11_told_23 : decode cX11_told 23 = .ok (.iload_n 2, 1) := by decide +kernel
theorem dX11_told_24 : decode cX11_told 24 = .ok (.ifCond .eq 11, 3) := by decide +kernel
theorem dX11_told_27 : decode cX11_told 27 = .ok (.iload_n 2, 1) := by decide +kernel
theorem dX11_told_28 : decode cX11_told 28 = .ok (.iconst 1, 1) := by decide +kernel
theorem dX11_told_29 : decode cX11_told 29 = .ok (.if_icmp .eq 6, 3) := by decide +kernel
theorem dX11_told_32 : decode cX11_told 32 = .ok (.bipush (-102), 2) := by decide +kernel
theorem dX11_told_34 : decode cX11_told 34 = .ok (.ireturn, 1) := by decide +kernel
theorem dX11_told_35 : decode cX11_told 35 = .ok (.iload_n 1, 1) := by decide +kernel
theorem dX11_told_36 : decode cX11_told 36 = .ok (.iconst (-1), 1) := by decide +kernel
theorem dX11_told_37 : decode cX11_told 37 = .ok (.if_icmp .ne 25, 3) := by decide +kernel
theorem dX11_told_40 : decode cX11_told 40 = .ok (.iload_n 2, 1) := by decide +kernel
theorem dX11_told_41 : decode cX11_told 41 = .ok (.ifCond .ne 13, 3) := by decide +kernel
theorem dX11_told_44 : decode cX11_told 44 = .ok (.aload_n 0, 1) := by decide +kernel
theorem dX11_told_45 : decode cX11_told 45 = .ok (.getfield 19, 3) := by decide +kernel
theorem dX11_told_48 : decode cX11_told 48 = .ok (.getfield 107, 3) := by decide +kernel
theorem dX11_told_51 : decode cX11_told 51 = .ok (.goto 10, 3) := by decide +kernel
theorem dX11_told_54 : decode cX11_told 54 = .ok (.aload_n 0, 1) := by decide +kernel
theorem dX11_told_55 : decode cX11_told 55 = .ok (.getfield 19, 3) := by decide +kernel
theorem dX11_told_58 : decode cX11_told 58 = .ok (.getfield 110, 3) := by decide +kernel
theorem dX11_told_61 : decode cX11_told 61 = .ok (.ireturn, 1) := by decide +kernel
theorem dX11_told_62 : decode cX11_told 62 = .ok (.iload_n 2, 1) := by decide +kernel
theorem dX11_told_63 : decode cX11_told 63 = .ok (.ifCond .ne 14, 3) := by decide +kernel
theorem dX11_told_66 : decode cX11_told 66 = .ok (.aload_n 0, 1) := by decide +kernel
theorem dX11_told_67 : decode cX11_told 67 = .ok (.getfield 19, 3) := by decide +kernel
theorem dX11_told_70 : decode cX11_told 70 = .ok (.iload_n 1, 1) := by decide +kernel
theorem dX11_told_71 : decode cX11_told 71 = .ok (.invokevirtual 113, 3) := by decide +kernel
theorem dX11_told_74 : decode cX11_told 74 = .ok (.goto 11, 3) := by decide +kernel
theorem dX11_told_77 : decode cX11_told 77 = .ok (.aload_n 0, 1) := by decide +kernel
theorem dX11_told_78 : decode cX11_told 78 = .ok (.getfield 19, 3) := by decide +kernel
theorem dX11_told_81 : decode cX11_told 81 = .ok (.iload_n 1, 1) := by decide +kernel
theorem dX11_told_82 : decode cX11_told 82 = .ok (.invokevirtual 117, 3) := by decide +kernel
theorem dX11_told_85 : decode cX11_told 85 = .ok (.ireturn, 1) := by decide +kernel
theorem dX11_buyer_0 : decode cX11_buyer 0 = .ok (.iload_n 1, 1) := by decide +kernel
theorem dX11_buyer_1 : decode cX11_buyer 1 = .ok (.invokestatic 120, 3) := by decide +kernel
theorem dX11_buyer_4 : decode cX11_buyer 4 = .ok (.ifCond .eq 10, 3) := by decide +kernel
theorem dX11_buyer_7 : decode cX11_buyer 7 = .ok (.iload_n 2, 1) := by decide +kernel
theorem dX11_buyer_8 : decode cX11_buyer 8 = .ok (.invokestatic 123, 3) := by decide +kernel
theorem dX11_buyer_11 : decode cX11_buyer 11 = .ok (.ifCond .ne 6, 3) := by decide +kernel
theorem dX11_buyer_14 : decode cX11_buyer 14 = .ok (.bipush (-102), 2) := by decide +kernel
theorem dX11_buyer_16 : decode cX11_buyer 16 = .ok (.ireturn, 1) := by decide +kernel
theorem dX11_buyer_17 : decode cX11_buyer 17 = .ok (.aload_n 0, 1) := by decide +kernel
theorem dX11_buyer_18 : decode cX11_buyer 18 = .ok (.getfield 29, 3) := by decide +kernel
theorem dX11_buyer_21 : decode cX11_buyer 21 = .ok (.iload_n 1, 1) := by decide +kernel
theorem dX11_buyer_22 : decode cX11_buyer 22 = .ok (.iload_n 2, 1) := by decide +kernel
theorem dX11_buyer_23 : decode cX11_buyer 23 = .ok (.invokevirtual 126, 3) := by decide +kernel
theorem dX11_buyer_26 : decode cX11_buyer 26 = .ok (.istore_n 3, 1) := by decide +kernel
theorem dX11_buyer_27 : decode cX11_buyer 27 = .ok (.iload_n 3, 1) := by decide +kernel
theorem dX11_buyer_28 : decode cX11_buyer 28 = .ok (.iconst (-1), 1) := by decide +kernel
theorem dX11_buyer_29 : decode cX11_buyer 29 = .ok (.if_icmp .ne 6, 3) := by decide +kernel
theorem dX11_buyer_32 : decode cX11_buyer 32 = .ok (.bipush (-104), 2) := by decide +kernel
theorem dX11_buyer_34 : decode cX11_buyer 34 = .ok (.ireturn, 1) := by decide +kernel
theorem dX11_buyer_35 : decode cX11_buyer 35 = .ok (.aload_n 0, 1) := by decide +kernel
theorem dX11_buyer_36 : decode cX11_buyer 36 = .ok (.invokevirtual 97, 3) := by decide +kernel
theorem dX11_buyer_39 : decode cX11_buyer 39 = .ok (.iload_n 3, 1) := by decide +kernel
theorem dX11_buyer_40 : decode cX11_buyer 40 = .ok (.ireturn, 1) := by decide +kernel
theorem dX11_change_0 : decode cX11_change 0 = .ok (.aload_n 0, 1) := by decide +kernel
theorem dX11_change_1 : decode cX11_change 1 = .ok (.getfield 29, 3) := by decide +kernel
theorem dX11_change_4 : decode cX11_change 4 = .ok (.iload_n 1, 1) := by decide +kernel
theorem dX11_change_5 : decode cX11_change 5 = .ok (.invokevirtual 129, 3) := by decide +kernel
theorem dX11_change_8 : decode cX11_change 8 = .ok (.ifCond .ne 6, 3) := by decide +kernel
theorem dX11_change_11 : decode cX11_change 11 = .ok (.bipush (-101), 2) := by decide +kernel
theorem dX11_change_13 : decode cX11_change 13 = .ok (.ireturn, 1) := by decide +kernel
theorem dX11_change_14 : decode cX11_change 14 = .ok (.iload_n 2, 1) := by decide +kernel
theorem dX11_change_15 : decode cX11_change 15 = .ok (.ifCond .ne 10, 3) := by decide +kernel
theorem dX11_change_18 : decode cX11_change 18 = .ok (.iload_n 3, 1) := by decide +kernel
theorem dX11_change_19 : decode cX11_change 19 = .ok (.invokestatic 120, 3) := by decide +kernel
theorem dX11_change_22 : decode cX11_change 22 = .ok (.ifCond .ne 15, 3) := by decide +kernel
theorem dX11_change_25 : decode cX11_change 25 = .ok (.iload_n 2, 1) := by decide +kernel
theorem dX11_change_26 : decode cX11_change 26 = .ok (.iconst 1, 1) := by decide +kernel
theorem dX11_change_27 : decode cX11_change 27 = .ok (.if_icmp .ne 14, 3) := by decide +kernel
theorem dX11_change_30 : decode cX11_change 30 = .ok (.iload_n 3, 1) := by decide +kernel
theorem dX11_change_31 : decode cX11_change 31 = .ok (.invokestatic 123, 3) := by decide +kernel
theorem dX11_change_34 : decode cX11_change 34 = .ok (.ifCond .eq 7, 3) := by decide +kernel
theorem dX11_change_37 : decode cX11_change 37 = .ok (.iconst 1, 1) := by decide +kernel
theorem dX11_change_38 : decode cX11_change 38 = .ok (.goto 4, 3) := by decide +kernel
theorem dX11_change_41 : decode cX11_change 41 = .ok (.iconst 0, 1) := by decide +kernel
theorem dX11_change_42 : decode cX11_change 42 = .ok (.istore 4, 2) := by decide +kernel
theorem dX11_change_44 : decode cX11_change 44 = .ok (.iload 4, 2) := by decide +kernel
theorem dX11_change_46 : decode cX11_change 46 = .ok (.ifCond .ne 6, 3) := by decide +kernel
theorem dX11_change_49 : decode cX11_change 49 = .ok (.bipush (-102), 2) := by decide +kernel
theorem dX11_change_51 : decode cX11_change 51 = .ok (.ireturn, 1) := by decide +kernel
theorem dX11_change_52 : decode cX11_change 52 = .ok (.aload_n 0, 1) := by decide +kernel
theorem dX11_change_53 : decode cX11_change 53 = .ok (.invokevirtual 97, 3) := by decide +kernel
theorem dX11_change_56 : decode cX11_change 56 = .ok (.iload_n 2, 1) := by decide +kernel
theorem dX11_change_57 : decode cX11_change 57 = .ok (.ifCond .ne 15, 3) := by decide +kernel
theorem dX11_change_60 : decode cX11_change 60 = .ok (.aload_n 0, 1) := by decide +kernel
theorem dX11_change_61 : decode cX11_change 61 = .ok (.getfield 29, 3) := by decide +kernel
theorem dX11_change_64 : decode cX11_change 64 = .ok (.iload_n 1, 1) := by decide +kernel
theorem dX11_change_65 : decode cX11_change 65 = .ok (.iload_n 3, 1) := by decide +kernel
theorem dX11_change_66 : decode cX11_change 66 = .ok (.invokevirtual 132, 3) := by decide +kernel
theorem dX11_change_69 : decode cX11_change 69 = .ok (.goto 12, 3) := by decide +kernel
theorem dX11_change_72 : decode cX11_change 72 = .ok (.aload_n 0, 1) := by decide +kernel
theorem dX11_change_73 : decode cX11_change 73 = .ok (.getfield 29, 3) := by decide +kernel
theorem dX11_change_76 : decode cX11_change 76 = .ok (.iload_n 1, 1) := by decide +kernel
theorem dX11_change_77 : decode cX11_change 77 = .ok (.iload_n 3, 1) := by decide +kernel
theorem dX11_change_78 : decode cX11_change 78 = .ok (.invokevirtual 135, 3) := by decide +kernel
theorem dX11_change_81 : decode cX11_change 81 = .ok (.ireturn, 1) := by decide +kernel
theorem dX11_news_0 : decode cX11_news 0 = .ok (.iload_n 1, 1) := by decide +kernel
theorem dX11_news_1 : decode cX11_news 1 = .ok (.ifCond .lt 20, 3) := by decide +kernel
theorem dX11_news_4 : decode cX11_news 4 = .ok (.iload_n 1, 1) := by decide +kernel
theorem dX11_news_5 : decode cX11_news 5 = .ok (.iconst 5, 1) := by decide +kernel
theorem dX11_news_6 : decode cX11_news 6 = .ok (.if_icmp .ge 15, 3) := by decide +kernel
theorem dX11_news_9 : decode cX11_news 9 = .ok (.iload_n 2, 1) := by decide +kernel
theorem dX11_news_10 : decode cX11_news 10 = .ok (.ifCond .lt 11, 3) := by decide +kernel
theorem dX11_news_13 : decode cX11_news 13 = .ok (.iload_n 2, 1) := by decide +kernel
theorem dX11_news_14 : decode cX11_news 14 = .ok (.iload_n 1, 1) := by decide +kernel
theorem dX11_news_15 : decode cX11_news 15 = .ok (.invokestatic 138, 3) := by decide +kernel
theorem dX11_news_18 : decode cX11_news 18 = .ok (.if_icmp .le 6, 3) := by decide +kernel
theorem dX11_news_21 : decode cX11_news 21 = .ok (.bipush (-102), 2) := by decide +kernel
theorem dX11_news_23 : decode cX11_news 23 = .ok (.ireturn, 1) := by decide +kernel
theorem dX11_news_24 : decode cX11_news 24 = .ok (.aload_n 0, 1) := by decide +kernel
theorem dX11_news_25 : decode cX11_news 25 = .ok (.getfield 141, 3) := by decide +kernel
theorem dX11_news_28 : decode cX11_news 28 = .ok (.ifCond .lt 15, 3) := by decide +kernel
theorem dX11_news_31 : decode cX11_news 31 = .ok (.aload_n 0, 1) := by decide +kernel
theorem dX11_news_32 : decode cX11_news 32 = .ok (.getfield 141, 3) := by decide +kernel
theorem dX11_news_35 : decode cX11_news 35 = .ok (.aload_n 0, 1) := by decide +kernel
theorem dX11_news_36 : decode cX11_news 36 = .ok (.getfield 35, 3) := by decide +kernel
theorem dX11_news_39 : decode cX11_news 39 = .ok (.arraylength, 1) := by decide +kernel
theorem dX11_news_40 : decode cX11_news 40 = .ok (.if_icmp .lt 6, 3) := by decide +kernel
theorem dX11_news_43 : decode cX11_news 43 = .ok (.bipush (-104), 2) := by decide +kernel
theorem dX11_news_45 : decode cX11_news 45 = .ok (.ireturn, 1) := by decide +kernel
theorem dX11_news_46 : decode cX11_news 46 = .ok (.aload_n 0, 1) := by decide +kernel
theorem dX11_news_47 : decode cX11_news 47 = .ok (.getfield 35, 3) := by decide +kernel
theorem dX11_news_50 : decode cX11_news 50 = .ok (.aload_n 0, 1) := by decide +kernel
theorem dX11_news_51 : decode cX11_news 51 = .ok (.getfield 141, 3) := by decide +kernel
theorem dX11_news_54 : decode cX11_news 54 = .ok (.iload_n 1, 1) := by decide +kernel
theorem dX11_news_55 : decode cX11_news 55 = .ok (.iload_n 2, 1) := by decide +kernel
theorem dX11_news_56 : decode cX11_news 56 = .ok (.invokestatic 144, 3) := by decide +kernel
theorem dX11_news_59 : decode cX11_news 59 = .ok (.aastore, 1) := by decide +kernel
theorem dX11_news_60 : decode cX11_news 60 = .ok (.aload_n 0, 1) := by decide +kernel
theorem dX11_news_61 : decode cX11_news 61 = .ok (.dup, 1) := by decide +kernel
theorem dX11_news_62 : decode cX11_news 62 = .ok (.getfield 141, 3) := by decide +kernel
theorem dX11_news_65 : decode cX11_news 65 = .ok (.dup_x1, 1) := by decide +kernel
theorem dX11_news_66 : decode cX11_news 66 = .ok (.iconst 1, 1) := by decide +kernel
theorem dX11_news_67 : decode cX11_news 67 = .ok (.iadd, 1) := by decide +kernel
theorem dX11_news_68 : decode cX11_news 68 = .ok (.putfield 141, 3) := by decide +kernel
theorem dX11_news_71 : decode cX11_news 71 = .ok (.ireturn, 1) := by decide +kernel
theorem dX11_as_0 : decode cX11_as 0 = .ok (.aload_n 0, 1) := by decide +kernel
theorem dX11_as_1 : decode cX11_as 1 = .ok (.iload_n 1, 1) := by decide +kernel
theorem dX11_as_2 : decode cX11_as 2 = .ok (.invokevirtual 148, 3) := by decide +kernel
theorem dX11_as_5 : decode cX11_as 5 = .ok (.astore_n 3, 1) := by decide +kernel
theorem dX11_as_6 : decode cX11_as 6 = .ok (.aload_n 3, 1) := by decide +kernel
theorem dX11_as_7 : decode cX11_as 7 = .ok (.ifnonnull 6, 3) := by decide +kernel
theorem dX11_as_10 : decode cX11_as 10 = .ok (.bipush (-101), 2) := by decide +kernel
theorem dX11_as_12 : decode cX11_as 12 = .ok (.ireturn, 1) := by decide +kernel
end
