section
-- ===== PART A: goes FIRST, ahead of the names: the tables' words, and 'selects' of the private methods out of them =====
/-- a private method of a class that the tables say can be made, by its rows of tables_1 -/
def lw_okq (q : MethodName × Nat) : Prop := (q.1.cls ≠ "java/lang/invoke/MethodHandle" ∧ q.1.cls ≠ "java/lang/invoke/VarHandle") ∧ Cond.instantiable q.1.cls q.2 ∈ tables_1 ∧ Cond.privateMethod q.1 ∈ tables_1 ∧ Cond.instanceMethod q.1 ∈ tables_1
theorem lw_p0 : lw_okq (⟨"TillNine$Street", "parse", "()V"⟩, 9) := ⟨⟨by decide +kernel, by decide +kernel⟩, List.mem_of_getElem? (i := 20) (by decide +kernel), List.mem_of_getElem? (i := 192) (by decide +kernel), List.mem_of_getElem? (i := 193) (by decide +kernel)⟩
theorem lw_p1 : lw_okq (⟨"TillNine$Street", "takePart", "()V"⟩, 9) := ⟨⟨by decide +kernel, by decide +kernel⟩, List.mem_of_getElem? (i := 20) (by decide +kernel), List.mem_of_getElem? (i := 196) (by decide +kernel), List.mem_of_getElem? (i := 197) (by decide +kernel)⟩
theorem lw_p2 : lw_okq (⟨"TillNine$Street", "next", "()I"⟩, 9) := ⟨⟨by decide +kernel, by decide +kernel⟩, List.mem_of_getElem? (i := 20) (by decide +kernel), List.mem_of_getElem? (i := 200) (by decide +kernel), List.mem_of_getElem? (i := 201) (by decide +kernel)⟩
theorem lw_p3 : lw_okq (⟨"TillNine$Street", "takeShop", "()V"⟩, 9) := ⟨⟨by decide +kernel, by decide +kernel⟩, List.mem_of_getElem? (i := 20) (by decide +kernel), List.mem_of_getElem? (i := 204) (by decide +kernel), List.mem_of_getElem? (i := 205) (by decide +kernel)⟩
theorem lw_p4 : lw_okq (⟨"TillNine$Street", "takeFigure", "()I"⟩, 9) := ⟨⟨by decide +kernel, by decide +kernel⟩, List.mem_of_getElem? (i := 20) (by decide +kernel), List.mem_of_getElem? (i := 208) (by decide +kernel), List.mem_of_getElem? (i := 209) (by decide +kernel)⟩
theorem lw_p5 : lw_okq (⟨"TillNine$Street", "fail", "(I)V"⟩, 9) := ⟨⟨by decide +kernel, by decide +kernel⟩, List.mem_of_getElem? (i := 20) (by decide +kernel), List.mem_of_getElem? (i := 212) (by decide +kernel), List.mem_of_getElem? (i := 213) (by decide +kernel)⟩
theorem lw_p6 : lw_okq (⟨"TillNine$Street", "takeSign", "(I)V"⟩, 9) := ⟨⟨by decide +kernel, by decide +kernel⟩, List.mem_of_getElem? (i := 20) (by decide +kernel), List.mem_of_getElem? (i := 216) (by decide +kernel), List.mem_of_getElem? (i := 217) (by decide +kernel)⟩
theorem lw_p7 : lw_okq (⟨"TillNine$Street", "takeNumber", "(II)I"⟩, 9) := ⟨⟨by decide +kernel, by decide +kernel⟩, List.mem_of_getElem? (i := 20) (by decide +kernel), List.mem_of_getElem? (i := 220) (by decide +kernel), List.mem_of_getElem? (i := 221) (by decide +kernel)⟩
theorem lw_p8 : lw_okq (⟨"TillNine$Street", "takeSort", "()V"⟩, 9) := ⟨⟨by decide +kernel, by decide +kernel⟩, List.mem_of_getElem? (i := 20) (by decide +kernel), List.mem_of_getElem? (i := 227) (by decide +kernel), List.mem_of_getElem? (i := 228) (by decide +kernel)⟩
theorem lw_p9 : lw_okq (⟨"TillNine$Street", "takeLiked", "()I"⟩, 9) := ⟨⟨by decide +kernel, by decide +kernel⟩, List.mem_of_getElem? (i := 20) (by decide +kernel), List.mem_of_getElem? (i := 231) (by decide +kernel), List.mem_of_getElem? (i := 232) (by decide +kernel)⟩
theorem lw_p10 : lw_okq (⟨"TillNine", "noShop", "(I)Z"⟩, 7) := ⟨⟨by decide +kernel, by decide +kernel⟩, List.mem_of_getElem? (i := 12) (by decide +kernel), List.mem_of_getElem? (i := 251) (by decide +kernel), List.mem_of_getElem? (i := 252) (by decide +kernel)⟩
theorem lw_p11 : lw_okq (⟨"TillNine", "sceneNow", "()LTillNine$Scene;"⟩, 7) := ⟨⟨by decide +kernel, by decide +kernel⟩, List.mem_of_getElem? (i := 12) (by decide +kernel), List.mem_of_getElem? (i := 291) (by decide +kernel), List.mem_of_getElem? (i := 292) (by decide +kernel)⟩
theorem lw_p12 : lw_okq (⟨"TillNine$Trade", "addBuyers", "(LTillNine$Street;[III)V"⟩, 2) := ⟨⟨by decide +kernel, by decide +kernel⟩, List.mem_of_getElem? (i := 71) (by decide +kernel), List.mem_of_getElem? (i := 302) (by decide +kernel), List.mem_of_getElem? (i := 303) (by decide +kernel)⟩
theorem lw_p13 : lw_okq (⟨"TillNine$Trade", "part", "(LTillNine$Street;IIJI)V"⟩, 2) := ⟨⟨by decide +kernel, by decide +kernel⟩, List.mem_of_getElem? (i := 71) (by decide +kernel), List.mem_of_getElem? (i := 318) (by decide +kernel), List.mem_of_getElem? (i := 319) (by decide +kernel)⟩
theorem lw_p14 : lw_okq (⟨"TillNine$Scene", "taken", "(I)J"⟩, 13) := ⟨⟨by decide +kernel, by decide +kernel⟩, List.mem_of_getElem? (i := 87) (by decide +kernel), List.mem_of_getElem? (i := 352) (by decide +kernel), List.mem_of_getElem? (i := 353) (by decide +kernel)⟩
theorem lw_p15 : lw_okq (⟨"TillNine$Scene", "burden", "(II)J"⟩, 13) := ⟨⟨by decide +kernel, by decide +kernel⟩, List.mem_of_getElem? (i := 87) (by decide +kernel), List.mem_of_getElem? (i := 357) (by decide +kernel), List.mem_of_getElem? (i := 358) (by decide +kernel)⟩
def lw_privs_1 : List (MethodName × Nat) := [(⟨"TillNine$Street", "parse", "()V"⟩, 9), (⟨"TillNine$Street", "takePart", "()V"⟩, 9), (⟨"TillNine$Street", "next", "()I"⟩, 9), (⟨"TillNine$Street", "takeShop", "()V"⟩, 9), (⟨"TillNine$Street", "takeFigure", "()I"⟩, 9), (⟨"TillNine$Street", "fail", "(I)V"⟩, 9), (⟨"TillNine$Street", "takeSign", "(I)V"⟩, 9), (⟨"TillNine$Street", "takeNumber", "(II)I"⟩, 9), (⟨"TillNine$Street", "takeSort", "()V"⟩, 9), (⟨"TillNine$Street", "takeLiked", "()I"⟩, 9), (⟨"TillNine", "noShop", "(I)Z"⟩, 7), (⟨"TillNine", "sceneNow", "()LTillNine$Scene;"⟩, 7), (⟨"TillNine$Trade", "addBuyers", "(LTillNine$Street;[III)V"⟩, 2), (⟨"TillNine$Trade", "part", "(LTillNine$Street;IIJI)V"⟩, 2), (⟨"TillNine$Scene", "taken", "(I)J"⟩, 13), (⟨"TillNine$Scene", "burden", "(II)J"⟩, 13)]
theorem lw_r1 : ∀ q ∈ lw_privs_1, lw_okq q := List.forall_mem_cons.mpr ⟨lw_p0, List.forall_mem_cons.mpr ⟨lw_p1, List.forall_mem_cons.mpr ⟨lw_p2, List.forall_mem_cons.mpr ⟨lw_p3, List.forall_mem_cons.mpr ⟨lw_p4, List.forall_mem_cons.mpr ⟨lw_p5, List.forall_mem_cons.mpr ⟨lw_p6, List.forall_mem_cons.mpr ⟨lw_p7, List.forall_mem_cons.mpr ⟨lw_p8, List.forall_mem_cons.mpr ⟨lw_p9, List.forall_mem_cons.mpr ⟨lw_p10, List.forall_mem_cons.mpr ⟨lw_p11, List.forall_mem_cons.mpr ⟨lw_p12, List.forall_mem_cons.mpr ⟨lw_p13, List.forall_mem_cons.mpr ⟨lw_p14, List.forall_mem_cons.mpr ⟨lw_p15, fun _ h => absurd h List.not_mem_nil⟩⟩⟩⟩⟩⟩⟩⟩⟩⟩⟩⟩⟩⟩⟩⟩
theorem lw_p16 : lw_okq (⟨"TillNine$Scene", "weigh", "(I)V"⟩, 13) := ⟨⟨by decide +kernel, by decide +kernel⟩, List.mem_of_getElem? (i := 87) (by decide +kernel), List.mem_of_getElem? (i := 392) (by decide +kernel), List.mem_of_getElem? (i := 393) (by decide +kernel)⟩
theorem lw_p17 : lw_okq (⟨"TillNine", "countStill", "()I"⟩, 7) := ⟨⟨by decide +kernel, by decide +kernel⟩, List.mem_of_getElem? (i := 12) (by decide +kernel), List.mem_of_getElem? (i := 409) (by decide +kernel), List.mem_of_getElem? (i := 410) (by decide +kernel)⟩
theorem lw_p18 : lw_okq (⟨"TillNine", "placedBest", "(I)LTillNine$Scene;"⟩, 7) := ⟨⟨by decide +kernel, by decide +kernel⟩, List.mem_of_getElem? (i := 12) (by decide +kernel), List.mem_of_getElem? (i := 437) (by decide +kernel), List.mem_of_getElem? (i := 438) (by decide +kernel)⟩
theorem lw_p19 : lw_okq (⟨"TillNine", "bestCode", "(I)I"⟩, 7) := ⟨⟨by decide +kernel, by decide +kernel⟩, List.mem_of_getElem? (i := 12) (by decide +kernel), List.mem_of_getElem? (i := 441) (by decide +kernel), List.mem_of_getElem? (i := 442) (by decide +kernel)⟩
theorem lw_p20 : lw_okq (⟨"TillNine", "bestCapNow", "()I"⟩, 7) := ⟨⟨by decide +kernel, by decide +kernel⟩, List.mem_of_getElem? (i := 12) (by decide +kernel), List.mem_of_getElem? (i := 478) (by decide +kernel), List.mem_of_getElem? (i := 479) (by decide +kernel)⟩
theorem lw_p21 : lw_okq (⟨"TillNine", "restsUnder", "(I)Z"⟩, 7) := ⟨⟨by decide +kernel, by decide +kernel⟩, List.mem_of_getElem? (i := 12) (by decide +kernel), List.mem_of_getElem? (i := 482) (by decide +kernel), List.mem_of_getElem? (i := 483) (by decide +kernel)⟩
theorem lw_p22 : lw_okq (⟨"TillNine", "sceneAfter", "(I)LTillNine$Scene;"⟩, 7) := ⟨⟨by decide +kernel, by decide +kernel⟩, List.mem_of_getElem? (i := 12) (by decide +kernel), List.mem_of_getElem? (i := 525) (by decide +kernel), List.mem_of_getElem? (i := 526) (by decide +kernel)⟩
theorem lw_p23 : lw_okq (⟨"TillNine$Scene", "remember", "()V"⟩, 13) := ⟨⟨by decide +kernel, by decide +kernel⟩, List.mem_of_getElem? (i := 87) (by decide +kernel), List.mem_of_getElem? (i := 533) (by decide +kernel), List.mem_of_getElem? (i := 534) (by decide +kernel)⟩
theorem lw_p24 : lw_okq (⟨"TillNine$Scene", "recall", "()V"⟩, 13) := ⟨⟨by decide +kernel, by decide +kernel⟩, List.mem_of_getElem? (i := 87) (by decide +kernel), List.mem_of_getElem? (i := 538) (by decide +kernel), List.mem_of_getElem? (i := 539) (by decide +kernel)⟩
theorem lw_p25 : lw_okq (⟨"TillNineModel", "met", "(I)I"⟩, 27) := ⟨⟨by decide +kernel, by decide +kernel⟩, List.mem_of_getElem? (i := 635) (by decide +kernel), List.mem_of_getElem? (i := 735) (by decide +kernel), List.mem_of_getElem? (i := 736) (by decide +kernel)⟩
theorem lw_p26 : lw_okq (⟨"TillNineModel", "lacks", "(III)I"⟩, 27) := ⟨⟨by decide +kernel, by decide +kernel⟩, List.mem_of_getElem? (i := 635) (by decide +kernel), List.mem_of_getElem? (i := 747) (by decide +kernel), List.mem_of_getElem? (i := 748) (by decide +kernel)⟩
theorem lw_p27 : lw_okq (⟨"TillNineModel", "reads", "()I"⟩, 27) := ⟨⟨by decide +kernel, by decide +kernel⟩, List.mem_of_getElem? (i := 635) (by decide +kernel), List.mem_of_getElem? (i := 776) (by decide +kernel), List.mem_of_getElem? (i := 777) (by decide +kernel)⟩
theorem lw_p28 : lw_okq (⟨"TillNineModel", "here", "()I"⟩, 27) := ⟨⟨by decide +kernel, by decide +kernel⟩, List.mem_of_getElem? (i := 635) (by decide +kernel), List.mem_of_getElem? (i := 780) (by decide +kernel), List.mem_of_getElem? (i := 781) (by decide +kernel)⟩
theorem lw_p29 : lw_okq (⟨"TillNineModel", "readsShop", "()Z"⟩, 27) := ⟨⟨by decide +kernel, by decide +kernel⟩, List.mem_of_getElem? (i := 635) (by decide +kernel), List.mem_of_getElem? (i := 784) (by decide +kernel), List.mem_of_getElem? (i := 785) (by decide +kernel)⟩
theorem lw_p30 : lw_okq (⟨"TillNineModel", "figures", "(III)I"⟩, 27) := ⟨⟨by decide +kernel, by decide +kernel⟩, List.mem_of_getElem? (i := 635) (by decide +kernel), List.mem_of_getElem? (i := 788) (by decide +kernel), List.mem_of_getElem? (i := 789) (by decide +kernel)⟩
theorem lw_p31 : lw_okq (⟨"TillNineModel", "goes", "(I)Z"⟩, 27) := ⟨⟨by decide +kernel, by decide +kernel⟩, List.mem_of_getElem? (i := 635) (by decide +kernel), List.mem_of_getElem? (i := 794) (by decide +kernel), List.mem_of_getElem? (i := 795) (by decide +kernel)⟩
def lw_privs_2 : List (MethodName × Nat) := [(⟨"TillNine$Scene", "weigh", "(I)V"⟩, 13), (⟨"TillNine", "countStill", "()I"⟩, 7), (⟨"TillNine", "placedBest", "(I)LTillNine$Scene;"⟩, 7), (⟨"TillNine", "bestCode", "(I)I"⟩, 7), (⟨"TillNine", "bestCapNow", "()I"⟩, 7), (⟨"TillNine", "restsUnder", "(I)Z"⟩, 7), (⟨"TillNine", "sceneAfter", "(I)LTillNine$Scene;"⟩, 7), (⟨"TillNine$Scene", "remember", "()V"⟩, 13), (⟨"TillNine$Scene", "recall", "()V"⟩, 13), (⟨"TillNineModel", "met", "(I)I"⟩, 27), (⟨"TillNineModel", "lacks", "(III)I"⟩, 27), (⟨"TillNineModel", "reads", "()I"⟩, 27), (⟨"TillNineModel", "here", "()I"⟩, 27), (⟨"TillNineModel", "readsShop", "()Z"⟩, 27), (⟨"TillNineModel", "figures", "(III)I"⟩, 27), (⟨"TillNineModel", "goes", "(I)Z"⟩, 27)]
theorem lw_r2 : ∀ q ∈ lw_privs_2, lw_okq q := List.forall_mem_cons.mpr ⟨lw_p16, List.forall_mem_cons.mpr ⟨lw_p17, List.forall_mem_cons.mpr ⟨lw_p18, List.forall_mem_cons.mpr ⟨lw_p19, List.forall_mem_cons.mpr ⟨lw_p20, List.forall_mem_cons.mpr ⟨lw_p21, List.forall_mem_cons.mpr ⟨lw_p22, List.forall_mem_cons.mpr ⟨lw_p23, List.forall_mem_cons.mpr ⟨lw_p24, List.forall_mem_cons.mpr ⟨lw_p25, List.forall_mem_cons.mpr ⟨lw_p26, List.forall_mem_cons.mpr ⟨lw_p27, List.forall_mem_cons.mpr ⟨lw_p28, List.forall_mem_cons.mpr ⟨lw_p29, List.forall_mem_cons.mpr ⟨lw_p30, List.forall_mem_cons.mpr ⟨lw_p31, fun _ h => absurd h List.not_mem_nil⟩⟩⟩⟩⟩⟩⟩⟩⟩⟩⟩⟩⟩⟩⟩⟩
theorem lw_p32 : lw_okq (⟨"TillNineModel", "readsSort", "()Z"⟩, 27) := ⟨⟨by decide +kernel, by decide +kernel⟩, List.mem_of_getElem? (i := 635) (by decide +kernel), List.mem_of_getElem? (i := 798) (by decide +kernel), List.mem_of_getElem? (i := 799) (by decide +kernel)⟩
theorem lw_p33 : lw_okq (⟨"TillNineModel", "behind", "(I)I"⟩, 27) := ⟨⟨by decide +kernel, by decide +kernel⟩, List.mem_of_getElem? (i := 635) (by decide +kernel), List.mem_of_getElem? (i := 802) (by decide +kernel), List.mem_of_getElem? (i := 803) (by decide +kernel)⟩
theorem lw_p34 : lw_okq (⟨"TillNineModel", "stops", "()I"⟩, 27) := ⟨⟨by decide +kernel, by decide +kernel⟩, List.mem_of_getElem? (i := 635) (by decide +kernel), List.mem_of_getElem? (i := 806) (by decide +kernel), List.mem_of_getElem? (i := 807) (by decide +kernel)⟩
theorem lw_p35 : lw_okq (⟨"TillNineModel", "isShop", "(I)Z"⟩, 27) := ⟨⟨by decide +kernel, by decide +kernel⟩, List.mem_of_getElem? (i := 635) (by decide +kernel), List.mem_of_getElem? (i := 814) (by decide +kernel), List.mem_of_getElem? (i := 815) (by decide +kernel)⟩
theorem lw_p36 : lw_okq (⟨"TillNineModel", "isBound", "(I)Z"⟩, 27) := ⟨⟨by decide +kernel, by decide +kernel⟩, List.mem_of_getElem? (i := 635) (by decide +kernel), List.mem_of_getElem? (i := 818) (by decide +kernel), List.mem_of_getElem? (i := 819) (by decide +kernel)⟩
theorem lw_p37 : lw_okq (⟨"TillNineModel", "tries", "()V"⟩, 27) := ⟨⟨by decide +kernel, by decide +kernel⟩, List.mem_of_getElem? (i := 635) (by decide +kernel), List.mem_of_getElem? (i := 849) (by decide +kernel), List.mem_of_getElem? (i := 850) (by decide +kernel)⟩
theorem lw_p38 : lw_okq (⟨"TillNineModel", "openIn", "(I)I"⟩, 27) := ⟨⟨by decide +kernel, by decide +kernel⟩, List.mem_of_getElem? (i := 635) (by decide +kernel), List.mem_of_getElem? (i := 853) (by decide +kernel), List.mem_of_getElem? (i := 854) (by decide +kernel)⟩
theorem lw_p39 : lw_okq (⟨"TillNineModel", "earnsOf", "(II)J"⟩, 27) := ⟨⟨by decide +kernel, by decide +kernel⟩, List.mem_of_getElem? (i := 635) (by decide +kernel), List.mem_of_getElem? (i := 864) (by decide +kernel), List.mem_of_getElem? (i := 865) (by decide +kernel)⟩
theorem lw_p40 : lw_okq (⟨"TillNineModel", "earnAll", "()V"⟩, 27) := ⟨⟨by decide +kernel, by decide +kernel⟩, List.mem_of_getElem? (i := 635) (by decide +kernel), List.mem_of_getElem? (i := 868) (by decide +kernel), List.mem_of_getElem? (i := 869) (by decide +kernel)⟩
theorem lw_p41 : lw_okq (⟨"TillNineModel", "buys", "(I)V"⟩, 27) := ⟨⟨by decide +kernel, by decide +kernel⟩, List.mem_of_getElem? (i := 635) (by decide +kernel), List.mem_of_getElem? (i := 872) (by decide +kernel), List.mem_of_getElem? (i := 873) (by decide +kernel)⟩
theorem lw_p42 : lw_okq (⟨"TillNineModel", "parts", "(JII)V"⟩, 27) := ⟨⟨by decide +kernel, by decide +kernel⟩, List.mem_of_getElem? (i := 635) (by decide +kernel), List.mem_of_getElem? (i := 881) (by decide +kernel), List.mem_of_getElem? (i := 882) (by decide +kernel)⟩
theorem lw_p43 : lw_okq (⟨"TillNineModel", "sizesOf", "(I)I"⟩, 27) := ⟨⟨by decide +kernel, by decide +kernel⟩, List.mem_of_getElem? (i := 635) (by decide +kernel), List.mem_of_getElem? (i := 885) (by decide +kernel), List.mem_of_getElem? (i := 886) (by decide +kernel)⟩
theorem lw_p44 : lw_okq (⟨"TillNineModel", "allOf", "(II)J"⟩, 27) := ⟨⟨by decide +kernel, by decide +kernel⟩, List.mem_of_getElem? (i := 635) (by decide +kernel), List.mem_of_getElem? (i := 906) (by decide +kernel), List.mem_of_getElem? (i := 907) (by decide +kernel)⟩
theorem lw_p45 : lw_okq (⟨"TillNineModel", "together", "()J"⟩, 27) := ⟨⟨by decide +kernel, by decide +kernel⟩, List.mem_of_getElem? (i := 635) (by decide +kernel), List.mem_of_getElem? (i := 910) (by decide +kernel), List.mem_of_getElem? (i := 911) (by decide +kernel)⟩
theorem lw_p46 : lw_okq (⟨"TillNineModel", "answerNow", "(I)I"⟩, 27) := ⟨⟨by decide +kernel, by decide +kernel⟩, List.mem_of_getElem? (i := 635) (by decide +kernel), List.mem_of_getElem? (i := 918) (by decide +kernel), List.mem_of_getElem? (i := 919) (by decide +kernel)⟩
theorem lw_p47 : lw_okq (⟨"TillNineModel", "answerOf", "(I)I"⟩, 27) := ⟨⟨by decide +kernel, by decide +kernel⟩, List.mem_of_getElem? (i := 635) (by decide +kernel), List.mem_of_getElem? (i := 922) (by decide +kernel), List.mem_of_getElem? (i := 923) (by decide +kernel)⟩
def lw_privs_3 : List (MethodName × Nat) := [(⟨"TillNineModel", "readsSort", "()Z"⟩, 27), (⟨"TillNineModel", "behind", "(I)I"⟩, 27), (⟨"TillNineModel", "stops", "()I"⟩, 27), (⟨"TillNineModel", "isShop", "(I)Z"⟩, 27), (⟨"TillNineModel", "isBound", "(I)Z"⟩, 27), (⟨"TillNineModel", "tries", "()V"⟩, 27), (⟨"TillNineModel", "openIn", "(I)I"⟩, 27), (⟨"TillNineModel", "earnsOf", "(II)J"⟩, 27), (⟨"TillNineModel", "earnAll", "()V"⟩, 27), (⟨"TillNineModel", "buys", "(I)V"⟩, 27), (⟨"TillNineModel", "parts", "(JII)V"⟩, 27), (⟨"TillNineModel", "sizesOf", "(I)I"⟩, 27), (⟨"TillNineModel", "allOf", "(II)J"⟩, 27), (⟨"TillNineModel", "together", "()J"⟩, 27), (⟨"TillNineModel", "answerNow", "(I)I"⟩, 27), (⟨"TillNineModel", "answerOf", "(I)I"⟩, 27)]
theorem lw_r3 : ∀ q ∈ lw_privs_3, lw_okq q := List.forall_mem_cons.mpr ⟨lw_p32, List.forall_mem_cons.mpr ⟨lw_p33, List.forall_mem_cons.mpr ⟨lw_p34, List.forall_mem_cons.mpr ⟨lw_p35, List.forall_mem_cons.mpr ⟨lw_p36, List.forall_mem_cons.mpr ⟨lw_p37, List.forall_mem_cons.mpr ⟨lw_p38, List.forall_mem_cons.mpr ⟨lw_p39, List.forall_mem_cons.mpr ⟨lw_p40, List.forall_mem_cons.mpr ⟨lw_p41, List.forall_mem_cons.mpr ⟨lw_p42, List.forall_mem_cons.mpr ⟨lw_p43, List.forall_mem_cons.mpr ⟨lw_p44, List.forall_mem_cons.mpr ⟨lw_p45, List.forall_mem_cons.mpr ⟨lw_p46, List.forall_mem_cons.mpr ⟨lw_p47, fun _ h => absurd h List.not_mem_nil⟩⟩⟩⟩⟩⟩⟩⟩⟩⟩⟩⟩⟩⟩⟩⟩
theorem lw_p48 : lw_okq (⟨"TillNineModel", "earnsBy", "(II)J"⟩, 27) := ⟨⟨by decide +kernel, by decide +kernel⟩, List.mem_of_getElem? (i := 635) (by decide +kernel), List.mem_of_getElem? (i := 926) (by decide +kernel), List.mem_of_getElem? (i := 927) (by decide +kernel)⟩
theorem lw_p49 : lw_okq (⟨"TillNineModel", "restOf", "(I)I"⟩, 27) := ⟨⟨by decide +kernel, by decide +kernel⟩, List.mem_of_getElem? (i := 635) (by decide +kernel), List.mem_of_getElem? (i := 934) (by decide +kernel), List.mem_of_getElem? (i := 935) (by decide +kernel)⟩
theorem lw_p50 : lw_okq (⟨"TillNineModel", "runsDown", "()Z"⟩, 27) := ⟨⟨by decide +kernel, by decide +kernel⟩, List.mem_of_getElem? (i := 635) (by decide +kernel), List.mem_of_getElem? (i := 938) (by decide +kernel), List.mem_of_getElem? (i := 939) (by decide +kernel)⟩
theorem lw_p51 : lw_okq (⟨"TillNineModel", "roundGoes", "()Z"⟩, 27) := ⟨⟨by decide +kernel, by decide +kernel⟩, List.mem_of_getElem? (i := 635) (by decide +kernel), List.mem_of_getElem? (i := 942) (by decide +kernel), List.mem_of_getElem? (i := 943) (by decide +kernel)⟩
theorem lw_p52 : lw_okq (⟨"TillNineModel", "stillOf", "(II)I"⟩, 27) := ⟨⟨by decide +kernel, by decide +kernel⟩, List.mem_of_getElem? (i := 635) (by decide +kernel), List.mem_of_getElem? (i := 950) (by decide +kernel), List.mem_of_getElem? (i := 951) (by decide +kernel)⟩
theorem lw_p53 : lw_okq (⟨"TillNineModel", "lays", "(I)V"⟩, 27) := ⟨⟨by decide +kernel, by decide +kernel⟩, List.mem_of_getElem? (i := 635) (by decide +kernel), List.mem_of_getElem? (i := 954) (by decide +kernel), List.mem_of_getElem? (i := 955) (by decide +kernel)⟩
theorem lw_p54 : lw_okq (⟨"TillNineModel", "isStill", "()Z"⟩, 27) := ⟨⟨by decide +kernel, by decide +kernel⟩, List.mem_of_getElem? (i := 635) (by decide +kernel), List.mem_of_getElem? (i := 958) (by decide +kernel), List.mem_of_getElem? (i := 959) (by decide +kernel)⟩
theorem lw_p55 : lw_okq (⟨"TillNineModel", "bestOf", "(II)I"⟩, 27) := ⟨⟨by decide +kernel, by decide +kernel⟩, List.mem_of_getElem? (i := 635) (by decide +kernel), List.mem_of_getElem? (i := 966) (by decide +kernel), List.mem_of_getElem? (i := 967) (by decide +kernel)⟩
theorem lw_p56 : lw_okq (⟨"TillNineModel", "findBest", "(I)I"⟩, 27) := ⟨⟨by decide +kernel, by decide +kernel⟩, List.mem_of_getElem? (i := 635) (by decide +kernel), List.mem_of_getElem? (i := 970) (by decide +kernel), List.mem_of_getElem? (i := 971) (by decide +kernel)⟩
theorem lw_p57 : lw_okq (⟨"TillNineModel", "leastNow", "()I"⟩, 27) := ⟨⟨by decide +kernel, by decide +kernel⟩, List.mem_of_getElem? (i := 635) (by decide +kernel), List.mem_of_getElem? (i := 982) (by decide +kernel), List.mem_of_getElem? (i := 983) (by decide +kernel)⟩
theorem lw_p58 : lw_okq (⟨"TillNineModel", "keepsOf", "(I)I"⟩, 27) := ⟨⟨by decide +kernel, by decide +kernel⟩, List.mem_of_getElem? (i := 635) (by decide +kernel), List.mem_of_getElem? (i := 1007) (by decide +kernel), List.mem_of_getElem? (i := 1008) (by decide +kernel)⟩
theorem lw_p59 : lw_okq (⟨"TillNineModel", "layTurn", "(I)V"⟩, 27) := ⟨⟨by decide +kernel, by decide +kernel⟩, List.mem_of_getElem? (i := 635) (by decide +kernel), List.mem_of_getElem? (i := 1011) (by decide +kernel), List.mem_of_getElem? (i := 1012) (by decide +kernel)⟩
theorem lw_p60 : lw_okq (⟨"TillNineModel", "weeksOf", "(II)I"⟩, 27) := ⟨⟨by decide +kernel, by decide +kernel⟩, List.mem_of_getElem? (i := 635) (by decide +kernel), List.mem_of_getElem? (i := 1024) (by decide +kernel), List.mem_of_getElem? (i := 1025) (by decide +kernel)⟩
theorem lw_p61 : lw_okq (⟨"TillNineModel", "weekGoes", "()V"⟩, 27) := ⟨⟨by decide +kernel, by decide +kernel⟩, List.mem_of_getElem? (i := 635) (by decide +kernel), List.mem_of_getElem? (i := 1028) (by decide +kernel), List.mem_of_getElem? (i := 1029) (by decide +kernel)⟩
theorem lw_p62 : lw_okq (⟨"TillNineModel", "backNow", "()I"⟩, 27) := ⟨⟨by decide +kernel, by decide +kernel⟩, List.mem_of_getElem? (i := 635) (by decide +kernel), List.mem_of_getElem? (i := 1036) (by decide +kernel), List.mem_of_getElem? (i := 1037) (by decide +kernel)⟩
theorem lw_p63 : lw_okq (⟨"TillNineModel", "isNoWayBack", "()Z"⟩, 27) := ⟨⟨by decide +kernel, by decide +kernel⟩, List.mem_of_getElem? (i := 635) (by decide +kernel), List.mem_of_getElem? (i := 1040) (by decide +kernel), List.mem_of_getElem? (i := 1041) (by decide +kernel)⟩
def lw_privs_4 : List (MethodName × Nat) := [(⟨"TillNineModel", "earnsBy", "(II)J"⟩, 27), (⟨"TillNineModel", "restOf", "(I)I"⟩, 27), (⟨"TillNineModel", "runsDown", "()Z"⟩, 27), (⟨"TillNineModel", "roundGoes", "()Z"⟩, 27), (⟨"TillNineModel", "stillOf", "(II)I"⟩, 27), (⟨"TillNineModel", "lays", "(I)V"⟩, 27), (⟨"TillNineModel", "isStill", "()Z"⟩, 27), (⟨"TillNineModel", "bestOf", "(II)I"⟩, 27), (⟨"TillNineModel", "findBest", "(I)I"⟩, 27), (⟨"TillNineModel", "leastNow", "()I"⟩, 27), (⟨"TillNineModel", "keepsOf", "(I)I"⟩, 27), (⟨"TillNineModel", "layTurn", "(I)V"⟩, 27), (⟨"TillNineModel", "weeksOf", "(II)I"⟩, 27), (⟨"TillNineModel", "weekGoes", "()V"⟩, 27), (⟨"TillNineModel", "backNow", "()I"⟩, 27), (⟨"TillNineModel", "isNoWayBack", "()Z"⟩, 27)]
theorem lw_r4 : ∀ q ∈ lw_privs_4, lw_okq q := List.forall_mem_cons.mpr ⟨lw_p48, List.forall_mem_cons.mpr ⟨lw_p49, List.forall_mem_cons.mpr ⟨lw_p50, List.forall_mem_cons.mpr ⟨lw_p51, List.forall_mem_cons.mpr ⟨lw_p52, List.forall_mem_cons.mpr ⟨lw_p53, List.forall_mem_cons.mpr ⟨lw_p54, List.forall_mem_cons.mpr ⟨lw_p55, List.forall_mem_cons.mpr ⟨lw_p56, List.forall_mem_cons.mpr ⟨lw_p57, List.forall_mem_cons.mpr ⟨lw_p58, List.forall_mem_cons.mpr ⟨lw_p59, List.forall_mem_cons.mpr ⟨lw_p60, List.forall_mem_cons.mpr ⟨lw_p61, List.forall_mem_cons.mpr ⟨lw_p62, List.forall_mem_cons.mpr ⟨lw_p63, fun _ h => absurd h List.not_mem_nil⟩⟩⟩⟩⟩⟩⟩⟩⟩⟩⟩⟩⟩⟩⟩⟩
def lw_privs : List (MethodName × Nat) := lw_privs_1 ++ (lw_privs_2 ++ (lw_privs_3 ++ (lw_privs_4)))
def lw_tbl : List Cond := k2_sels lw_privs ++ tables_1
theorem lw_privs_ok : ∀ q ∈ lw_privs, lw_okq q := by
  show ∀ q ∈ lw_privs_1 ++ (lw_privs_2 ++ (lw_privs_3 ++ (lw_privs_4))), lw_okq q
  exact List.forall_mem_append.mpr ⟨lw_r1, List.forall_mem_append.mpr ⟨lw_r2, List.forall_mem_append.mpr ⟨lw_r3, lw_r4⟩⟩⟩
end
section
def RX0 : String := "TillNine$Scene"
def TX0 : u_T := fun k => match k with
  | 0 => ("TillNine$Scene", "street", "LTillNine$Street;", true)
  | 1 => ("TillNine$Scene", "trade", "LTillNine$Trade;", true)
  | 2 => ("TillNine$Scene", "until", "[I", true)
  | 3 => ("TillNine$Scene", "limit", "[I", true)
  | 4 => ("TillNine$Scene", "habit", "[I", true)
  | 5 => ("TillNine$Scene", "before", "[I", true)
  | 6 => ("TillNine$Scene", "lights", "[I", true)
  | 7 => ("TillNine$Scene", "offers", "[J", true)
  | 8 => ("TillNine$Scene", "cap", "I", false)
  | 9 => ("TillNine$Scene", "small", "I", false)
  | 10 => ("TillNine$Scene", "fine", "J", false)
  | 11 => ("TillNine$Scene", "held", "I", false)
  | _ => ("TillNine$Scene", "rounds", "I", false)
def tyX0 : Nat → FieldType := fun k => match k with
  | 0 => .object "TillNine$Street"
  | 1 => .object "TillNine$Trade"
  | 2 => .array .int
  | 3 => .array .int
  | 4 => .array .int
  | 5 => .array .int
  | 6 => .array .int
  | 7 => .array .long
  | 8 => .int
  | 9 => .int
  | 10 => .long
  | 11 => .int
  | _ => .int
abbrev wsX00 : List Cond := u_ws RX0 TX0 13
theorem nmX0 : ∀ a, a < 13 → ∀ b, b < 13 → a ≠ b → (TX0 a).2.1 ≠ (TX0 b).2.1 := by decide +kernel
theorem tyX0_ok : ∀ k, k < 13 → parseFieldDescriptor (TX0 k).2.2.1 = some (tyX0 k) := by decide +kernel
abbrev cX0_init : ByteArray := prog_2_method_1_code
def yX0_init : MethodName := ⟨RX0, "<init>", "(LTillNine$Street;LTillNine$Trade;)V"⟩
abbrev cX0_begin : ByteArray := prog_2_method_2_code
def yX0_begin : MethodName := ⟨RX0, "begin", "([I[I)V"⟩
abbrev cX0_become : ByteArray := prog_2_method_3_code
def yX0_become : MethodName := ⟨RX0, "become", "(II)V"⟩
abbrev cX0_bound : ByteArray := prog_2_method_4_code
def yX0_bound : MethodName := ⟨RX0, "bound", "(I)Z"⟩
abbrev cX0_openTillNine : ByteArray := prog_2_method_5_code
def yX0_openTillNine : MethodName := ⟨RX0, "openTillNine", "(I)V"⟩
abbrev cX0_digit : ByteArray := prog_2_method_6_code
def yX0_digit : MethodName := ⟨RX0, "digit", "(II)I"⟩
abbrev cX0_profiles : ByteArray := prog_2_method_7_code
def yX0_profiles : MethodName := ⟨RX0, "profiles", "()I"⟩
abbrev cX0_place : ByteArray := prog_2_method_8_code
def yX0_place : MethodName := ⟨RX0, "place", "(I)V"⟩
abbrev cX0_advance : ByteArray := prog_2_method_9_code
def yX0_advance : MethodName := ⟨RX0, "advance", "()V"⟩
abbrev cX0_taken : ByteArray := prog_2_method_10_code
def yX0_taken : MethodName := ⟨RX0, "taken", "(I)J"⟩
abbrev cX0_burden : ByteArray := prog_2_method_11_code
def yX0_burden : MethodName := ⟨RX0, "burden", "(II)J"⟩
abbrev cX0_earning : ByteArray := prog_2_method_12_code
def yX0_earning : MethodName := ⟨RX0, "earning", "(I)J"⟩
abbrev cX0_together : ByteArray := prog_2_method_13_code
def yX0_together : MethodName := ⟨RX0, "together", "()J"⟩
abbrev cX0_aim : ByteArray := prog_2_method_14_code
def yX0_aim : MethodName := ⟨RX0, "aim", "(I)J"⟩
abbrev cX0_weigh : ByteArray := prog_2_method_15_code
def yX0_weigh : MethodName := ⟨RX0, "weigh", "(I)V"⟩
abbrev cX0_reply : ByteArray := prog_2_method_16_code
def yX0_reply : MethodName := ⟨RX0, "reply", "(I)I"⟩
abbrev cX0_runDown : ByteArray := prog_2_method_17_code
def yX0_runDown : MethodName := ⟨RX0, "runDown", "()Z"⟩
abbrev cX0_firstGainer : ByteArray := prog_2_method_18_code
def yX0_firstGainer : MethodName := ⟨RX0, "firstGainer", "()I"⟩
abbrev cX0_limitBound : ByteArray := prog_2_method_19_code
def yX0_limitBound : MethodName := ⟨RX0, "limitBound", "(I)V"⟩
abbrev cX0_keepLaw : ByteArray := prog_2_method_20_code
def yX0_keepLaw : MethodName := ⟨RX0, "keepLaw", "()V"⟩
abbrev cX0_lawlessGain : ByteArray := prog_2_method_21_code
def yX0_lawlessGain : MethodName := ⟨RX0, "lawlessGain", "()J"⟩
abbrev cX0_shuttingPrice : ByteArray := prog_2_method_22_code
def yX0_shuttingPrice : MethodName := ⟨RX0, "shuttingPrice", "(I)J"⟩
abbrev cX0_remember : ByteArray := prog_2_method_23_code
def yX0_remember : MethodName := ⟨RX0, "remember", "()V"⟩
abbrev cX0_recall : ByteArray := prog_2_method_24_code
def yX0_recall : MethodName := ⟨RX0, "recall", "()V"⟩
abbrev cX0_earlyIsStill : ByteArray := prog_2_method_25_code
def yX0_earlyIsStill : MethodName := ⟨RX0, "earlyIsStill", "()Z"⟩
abbrev cX0_passWeek : ByteArray := prog_2_method_26_code
def yX0_passWeek : MethodName := ⟨RX0, "passWeek", "()V"⟩
abbrev cX0_hourOrHabit : ByteArray := prog_2_method_27_code
def yX0_hourOrHabit : MethodName := ⟨RX0, "hourOrHabit", "(I)I"⟩
def RX1 : String := "TillNine$Shelf"
def TX1 : u_T := fun k => match k with
  | 0 => ("TillNine$Shelf", "form", "[I", true)
  | 1 => ("TillNine$Shelf", "size", "[I", true)
  | 2 => ("TillNine$Shelf", "items", "[[I", true)
  | _ => ("TillNine$Shelf", "latest", "I", false)
def tyX1 : Nat → FieldType := fun k => match k with
  | 0 => .array .int
  | 1 => .array .int
  | 2 => .array (.array .int)
  | _ => .int
abbrev wsX10 : List Cond := u_ws RX1 TX1 4
theorem nmX1 : ∀ a, a < 4 → ∀ b, b < 4 → a ≠ b → (TX1 a).2.1 ≠ (TX1 b).2.1 := by decide +kernel
theorem tyX1_ok : ∀ k, k < 4 → parseFieldDescriptor (TX1 k).2.2.1 = some (tyX1 k) := by decide +kernel
abbrev cX1_init : ByteArray := prog_3_method_1_code
def yX1_init : MethodName := ⟨RX1, "<init>", "()V"⟩
abbrev cX1_noSheet : ByteArray := prog_3_method_2_code
def yX1_noSheet : MethodName := ⟨RX1, "noSheet", "(I)Z"⟩
abbrev cX1_noForm : ByteArray := prog_3_method_3_code
def yX1_noForm : MethodName := ⟨RX1, "noForm", "(I)Z"⟩
abbrev cX1_finding : ByteArray := prog_3_method_4_code
def yX1_finding : MethodName := ⟨RX1, "finding", "(I)I"⟩
abbrev cX1_refusal : ByteArray := prog_3_method_5_code
def yX1_refusal : MethodName := ⟨RX1, "refusal", "(I)I"⟩
abbrev cX1_refusalOfItem : ByteArray := prog_3_method_6_code
def yX1_refusalOfItem : MethodName := ⟨RX1, "refusalOfItem", "(III)I"⟩
abbrev cX1_lacks : ByteArray := prog_3_method_7_code
def yX1_lacks : MethodName := ⟨RX1, "lacks", "(III)Z"⟩
abbrev cX1_renew : ByteArray := prog_3_method_8_code
def yX1_renew : MethodName := ⟨RX1, "renew", "(III)V"⟩
abbrev cX1_put : ByteArray := prog_3_method_9_code
def yX1_put : MethodName := ⟨RX1, "put", "(III)V"⟩
def RX2 : String := "TillNine$Street"
def TX2 : u_T := fun k => match k with
  | 0 => ("TillNine$Street", "text", "[I", true)
  | 1 => ("TillNine$Street", "size", "[I", true)
  | 2 => ("TillNine$Street", "price", "[I", true)
  | 3 => ("TillNine$Street", "buyers", "[[I", true)
  | 4 => ("TillNine$Street", "length", "I", false)
  | 5 => ("TillNine$Street", "shops", "I", false)
  | 6 => ("TillNine$Street", "sorts", "I", false)
  | 7 => ("TillNine$Street", "wrong", "I", false)
  | _ => ("TillNine$Street", "at", "I", false)
def tyX2 : Nat → FieldType := fun k => match k with
  | 0 => .array .int
  | 1 => .array .int
  | 2 => .array .int
  | 3 => .array (.array .int)
  | 4 => .int
  | 5 => .int
  | 6 => .int
  | 7 => .int
  | _ => .int
abbrev wsX20 : List Cond := u_ws RX2 TX2 9
theorem nmX2 : ∀ a, a < 9 → ∀ b, b < 9 → a ≠ b → (TX2 a).2.1 ≠ (TX2 b).2.1 := by decide +kernel
theorem tyX2_ok : ∀ k, k < 9 → parseFieldDescriptor (TX2 k).2.2.1 = some (tyX2 k) := by decide +kernel
abbrev cX2_init : ByteArray := prog_4_method_1_code
def yX2_init : MethodName := ⟨RX2, "<init>", "()V"⟩
abbrev cX2_append : ByteArray := prog_4_method_2_code
def yX2_append : MethodName := ⟨RX2, "append", "(I)V"⟩
abbrev cX2_clear : ByteArray := prog_4_method_3_code
def yX2_clear : MethodName := ⟨RX2, "clear", "()V"⟩
abbrev cX2_crowd : ByteArray := prog_4_method_4_code
def yX2_crowd : MethodName := ⟨RX2, "crowd", "()I"⟩
abbrev cX2_parse : ByteArray := prog_4_method_5_code
def yX2_parse : MethodName := ⟨RX2, "parse", "()V"⟩
abbrev cX2_takePart : ByteArray := prog_4_method_6_code
def yX2_takePart : MethodName := ⟨RX2, "takePart", "()V"⟩
abbrev cX2_takeShop : ByteArray := prog_4_method_7_code
def yX2_takeShop : MethodName := ⟨RX2, "takeShop", "()V"⟩
abbrev cX2_takeSort : ByteArray := prog_4_method_8_code
def yX2_takeSort : MethodName := ⟨RX2, "takeSort", "()V"⟩
abbrev cX2_takeSign : ByteArray := prog_4_method_9_code
def yX2_takeSign : MethodName := ⟨RX2, "takeSign", "(I)V"⟩
abbrev cX2_takeFigure : ByteArray := prog_4_method_10_code
def yX2_takeFigure : MethodName := ⟨RX2, "takeFigure", "()I"⟩
abbrev cX2_takeLiked : ByteArray := prog_4_method_11_code
def yX2_takeLiked : MethodName := ⟨RX2, "takeLiked", "()I"⟩
abbrev cX2_takeNumber : ByteArray := prog_4_method_12_code
def yX2_takeNumber : MethodName := ⟨RX2, "takeNumber", "(II)I"⟩
abbrev cX2_next : ByteArray := prog_4_method_13_code
def yX2_next : MethodName := ⟨RX2, "next", "()I"⟩
abbrev cX2_isFigure : ByteArray := prog_4_method_14_code
def yX2_isFigure : MethodName := ⟨RX2, "isFigure", "(I)Z"⟩
abbrev cX2_fail : ByteArray := prog_4_method_15_code
def yX2_fail : MethodName := ⟨RX2, "fail", "(I)V"⟩
def RX3 : String := "TillNine$Trade"
def TX3 : u_T := fun k => match k with
  | 0 => ("TillNine$Trade", "table", "[J", true)
  | _ => ("TillNine$Trade", "stale", "Z", false)
def tyX3 : Nat → FieldType := fun k => match k with
  | 0 => .array .long
  | _ => .boolean
abbrev wsX30 : List Cond := u_ws RX3 TX3 2
theorem nmX3 : ∀ a, a < 2 → ∀ b, b < 2 → a ≠ b → (TX3 a).2.1 ≠ (TX3 b).2.1 := by decide +kernel
theorem tyX3_ok : ∀ k, k < 2 → parseFieldDescriptor (TX3 k).2.2.1 = some (tyX3 k) := by decide +kernel
abbrev cX3_init : ByteArray := prog_5_method_1_code
def yX3_init : MethodName := ⟨RX3, "<init>", "()V"⟩
abbrev cX3_rowOf : ByteArray := prog_5_method_2_code
def yX3_rowOf : MethodName := ⟨RX3, "rowOf", "(II)I"⟩
abbrev cX3_fill : ByteArray := prog_5_method_3_code
def yX3_fill : MethodName := ⟨RX3, "fill", "(LTillNine$Street;I)V"⟩
abbrev cX3_addBuyers : ByteArray := prog_5_method_4_code
def yX3_addBuyers : MethodName := ⟨RX3, "addBuyers", "(LTillNine$Street;[III)V"⟩
abbrev cX3_part : ByteArray := prog_5_method_5_code
def yX3_part : MethodName := ⟨RX3, "part", "(LTillNine$Street;IIJI)V"⟩
def RX4 : String := "TillNine"
def TX4 : u_T := fun k => match k with
  | 0 => ("TillNine", "street", "LTillNine$Street;", true)
  | 1 => ("TillNine", "trade", "LTillNine$Trade;", true)
  | 2 => ("TillNine", "scene", "LTillNine$Scene;", true)
  | 3 => ("TillNine", "shelf", "LTillNine$Shelf;", true)
  | 4 => ("TillNine", "settings", "[I", true)
  | 5 => ("TillNine", "untils", "[I", true)
  | _ => ("TillNine", "turns", "[I", true)
def tyX4 : Nat → FieldType := fun k => match k with
  | 0 => .object "TillNine$Street"
  | 1 => .object "TillNine$Trade"
  | 2 => .object "TillNine$Scene"
  | 3 => .object "TillNine$Shelf"
  | 4 => .array .int
  | 5 => .array .int
  | _ => .array .int
abbrev wsX40 : List Cond := u_ws RX4 TX4 7
theorem nmX4 : ∀ a, a < 7 → ∀ b, b < 7 → a ≠ b → (TX4 a).2.1 ≠ (TX4 b).2.1 := by decide +kernel
theorem tyX4_ok : ∀ k, k < 7 → parseFieldDescriptor (TX4 k).2.2.1 = some (tyX4 k) := by decide +kernel
abbrev cX4_init : ByteArray := prog_1_method_1_code
def yX4_init : MethodName := ⟨RX4, "<init>", "()V"⟩
abbrev cX4_type : ByteArray := prog_1_method_2_code
def yX4_type : MethodName := ⟨RX4, "type", "(I)I"⟩
abbrev cX4_wipe : ByteArray := prog_1_method_3_code
def yX4_wipe : MethodName := ⟨RX4, "wipe", "()I"⟩
abbrev cX4_fault : ByteArray := prog_1_method_4_code
def yX4_fault : MethodName := ⟨RX4, "fault", "()I"⟩
abbrev cX4_shop : ByteArray := prog_1_method_5_code
def yX4_shop : MethodName := ⟨RX4, "shop", "(II)I"⟩
abbrev cX4_sort : ByteArray := prog_1_method_6_code
def yX4_sort : MethodName := ⟨RX4, "sort", "(II)I"⟩
abbrev cX4_set : ByteArray := prog_1_method_7_code
def yX4_set : MethodName := ⟨RX4, "set", "(II)I"⟩
abbrev cX4_hours : ByteArray := prog_1_method_8_code
def yX4_hours : MethodName := ⟨RX4, "hours", "(II)I"⟩
abbrev cX4_read : ByteArray := prog_1_method_9_code
def yX4_read : MethodName := ⟨RX4, "read", "(I)I"⟩
abbrev cX4_open : ByteArray := prog_1_method_10_code
def yX4_open : MethodName := ⟨RX4, "open", "(I)I"⟩
abbrev cX4_earns : ByteArray := prog_1_method_11_code
def yX4_earns : MethodName := ⟨RX4, "earns", "(II)J"⟩
abbrev cX4_all : ByteArray := prog_1_method_12_code
def yX4_all : MethodName := ⟨RX4, "all", "(II)J"⟩
abbrev cX4_answer : ByteArray := prog_1_method_13_code
def yX4_answer : MethodName := ⟨RX4, "answer", "(I)I"⟩
abbrev cX4_rest : ByteArray := prog_1_method_14_code
def yX4_rest : MethodName := ⟨RX4, "rest", "(I)I"⟩
abbrev cX4_still : ByteArray := prog_1_method_15_code
def yX4_still : MethodName := ⟨RX4, "still", "(II)I"⟩
abbrev cX4_best : ByteArray := prog_1_method_16_code
def yX4_best : MethodName := ⟨RX4, "best", "(II)I"⟩
abbrev cX4_loss : ByteArray := prog_1_method_17_code
def yX4_loss : MethodName := ⟨RX4, "loss", "(I)J"⟩
abbrev cX4_leastFine : ByteArray := prog_1_method_18_code
def yX4_leastFine : MethodName := ⟨RX4, "leastFine", "()I"⟩
abbrev cX4_bestCap : ByteArray := prog_1_method_19_code
def yX4_bestCap : MethodName := ⟨RX4, "bestCap", "(I)J"⟩
abbrev cX4_edge : ByteArray := prog_1_method_20_code
def yX4_edge : MethodName := ⟨RX4, "edge", "(I)I"⟩
abbrev cX4_always : ByteArray := prog_1_method_21_code
def yX4_always : MethodName := ⟨RX4, "always", "(II)J"⟩
abbrev cX4_turn : ByteArray := prog_1_method_22_code
def yX4_turn : MethodName := ⟨RX4, "turn", "(II)I"⟩
abbrev cX4_keeps : ByteArray := prog_1_method_23_code
def yX4_keeps : MethodName := ⟨RX4, "keeps", "(I)I"⟩
abbrev cX4_week : ByteArray := prog_1_method_24_code
def yX4_week : MethodName := ⟨RX4, "week", "(II)J"⟩
abbrev cX4_weeks : ByteArray := prog_1_method_25_code
def yX4_weeks : MethodName := ⟨RX4, "weeks", "(II)I"⟩
abbrev cX4_back : ByteArray := prog_1_method_26_code
def yX4_back : MethodName := ⟨RX4, "back", "()I"⟩
abbrev cX4_sheet : ByteArray := prog_1_method_27_code
def yX4_sheet : MethodName := ⟨RX4, "sheet", "(III)I"⟩
abbrev cX4_lose : ByteArray := prog_1_method_28_code
def yX4_lose : MethodName := ⟨RX4, "lose", "(I)I"⟩
abbrev cX4_lay : ByteArray := prog_1_method_29_code
def yX4_lay : MethodName := ⟨RX4, "lay", "(IIII)I"⟩
abbrev cX4_get : ByteArray := prog_1_method_30_code
def yX4_get : MethodName := ⟨RX4, "get", "(III)I"⟩
abbrev cX4_copy : ByteArray := prog_1_method_31_code
def yX4_copy : MethodName := ⟨RX4, "copy", "(IIIII)I"⟩
abbrev cX4_write : ByteArray := prog_1_method_32_code
def yX4_write : MethodName := ⟨RX4, "write", "(I)I"⟩
abbrev cX4_count : ByteArray := prog_1_method_33_code
def yX4_count : MethodName := ⟨RX4, "count", "(I)I"⟩
abbrev cX4_digest : ByteArray := prog_1_method_34_code
def yX4_digest : MethodName := ⟨RX4, "digest", "()J"⟩
abbrev cX4_sceneNow : ByteArray := prog_1_method_35_code
def yX4_sceneNow : MethodName := ⟨RX4, "sceneNow", "()LTillNine$Scene;"⟩
abbrev cX4_sceneAfter : ByteArray := prog_1_method_36_code
def yX4_sceneAfter : MethodName := ⟨RX4, "sceneAfter", "(I)LTillNine$Scene;"⟩
abbrev cX4_countStill : ByteArray := prog_1_method_37_code
def yX4_countStill : MethodName := ⟨RX4, "countStill", "()I"⟩
abbrev cX4_bestCode : ByteArray := prog_1_method_38_code
def yX4_bestCode : MethodName := ⟨RX4, "bestCode", "(I)I"⟩
abbrev cX4_placedBest : ByteArray := prog_1_method_39_code
def yX4_placedBest : MethodName := ⟨RX4, "placedBest", "(I)LTillNine$Scene;"⟩
abbrev cX4_bestCapNow : ByteArray := prog_1_method_40_code
def yX4_bestCapNow : MethodName := ⟨RX4, "bestCapNow", "()I"⟩
abbrev cX4_restsUnder : ByteArray := prog_1_method_41_code
def yX4_restsUnder : MethodName := ⟨RX4, "restsUnder", "(I)Z"⟩
abbrev cX4_noShop : ByteArray := prog_1_method_42_code
def yX4_noShop : MethodName := ⟨RX4, "noShop", "(I)Z"⟩
abbrev cX4_noSide : ByteArray := prog_1_method_43_code
def yX4_noSide : MethodName := ⟨RX4, "noSide", "(I)Z"⟩
abbrev cX4_refused : ByteArray := prog_1_method_44_code
def yX4_refused : MethodName := ⟨RX4, "refused", "(I)J"⟩
abbrev cX4_fraction : ByteArray := prog_1_method_45_code
def yX4_fraction : MethodName := ⟨RX4, "fraction", "(JI)J"⟩
abbrev cX4_divisor : ByteArray := prog_1_method_46_code
def yX4_divisor : MethodName := ⟨RX4, "divisor", "(JJ)J"⟩
abbrev cX4_ceiling : ByteArray := prog_1_method_47_code
def yX4_ceiling : MethodName := ⟨RX4, "ceiling", "(JJ)J"⟩
abbrev cX4_sum : ByteArray := prog_1_method_48_code
def yX4_sum : MethodName := ⟨RX4, "sum", "([III)I"⟩
def RX5 : String := "TillNineModel"
def TX5 : u_T := fun k => match k with
  | 0 => ("TillNineModel", "forms", "[I", true)
  | 1 => ("TillNineModel", "sizes", "[I", true)
  | 2 => ("TillNineModel", "items", "[I", true)
  | 3 => ("TillNineModel", "moved", "[I", true)
  | 4 => ("TillNineModel", "latest", "I", false)
  | 5 => ("TillNineModel", "text", "[I", true)
  | 6 => ("TillNineModel", "typed", "I", false)
  | 7 => ("TillNineModel", "at", "I", false)
  | 8 => ("TillNineModel", "shops", "I", false)
  | 9 => ("TillNineModel", "shopSize", "[I", true)
  | 10 => ("TillNineModel", "shopCost", "[I", true)
  | 11 => ("TillNineModel", "sorts", "I", false)
  | 12 => ("TillNineModel", "sortOf", "[I", true)
  | 13 => ("TillNineModel", "settings", "[I", true)
  | 14 => ("TillNineModel", "hours", "[I", true)
  | 15 => ("TillNineModel", "turns", "[I", true)
  | 16 => ("TillNineModel", "tried", "[I", true)
  | 17 => ("TillNineModel", "habits", "[I", true)
  | 18 => ("TillNineModel", "fined", "Z", false)
  | 19 => ("TillNineModel", "limit", "I", false)
  | 20 => ("TillNineModel", "fixed", "I", false)
  | 21 => ("TillNineModel", "costs", "[I", true)
  | 22 => ("TillNineModel", "earned", "[J", true)
  | 23 => ("TillNineModel", "served", "J", false)
  | 24 => ("TillNineModel", "rounds", "I", false)
  | 25 => ("TillNineModel", "bestAmount", "J", false)
  | _ => ("TillNineModel", "kept", "[I", true)
def tyX5 : Nat → FieldType := fun k => match k with
  | 0 => .array .int
  | 1 => .array .int
  | 2 => .array .int
  | 3 => .array .int
  | 4 => .int
  | 5 => .array .int
  | 6 => .int
  | 7 => .int
  | 8 => .int
  | 9 => .array .int
  | 10 => .array .int
  | 11 => .int
  | 12 => .array .int
  | 13 => .array .int
  | 14 => .array .int
  | 15 => .array .int
  | 16 => .array .int
  | 17 => .array .int
  | 18 => .boolean
  | 19 => .int
  | 20 => .int
  | 21 => .array .int
  | 22 => .array .long
  | 23 => .long
  | 24 => .int
  | 25 => .long
  | _ => .array .int
abbrev wsX50 : List Cond := u_ws RX5 TX5 27
theorem nmX5 : ∀ a, a < 27 → ∀ b, b < 27 → a ≠ b → (TX5 a).2.1 ≠ (TX5 b).2.1 := by decide +kernel
theorem tyX5_ok : ∀ k, k < 27 → parseFieldDescriptor (TX5 k).2.2.1 = some (tyX5 k) := by decide +kernel
abbrev cX5_init : ByteArray := prog_7_method_1_code
def yX5_init : MethodName := ⟨RX5, "<init>", "()V"⟩
abbrev cX5_in : ByteArray := prog_7_method_3_code
def yX5_in : MethodName := ⟨RX5, "in", "(JJJ)Z"⟩
abbrev cX5_no : ByteArray := prog_7_method_4_code
def yX5_no : MethodName := ⟨RX5, "no", "(I)J"⟩
abbrev cX5_isTwo : ByteArray := prog_7_method_5_code
def yX5_isTwo : MethodName := ⟨RX5, "isTwo", "(I)Z"⟩
abbrev cX5_met : ByteArray := prog_7_method_6_code
def yX5_met : MethodName := ⟨RX5, "met", "(I)I"⟩
abbrev cX5_isSheet : ByteArray := prog_7_method_7_code
def yX5_isSheet : MethodName := ⟨RX5, "isSheet", "(I)Z"⟩
abbrev cX5_sheet : ByteArray := prog_7_method_8_code
def yX5_sheet : MethodName := ⟨RX5, "sheet", "(III)I"⟩
abbrev cX5_lose : ByteArray := prog_7_method_9_code
def yX5_lose : MethodName := ⟨RX5, "lose", "(I)I"⟩
abbrev cX5_lacks : ByteArray := prog_7_method_10_code
def yX5_lacks : MethodName := ⟨RX5, "lacks", "(III)I"⟩
abbrev cX5_cut : ByteArray := prog_7_method_11_code
def yX5_cut : MethodName := ⟨RX5, "cut", "(II)I"⟩
abbrev cX5_lay : ByteArray := prog_7_method_12_code
def yX5_lay : MethodName := ⟨RX5, "lay", "(IIII)I"⟩
abbrev cX5_get : ByteArray := prog_7_method_13_code
def yX5_get : MethodName := ⟨RX5, "get", "(III)I"⟩
abbrev cX5_copy : ByteArray := prog_7_method_14_code
def yX5_copy : MethodName := ⟨RX5, "copy", "(IIIII)I"⟩
abbrev cX5_divisor : ByteArray := prog_7_method_15_code
def yX5_divisor : MethodName := ⟨RX5, "divisor", "(JJ)J"⟩
abbrev cX5_part : ByteArray := prog_7_method_16_code
def yX5_part : MethodName := ⟨RX5, "part", "(JJI)J"⟩
abbrev cX5_type : ByteArray := prog_7_method_17_code
def yX5_type : MethodName := ⟨RX5, "type", "(I)I"⟩
abbrev cX5_wipe : ByteArray := prog_7_method_18_code
def yX5_wipe : MethodName := ⟨RX5, "wipe", "()I"⟩
abbrev cX5_here : ByteArray := prog_7_method_19_code
def yX5_here : MethodName := ⟨RX5, "here", "()I"⟩
abbrev cX5_goes : ByteArray := prog_7_method_20_code
def yX5_goes : MethodName := ⟨RX5, "goes", "(I)Z"⟩
abbrev cX5_figures : ByteArray := prog_7_method_21_code
def yX5_figures : MethodName := ⟨RX5, "figures", "(III)I"⟩
abbrev cX5_readsShop : ByteArray := prog_7_method_22_code
def yX5_readsShop : MethodName := ⟨RX5, "readsShop", "()Z"⟩
abbrev cX5_behind : ByteArray := prog_7_method_23_code
def yX5_behind : MethodName := ⟨RX5, "behind", "(I)I"⟩
abbrev cX5_readsSort : ByteArray := prog_7_method_24_code
def yX5_readsSort : MethodName := ⟨RX5, "readsSort", "()Z"⟩
abbrev cX5_stops : ByteArray := prog_7_method_25_code
def yX5_stops : MethodName := ⟨RX5, "stops", "()I"⟩
abbrev cX5_reads : ByteArray := prog_7_method_26_code
def yX5_reads : MethodName := ⟨RX5, "reads", "()I"⟩
abbrev cX5_fault : ByteArray := prog_7_method_27_code
def yX5_fault : MethodName := ⟨RX5, "fault", "()I"⟩
abbrev cX5_isShop : ByteArray := prog_7_method_28_code
def yX5_isShop : MethodName := ⟨RX5, "isShop", "(I)Z"⟩
abbrev cX5_isBound : ByteArray := prog_7_method_29_code
def yX5_isBound : MethodName := ⟨RX5, "isBound", "(I)Z"⟩
abbrev cX5_shop : ByteArray := prog_7_method_30_code
def yX5_shop : MethodName := ⟨RX5, "shop", "(II)I"⟩
abbrev cX5_sort : ByteArray := prog_7_method_31_code
def yX5_sort : MethodName := ⟨RX5, "sort", "(II)I"⟩
abbrev cX5_high : ByteArray := prog_7_method_32_code
def yX5_high : MethodName := ⟨RX5, "high", "(I)I"⟩
abbrev cX5_set : ByteArray := prog_7_method_33_code
def yX5_set : MethodName := ⟨RX5, "set", "(II)I"⟩
abbrev cX5_hours : ByteArray := prog_7_method_34_code
def yX5_hours : MethodName := ⟨RX5, "hours", "(II)I"⟩
abbrev cX5_read : ByteArray := prog_7_method_35_code
def yX5_read : MethodName := ⟨RX5, "read", "(I)I"⟩
abbrev cX5_tries : ByteArray := prog_7_method_36_code
def yX5_tries : MethodName := ⟨RX5, "tries", "()V"⟩
abbrev cX5_openIn : ByteArray := prog_7_method_37_code
def yX5_openIn : MethodName := ⟨RX5, "openIn", "(I)I"⟩
abbrev cX5_open : ByteArray := prog_7_method_38_code
def yX5_open : MethodName := ⟨RX5, "open", "(I)I"⟩
abbrev cX5_sizesOf : ByteArray := prog_7_method_39_code
def yX5_sizesOf : MethodName := ⟨RX5, "sizesOf", "(I)I"⟩
abbrev cX5_parts : ByteArray := prog_7_method_40_code
def yX5_parts : MethodName := ⟨RX5, "parts", "(JII)V"⟩
abbrev cX5_ones : ByteArray := prog_7_method_41_code
def yX5_ones : MethodName := ⟨RX5, "ones", "(I)I"⟩
abbrev cX5_buys : ByteArray := prog_7_method_42_code
def yX5_buys : MethodName := ⟨RX5, "buys", "(I)V"⟩
abbrev cX5_earnAll : ByteArray := prog_7_method_43_code
def yX5_earnAll : MethodName := ⟨RX5, "earnAll", "()V"⟩
abbrev cX5_earnsBy : ByteArray := prog_7_method_44_code
def yX5_earnsBy : MethodName := ⟨RX5, "earnsBy", "(II)J"⟩
abbrev cX5_together : ByteArray := prog_7_method_45_code
def yX5_together : MethodName := ⟨RX5, "together", "()J"⟩
abbrev cX5_answerOf : ByteArray := prog_7_method_46_code
def yX5_answerOf : MethodName := ⟨RX5, "answerOf", "(I)I"⟩
abbrev cX5_earns : ByteArray := prog_7_method_47_code
def yX5_earns : MethodName := ⟨RX5, "earns", "(II)J"⟩
abbrev cX5_earnsOf : ByteArray := prog_7_method_48_code
def yX5_earnsOf : MethodName := ⟨RX5, "earnsOf", "(II)J"⟩
abbrev cX5_allOf : ByteArray := prog_7_method_49_code
def yX5_allOf : MethodName := ⟨RX5, "allOf", "(II)J"⟩
abbrev cX5_all : ByteArray := prog_7_method_50_code
def yX5_all : MethodName := ⟨RX5, "all", "(II)J"⟩
abbrev cX5_answerNow : ByteArray := prog_7_method_51_code
def yX5_answerNow : MethodName := ⟨RX5, "answerNow", "(I)I"⟩
abbrev cX5_answer : ByteArray := prog_7_method_52_code
def yX5_answer : MethodName := ⟨RX5, "answer", "(I)I"⟩
abbrev cX5_roundGoes : ByteArray := prog_7_method_53_code
def yX5_roundGoes : MethodName := ⟨RX5, "roundGoes", "()Z"⟩
abbrev cX5_runsDown : ByteArray := prog_7_method_54_code
def yX5_runsDown : MethodName := ⟨RX5, "runsDown", "()Z"⟩
abbrev cX5_restOf : ByteArray := prog_7_method_55_code
def yX5_restOf : MethodName := ⟨RX5, "restOf", "(I)I"⟩
abbrev cX5_rest : ByteArray := prog_7_method_56_code
def yX5_rest : MethodName := ⟨RX5, "rest", "(I)I"⟩
abbrev cX5_isStill : ByteArray := prog_7_method_57_code
def yX5_isStill : MethodName := ⟨RX5, "isStill", "()Z"⟩
abbrev cX5_lays : ByteArray := prog_7_method_58_code
def yX5_lays : MethodName := ⟨RX5, "lays", "(I)V"⟩
abbrev cX5_stillOf : ByteArray := prog_7_method_59_code
def yX5_stillOf : MethodName := ⟨RX5, "stillOf", "(II)I"⟩
abbrev cX5_still : ByteArray := prog_7_method_60_code
def yX5_still : MethodName := ⟨RX5, "still", "(II)I"⟩
abbrev cX5_findBest : ByteArray := prog_7_method_61_code
def yX5_findBest : MethodName := ⟨RX5, "findBest", "(I)I"⟩
abbrev cX5_bestOf : ByteArray := prog_7_method_62_code
def yX5_bestOf : MethodName := ⟨RX5, "bestOf", "(II)I"⟩
abbrev cX5_best : ByteArray := prog_7_method_63_code
def yX5_best : MethodName := ⟨RX5, "best", "(II)I"⟩
abbrev cX5_loss : ByteArray := prog_7_method_64_code
def yX5_loss : MethodName := ⟨RX5, "loss", "(I)J"⟩
abbrev cX5_leastNow : ByteArray := prog_7_method_65_code
def yX5_leastNow : MethodName := ⟨RX5, "leastNow", "()I"⟩
abbrev cX5_leastFine : ByteArray := prog_7_method_66_code
def yX5_leastFine : MethodName := ⟨RX5, "leastFine", "()I"⟩
abbrev cX5_bestCap : ByteArray := prog_7_method_67_code
def yX5_bestCap : MethodName := ⟨RX5, "bestCap", "(I)J"⟩
abbrev cX5_edge : ByteArray := prog_7_method_68_code
def yX5_edge : MethodName := ⟨RX5, "edge", "(I)I"⟩
abbrev cX5_always : ByteArray := prog_7_method_69_code
def yX5_always : MethodName := ⟨RX5, "always", "(II)J"⟩
abbrev cX5_turn : ByteArray := prog_7_method_70_code
def yX5_turn : MethodName := ⟨RX5, "turn", "(II)I"⟩
abbrev cX5_layTurn : ByteArray := prog_7_method_71_code
def yX5_layTurn : MethodName := ⟨RX5, "layTurn", "(I)V"⟩
abbrev cX5_keepsOf : ByteArray := prog_7_method_72_code
def yX5_keepsOf : MethodName := ⟨RX5, "keepsOf", "(I)I"⟩
abbrev cX5_keeps : ByteArray := prog_7_method_73_code
def yX5_keeps : MethodName := ⟨RX5, "keeps", "(I)I"⟩
abbrev cX5_week : ByteArray := prog_7_method_74_code
def yX5_week : MethodName := ⟨RX5, "week", "(II)J"⟩
abbrev cX5_weekGoes : ByteArray := prog_7_method_75_code
def yX5_weekGoes : MethodName := ⟨RX5, "weekGoes", "()V"⟩
abbrev cX5_weeksOf : ByteArray := prog_7_method_76_code
def yX5_weeksOf : MethodName := ⟨RX5, "weeksOf", "(II)I"⟩
abbrev cX5_weeks : ByteArray := prog_7_method_77_code
def yX5_weeks : MethodName := ⟨RX5, "weeks", "(II)I"⟩
abbrev cX5_isNoWayBack : ByteArray := prog_7_method_78_code
def yX5_isNoWayBack : MethodName := ⟨RX5, "isNoWayBack", "()Z"⟩
abbrev cX5_backNow : ByteArray := prog_7_method_79_code
def yX5_backNow : MethodName := ⟨RX5, "backNow", "()I"⟩
abbrev cX5_back : ByteArray := prog_7_method_80_code
def yX5_back : MethodName := ⟨RX5, "back", "()I"⟩
abbrev cX5_write : ByteArray := prog_7_method_81_code
def yX5_write : MethodName := ⟨RX5, "write", "(I)I"⟩
abbrev cX5_count : ByteArray := prog_7_method_82_code
def yX5_count : MethodName := ⟨RX5, "count", "(I)I"⟩
abbrev cX5_digest : ByteArray := prog_7_method_83_code
def yX5_digest : MethodName := ⟨RX5, "digest", "()J"⟩
def RJ6 : String := "java/lang/Integer"
def TJ6 : u_T := fun k => match k with
  | _ => ("", "", "", false)
def tyJ6 : Nat → FieldType := fun k => match k with
  | _ => .int
abbrev wsJ60 : List Cond := u_ws RJ6 TJ6 0
theorem nmJ6 : ∀ a, a < 0 → ∀ b, b < 0 → a ≠ b → (TJ6 a).2.1 ≠ (TJ6 b).2.1 := by decide +kernel
theorem tyJ6_ok : ∀ k, k < 0 → parseFieldDescriptor (TJ6 k).2.2.1 = some (tyJ6 k) := by decide +kernel
abbrev cJ6_bitCount_0f7a4 : ByteArray := prog_8_method_49_code
def yJ6_bitCount_0f7a4 : MethodName := ⟨RJ6, "bitCount", "(I)I"⟩
def RJ9 : String := "java/lang/Math"
def TJ9 : u_T := fun k => match k with
  | _ => ("", "", "", false)
def tyJ9 : Nat → FieldType := fun k => match k with
  | _ => .int
abbrev wsJ90 : List Cond := u_ws RJ9 TJ9 0
theorem nmJ9 : ∀ a, a < 0 → ∀ b, b < 0 → a ≠ b → (TJ9 a).2.1 ≠ (TJ9 b).2.1 := by decide +kernel
theorem tyJ9_ok : ∀ k, k < 0 → parseFieldDescriptor (TJ9 k).2.2.1 = some (tyJ9 k) := by decide +kernel
abbrev cJ9_abs_067f4 : ByteArray := prog_9_method_61_code
def yJ9_abs_067f4 : MethodName := ⟨RJ9, "abs", "(J)J"⟩
abbrev cJ9_max_7cf53 : ByteArray := prog_9_method_65_code
def yJ9_max_7cf53 : MethodName := ⟨RJ9, "max", "(II)I"⟩
abbrev cJ9_max_f86c9 : ByteArray := prog_9_method_66_code
def yJ9_max_f86c9 : MethodName := ⟨RJ9, "max", "(JJ)J"⟩
abbrev cJ9_min_7cf53 : ByteArray := prog_9_method_69_code
def yJ9_min_7cf53 : MethodName := ⟨RJ9, "min", "(II)I"⟩
def RJ10 : String := "java/lang/System"
def TJ10 : u_T := fun k => match k with
  | _ => ("", "", "", false)
def tyJ10 : Nat → FieldType := fun k => match k with
  | _ => .int
abbrev wsJ100 : List Cond := u_ws RJ10 TJ10 0
theorem nmJ10 : ∀ a, a < 0 → ∀ b, b < 0 → a ≠ b → (TJ10 a).2.1 ≠ (TJ10 b).2.1 := by decide +kernel
theorem tyJ10_ok : ∀ k, k < 0 → parseFieldDescriptor (TJ10 k).2.2.1 = some (tyJ10 k) := by decide +kernel
def RJ7 : String := "java/util/Arrays"
def TJ7 : u_T := fun k => match k with
  | _ => ("", "", "", false)
def tyJ7 : Nat → FieldType := fun k => match k with
  | _ => .int
abbrev wsJ70 : List Cond := u_ws RJ7 TJ7 0
theorem nmJ7 : ∀ a, a < 0 → ∀ b, b < 0 → a ≠ b → (TJ7 a).2.1 ≠ (TJ7 b).2.1 := by decide +kernel
theorem tyJ7_ok : ∀ k, k < 0 → parseFieldDescriptor (TJ7 k).2.2.1 = some (tyJ7 k) := by decide +kernel
abbrev cJ7_fill_d0a16 : ByteArray := prog_11_method_101_code
def yJ7_fill_d0a16 : MethodName := ⟨RJ7, "fill", "([JJ)V"⟩
abbrev cJ7_fill_53178 : ByteArray := prog_11_method_103_code
def yJ7_fill_53178 : MethodName := ⟨RJ7, "fill", "([II)V"⟩
def RL : String := "TillNineLaw"
abbrev cL_law : ByteArray := code
def yL_law : MethodName := ⟨RL, "law", "([I)Z"⟩
end
section
theorem dX0_init_0 : decode cX0_init 0 = .ok (.aload_n 0, 1) := by decide +kernel
theorem dX0_init_1 : decode cX0_init 1 = .ok (.invokespecial 3, 3) := by decide +kernel
theorem dX0_init_4 : decode cX0_init 4 = .ok (.aload_n 0, 1) := by decide +kernel
theorem dX0_init_5 : decode cX0_init 5 = .ok (.iconst 5, 1) := by decide +kernel
theorem dX0_init_6 : decode cX0_init 6 = .ok (.newarray .int, 2) := by decide +kernel
theorem dX0_init_8 : decode cX0_init 8 = .ok (.putfield 9, 3) := by decide +kernel
theorem dX0_init_11 : decode cX0_init 11 = .ok (.aload_n 0, 1) := by decide +kernel
theorem dX0_init_12 : decode cX0_init 12 = .ok (.iconst 5, 1) := by decide +kernel
theorem dX0_init_13 : decode cX0_init 13 = .ok (.newarray .int, 2) := by decide +kernel
theorem dX0_init_15 : decode cX0_init 15 = .ok (.putfield 15, 3) := by decide +kernel
theorem dX0_init_18 : decode cX0_init 18 = .ok (.aload_n 0, 1) := by decide +kernel
theorem dX0_init_19 : decode cX0_init 19 = .ok (.iconst 4, 1) := by decide +kernel
theorem dX0_init_20 : decode cX0_init 20 = .ok (.newarray .int, 2) := by decide +kernel
theorem dX0_init_22 : decode cX0_init 22 = .ok (.putfield 18, 3) := by decide +kernel
theorem dX0_init_25 : decode cX0_init 25 = .ok (.aload_n 0, 1) := by decide +kernel
theorem dX0_init_26 : decode cX0_init 26 = .ok (.iconst 5, 1) := by decide +kernel
theorem dX0_init_27 : decode cX0_init 27 = .ok (.newarray .int, 2) := by decide +kernel
theorem dX0_init_29 : decode cX0_init 29 = .ok (.putfield 21, 3) := by decide +kernel
theorem dX0_init_32 : decode cX0_init 32 = .ok (.aload_n 0, 1) := by decide +kernel
theorem dX0_init_33 : decode cX0_init 33 = .ok (.iconst 4, 1) := by decide +kernel
theorem dX0_init_34 : decode cX0_init 34 = .ok (.newarray .int, 2) := by decide +kernel
theorem dX0_init_36 : decode cX0_init 36 = .ok (.putfield 24, 3) := by decide +kernel
theorem dX0_init_39 : decode cX0_init 39 = .ok (.aload_n 0, 1) := by decide +kernel
theorem dX0_init_40 : decode cX0_init 40 = .ok (.iconst 4, 1) := by decide +kernel
theorem dX0_init_41 : decode cX0_init 41 = .ok (.newarray .long, 2) := by decide +kernel
theorem dX0_init_43 : decode cX0_init 43 = .ok (.putfield 27, 3) := by decide +kernel
theorem dX0_init_46 : decode cX0_init 46 = .ok (.aload_n 0, 1) := by decide +kernel
theorem dX0_init_47 : decode cX0_init 47 = .ok (.aload_n 1, 1) := by decide +kernel
theorem dX0_init_48 : decode cX0_init 48 = .ok (.putfield 31, 3) := by decide +kernel
theorem dX0_init_51 : decode cX0_init 51 = .ok (.aload_n 0, 1) := by decide +kernel
theorem dX0_init_52 : decode cX0_init 52 = .ok (.aload_n 2, 1) := by decide +kernel
theorem dX0_init_53 : decode cX0_init 53 = .ok (.putfield 35, 3) := by decide +kernel
theorem dX0_init_56 : decode cX0_init 56 = .ok (.return_, 1) := by decide +kernel
theorem dX0_begin_0 : decode cX0_begin 0 = .ok (.aload_n 1, 1) := by decide +kernel
theorem dX0_begin_1 : decode cX0_begin 1 = .ok (.iconst 0, 1) := by decide +kernel
theorem dX0_begin_2 : decode cX0_begin 2 = .ok (.aload_n 0, 1) := by decide +kernel
theorem dX0_begin_3 : decode cX0_begin 3 = .ok (.getfield 9, 3) := by decide +kernel
theorem dX0_begin_6 : decode cX0_begin 6 = .ok (.iconst 0, 1) := by decide +kernel
theorem dX0_begin_7 : decode cX0_begin 7 = .ok (.iconst 5, 1) := by decide +kernel
theorem dX0_begin_8 : decode cX0_begin 8 = .ok (.invokestatic 39, 3) := by decide +kernel
theorem dX0_begin_11 : decode cX0_begin 11 = .ok (.aload_n 0, 1) := by decide +kernel
theorem dX0_begin_12 : decode cX0_begin 12 = .ok (.getfield 15, 3) := by decide +kernel
theorem dX0_begin_15 : decode cX0_begin 15 = .ok (.iconst 3, 1) := by decide +kernel
theorem dX0_begin_16 : decode cX0_begin 16 = .ok (.invokestatic 45, 3) := by decide +kernel
theorem dX0_begin_19 : decode cX0_begin 19 = .ok (.aload_n 2, 1) := by decide +kernel
theorem dX0_begin_20 : decode cX0_begin 20 = .ok (.iconst 5, 1) := by decide +kernel
theorem dX0_begin_21 : decode cX0_begin 21 = .ok (.aload_n 0, 1) := by decide +kernel
theorem dX0_begin_22 : decode cX0_begin 22 = .ok (.getfield 18, 3) := by decide +kernel
theorem dX0_begin_25 : decode cX0_begin 25 = .ok (.iconst 1, 1) := by decide +kernel
theorem dX0_begin_26 : decode cX0_begin 26 = .ok (.iconst 3, 1) := by decide +kernel
theorem dX0_begin_27 : decode cX0_begin 27 = .ok (.invokestatic 39, 3) := by decide +kernel
theorem dX0_begin_30 : decode cX0_begin 30 = .ok (.aload_n 0, 1) := by decide +kernel
theorem dX0_begin_31 : decode cX0_begin 31 = .ok (.aload_n 2, 1) := by decide +kernel
theorem dX0_begin_32 : decode cX0_begin 32 = .ok (.iconst 1, 1) := by decide +kernel
theorem dX0_begin_33 : decode cX0_begin 33 = .ok (.iaload, 1) := by decide +kernel
theorem dX0_begin_34 : decode cX0_begin 34 = .ok (.putfield 51, 3) := by decide +kernel
theorem dX0_begin_37 : decode cX0_begin 37 = .ok (.aload_n 0, 1) := by decide +kernel
theorem dX0_begin_38 : decode cX0_begin 38 = .ok (.aload_n 2, 1) := by decide +kernel
theorem dX0_begin_39 : decode cX0_begin 39 = .ok (.iconst 2, 1) := by decide +kernel
theorem dX0_begin_40 : decode cX0_begin 40 = .ok (.iaload, 1) := by decide +kernel
theorem dX0_begin_41 : decode cX0_begin 41 = .ok (.putfield 55, 3) := by decide +kernel
theorem dX0_begin_44 : decode cX0_begin 44 = .ok (.aload_n 0, 1) := by decide +kernel
theorem dX0_begin_45 : decode cX0_begin 45 = .ok (.aload_n 2, 1) := by decide +kernel
theorem dX0_begin_46 : decode cX0_begin 46 = .ok (.iconst 3, 1) := by decide +kernel
theorem dX0_begin_47 : decode cX0_begin 47 = .ok (.iaload, 1) := by decide +kernel
theorem dX0_begin_48 : decode cX0_begin 48 = .ok (.aload_n 2, 1) := by decide +kernel
theorem dX0_begin_49 : decode cX0_begin 49 = .ok (.iconst 4, 1) := by decide +kernel
theorem dX0_begin_50 : decode cX0_begin 50 = .ok (.iaload, 1) := by decide +kernel
theorem dX0_begin_51 : decode cX0_begin 51 = .ok (.imul, 1) := by decide +kernel
theorem dX0_begin_52 : decode cX0_begin 52 = .ok (.i2l, 1) := by decide +kernel
theorem dX0_begin_53 : decode cX0_begin 53 = .ok (.ldc2_w 58, 3) := by decide +kernel
theorem dX0_begin_56 : decode cX0_begin 56 = .ok (.lmul, 1) := by decide +kernel
theorem dX0_begin_57 : decode cX0_begin 57 = .ok (.putfield 60, 3) := by decide +kernel
theorem dX0_begin_60 : decode cX0_begin 60 = .ok (.aload_n 0, 1) := by decide +kernel
theorem dX0_begin_61 : decode cX0_begin 61 = .ok (.iconst (-1), 1) := by decide +kernel
theorem dX0_begin_62 : decode cX0_begin 62 = .ok (.putfield 64, 3) := by decide +kernel
theorem dX0_begin_65 : decode cX0_begin 65 = .ok (.aload_n 0, 1) := by decide +kernel
theorem dX0_begin_66 : decode cX0_begin 66 = .ok (.iconst 0, 1) := by decide +kernel
theorem dX0_begin_67 : decode cX0_begin 67 = .ok (.putfield 67, 3) := by decide +kernel
theorem dX0_begin_70 : decode cX0_begin 70 = .ok (.aload_n 0, 1) := by decide +kernel
theorem dX0_begin_71 : decode cX0_begin 71 = .ok (.getfield 24, 3) := by decide +kernel
theorem dX0_begin_74 : decode cX0_begin 74 = .ok (.iconst 0, 1) := by decide +kernel
theorem dX0_begin_75 : decode cX0_begin 75 = .ok (.invokestatic 45, 3) := by decide +kernel
theorem dX0_begin_78 : decode cX0_begin 78 = .ok (.iconst 0, 1) := by decide +kernel
theorem dX0_begin_79 : decode cX0_begin 79 = .ok (.istore_n 3, 1) := by decide +kernel
theorem dX0_begin_80 : decode cX0_begin 80 = .ok (.iload_n 3, 1) := by decide +kernel
theorem dX0_begin_81 : decode cX0_begin 81 = .ok (.aload_n 0, 1) := by decide +kernel
theorem dX0_begin_82 : decode cX0_begin 82 = .ok (.getfield 31, 3) := by decide +kernel
theorem dX0_begin_85 : decode cX0_begin 85 = .ok (.getfield 70, 3) := by decide +kernel
theorem dX0_begin_88 : decode cX0_begin 88 = .ok (.if_icmp .ge 20, 3) := by decide +kernel
theorem dX0_begin_91 : decode cX0_begin 91 = .ok (.aload_n 0, 1) := by decide +kernel
theorem dX0_begin_92 : decode cX0_begin 92 = .ok (.iload_n 3, 1) := by decide +kernel
theorem dX0_begin_93 : decode cX0_begin 93 = .ok (.aload_n 0, 1) := by decide +kernel
theorem dX0_begin_94 : decode cX0_begin 94 = .ok (.getfield 9, 3) := by decide +kernel
theorem dX0_begin_97 : decode cX0_begin 97 = .ok (.iload_n 3, 1) := by decide +kernel
theorem dX0_begin_98 : decode cX0_begin 98 = .ok (.iaload, 1) := by decide +kernel
theorem dX0_begin_99 : decode cX0_begin 99 = .ok (.invokevirtual 75, 3) := by decide +kernel
theorem dX0_begin_102 : decode cX0_begin 102 = .ok (.iinc 3 1, 3) := by decide +kernel
theorem dX0_begin_105 : decode cX0_begin 105 = .ok (.goto (-25), 3) := by decide +kernel
theorem dX0_begin_108 : decode cX0_begin 108 = .ok (.return_, 1) := by decide +kernel
theorem dX0_become_0 : decode cX0_become 0 = .ok (.aload_n 0, 1) := by decide +kernel
theorem dX0_become_1 : decode cX0_become 1 = .ok (.getfield 9, 3) := by decide +kernel
theorem dX0_become_4 : decode cX0_become 4 = .ok (.iload_n 1, 1) := by decide +kernel
theorem dX0_become_5 : decode cX0_become 5 = .ok (.iload_n 2, 1) := by decide +kernel
theorem dX0_become_6 : decode cX0_become 6 = .ok (.iastore, 1) := by decide +kernel
theorem dX0_become_7 : decode cX0_become 7 = .ok (.iconst 1, 1) := by decide +kernel
theorem dX0_become_8 : decode cX0_become 8 = .ok (.istore_n 3, 1) := by decide +kernel
theorem dX0_become_9 : decode cX0_become 9 = .ok (.iload_n 3, 1) := by decide +kernel
theorem dX0_become_10 : decode cX0_become 10 = .ok (.iconst 3, 1) := by decide +kernel
theorem dX0_become_11 : decode cX0_become 11 = .ok (.if_icmp .gt 43, 3) := by decide +kernel
theorem dX0_become_14 : decode cX0_become 14 = .ok (.iload_n 2, 1) := by decide +kernel
theorem dX0_become_15 : decode cX0_become 15 = .ok (.iload_n 3, 1) := by decide +kernel
theorem dX0_become_16 : decode cX0_become 16 = .ok (.if_icmp .lt 18, 3) := by decide +kernel
theorem dX0_become_19 : decode cX0_become 19 = .ok (.aload_n 0, 1) := by decide +kernel
theorem dX0_become_20 : decode cX0_become 20 = .ok (.getfield 24, 3) := by decide +kernel
theorem dX0_become_23 : decode cX0_become 23 = .ok (.iload_n 3, 1) := by decide +kernel
theorem dX0_become_24 : decode cX0_become 24 = .ok (.dup2, 1) := by decide +kernel
theorem dX0_become_25 : decode cX0_become 25 = .ok (.iaload, 1) := by decide +kernel
theorem dX0_become_26 : decode cX0_become 26 = .ok (.iconst 1, 1) := by decide +kernel
theorem dX0_become_27 : decode cX0_become 27 = .ok (.iload_n 1, 1) := by decide +kernel
theorem dX0_become_28 : decode cX0_become 28 = .ok (.ishl, 1) := by decide +kernel
theorem dX0_become_29 : decode cX0_become 29 = .ok (.ior, 1) := by decide +kernel
theorem dX0_become_30 : decode cX0_become 30 = .ok (.iastore, 1) := by decide +kernel
theorem dX0_become_31 : decode cX0_become 31 = .ok (.goto 17, 3) := by decide +kernel
theorem dX0_become_34 : decode cX0_become 34 = .ok (.aload_n 0, 1) := by decide +kernel
theorem dX0_become_35 : decode cX0_become 35 = .ok (.getfield 24, 3) := by decide +kernel
theorem dX0_become_38 : decode cX0_become 38 = .ok (.iload_n 3, 1) := by decide +kernel
theorem dX0_become_39 : decode cX0_become 39 = .ok (.dup2, 1) := by decide +kernel
theorem dX0_become_40 : decode cX0_become 40 = .ok (.iaload, 1) := by decide +kernel
theorem dX0_become_41 : decode cX0_become 41 = .ok (.iconst 1, 1) := by decide +kernel
theorem dX0_become_42 : decode cX0_become 42 = .ok (.iload_n 1, 1) := by decide +kernel
theorem dX0_become_43 : decode cX0_become 43 = .ok (.ishl, 1) := by decide +kernel
theorem dX0_become_44 : decode cX0_become 44 = .ok (.iconst (-1), 1) := by decide +kernel
theorem dX0_become_45 : decode cX0_become 45 = .ok (.ixor, 1) := by decide +kernel
theorem dX0_become_46 : decode cX0_become 46 = .ok (.iand, 1) := by decide +kernel
theorem dX0_become_47 : decode cX0_become 47 = .ok (.iastore, 1) := by decide +kernel
theorem dX0_become_48 : decode cX0_become 48 = .ok (.iinc 3 1, 3) := by decide +kernel
theorem dX0_become_51 : decode cX0_become 51 = .ok (.goto (-42), 3) := by decide +kernel
theorem dX0_become_54 : decode cX0_become 54 = .ok (.return_, 1) := by decide +kernel
theorem dX0_bound_0 : decode cX0_bound 0 = .ok (.aload_n 0, 1) := by decide +kernel
theorem dX0_bound_1 : decode cX0_bound 1 = .ok (.getfield 31, 3) := by decide +kernel
theorem dX0_bound_4 : decode cX0_bound 4 = .ok (.getfield 79, 3) := by decide +kernel
theorem dX0_bound_7 : decode cX0_bound 7 = .ok (.iload_n 1, 1) := by decide +kernel
theorem dX0_bound_8 : decode cX0_bound 8 = .ok (.iaload, 1) := by decide +kernel
theorem dX0_bound_9 : decode cX0_bound 9 = .ok (.aload_n 0, 1) := by decide +kernel
theorem dX0_bound_10 : decode cX0_bound 10 = .ok (.getfield 55, 3) := by decide +kernel
theorem dX0_bound_13 : decode cX0_bound 13 = .ok (.if_icmp .le 7, 3) := by decide +kernel
theorem dX0_bound_16 : decode cX0_bound 16 = .ok (.iconst 1, 1) := by decide +kernel
theorem dX0_bound_17 : decode cX0_bound 17 = .ok (.goto 4, 3) := by decide +kernel
theorem dX0_bound_20 : decode cX0_bound 20 = .ok (.iconst 0, 1) := by decide +kernel
theorem dX0_bound_21 : decode cX0_bound 21 = .ok (.ireturn, 1) := by decide +kernel
theorem dX0_openTillNine_0 : decode cX0_openTillNine 0 = .ok (.iconst 0, 1) := by decide +kernel
theorem dX0_openTillNine_1 : decode cX0_openTillNine 1 = .ok (.istore_n 2, 1) := by decide +kernel
theorem dX0_openTillNine_2 : decode cX0_openTillNine 2 = .ok (.iload_n 2, 1) := by decide +kernel
theorem dX0_openTillNine_3 : decode cX0_openTillNine 3 = .ok (.aload_n 0, 1) := by decide +kernel
theorem dX0_openTillNine_4 : decode cX0_openTillNine 4 = .ok (.getfield 31, 3) := by decide +kernel
theorem dX0_openTillNine_7 : decode cX0_openTillNine 7 = .ok (.getfield 70, 3) := by decide +kernel
theorem dX0_openTillNine_10 : decode cX0_openTillNine 10 = .ok (.if_icmp .ge 21, 3) := by decide +kernel
theorem dX0_openTillNine_13 : decode cX0_openTillNine 13 = .ok (.aload_n 0, 1) := by decide +kernel
theorem dX0_openTillNine_14 : decode cX0_openTillNine 14 = .ok (.iload_n 2, 1) := by decide +kernel
theorem dX0_openTillNine_15 : decode cX0_openTillNine 15 = .ok (.iload_n 1, 1) := by decide +kernel
theorem dX0_openTillNine_16 : decode cX0_openTillNine 16 = .ok (.iload_n 2, 1) := by decide +kernel
theorem dX0_openTillNine_17 : decode cX0_openTillNine 17 = .ok (.ishr, 1) := by decide +kernel
theorem dX0_openTillNine_18 : decode cX0_openTillNine 18 = .ok (.iconst 1, 1) := by decide +kernel
theorem dX0_openTillNine_19 : decode cX0_openTillNine 19 = .ok (.iand, 1) := by decide +kernel
theorem dX0_openTillNine_20 : decode cX0_openTillNine 20 = .ok (.iconst 3, 1) := by decide +kernel
theorem dX0_openTillNine_21 : decode cX0_openTillNine 21 = .ok (.imul, 1) := by decide +kernel
theorem dX0_openTillNine_22 : decode cX0_openTillNine 22 = .ok (.invokevirtual 75, 3) := by decide +kernel
theorem dX0_openTillNine_25 : decode cX0_openTillNine 25 = .ok (.iinc 2 1, 3) := by decide +kernel
theorem dX0_openTillNine_28 : decode cX0_openTillNine 28 = .ok (.goto (-26), 3) := by decide +kernel
theorem dX0_openTillNine_31 : decode cX0_openTillNine 31 = .ok (.return_, 1) := by decide +kernel
theorem dX0_digit_0 : decode cX0_digit 0 = .ok (.iload_n 1, 1) := by decide +kernel
theorem dX0_digit_1 : decode cX0_digit 1 = .ok (.iconst 2, 1) := by decide +kernel
theorem dX0_digit_2 : decode cX0_digit 2 = .ok (.aload_n 0, 1) := by decide +kernel
theorem dX0_digit_3 : decode cX0_digit 3 = .ok (.getfield 31, 3) := by decide +kernel
theorem dX0_digit_6 : decode cX0_digit 6 = .ok (.getfield 70, 3) := by decide +kernel
theorem dX0_digit_9 : decode cX0_digit 9 = .ok (.iconst 1, 1) := by decide +kernel
theorem dX0_digit_10 : decode cX0_digit 10 = .ok (.isub, 1) := by decide +kernel
theorem dX0_digit_11 : decode cX0_digit 11 = .ok (.iload_n 2, 1) := by decide +kernel
theorem dX0_digit_12 : decode cX0_digit 12 = .ok (.isub, 1) := by decide +kernel
theorem dX0_digit_13 : decode cX0_digit 13 = .ok (.imul, 1) := by decide +kernel
theorem dX0_digit_14 : decode cX0_digit 14 = .ok (.ishr, 1) := by decide +kernel
theorem dX0_digit_15 : decode cX0_digit 15 = .ok (.iconst 3, 1) := by decide +kernel
theorem dX0_digit_16 : decode cX0_digit 16 = .ok (.iand, 1) := by decide +kernel
theorem dX0_digit_17 : decode cX0_digit 17 = .ok (.ireturn, 1) := by decide +kernel
theorem dX0_profiles_0 : decode cX0_profiles 0 = .ok (.iconst 1, 1) := by decide +kernel
theorem dX0_profiles_1 : decode cX0_profiles 1 = .ok (.iconst 2, 1) := by decide +kernel
theorem dX0_profiles_2 : decode cX0_profiles 2 = .ok (.aload_n 0, 1) := by decide +kernel
theorem dX0_profiles_3 : decode cX0_profiles 3 = .ok (.getfield 31, 3) := by decide +kernel
theorem dX0_profiles_6 : decode cX0_profiles 6 = .ok (.getfield 70, 3) := by decide +kernel
theorem dX0_profiles_9 : decode cX0_profiles 9 = .ok (.imul, 1) := by decide +kernel
theorem dX0_profiles_10 : decode cX0_profiles 10 = .ok (.ishl, 1) := by decide +kernel
theorem dX0_profiles_11 : decode cX0_profiles 11 = .ok (.ireturn, 1) := by decide +kernel
theorem dX0_place_0 : decode cX0_place 0 = .ok (.iconst 0, 1) := by decide +kernel
theorem dX0_place_1 : decode cX0_place 1 = .ok (.istore_n 2, 1) := by decide +kernel
theorem dX0_place_2 : decode cX0_place 2 = .ok (.iload_n 2, 1) := by decide +kernel
theorem dX0_place_3 : decode cX0_place 3 = .ok (.aload_n 0, 1) := by decide +kernel
theorem dX0_place_4 : decode cX0_place 4 = .ok (.getfield 31, 3) := by decide +kernel
theorem dX0_place_7 : decode cX0_place 7 = .ok (.getfield 70, 3) := by decide +kernel
theorem dX0_place_10 : decode cX0_place 10 = .ok (.if_icmp .ge 20, 3) := by decide +kernel
theorem dX0_place_13 : decode cX0_place 13 = .ok (.aload_n 0, 1) := by decide +kernel
theorem dX0_place_14 : decode cX0_place 14 = .ok (.iload_n 2, 1) := by decide +kernel
theorem dX0_place_15 : decode cX0_place 15 = .ok (.aload_n 0, 1) := by decide +kernel
theorem dX0_place_16 : decode cX0_place 16 = .ok (.iload_n 1, 1) := by decide +kernel
theorem dX0_place_17 : decode cX0_place 17 = .ok (.iload_n 2, 1) := by decide +kernel
theorem dX0_place_18 : decode cX0_place 18 = .ok (.invokevirtual 82, 3) := by decide +kernel
theorem dX0_place_21 : decode cX0_place 21 = .ok (.invokevirtual 75, 3) := by decide +kernel
theorem dX0_place_24 : decode cX0_place 24 = .ok (.iinc 2 1, 3) := by decide +kernel
theorem dX0_place_27 : decode cX0_place 27 = .ok (.goto (-25), 3) := by decide +kernel
theorem dX0_place_30 : decode cX0_place 30 = .ok (.return_, 1) := by decide +kernel
theorem dX0_advance_0 : decode cX0_advance 0 = .ok (.aload_n 0, 1) := by decide +kernel
theorem dX0_advance_1 : decode cX0_advance 1 = .ok (.getfield 31, 3) := by decide +kernel
theorem dX0_advance_4 : decode cX0_advance 4 = .ok (.getfield 70, 3) := by decide +kernel
theorem dX0_advance_7 : decode cX0_advance 7 = .ok (.iconst 1, 1) := by decide +kernel
theorem dX0_advance_8 : decode cX0_advance 8 = .ok (.isub, 1) := by decide +kernel
theorem dX0_advance_9 : decode cX0_advance 9 = .ok (.istore_n 1, 1) := by decide +kernel
theorem dX0_advance_10 : decode cX0_advance 10 = .ok (.iload_n 1, 1) := by decide +kernel
theorem dX0_advance_11 : decode cX0_advance 11 = .ok (.ifCond .lt 39, 3) := by decide +kernel
theorem dX0_advance_14 : decode cX0_advance 14 = .ok (.aload_n 0, 1) := by decide +kernel
theorem dX0_advance_15 : decode cX0_advance 15 = .ok (.getfield 9, 3) := by decide +kernel
theorem dX0_advance_18 : decode cX0_advance 18 = .ok (.iload_n 1, 1) := by decide +kernel
theorem dX0_advance_19 : decode cX0_advance 19 = .ok (.iaload, 1) := by decide +kernel
theorem dX0_advance_20 : decode cX0_advance 20 = .ok (.iconst 3, 1) := by decide +kernel
theorem dX0_advance_21 : decode cX0_advance 21 = .ok (.if_icmp .ge 17, 3) := by decide +kernel
theorem dX0_advance_24 : decode cX0_advance 24 = .ok (.aload_n 0, 1) := by decide +kernel
theorem dX0_advance_25 : decode cX0_advance 25 = .ok (.iload_n 1, 1) := by decide +kernel
theorem dX0_advance_26 : decode cX0_advance 26 = .ok (.aload_n 0, 1) := by decide +kernel
theorem dX0_advance_27 : decode cX0_advance 27 = .ok (.getfield 9, 3) := by decide +kernel
theorem dX0_advance_30 : decode cX0_advance 30 = .ok (.iload_n 1, 1) := by decide +kernel
theorem dX0_advance_31 : decode cX0_advance 31 = .ok (.iaload, 1) := by decide +kernel
theorem dX0_advance_32 : decode cX0_advance 32 = .ok (.iconst 1, 1) := by decide +kernel
theorem dX0_advance_33 : decode cX0_advance 33 = .ok (.iadd, 1) := by decide +kernel
theorem dX0_advance_34 : decode cX0_advance 34 = .ok (.invokevirtual 75, 3) := by decide +kernel
theorem dX0_advance_37 : decode cX0_advance 37 = .ok (.return_, 1) := by decide +kernel
theorem dX0_advance_38 : decode cX0_advance 38 = .ok (.aload_n 0, 1) := by decide +kernel
theorem dX0_advance_39 : decode cX0_advance 39 = .ok (.iload_n 1, 1) := by decide +kernel
theorem dX0_advance_40 : decode cX0_advance 40 = .ok (.iconst 0, 1) := by decide +kernel
theorem dX0_advance_41 : decode cX0_advance 41 = .ok (.invokevirtual 75, 3) := by decide +kernel
theorem dX0_advance_44 : decode cX0_advance 44 = .ok (.iinc 1 (-1), 3) := by decide +kernel
theorem dX0_advance_47 : decode cX0_advance 47 = .ok (.goto (-37), 3) := by decide +kernel
theorem dX0_advance_50 : decode cX0_advance 50 = .ok (.return_, 1) := by decide +kernel
theorem dX0_taken_0 : decode cX0_taken 0 = .ok (.lconst 0, 1) := by decide +kernel
theorem dX0_taken_1 : decode cX0_taken 1 = .ok (.lstore_n 2, 1) := by decide +kernel
theorem dX0_taken_2 : decode cX0_taken 2 = .ok (.iconst 1, 1) := by decide +kernel
theorem dX0_taken_3 : decode cX0_taken 3 = .ok (.istore 4, 2) := by decide +kernel
theorem dX0_taken_5 : decode cX0_taken 5 = .ok (.iload 4, 2) := by decide +kernel
theorem dX0_taken_7 : decode cX0_taken 7 = .ok (.iconst 3, 1) := by decide +kernel
theorem dX0_taken_8 : decode cX0_taken 8 = .ok (.if_icmp .gt 46, 3) := by decide +kernel
theorem dX0_taken_11 : decode cX0_taken 11 = .ok (.lload_n 2, 1) := by decide +kernel
theorem dX0_taken_12 : decode cX0_taken 12 = .ok (.aload_n 0, 1) := by decide +kernel
theorem dX0_taken_13 : decode cX0_taken 13 = .ok (.getfield 35, 3) := by decide +kernel
theorem dX0_taken_16 : decode cX0_taken 16 = .ok (.getfield 86, 3) := by decide +kernel
theorem dX0_taken_19 : decode cX0_taken 19 = .ok (.iload 4, 2) := by decide +kernel
theorem dX0_taken_21 : decode cX0_taken 21 = .ok (.aload_n 0, 1) := by decide +kernel
theorem dX0_taken_22 : decode cX0_taken 22 = .ok (.getfield 24, 3) := by decide +kernel
theorem dX0_taken_25 : decode cX0_taken 25 = .ok (.iload 4, 2) := by decide +kernel
theorem dX0_taken_27 : decode cX0_taken 27 = .ok (.iaload, 1) := by decide +kernel
theorem dX0_taken_28 : decode cX0_taken 28 = .ok (.invokestatic 91, 3) := by decide +kernel
theorem dX0_taken_31 : decode cX0_taken 31 = .ok (.iload_n 1, 1) := by decide +kernel
theorem dX0_taken_32 : decode cX0_taken 32 = .ok (.iadd, 1) := by decide +kernel
theorem dX0_taken_33 : decode cX0_taken 33 = .ok (.laload, 1) := by decide +kernel
theorem dX0_taken_34 : decode cX0_taken 34 = .ok (.bipush 8, 2) := by decide +kernel
theorem dX0_taken_36 : decode cX0_taken 36 = .ok (.aload_n 0, 1) := by decide +kernel
theorem dX0_taken_37 : decode cX0_taken 37 = .ok (.getfield 18, 3) := by decide +kernel
theorem dX0_taken_40 : decode cX0_taken 40 = .ok (.iload 4, 2) := by decide +kernel
theorem dX0_taken_42 : decode cX0_taken 42 = .ok (.iaload, 1) := by decide +kernel
theorem dX0_taken_43 : decode cX0_taken 43 = .ok (.iadd, 1) := by decide +kernel
theorem dX0_taken_44 : decode cX0_taken 44 = .ok (.i2l, 1) := by decide +kernel
theorem dX0_taken_45 : decode cX0_taken 45 = .ok (.lmul, 1) := by decide +kernel
theorem dX0_taken_46 : decode cX0_taken 46 = .ok (.ladd, 1) := by decide +kernel
theorem dX0_taken_47 : decode cX0_taken 47 = .ok (.lstore_n 2, 1) := by decide +kernel
theorem dX0_taken_48 : decode cX0_taken 48 = .ok (.iinc 4 1, 3) := by decide +kernel
theorem dX0_taken_51 : decode cX0_taken 51 = .ok (.goto (-46), 3) := by decide +kernel
theorem dX0_taken_54 : decode cX0_taken 54 = .ok (.lload_n 2, 1) := by decide +kernel
theorem dX0_taken_55 : decode cX0_taken 55 = .ok (.lreturn, 1) := by decide +kernel
theorem dX0_burden_0 : decode cX0_burden 0 = .ok (.aload_n 0, 1) := by decide +kernel
theorem dX0_burden_1 : decode cX0_burden 1 = .ok (.getfield 31, 3) := by decide +kernel
theorem dX0_burden_4 : decode cX0_burden 4 = .ok (.getfield 94, 3) := by decide +kernel
theorem dX0_burden_7 : decode cX0_burden 7 = .ok (.iload_n 1, 1) := by decide +kernel
theorem dX0_burden_8 : decode cX0_burden 8 = .ok (.iaload, 1) := by decide +kernel
theorem dX0_burden_9 : decode cX0_burden 9 = .ok (.iload_n 2, 1) := by decide +kernel
theorem dX0_burden_10 : decode cX0_burden 10 = .ok (.imul, 1) := by decide +kernel
theorem dX0_burden_11 : decode cX0_burden 11 = .ok (.i2l, 1) := by decide +kernel
theorem dX0_burden_12 : decode cX0_burden 12 = .ok (.ldc2_w 97, 3) := by decide +kernel
theorem dX0_burden_15 : decode cX0_burden 15 = .ok (.lmul, 1) := by decide +kernel
theorem dX0_burden_16 : decode cX0_burden 16 = .ok (.lstore_n 3, 1) := by decide +kernel
theorem dX0_burden_17 : decode cX0_burden 17 = .ok (.iload_n 2, 1) := by decide +kernel
theorem dX0_burden_18 : decode cX0_burden 18 = .ok (.aload_n 0, 1) := by decide +kernel
theorem dX0_burden_19 : decode cX0_burden 19 = .ok (.getfield 51, 3) := by decide +kernel
theorem dX0_burden_22 : decode cX0_burden 22 = .ok (.if_icmp .le 28, 3) := by decide +kernel
theorem dX0_burden_25 : decode cX0_burden 25 = .ok (.aload_n 0, 1) := by decide +kernel
theorem dX0_burden_26 : decode cX0_burden 26 = .ok (.getfield 31, 3) := by decide +kernel
theorem dX0_burden_29 : decode cX0_burden 29 = .ok (.getfield 79, 3) := by decide +kernel
theorem dX0_burden_32 : decode cX0_burden 32 = .ok (.iload_n 1, 1) := by decide +kernel
theorem dX0_burden_33 : decode cX0_burden 33 = .ok (.iaload, 1) := by decide +kernel
theorem dX0_burden_34 : decode cX0_burden 34 = .ok (.aload_n 0, 1) := by decide +kernel
theorem dX0_burden_35 : decode cX0_burden 35 = .ok (.getfield 55, 3) := by decide +kernel
theorem dX0_burden_38 : decode cX0_burden 38 = .ok (.if_icmp .le 12, 3) := by decide +kernel
theorem dX0_burden_41 : decode cX0_burden 41 = .ok (.lload_n 3, 1) := by decide +kernel
theorem dX0_burden_42 : decode cX0_burden 42 = .ok (.aload_n 0, 1) := by decide +kernel
theorem dX0_burden_43 : decode cX0_burden 43 = .ok (.getfield 60, 3) := by decide +kernel
theorem dX0_burden_46 : decode cX0_burden 46 = .ok (.ladd, 1) := by decide +kernel
theorem dX0_burden_47 : decode cX0_burden 47 = .ok (.goto 4, 3) := by decide +kernel
theorem dX0_burden_50 : decode cX0_burden 50 = .ok (.lload_n 3, 1) := by decide +kernel
theorem dX0_burden_51 : decode cX0_burden 51 = .ok (.lreturn, 1) := by decide +kernel
theorem dX0_earning_0 : decode cX0_earning 0 = .ok (.aload_n 0, 1) := by decide +kernel
theorem dX0_earning_1 : decode cX0_earning 1 = .ok (.iload_n 1, 1) := by decide +kernel
theorem dX0_earning_2 : decode cX0_earning 2 = .ok (.invokevirtual 99, 3) := by decide +kernel
theorem dX0_earning_5 : decode cX0_earning 5 = .ok (.aload_n 0, 1) := by decide +kernel
theorem dX0_earning_6 : decode cX0_earning 6 = .ok (.iload_n 1, 1) := by decide +kernel
theorem dX0_earning_7 : decode cX0_earning 7 = .ok (.aload_n 0, 1) := by decide +kernel
theorem dX0_earning_8 : decode cX0_earning 8 = .ok (.getfield 9, 3) := by decide +kernel
theorem dX0_earning_11 : decode cX0_earning 11 = .ok (.iload_n 1, 1) := by decide +kernel
theorem dX0_earning_12 : decode cX0_earning 12 = .ok (.iaload, 1) := by decide +kernel
theorem dX0_earning_13 : decode cX0_earning 13 = .ok (.invokevirtual 103, 3) := by decide +kernel
theorem dX0_earning_16 : decode cX0_earning 16 = .ok (.lsub, 1) := by decide +kernel
theorem dX0_earning_17 : decode cX0_earning 17 = .ok (.lreturn, 1) := by decide +kernel
theorem dX0_together_0 : decode cX0_together 0 = .ok (.aload_n 0, 1) := by decide +kernel
theorem dX0_together_1 : decode cX0_together 1 = .ok (.iconst 5, 1) := by decide +kernel
theorem dX0_together_2 : decode cX0_together 2 = .ok (.invokevirtual 99, 3) := by decide +kernel
theorem dX0_together_5 : decode cX0_together 5 = .ok (.lstore_n 1, 1) := by decide +kernel
theorem dX0_together_6 : decode cX0_together 6 = .ok (.iconst 0, 1) := by decide +kernel
theorem dX0_together_7 : decode cX0_together 7 = .ok (.istore_n 3, 1) := by decide +kernel
theorem dX0_together_8 : decode cX0_together 8 = .ok (.iload_n 3, 1) := by decide +kernel
theorem dX0_together_9 : decode cX0_together 9 = .ok (.aload_n 0, 1) := by decide +kernel
theorem dX0_together_10 : decode cX0_together 10 = .ok (.getfield 31, 3) := by decide +kernel
theorem dX0_together_13 : decode cX0_together 13 = .ok (.getfield 70, 3) := by decide +kernel
theorem dX0_together_16 : decode cX0_together 16 = .ok (.if_icmp .ge 23, 3) := by decide +kernel
theorem dX0_together_19 : decode cX0_together 19 = .ok (.lload_n 1, 1) := by decide +kernel
theorem dX0_together_20 : decode cX0_together 20 = .ok (.aload_n 0, 1) := by decide +kernel
theorem dX0_together_21 : decode cX0_together 21 = .ok (.iload_n 3, 1) := by decide +kernel
theorem dX0_together_22 : decode cX0_together 22 = .ok (.aload_n 0, 1) := by decide +kernel
theorem dX0_together_23 : decode cX0_together 23 = .ok (.getfield 9, 3) := by decide +kernel
theorem dX0_together_26 : decode cX0_together 26 = .ok (.iload_n 3, 1) := by decide +kernel
theorem dX0_together_27 : decode cX0_together 27 = .ok (.iaload, 1) := by decide +kernel
theorem dX0_together_28 : decode cX0_together 28 = .ok (.invokevirtual 103, 3) := by decide +kernel
theorem dX0_together_31 : decode cX0_together 31 = .ok (.lsub, 1) := by decide +kernel
theorem dX0_together_32 : decode cX0_together 32 = .ok (.lstore_n 1, 1) := by decide +kernel
theorem dX0_together_33 : decode cX0_together 33 = .ok (.iinc 3 1, 3) := by decide +kernel
theorem dX0_together_36 : decode cX0_together 36 = .ok (.goto (-28), 3) := by decide +kernel
theorem dX0_together_39 : decode cX0_together 39 = .ok (.lload_n 1, 1) := by decide +kernel
theorem dX0_together_40 : decode cX0_together 40 = .ok (.lreturn, 1) := by decide +kernel
theorem dX0_aim_0 : decode cX0_aim 0 = .ok (.iload_n 1, 1) := by decide +kernel
theorem dX0_aim_1 : decode cX0_aim 1 = .ok (.ifCond .ne 10, 3) := by decide +kernel
theorem dX0_aim_4 : decode cX0_aim 4 = .ok (.aload_n 0, 1) := by decide +kernel
theorem dX0_aim_5 : decode cX0_aim 5 = .ok (.invokevirtual 107, 3) := by decide +kernel
theorem dX0_aim_8 : decode cX0_aim 8 = .ok (.goto 9, 3) := by decide +kernel
theorem dX0_aim_11 : decode cX0_aim 11 = .ok (.aload_n 0, 1) := by decide +kernel
theorem dX0_aim_12 : decode cX0_aim 12 = .ok (.bipush 6, 2) := by decide +kernel
theorem dX0_aim_14 : decode cX0_aim 14 = .ok (.invokevirtual 99, 3) := by decide +kernel
theorem dX0_aim_17 : decode cX0_aim 17 = .ok (.lreturn, 1) := by decide +kernel
theorem dX0_weigh_0 : decode cX0_weigh 0 = .ok (.iconst 1, 1) := by decide +kernel
theorem dX0_weigh_1 : decode cX0_weigh 1 = .ok (.iload_n 1, 1) := by decide +kernel
theorem dX0_weigh_2 : decode cX0_weigh 2 = .ok (.ishl, 1) := by decide +kernel
theorem dX0_weigh_3 : decode cX0_weigh 3 = .ok (.istore_n 2, 1) := by decide +kernel
theorem dX0_weigh_4 : decode cX0_weigh 4 = .ok (.lconst 0, 1) := by decide +kernel
theorem dX0_weigh_5 : decode cX0_weigh 5 = .ok (.lstore_n 3, 1) := by decide +kernel
theorem dX0_weigh_6 : decode cX0_weigh 6 = .ok (.iconst 1, 1) := by decide +kernel
theorem dX0_weigh_7 : decode cX0_weigh 7 = .ok (.istore 5, 2) := by decide +kernel
theorem dX0_weigh_9 : decode cX0_weigh 9 = .ok (.iload 5, 2) := by decide +kernel
theorem dX0_weigh_11 : decode cX0_weigh 11 = .ok (.iconst 3, 1) := by decide +kernel
theorem dX0_weigh_12 : decode cX0_weigh 12 = .ok (.if_icmp .gt 103, 3) := by decide +kernel
theorem dX0_weigh_15 : decode cX0_weigh 15 = .ok (.aload_n 0, 1) := by decide +kernel
theorem dX0_weigh_16 : decode cX0_weigh 16 = .ok (.getfield 24, 3) := by decide +kernel
theorem dX0_weigh_19 : decode cX0_weigh 19 = .ok (.iload 5, 2) := by decide +kernel
theorem dX0_weigh_21 : decode cX0_weigh 21 = .ok (.iaload, 1) := by decide +kernel
theorem dX0_weigh_22 : decode cX0_weigh 22 = .ok (.iload_n 2, 1) := by decide +kernel
theorem dX0_weigh_23 : decode cX0_weigh 23 = .ok (.iconst (-1), 1) := by decide +kernel
theorem dX0_weigh_24 : decode cX0_weigh 24 = .ok (.ixor, 1) := by decide +kernel
theorem dX0_weigh_25 : decode cX0_weigh 25 = .ok (.iand, 1) := by decide +kernel
theorem dX0_weigh_26 : decode cX0_weigh 26 = .ok (.istore 6, 2) := by decide +kernel
theorem dX0_weigh_28 : decode cX0_weigh 28 = .ok (.aload_n 0, 1) := by decide +kernel
theorem dX0_weigh_29 : decode cX0_weigh 29 = .ok (.getfield 35, 3) := by decide +kernel
theorem dX0_weigh_32 : decode cX0_weigh 32 = .ok (.getfield 86, 3) := by decide +kernel
theorem dX0_weigh_35 : decode cX0_weigh 35 = .ok (.iload 5, 2) := by decide +kernel
theorem dX0_weigh_37 : decode cX0_weigh 37 = .ok (.iload 6, 2) := by decide +kernel
theorem dX0_weigh_39 : decode cX0_weigh 39 = .ok (.invokestatic 91, 3) := by decide +kernel
theorem dX0_weigh_42 : decode cX0_weigh 42 = .ok (.iload_n 1, 1) := by decide +kernel
theorem dX0_weigh_43 : decode cX0_weigh 43 = .ok (.iadd, 1) := by decide +kernel
theorem dX0_weigh_44 : decode cX0_weigh 44 = .ok (.laload, 1) := by decide +kernel
theorem dX0_weigh_45 : decode cX0_weigh 45 = .ok (.bipush 8, 2) := by decide +kernel
theorem dX0_weigh_47 : decode cX0_weigh 47 = .ok (.aload_n 0, 1) := by decide +kernel
theorem dX0_weigh_48 : decode cX0_weigh 48 = .ok (.getfield 18, 3) := by decide +kernel
theorem dX0_weigh_51 : decode cX0_weigh 51 = .ok (.iload 5, 2) := by decide +kernel
theorem dX0_weigh_53 : decode cX0_weigh 53 = .ok (.iaload, 1) := by decide +kernel
theorem dX0_weigh_54 : decode cX0_weigh 54 = .ok (.iadd, 1) := by decide +kernel
theorem dX0_weigh_55 : decode cX0_weigh 55 = .ok (.i2l, 1) := by decide +kernel
theorem dX0_weigh_56 : decode cX0_weigh 56 = .ok (.lmul, 1) := by decide +kernel
theorem dX0_weigh_57 : decode cX0_weigh 57 = .ok (.lstore 7, 2) := by decide +kernel
theorem dX0_weigh_59 : decode cX0_weigh 59 = .ok (.aload_n 0, 1) := by decide +kernel
theorem dX0_weigh_60 : decode cX0_weigh 60 = .ok (.getfield 35, 3) := by decide +kernel
theorem dX0_weigh_63 : decode cX0_weigh 63 = .ok (.getfield 86, 3) := by decide +kernel
theorem dX0_weigh_66 : decode cX0_weigh 66 = .ok (.iload 5, 2) := by decide +kernel
theorem dX0_weigh_68 : decode cX0_weigh 68 = .ok (.iload 6, 2) := by decide +kernel
theorem dX0_weigh_70 : decode cX0_weigh 70 = .ok (.iload_n 2, 1) := by decide +kernel
theorem dX0_weigh_71 : decode cX0_weigh 71 = .ok (.ior, 1) := by decide +kernel
theorem dX0_weigh_72 : decode cX0_weigh 72 = .ok (.invokestatic 91, 3) := by decide +kernel
theorem dX0_weigh_75 : decode cX0_weigh 75 = .ok (.iload_n 1, 1) := by decide +kernel
theorem dX0_weigh_76 : decode cX0_weigh 76 = .ok (.iadd, 1) := by decide +kernel
theorem dX0_weigh_77 : decode cX0_weigh 77 = .ok (.laload, 1) := by decide +kernel
theorem dX0_weigh_78 : decode cX0_weigh 78 = .ok (.bipush 8, 2) := by decide +kernel
theorem dX0_weigh_80 : decode cX0_weigh 80 = .ok (.aload_n 0, 1) := by decide +kernel
theorem dX0_weigh_81 : decode cX0_weigh 81 = .ok (.getfield 18, 3) := by decide +kernel
theorem dX0_weigh_84 : decode cX0_weigh 84 = .ok (.iload 5, 2) := by decide +kernel
theorem dX0_weigh_86 : decode cX0_weigh 86 = .ok (.iaload, 1) := by decide +kernel
theorem dX0_weigh_87 : decode cX0_weigh 87 = .ok (.iadd, 1) := by decide +kernel
theorem dX0_weigh_88 : decode cX0_weigh 88 = .ok (.i2l, 1) := by decide +kernel
theorem dX0_weigh_89 : decode cX0_weigh 89 = .ok (.lmul, 1) := by decide +kernel
theorem dX0_weigh_90 : decode cX0_weigh 90 = .ok (.lstore 9, 2) := by decide +kernel
theorem dX0_weigh_92 : decode cX0_weigh 92 = .ok (.lload_n 3, 1) := by decide +kernel
theorem dX0_weigh_93 : decode cX0_weigh 93 = .ok (.lload 7, 2) := by decide +kernel
theorem dX0_weigh_95 : decode cX0_weigh 95 = .ok (.ladd, 1) := by decide +kernel
theorem dX0_weigh_96 : decode cX0_weigh 96 = .ok (.lstore_n 3, 1) := by decide +kernel
theorem dX0_weigh_97 : decode cX0_weigh 97 = .ok (.aload_n 0, 1) := by decide +kernel
theorem dX0_weigh_98 : decode cX0_weigh 98 = .ok (.getfield 27, 3) := by decide +kernel
theorem dX0_weigh_101 : decode cX0_weigh 101 = .ok (.iload 5, 2) := by decide +kernel
theorem dX0_weigh_103 : decode cX0_weigh 103 = .ok (.lload 9, 2) := by decide +kernel
theorem dX0_weigh_105 : decode cX0_weigh 105 = .ok (.lload 7, 2) := by decide +kernel
theorem dX0_weigh_107 : decode cX0_weigh 107 = .ok (.lsub, 1) := by decide +kernel
theorem dX0_weigh_108 : decode cX0_weigh 108 = .ok (.lastore, 1) := by decide +kernel
theorem dX0_weigh_109 : decode cX0_weigh 109 = .ok (.iinc 5 1, 3) := by decide +kernel
theorem dX0_weigh_112 : decode cX0_weigh 112 = .ok (.goto (-103), 3) := by decide +kernel
theorem dX0_weigh_115 : decode cX0_weigh 115 = .ok (.aload_n 0, 1) := by decide +kernel
theorem dX0_weigh_116 : decode cX0_weigh 116 = .ok (.getfield 27, 3) := by decide +kernel
theorem dX0_weigh_119 : decode cX0_weigh 119 = .ok (.iconst 0, 1) := by decide +kernel
theorem dX0_weigh_120 : decode cX0_weigh 120 = .ok (.lload_n 3, 1) := by decide +kernel
theorem dX0_weigh_121 : decode cX0_weigh 121 = .ok (.lastore, 1) := by decide +kernel
theorem dX0_weigh_122 : decode cX0_weigh 122 = .ok (.iconst 1, 1) := by decide +kernel
theorem dX0_weigh_123 : decode cX0_weigh 123 = .ok (.istore 5, 2) := by decide +kernel
theorem dX0_weigh_125 : decode cX0_weigh 125 = .ok (.iload 5, 2) := by decide +kernel
theorem dX0_weigh_127 : decode cX0_weigh 127 = .ok (.iconst 3, 1) := by decide +kernel
theorem dX0_weigh_128 : decode cX0_weigh 128 = .ok (.if_icmp .gt 35, 3) := by decide +kernel
theorem dX0_weigh_131 : decode cX0_weigh 131 = .ok (.lload_n 3, 1) := by decide +kernel
theorem dX0_weigh_132 : decode cX0_weigh 132 = .ok (.aload_n 0, 1) := by decide +kernel
theorem dX0_weigh_133 : decode cX0_weigh 133 = .ok (.getfield 27, 3) := by decide +kernel
theorem dX0_weigh_136 : decode cX0_weigh 136 = .ok (.iload 5, 2) := by decide +kernel
theorem dX0_weigh_138 : decode cX0_weigh 138 = .ok (.laload, 1) := by decide +kernel
theorem dX0_weigh_139 : decode cX0_weigh 139 = .ok (.ladd, 1) := by decide +kernel
theorem dX0_weigh_140 : decode cX0_weigh 140 = .ok (.lstore_n 3, 1) := by decide +kernel
theorem dX0_weigh_141 : decode cX0_weigh 141 = .ok (.aload_n 0, 1) := by decide +kernel
theorem dX0_weigh_142 : decode cX0_weigh 142 = .ok (.getfield 27, 3) := by decide +kernel
theorem dX0_weigh_145 : decode cX0_weigh 145 = .ok (.iload 5, 2) := by decide +kernel
theorem dX0_weigh_147 : decode cX0_weigh 147 = .ok (.lload_n 3, 1) := by decide +kernel
theorem dX0_weigh_148 : decode cX0_weigh 148 = .ok (.aload_n 0, 1) := by decide +kernel
theorem dX0_weigh_149 : decode cX0_weigh 149 = .ok (.iload_n 1, 1) := by decide +kernel
theorem dX0_weigh_150 : decode cX0_weigh 150 = .ok (.iload 5, 2) := by decide +kernel
theorem dX0_weigh_152 : decode cX0_weigh 152 = .ok (.invokevirtual 103, 3) := by decide +kernel
theorem dX0_weigh_155 : decode cX0_weigh 155 = .ok (.lsub, 1) := by decide +kernel
theorem dX0_weigh_156 : decode cX0_weigh 156 = .ok (.lastore, 1) := by decide +kernel
theorem dX0_weigh_157 : decode cX0_weigh 157 = .ok (.iinc 5 1, 3) := by decide +kernel
theorem dX0_weigh_160 : decode cX0_weigh 160 = .ok (.goto (-35), 3) := by decide +kernel
theorem dX0_weigh_163 : decode cX0_weigh 163 = .ok (.return_, 1) := by decide +kernel
theorem dX0_reply_0 : decode cX0_reply 0 = .ok (.aload_n 0, 1) := by decide +kernel
theorem dX0_reply_1 : decode cX0_reply 1 = .ok (.iload_n 1, 1) := by decide +kernel
theorem dX0_reply_2 : decode cX0_reply 2 = .ok (.invokevirtual 111, 3) := by decide +kernel
theorem dX0_reply_5 : decode cX0_reply 5 = .ok (.iconst 0, 1) := by decide +kernel
theorem dX0_reply_6 : decode cX0_reply 6 = .ok (.istore_n 2, 1) := by decide +kernel
theorem dX0_reply_7 : decode cX0_reply 7 = .ok (.iconst 1, 1) := by decide +kernel
theorem dX0_reply_8 : decode cX0_reply 8 = .ok (.istore_n 3, 1) := by decide +kernel
theorem dX0_reply_9 : decode cX0_reply 9 = .ok (.iload_n 3, 1) := by decide +kernel
theorem dX0_reply_10 : decode cX0_reply 10 = .ok (.aload_n 0, 1) := by decide +kernel
theorem dX0_reply_11 : decode cX0_reply 11 = .ok (.getfield 15, 3) := by decide +kernel
theorem dX0_reply_14 : decode cX0_reply 14 = .ok (.iload_n 1, 1) := by decide +kernel
theorem dX0_reply_15 : decode cX0_reply 15 = .ok (.iaload, 1) := by decide +kernel
theorem dX0_reply_16 : decode cX0_reply 16 = .ok (.if_icmp .gt 27, 3) := by decide +kernel
theorem dX0_reply_19 : decode cX0_reply 19 = .ok (.aload_n 0, 1) := by decide +kernel
theorem dX0_reply_20 : decode cX0_reply 20 = .ok (.getfield 27, 3) := by decide +kernel
theorem dX0_reply_23 : decode cX0_reply 23 = .ok (.iload_n 3, 1) := by decide +kernel
theorem dX0_reply_24 : decode cX0_reply 24 = .ok (.laload, 1) := by decide +kernel
theorem dX0_reply_25 : decode cX0_reply 25 = .ok (.aload_n 0, 1) := by decide +kernel
theorem dX0_reply_26 : decode cX0_reply 26 = .ok (.getfield 27, 3) := by decide +kernel
theorem dX0_reply_29 : decode cX0_reply 29 = .ok (.iload_n 2, 1) := by decide +kernel
theorem dX0_reply_30 : decode cX0_reply 30 = .ok (.laload, 1) := by decide +kernel
theorem dX0_reply_31 : decode cX0_reply 31 = .ok (.lcmp, 1) := by decide +kernel
theorem dX0_reply_32 : decode cX0_reply 32 = .ok (.ifCond .le 5, 3) := by decide +kernel
theorem dX0_reply_35 : decode cX0_reply 35 = .ok (.iload_n 3, 1) := by decide +kernel
theorem dX0_reply_36 : decode cX0_reply 36 = .ok (.istore_n 2, 1) := by decide +kernel
theorem dX0_reply_37 : decode cX0_reply 37 = .ok (.iinc 3 1, 3) := by decide +kernel
theorem dX0_reply_40 : decode cX0_reply 40 = .ok (.goto (-31), 3) := by decide +kernel
theorem dX0_reply_43 : decode cX0_reply 43 = .ok (.iload_n 2, 1) := by decide +kernel
theorem dX0_reply_44 : decode cX0_reply 44 = .ok (.ireturn, 1) := by decide +kernel
theorem dX0_runDown_0 : decode cX0_runDown 0 = .ok (.iconst 0, 1) := by decide +kernel
theorem dX0_runDown_1 : decode cX0_runDown 1 = .ok (.istore_n 1, 1) := by decide +kernel
theorem dX0_runDown_2 : decode cX0_runDown 2 = .ok (.iload_n 1, 1) := by decide +kernel
theorem dX0_runDown_3 : decode cX0_runDown 3 = .ok (.bipush 40, 2) := by decide +kernel
theorem dX0_runDown_5 : decode cX0_runDown 5 = .ok (.if_icmp .ge 87, 3) := by decide +kernel
theorem dX0_runDown_8 : decode cX0_runDown 8 = .ok (.iconst 0, 1) := by decide +kernel
theorem dX0_runDown_9 : decode cX0_runDown 9 = .ok (.istore_n 2, 1) := by decide +kernel
theorem dX0_runDown_10 : decode cX0_runDown 10 = .ok (.iconst 0, 1) := by decide +kernel
theorem dX0_runDown_11 : decode cX0_runDown 11 = .ok (.istore_n 3, 1) := by decide +kernel
theorem dX0_runDown_12 : decode cX0_runDown 12 = .ok (.iload_n 3, 1) := by decide +kernel
theorem dX0_runDown_13 : decode cX0_runDown 13 = .ok (.aload_n 0, 1) := by decide +kernel
theorem dX0_runDown_14 : decode cX0_runDown 14 = .ok (.getfield 31, 3) := by decide +kernel
theorem dX0_runDown_17 : decode cX0_runDown 17 = .ok (.getfield 70, 3) := by decide +kernel
theorem dX0_runDown_20 : decode cX0_runDown 20 = .ok (.if_icmp .ge 55, 3) := by decide +kernel
theorem dX0_runDown_23 : decode cX0_runDown 23 = .ok (.aload_n 0, 1) := by decide +kernel
theorem dX0_runDown_24 : decode cX0_runDown 24 = .ok (.iload_n 3, 1) := by decide +kernel
theorem dX0_runDown_25 : decode cX0_runDown 25 = .ok (.invokevirtual 115, 3) := by decide +kernel
theorem dX0_runDown_28 : decode cX0_runDown 28 = .ok (.istore 4, 2) := by decide +kernel
theorem dX0_runDown_30 : decode cX0_runDown 30 = .ok (.iload_n 3, 1) := by decide +kernel
theorem dX0_runDown_31 : decode cX0_runDown 31 = .ok (.aload_n 0, 1) := by decide +kernel
theorem dX0_runDown_32 : decode cX0_runDown 32 = .ok (.getfield 64, 3) := by decide +kernel
theorem dX0_runDown_35 : decode cX0_runDown 35 = .ok (.if_icmp .eq 34, 3) := by decide +kernel
theorem dX0_runDown_38 : decode cX0_runDown 38 = .ok (.aload_n 0, 1) := by decide +kernel
theorem dX0_runDown_39 : decode cX0_runDown 39 = .ok (.getfield 27, 3) := by decide +kernel
theorem dX0_runDown_42 : decode cX0_runDown 42 = .ok (.iload 4, 2) := by decide +kernel
theorem dX0_runDown_44 : decode cX0_runDown 44 = .ok (.laload, 1) := by decide +kernel
theorem dX0_runDown_45 : decode cX0_runDown 45 = .ok (.aload_n 0, 1) := by decide +kernel
theorem dX0_runDown_46 : decode cX0_runDown 46 = .ok (.getfield 27, 3) := by decide +kernel
theorem dX0_runDown_49 : decode cX0_runDown 49 = .ok (.aload_n 0, 1) := by decide +kernel
theorem dX0_runDown_50 : decode cX0_runDown 50 = .ok (.getfield 9, 3) := by decide +kernel
theorem dX0_runDown_53 : decode cX0_runDown 53 = .ok (.iload_n 3, 1) := by decide +kernel
theorem dX0_runDown_54 : decode cX0_runDown 54 = .ok (.iaload, 1) := by decide +kernel
theorem dX0_runDown_55 : decode cX0_runDown 55 = .ok (.laload, 1) := by decide +kernel
theorem dX0_runDown_56 : decode cX0_runDown 56 = .ok (.lcmp, 1) := by decide +kernel
theorem dX0_runDown_57 : decode cX0_runDown 57 = .ok (.ifCond .le 12, 3) := by decide +kernel
theorem dX0_runDown_60 : decode cX0_runDown 60 = .ok (.aload_n 0, 1) := by decide +kernel
theorem dX0_runDown_61 : decode cX0_runDown 61 = .ok (.iload_n 3, 1) := by decide +kernel
theorem dX0_runDown_62 : decode cX0_runDown 62 = .ok (.iload 4, 2) := by decide +kernel
theorem dX0_runDown_64 : decode cX0_runDown 64 = .ok (.invokevirtual 75, 3) := by decide +kernel
theorem dX0_runDown_67 : decode cX0_runDown 67 = .ok (.iconst 1, 1) := by decide +kernel
theorem dX0_runDown_68 : decode cX0_runDown 68 = .ok (.istore_n 2, 1) := by decide +kernel
theorem dX0_runDown_69 : decode cX0_runDown 69 = .ok (.iinc 3 1, 3) := by decide +kernel
theorem dX0_runDown_72 : decode cX0_runDown 72 = .ok (.goto (-60), 3) := by decide +kernel
theorem dX0_runDown_75 : decode cX0_runDown 75 = .ok (.iload_n 2, 1) := by decide +kernel
theorem dX0_runDown_76 : decode cX0_runDown 76 = .ok (.ifCond .ne 10, 3) := by decide +kernel
theorem dX0_runDown_79 : decode cX0_runDown 79 = .ok (.aload_n 0, 1) := by decide +kernel
theorem dX0_runDown_80 : decode cX0_runDown 80 = .ok (.iload_n 1, 1) := by decide +kernel
theorem dX0_runDown_81 : decode cX0_runDown 81 = .ok (.putfield 67, 3) := by decide +kernel
theorem dX0_runDown_84 : decode cX0_runDown 84 = .ok (.iconst 1, 1) := by decide +kernel
theorem dX0_runDown_85 : decode cX0_runDown 85 = .ok (.ireturn, 1) := by decide +kernel
theorem dX0_runDown_86 : decode cX0_runDown 86 = .ok (.iinc 1 1, 3) := by decide +kernel
theorem dX0_runDown_89 : decode cX0_runDown 89 = .ok (.goto (-87), 3) := by decide +kernel
theorem dX0_runDown_92 : decode cX0_runDown 92 = .ok (.iconst 0, 1) := by decide +kernel
theorem dX0_runDown_93 : decode cX0_runDown 93 = .ok (.ireturn, 1) := by decide +kernel
theorem dX0_firstGainer_0 : decode cX0_firstGainer 0 = .ok (.iconst 0, 1) := by decide +kernel
theorem dX0_firstGainer_1 : decode cX0_firstGainer 1 = .ok (.istore_n 1, 1) := by decide +kernel
theorem dX0_firstGainer_2 : decode cX0_firstGainer 2 = .ok (.iload_n 1, 1) := by decide +kernel
theorem dX0_firstGainer_3 : decode cX0_firstGainer 3 = .ok (.aload_n 0, 1) := by decide +kernel
theorem dX0_firstGainer_4 : decode cX0_firstGainer 4 = .ok (.getfield 31, 3) := by decide +kernel
theorem dX0_firstGainer_7 : decode cX0_firstGainer 7 = .ok (.getfield 70, 3) := by decide +kernel
theorem dX0_firstGainer_10 : decode cX0_firstGainer 10 = .ok (.if_icmp .ge 38, 3) := by decide +kernel
theorem dX0_firstGainer_13 : decode cX0_firstGainer 13 = .ok (.aload_n 0, 1) := by decide +kernel
theorem dX0_firstGainer_14 : decode cX0_firstGainer 14 = .ok (.iload_n 1, 1) := by decide +kernel
theorem dX0_firstGainer_15 : decode cX0_firstGainer 15 = .ok (.invokevirtual 115, 3) := by decide +kernel
theorem dX0_firstGainer_18 : decode cX0_firstGainer 18 = .ok (.istore_n 2, 1) := by decide +kernel
theorem dX0_firstGainer_19 : decode cX0_firstGainer 19 = .ok (.aload_n 0, 1) := by decide +kernel
theorem dX0_firstGainer_20 : decode cX0_firstGainer 20 = .ok (.getfield 27, 3) := by decide +kernel
theorem dX0_firstGainer_23 : decode cX0_firstGainer 23 = .ok (.iload_n 2, 1) := by decide +kernel
theorem dX0_firstGainer_24 : decode cX0_firstGainer 24 = .ok (.laload, 1) := by decide +kernel
theorem dX0_firstGainer_25 : decode cX0_firstGainer 25 = .ok (.aload_n 0, 1) := by decide +kernel
theorem dX0_firstGainer_26 : decode cX0_firstGainer 26 = .ok (.getfield 27, 3) := by decide +kernel
theorem dX0_firstGainer_29 : decode cX0_firstGainer 29 = .ok (.aload_n 0, 1) := by decide +kernel
theorem dX0_firstGainer_30 : decode cX0_firstGainer 30 = .ok (.getfield 9, 3) := by decide +kernel
theorem dX0_firstGainer_33 : decode cX0_firstGainer 33 = .ok (.iload_n 1, 1) := by decide +kernel
theorem dX0_firstGainer_34 : decode cX0_firstGainer 34 = .ok (.iaload, 1) := by decide +kernel
theorem dX0_firstGainer_35 : decode cX0_firstGainer 35 = .ok (.laload, 1) := by decide +kernel
theorem dX0_firstGainer_36 : decode cX0_firstGainer 36 = .ok (.lcmp, 1) := by decide +kernel
theorem dX0_firstGainer_37 : decode cX0_firstGainer 37 = .ok (.ifCond .le 5, 3) := by decide +kernel
theorem dX0_firstGainer_40 : decode cX0_firstGainer 40 = .ok (.iload_n 1, 1) := by decide +kernel
theorem dX0_firstGainer_41 : decode cX0_firstGainer 41 = .ok (.ireturn, 1) := by decide +kernel
theorem dX0_firstGainer_42 : decode cX0_firstGainer 42 = .ok (.iinc 1 1, 3) := by decide +kernel
theorem dX0_firstGainer_45 : decode cX0_firstGainer 45 = .ok (.goto (-43), 3) := by decide +kernel
theorem dX0_firstGainer_48 : decode cX0_firstGainer 48 = .ok (.iconst (-1), 1) := by decide +kernel
theorem dX0_firstGainer_49 : decode cX0_firstGainer 49 = .ok (.ireturn, 1) := by decide +kernel
theorem dX0_limitBound_0 : decode cX0_limitBound 0 = .ok (.iconst 0, 1) := by decide +kernel
theorem dX0_limitBound_1 : decode cX0_limitBound 1 = .ok (.istore_n 2, 1) := by decide +kernel
theorem dX0_limitBound_2 : decode cX0_limitBound 2 = .ok (.iload_n 2, 1) := by decide +kernel
theorem dX0_limitBound_3 : decode cX0_limitBound 3 = .ok (.aload_n 0, 1) := by decide +kernel
theorem dX0_limitBound_4 : decode cX0_limitBound 4 = .ok (.getfield 31, 3) := by decide +kernel
theorem dX0_limitBound_7 : decode cX0_limitBound 7 = .ok (.getfield 70, 3) := by decide +kernel
theorem dX0_limitBound_10 : decode cX0_limitBound 10 = .ok (.if_icmp .ge 28, 3) := by decide +kernel
theorem dX0_limitBound_13 : decode cX0_limitBound 13 = .ok (.aload_n 0, 1) := by decide +kernel
theorem dX0_limitBound_14 : decode cX0_limitBound 14 = .ok (.getfield 15, 3) := by decide +kernel
theorem dX0_limitBound_17 : decode cX0_limitBound 17 = .ok (.iload_n 2, 1) := by decide +kernel
theorem dX0_limitBound_18 : decode cX0_limitBound 18 = .ok (.aload_n 0, 1) := by decide +kernel
theorem dX0_limitBound_19 : decode cX0_limitBound 19 = .ok (.iload_n 2, 1) := by decide +kernel
theorem dX0_limitBound_20 : decode cX0_limitBound 20 = .ok (.invokevirtual 119, 3) := by decide +kernel
theorem dX0_limitBound_23 : decode cX0_limitBound 23 = .ok (.ifCond .eq 7, 3) := by decide +kernel
theorem dX0_limitBound_26 : decode cX0_limitBound 26 = .ok (.iload_n 1, 1) := by decide +kernel
theorem dX0_limitBound_27 : decode cX0_limitBound 27 = .ok (.goto 4, 3) := by decide +kernel
theorem dX0_limitBound_30 : decode cX0_limitBound 30 = .ok (.iconst 3, 1) := by decide +kernel
theorem dX0_limitBound_31 : decode cX0_limitBound 31 = .ok (.iastore, 1) := by decide +kernel
theorem dX0_limitBound_32 : decode cX0_limitBound 32 = .ok (.iinc 2 1, 3) := by decide +kernel
theorem dX0_limitBound_35 : decode cX0_limitBound 35 = .ok (.goto (-33), 3) := by decide +kernel
theorem dX0_limitBound_38 : decode cX0_limitBound 38 = .ok (.return_, 1) := by decide +kernel
theorem dX0_keepLaw_0 : decode cX0_keepLaw 0 = .ok (.iconst 0, 1) := by decide +kernel
theorem dX0_keepLaw_1 : decode cX0_keepLaw 1 = .ok (.istore_n 1, 1) := by decide +kernel
theorem dX0_keepLaw_2 : decode cX0_keepLaw 2 = .ok (.iload_n 1, 1) := by decide +kernel
theorem dX0_keepLaw_3 : decode cX0_keepLaw 3 = .ok (.aload_n 0, 1) := by decide +kernel
theorem dX0_keepLaw_4 : decode cX0_keepLaw 4 = .ok (.getfield 31, 3) := by decide +kernel
theorem dX0_keepLaw_7 : decode cX0_keepLaw 7 = .ok (.getfield 70, 3) := by decide +kernel
theorem dX0_keepLaw_10 : decode cX0_keepLaw 10 = .ok (.if_icmp .ge 35, 3) := by decide +kernel
theorem dX0_keepLaw_13 : decode cX0_keepLaw 13 = .ok (.aload_n 0, 1) := by decide +kernel
theorem dX0_keepLaw_14 : decode cX0_keepLaw 14 = .ok (.iload_n 1, 1) := by decide +kernel
theorem dX0_keepLaw_15 : decode cX0_keepLaw 15 = .ok (.invokevirtual 119, 3) := by decide +kernel
theorem dX0_keepLaw_18 : decode cX0_keepLaw 18 = .ok (.ifCond .eq 21, 3) := by decide +kernel
theorem dX0_keepLaw_21 : decode cX0_keepLaw 21 = .ok (.aload_n 0, 1) := by decide +kernel
theorem dX0_keepLaw_22 : decode cX0_keepLaw 22 = .ok (.iload_n 1, 1) := by decide +kernel
theorem dX0_keepLaw_23 : decode cX0_keepLaw 23 = .ok (.aload_n 0, 1) := by decide +kernel
theorem dX0_keepLaw_24 : decode cX0_keepLaw 24 = .ok (.getfield 9, 3) := by decide +kernel
theorem dX0_keepLaw_27 : decode cX0_keepLaw 27 = .ok (.iload_n 1, 1) := by decide +kernel
theorem dX0_keepLaw_28 : decode cX0_keepLaw 28 = .ok (.iaload, 1) := by decide +kernel
theorem dX0_keepLaw_29 : decode cX0_keepLaw 29 = .ok (.aload_n 0, 1) := by decide +kernel
theorem dX0_keepLaw_30 : decode cX0_keepLaw 30 = .ok (.getfield 51, 3) := by decide +kernel
theorem dX0_keepLaw_33 : decode cX0_keepLaw 33 = .ok (.invokestatic 123, 3) := by decide +kernel
theorem dX0_keepLaw_36 : decode cX0_keepLaw 36 = .ok (.invokevirtual 75, 3) := by decide +kernel
theorem dX0_keepLaw_39 : decode cX0_keepLaw 39 = .ok (.iinc 1 1, 3) := by decide +kernel
theorem dX0_keepLaw_42 : decode cX0_keepLaw 42 = .ok (.goto (-40), 3) := by decide +kernel
theorem dX0_keepLaw_45 : decode cX0_keepLaw 45 = .ok (.return_, 1) := by decide +kernel
theorem dX0_lawlessGain_0 : decode cX0_lawlessGain 0 = .ok (.lconst 0, 1) := by decide +kernel
theorem dX0_lawlessGain_1 : decode cX0_lawlessGain 1 = .ok (.lstore_n 1, 1) := by decide +kernel
theorem dX0_lawlessGain_2 : decode cX0_lawlessGain 2 = .ok (.iconst 0, 1) := by decide +kernel
theorem dX0_lawlessGain_3 : decode cX0_lawlessGain 3 = .ok (.istore_n 3, 1) := by decide +kernel
theorem dX0_lawlessGain_4 : decode cX0_lawlessGain 4 = .ok (.iload_n 3, 1) := by decide +kernel
theorem dX0_lawlessGain_5 : decode cX0_lawlessGain 5 = .ok (.aload_n 0, 1) := by decide +kernel
theorem dX0_lawlessGain_6 : decode cX0_lawlessGain 6 = .ok (.getfield 31, 3) := by decide +kernel
theorem dX0_lawlessGain_9 : decode cX0_lawlessGain 9 = .ok (.getfield 70, 3) := by decide +kernel
theorem dX0_lawlessGain_12 : decode cX0_lawlessGain 12 = .ok (.if_icmp .ge 66, 3) := by decide +kernel
theorem dX0_lawlessGain_15 : decode cX0_lawlessGain 15 = .ok (.aload_n 0, 1) := by decide +kernel
theorem dX0_lawlessGain_16 : decode cX0_lawlessGain 16 = .ok (.iload_n 3, 1) := by decide +kernel
theorem dX0_lawlessGain_17 : decode cX0_lawlessGain 17 = .ok (.invokevirtual 119, 3) := by decide +kernel
theorem dX0_lawlessGain_20 : decode cX0_lawlessGain 20 = .ok (.ifCond .eq 52, 3) := by decide +kernel
theorem dX0_lawlessGain_23 : decode cX0_lawlessGain 23 = .ok (.aload_n 0, 1) := by decide +kernel
theorem dX0_lawlessGain_24 : decode cX0_lawlessGain 24 = .ok (.iload_n 3, 1) := by decide +kernel
theorem dX0_lawlessGain_25 : decode cX0_lawlessGain 25 = .ok (.invokevirtual 111, 3) := by decide +kernel
theorem dX0_lawlessGain_28 : decode cX0_lawlessGain 28 = .ok (.aload_n 0, 1) := by decide +kernel
theorem dX0_lawlessGain_29 : decode cX0_lawlessGain 29 = .ok (.getfield 51, 3) := by decide +kernel
theorem dX0_lawlessGain_32 : decode cX0_lawlessGain 32 = .ok (.iconst 1, 1) := by decide +kernel
theorem dX0_lawlessGain_33 : decode cX0_lawlessGain 33 = .ok (.iadd, 1) := by decide +kernel
theorem dX0_lawlessGain_34 : decode cX0_lawlessGain 34 = .ok (.istore 4, 2) := by decide +kernel
theorem dX0_lawlessGain_36 : decode cX0_lawlessGain 36 = .ok (.iload 4, 2) := by decide +kernel
theorem dX0_lawlessGain_38 : decode cX0_lawlessGain 38 = .ok (.iconst 3, 1) := by decide +kernel
theorem dX0_lawlessGain_39 : decode cX0_lawlessGain 39 = .ok (.if_icmp .gt 33, 3) := by decide +kernel
theorem dX0_lawlessGain_42 : decode cX0_lawlessGain 42 = .ok (.lload_n 1, 1) := by decide +kernel
theorem dX0_lawlessGain_43 : decode cX0_lawlessGain 43 = .ok (.aload_n 0, 1) := by decide +kernel
theorem dX0_lawlessGain_44 : decode cX0_lawlessGain 44 = .ok (.getfield 27, 3) := by decide +kernel
theorem dX0_lawlessGain_47 : decode cX0_lawlessGain 47 = .ok (.iload 4, 2) := by decide +kernel
theorem dX0_lawlessGain_49 : decode cX0_lawlessGain 49 = .ok (.laload, 1) := by decide +kernel
theorem dX0_lawlessGain_50 : decode cX0_lawlessGain 50 = .ok (.aload_n 0, 1) := by decide +kernel
theorem dX0_lawlessGain_51 : decode cX0_lawlessGain 51 = .ok (.getfield 27, 3) := by decide +kernel
theorem dX0_lawlessGain_54 : decode cX0_lawlessGain 54 = .ok (.aload_n 0, 1) := by decide +kernel
theorem dX0_lawlessGain_55 : decode cX0_lawlessGain 55 = .ok (.getfield 9, 3) := by decide +kernel
theorem dX0_lawlessGain_58 : decode cX0_lawlessGain 58 = .ok (.iload_n 3, 1) := by decide +kernel
theorem dX0_lawlessGain_59 : decode cX0_lawlessGain 59 = .ok (.iaload, 1) := by decide +kernel
theorem dX0_lawlessGain_60 : decode cX0_lawlessGain 60 = .ok (.laload, 1) := by decide +kernel
theorem dX0_lawlessGain_61 : decode cX0_lawlessGain 61 = .ok (.lsub, 1) := by decide +kernel
theorem dX0_lawlessGain_62 : decode cX0_lawlessGain 62 = .ok (.invokestatic 128, 3) := by decide +kernel
theorem dX0_lawlessGain_65 : decode cX0_lawlessGain 65 = .ok (.lstore_n 1, 1) := by decide +kernel
theorem dX0_lawlessGain_66 : decode cX0_lawlessGain 66 = .ok (.iinc 4 1, 3) := by decide +kernel
theorem dX0_lawlessGain_69 : decode cX0_lawlessGain 69 = .ok (.goto (-33), 3) := by decide +kernel
theorem dX0_lawlessGain_72 : decode cX0_lawlessGain 72 = .ok (.iinc 3 1, 3) := by decide +kernel
theorem dX0_lawlessGain_75 : decode cX0_lawlessGain 75 = .ok (.goto (-71), 3) := by decide +kernel
theorem dX0_lawlessGain_78 : decode cX0_lawlessGain 78 = .ok (.lload_n 1, 1) := by decide +kernel
theorem dX0_lawlessGain_79 : decode cX0_lawlessGain 79 = .ok (.lreturn, 1) := by decide +kernel
theorem dX0_shuttingPrice_0 : decode cX0_shuttingPrice 0 = .ok (.aload_n 0, 1) := by decide +kernel
theorem dX0_shuttingPrice_1 : decode cX0_shuttingPrice 1 = .ok (.iload_n 1, 1) := by decide +kernel
theorem dX0_shuttingPrice_2 : decode cX0_shuttingPrice 2 = .ok (.invokevirtual 111, 3) := by decide +kernel
theorem dX0_shuttingPrice_5 : decode cX0_shuttingPrice 5 = .ok (.lconst 0, 1) := by decide +kernel
theorem dX0_shuttingPrice_6 : decode cX0_shuttingPrice 6 = .ok (.lstore_n 2, 1) := by decide +kernel
theorem dX0_shuttingPrice_7 : decode cX0_shuttingPrice 7 = .ok (.iconst 1, 1) := by decide +kernel
theorem dX0_shuttingPrice_8 : decode cX0_shuttingPrice 8 = .ok (.istore 4, 2) := by decide +kernel
theorem dX0_shuttingPrice_10 : decode cX0_shuttingPrice 10 = .ok (.iload 4, 2) := by decide +kernel
theorem dX0_shuttingPrice_12 : decode cX0_shuttingPrice 12 = .ok (.iconst 3, 1) := by decide +kernel
theorem dX0_shuttingPrice_13 : decode cX0_shuttingPrice 13 = .ok (.if_icmp .gt 60, 3) := by decide +kernel
theorem dX0_shuttingPrice_16 : decode cX0_shuttingPrice 16 = .ok (.aload_n 0, 1) := by decide +kernel
theorem dX0_shuttingPrice_17 : decode cX0_shuttingPrice 17 = .ok (.getfield 31, 3) := by decide +kernel
theorem dX0_shuttingPrice_20 : decode cX0_shuttingPrice 20 = .ok (.getfield 94, 3) := by decide +kernel
theorem dX0_shuttingPrice_23 : decode cX0_shuttingPrice 23 = .ok (.iload_n 1, 1) := by decide +kernel
theorem dX0_shuttingPrice_24 : decode cX0_shuttingPrice 24 = .ok (.iaload, 1) := by decide +kernel
theorem dX0_shuttingPrice_25 : decode cX0_shuttingPrice 25 = .ok (.iload 4, 2) := by decide +kernel
theorem dX0_shuttingPrice_27 : decode cX0_shuttingPrice 27 = .ok (.imul, 1) := by decide +kernel
theorem dX0_shuttingPrice_28 : decode cX0_shuttingPrice 28 = .ok (.i2l, 1) := by decide +kernel
theorem dX0_shuttingPrice_29 : decode cX0_shuttingPrice 29 = .ok (.ldc2_w 97, 3) := by decide +kernel
theorem dX0_shuttingPrice_32 : decode cX0_shuttingPrice 32 = .ok (.lmul, 1) := by decide +kernel
theorem dX0_shuttingPrice_33 : decode cX0_shuttingPrice 33 = .ok (.lstore 5, 2) := by decide +kernel
theorem dX0_shuttingPrice_35 : decode cX0_shuttingPrice 35 = .ok (.lload_n 2, 1) := by decide +kernel
theorem dX0_shuttingPrice_36 : decode cX0_shuttingPrice 36 = .ok (.aload_n 0, 1) := by decide +kernel
theorem dX0_shuttingPrice_37 : decode cX0_shuttingPrice 37 = .ok (.getfield 27, 3) := by decide +kernel
theorem dX0_shuttingPrice_40 : decode cX0_shuttingPrice 40 = .ok (.iload 4, 2) := by decide +kernel
theorem dX0_shuttingPrice_42 : decode cX0_shuttingPrice 42 = .ok (.laload, 1) := by decide +kernel
theorem dX0_shuttingPrice_43 : decode cX0_shuttingPrice 43 = .ok (.lload 5, 2) := by decide +kernel
theorem dX0_shuttingPrice_45 : decode cX0_shuttingPrice 45 = .ok (.ladd, 1) := by decide +kernel
theorem dX0_shuttingPrice_46 : decode cX0_shuttingPrice 46 = .ok (.aload_n 0, 1) := by decide +kernel
theorem dX0_shuttingPrice_47 : decode cX0_shuttingPrice 47 = .ok (.getfield 27, 3) := by decide +kernel
theorem dX0_shuttingPrice_50 : decode cX0_shuttingPrice 50 = .ok (.iconst 0, 1) := by decide +kernel
theorem dX0_shuttingPrice_51 : decode cX0_shuttingPrice 51 = .ok (.laload, 1) := by decide +kernel
theorem dX0_shuttingPrice_52 : decode cX0_shuttingPrice 52 = .ok (.lsub, 1) := by decide +kernel
theorem dX0_shuttingPrice_53 : decode cX0_shuttingPrice 53 = .ok (.iload 4, 2) := by decide +kernel
theorem dX0_shuttingPrice_55 : decode cX0_shuttingPrice 55 = .ok (.i2l, 1) := by decide +kernel
theorem dX0_shuttingPrice_56 : decode cX0_shuttingPrice 56 = .ok (.ldc2_w 97, 3) := by decide +kernel
theorem dX0_shuttingPrice_59 : decode cX0_shuttingPrice 59 = .ok (.lmul, 1) := by decide +kernel
theorem dX0_shuttingPrice_60 : decode cX0_shuttingPrice 60 = .ok (.invokestatic 132, 3) := by decide +kernel
theorem dX0_shuttingPrice_63 : decode cX0_shuttingPrice 63 = .ok (.invokestatic 128, 3) := by decide +kernel
theorem dX0_shuttingPrice_66 : decode cX0_shuttingPrice 66 = .ok (.lstore_n 2, 1) := by decide +kernel
theorem dX0_shuttingPrice_67 : decode cX0_shuttingPrice 67 = .ok (.iinc 4 1, 3) := by decide +kernel
theorem dX0_shuttingPrice_70 : decode cX0_shuttingPrice 70 = .ok (.goto (-60), 3) := by decide +kernel
theorem dX0_shuttingPrice_73 : decode cX0_shuttingPrice 73 = .ok (.lload_n 2, 1) := by decide +kernel
theorem dX0_shuttingPrice_74 : decode cX0_shuttingPrice 74 = .ok (.lreturn, 1) := by decide +kernel
theorem dX0_remember_0 : decode cX0_remember 0 = .ok (.aload_n 0, 1) := by decide +kernel
theorem dX0_remember_1 : decode cX0_remember 1 = .ok (.getfield 9, 3) := by decide +kernel
theorem dX0_remember_4 : decode cX0_remember 4 = .ok (.iconst 0, 1) := by decide +kernel
theorem dX0_remember_5 : decode cX0_remember 5 = .ok (.aload_n 0, 1) := by decide +kernel
theorem dX0_remember_6 : decode cX0_remember 6 = .ok (.getfield 21, 3) := by decide +kernel
theorem dX0_remember_9 : decode cX0_remember 9 = .ok (.iconst 0, 1) := by decide +kernel
theorem dX0_remember_10 : decode cX0_remember 10 = .ok (.iconst 5, 1) := by decide +kernel
theorem dX0_remember_11 : decode cX0_remember 11 = .ok (.invokestatic 39, 3) := by decide +kernel
theorem dX0_remember_14 : decode cX0_remember 14 = .ok (.return_, 1) := by decide +kernel
theorem dX0_recall_0 : decode cX0_recall 0 = .ok (.iconst 0, 1) := by decide +kernel
theorem dX0_recall_1 : decode cX0_recall 1 = .ok (.istore_n 1, 1) := by decide +kernel
theorem dX0_recall_2 : decode cX0_recall 2 = .ok (.iload_n 1, 1) := by decide +kernel
theorem dX0_recall_3 : decode cX0_recall 3 = .ok (.aload_n 0, 1) := by decide +kernel
theorem dX0_recall_4 : decode cX0_recall 4 = .ok (.getfield 31, 3) := by decide +kernel
theorem dX0_recall_7 : decode cX0_recall 7 = .ok (.getfield 70, 3) := by decide +kernel
theorem dX0_recall_10 : decode cX0_recall 10 = .ok (.if_icmp .ge 20, 3) := by decide +kernel
theorem dX0_recall_13 : decode cX0_recall 13 = .ok (.aload_n 0, 1) := by decide +kernel
theorem dX0_recall_14 : decode cX0_recall 14 = .ok (.iload_n 1, 1) := by decide +kernel
theorem dX0_recall_15 : decode cX0_recall 15 = .ok (.aload_n 0, 1) := by decide +kernel
theorem dX0_recall_16 : decode cX0_recall 16 = .ok (.getfield 21, 3) := by decide +kernel
theorem dX0_recall_19 : decode cX0_recall 19 = .ok (.iload_n 1, 1) := by decide +kernel
theorem dX0_recall_20 : decode cX0_recall 20 = .ok (.iaload, 1) := by decide +kernel
theorem dX0_recall_21 : decode cX0_recall 21 = .ok (.invokevirtual 75, 3) := by decide +kernel
theorem dX0_recall_24 : decode cX0_recall 24 = .ok (.iinc 1 1, 3) := by decide +kernel
theorem dX0_recall_27 : decode cX0_recall 27 = .ok (.goto (-25), 3) := by decide +kernel
theorem dX0_recall_30 : decode cX0_recall 30 = .ok (.return_, 1) := by decide +kernel
theorem dX0_earlyIsStill_0 : decode cX0_earlyIsStill 0 = .ok (.aload_n 0, 1) := by decide +kernel
theorem dX0_earlyIsStill_1 : decode cX0_earlyIsStill 1 = .ok (.invokevirtual 135, 3) := by decide +kernel
theorem dX0_earlyIsStill_4 : decode cX0_earlyIsStill 4 = .ok (.aload_n 0, 1) := by decide +kernel
theorem dX0_earlyIsStill_5 : decode cX0_earlyIsStill 5 = .ok (.iconst 0, 1) := by decide +kernel
theorem dX0_earlyIsStill_6 : decode cX0_earlyIsStill 6 = .ok (.invokevirtual 138, 3) := by decide +kernel
theorem dX0_earlyIsStill_9 : decode cX0_earlyIsStill 9 = .ok (.aload_n 0, 1) := by decide +kernel
theorem dX0_earlyIsStill_10 : decode cX0_earlyIsStill 10 = .ok (.invokevirtual 141, 3) := by decide +kernel
theorem dX0_earlyIsStill_13 : decode cX0_earlyIsStill 13 = .ok (.iconst (-1), 1) := by decide +kernel
theorem dX0_earlyIsStill_14 : decode cX0_earlyIsStill 14 = .ok (.if_icmp .ne 7, 3) := by decide +kernel
theorem dX0_earlyIsStill_17 : decode cX0_earlyIsStill 17 = .ok (.iconst 1, 1) := by decide +kernel
theorem dX0_earlyIsStill_18 : decode cX0_earlyIsStill 18 = .ok (.goto 4, 3) := by decide +kernel
theorem dX0_earlyIsStill_21 : decode cX0_earlyIsStill 21 = .ok (.iconst 0, 1) := by decide +kernel
theorem dX0_earlyIsStill_22 : decode cX0_earlyIsStill 22 = .ok (.istore_n 1, 1) := by decide +kernel
theorem dX0_earlyIsStill_23 : decode cX0_earlyIsStill 23 = .ok (.aload_n 0, 1) := by decide +kernel
theorem dX0_earlyIsStill_24 : decode cX0_earlyIsStill 24 = .ok (.invokevirtual 145, 3) := by decide +kernel
theorem dX0_earlyIsStill_27 : decode cX0_earlyIsStill 27 = .ok (.iload_n 1, 1) := by decide +kernel
theorem dX0_earlyIsStill_28 : decode cX0_earlyIsStill 28 = .ok (.ireturn, 1) := by decide +kernel
theorem dX0_passWeek_0 : decode cX0_passWeek 0 = .ok (.aload_n 0, 1) := by decide +kernel
theorem dX0_passWeek_1 : decode cX0_passWeek 1 = .ok (.invokevirtual 135, 3) := by decide +kernel
theorem dX0_passWeek_4 : decode cX0_passWeek 4 = .ok (.aload_n 0, 1) := by decide +kernel
theorem dX0_passWeek_5 : decode cX0_passWeek 5 = .ok (.invokevirtual 148, 3) := by decide +kernel
theorem dX0_passWeek_8 : decode cX0_passWeek 8 = .ok (.ifCond .ne 7, 3) := by decide +kernel
theorem dX0_passWeek_11 : decode cX0_passWeek 11 = .ok (.aload_n 0, 1) := by decide +kernel
theorem dX0_passWeek_12 : decode cX0_passWeek 12 = .ok (.invokevirtual 145, 3) := by decide +kernel
theorem dX0_passWeek_15 : decode cX0_passWeek 15 = .ok (.iconst 1, 1) := by decide +kernel
theorem dX0_passWeek_16 : decode cX0_passWeek 16 = .ok (.istore_n 1, 1) := by decide +kernel
theorem dX0_passWeek_17 : decode cX0_passWeek 17 = .ok (.iload_n 1, 1) := by decide +kernel
theorem dX0_passWeek_18 : decode cX0_passWeek 18 = .ok (.iconst 3, 1) := by decide +kernel
theorem dX0_passWeek_19 : decode cX0_passWeek 19 = .ok (.if_icmp .gt 52, 3) := by decide +kernel
theorem dX0_passWeek_22 : decode cX0_passWeek 22 = .ok (.aload_n 0, 1) := by decide +kernel
theorem dX0_passWeek_23 : decode cX0_passWeek 23 = .ok (.getfield 18, 3) := by decide +kernel
theorem dX0_passWeek_26 : decode cX0_passWeek 26 = .ok (.iload_n 1, 1) := by decide +kernel
theorem dX0_passWeek_27 : decode cX0_passWeek 27 = .ok (.aload_n 0, 1) := by decide +kernel
theorem dX0_passWeek_28 : decode cX0_passWeek 28 = .ok (.getfield 24, 3) := by decide +kernel
theorem dX0_passWeek_31 : decode cX0_passWeek 31 = .ok (.iload_n 1, 1) := by decide +kernel
theorem dX0_passWeek_32 : decode cX0_passWeek 32 = .ok (.iaload, 1) := by decide +kernel
theorem dX0_passWeek_33 : decode cX0_passWeek 33 = .ok (.ifCond .eq 19, 3) := by decide +kernel
theorem dX0_passWeek_36 : decode cX0_passWeek 36 = .ok (.bipush 8, 2) := by decide +kernel
theorem dX0_passWeek_38 : decode cX0_passWeek 38 = .ok (.aload_n 0, 1) := by decide +kernel
theorem dX0_passWeek_39 : decode cX0_passWeek 39 = .ok (.getfield 18, 3) := by decide +kernel
theorem dX0_passWeek_42 : decode cX0_passWeek 42 = .ok (.iload_n 1, 1) := by decide +kernel
theorem dX0_passWeek_43 : decode cX0_passWeek 43 = .ok (.iaload, 1) := by decide +kernel
theorem dX0_passWeek_44 : decode cX0_passWeek 44 = .ok (.iconst 1, 1) := by decide +kernel
theorem dX0_passWeek_45 : decode cX0_passWeek 45 = .ok (.iadd, 1) := by decide +kernel
theorem dX0_passWeek_46 : decode cX0_passWeek 46 = .ok (.invokestatic 123, 3) := by decide +kernel
theorem dX0_passWeek_49 : decode cX0_passWeek 49 = .ok (.goto 15, 3) := by decide +kernel
theorem dX0_passWeek_52 : decode cX0_passWeek 52 = .ok (.iconst 0, 1) := by decide +kernel
theorem dX0_passWeek_53 : decode cX0_passWeek 53 = .ok (.aload_n 0, 1) := by decide +kernel
theorem dX0_passWeek_54 : decode cX0_passWeek 54 = .ok (.getfield 18, 3) := by decide +kernel
theorem dX0_passWeek_57 : decode cX0_passWeek 57 = .ok (.iload_n 1, 1) := by decide +kernel
theorem dX0_passWeek_58 : decode cX0_passWeek 58 = .ok (.iaload, 1) := by decide +kernel
theorem dX0_passWeek_59 : decode cX0_passWeek 59 = .ok (.iconst 1, 1) := by decide +kernel
theorem dX0_passWeek_60 : decode cX0_passWeek 60 = .ok (.isub, 1) := by decide +kernel
theorem dX0_passWeek_61 : decode cX0_passWeek 61 = .ok (.invokestatic 152, 3) := by decide +kernel
theorem dX0_passWeek_64 : decode cX0_passWeek 64 = .ok (.iastore, 1) := by decide +kernel
theorem dX0_passWeek_65 : decode cX0_passWeek 65 = .ok (.iinc 1 1, 3) := by decide +kernel
theorem dX0_passWeek_68 : decode cX0_passWeek 68 = .ok (.goto (-51), 3) := by decide +kernel
theorem dX0_passWeek_71 : decode cX0_passWeek 71 = .ok (.return_, 1) := by decide +kernel
theorem dX0_hourOrHabit_0 : decode cX0_hourOrHabit 0 = .ok (.iload_n 1, 1) := by decide +kernel
theorem dX0_hourOrHabit_1 : decode cX0_hourOrHabit 1 = .ok (.iconst 5, 1) := by decide +kernel
theorem dX0_hourOrHabit_2 : decode cX0_hourOrHabit 2 = .ok (.if_icmp .ge 12, 3) := by decide +kernel
theorem dX0_hourOrHabit_5 : decode cX0_hourOrHabit 5 = .ok (.aload_n 0, 1) := by decide +kernel
theorem dX0_hourOrHabit_6 : decode cX0_hourOrHabit 6 = .ok (.getfield 9, 3) := by decide +kernel
theorem dX0_hourOrHabit_9 : decode cX0_hourOrHabit 9 = .ok (.iload_n 1, 1) := by decide +kernel
theorem dX0_hourOrHabit_10 : decode cX0_hourOrHabit 10 = .ok (.iaload, 1) := by decide +kernel
theorem dX0_hourOrHabit_11 : decode cX0_hourOrHabit 11 = .ok (.goto 13, 3) := by decide +kernel
theorem dX0_hourOrHabit_14 : decode cX0_hourOrHabit 14 = .ok (.aload_n 0, 1) := by decide +kernel
theorem dX0_hourOrHabit_15 : decode cX0_hourOrHabit 15 = .ok (.getfield 18, 3) := by decide +kernel
theorem dX0_hourOrHabit_18 : decode cX0_hourOrHabit 18 = .ok (.iload_n 1, 1) := by decide +kernel
theorem dX0_hourOrHabit_19 : decode cX0_hourOrHabit 19 = .ok (.iconst 5, 1) := by decide +kernel
theorem dX0_hourOrHabit_20 : decode cX0_hourOrHabit 20 = .ok (.isub, 1) := by decide +kernel
theorem dX0_hourOrHabit_21 : decode cX0_hourOrHabit 21 = .ok (.iconst 1, 1) := by decide +kernel
theorem dX0_hourOrHabit_22 : decode cX0_hourOrHabit 22 = .ok (.iadd, 1) := by decide +kernel
theorem dX0_hourOrHabit_23 : decode cX0_hourOrHabit 23 = .ok (.iaload, 1) := by decide +kernel
theorem dX0_hourOrHabit_24 : decode cX0_hourOrHabit 24 = .ok (.ireturn, 1) := by decide +kernel
theorem dX1_init_0 : decode cX1_init 0 = .ok (.aload_n 0, 1) := by decide +kernel
theorem dX1_init_1 : decode cX1_init 1 = .ok (.invokespecial 3, 3) := by decide +kernel
theorem dX1_init_4 : decode cX1_init 4 = .ok (.aload_n 0, 1) := by decide +kernel
theorem dX1_init_5 : decode cX1_init 5 = .ok (.iconst 4, 1) := by decide +kernel
theorem dX1_init_6 : decode cX1_init 6 = .ok (.newarray .int, 2) := by decide +kernel
theorem dX1_init_8 : decode cX1_init 8 = .ok (.dup, 1) := by decide +kernel
theorem dX1_init_9 : decode cX1_init 9 = .ok (.iconst 0, 1) := by decide +kernel
theorem dX1_init_10 : decode cX1_init 10 = .ok (.iconst (-1), 1) := by decide +kernel
theorem dX1_init_11 : decode cX1_init 11 = .ok (.iastore, 1) := by decide +kernel
theorem dX1_init_12 : decode cX1_init 12 = .ok (.dup, 1) := by decide +kernel
theorem dX1_init_13 : decode cX1_init 13 = .ok (.iconst 1, 1) := by decide +kernel
theorem dX1_init_14 : decode cX1_init 14 = .ok (.iconst (-1), 1) := by decide +kernel
theorem dX1_init_15 : decode cX1_init 15 = .ok (.iastore, 1) := by decide +kernel
theorem dX1_init_16 : decode cX1_init 16 = .ok (.dup, 1) := by decide +kernel
theorem dX1_init_17 : decode cX1_init 17 = .ok (.iconst 2, 1) := by decide +kernel
theorem dX1_init_18 : decode cX1_init 18 = .ok (.iconst (-1), 1) := by decide +kernel
theorem dX1_init_19 : decode cX1_init 19 = .ok (.iastore, 1) := by decide +kernel
theorem dX1_init_20 : decode cX1_init 20 = .ok (.dup, 1) := by decide +kernel
theorem dX1_init_21 : decode cX1_init 21 = .ok (.iconst 3, 1) := by decide +kernel
theorem dX1_init_22 : decode cX1_init 22 = .ok (.iconst (-1), 1) := by decide +kernel
theorem dX1_init_23 : decode cX1_init 23 = .ok (.iastore, 1) := by decide +kernel
theorem dX1_init_24 : decode cX1_init 24 = .ok (.putfield 9, 3) := by decide +kernel
theorem dX1_init_27 : decode cX1_init 27 = .ok (.aload_n 0, 1) := by decide +kernel
theorem dX1_init_28 : decode cX1_init 28 = .ok (.iconst 4, 1) := by decide +kernel
theorem dX1_init_29 : decode cX1_init 29 = .ok (.newarray .int, 2) := by decide +kernel
theorem dX1_init_31 : decode cX1_init 31 = .ok (.putfield 15, 3) := by decide +kernel
theorem dX1_init_34 : decode cX1_init 34 = .ok (.aload_n 0, 1) := by decide +kernel
theorem dX1_init_35 : decode cX1_init 35 = .ok (.iconst 4, 1) := by decide +kernel
theorem dX1_init_36 : decode cX1_init 36 = .ok (.bipush 60, 2) := by decide +kernel
theorem dX1_init_38 : decode cX1_init 38 = .ok (.multianewarray 18 2, 4) := by decide +kernel
theorem dX1_init_42 : decode cX1_init 42 = .ok (.putfield 20, 3) := by decide +kernel
theorem dX1_init_45 : decode cX1_init 45 = .ok (.return_, 1) := by decide +kernel
theorem dX1_noSheet_0 : decode cX1_noSheet 0 = .ok (.iload_n 0, 1) := by decide +kernel
theorem dX1_noSheet_1 : decode cX1_noSheet 1 = .ok (.ifCond .lt 8, 3) := by decide +kernel
theorem dX1_noSheet_4 : decode cX1_noSheet 4 = .ok (.iload_n 0, 1) := by decide +kernel
theorem dX1_noSheet_5 : decode cX1_noSheet 5 = .ok (.iconst 4, 1) := by decide +kernel
theorem dX1_noSheet_6 : decode cX1_noSheet 6 = .ok (.if_icmp .lt 7, 3) := by decide +kernel
theorem dX1_noSheet_9 : decode cX1_noSheet 9 = .ok (.iconst 1, 1) := by decide +kernel
theorem dX1_noSheet_10 : decode cX1_noSheet 10 = .ok (.goto 4, 3) := by decide +kernel
theorem dX1_noSheet_13 : decode cX1_noSheet 13 = .ok (.iconst 0, 1) := by decide +kernel
theorem dX1_noSheet_14 : decode cX1_noSheet 14 = .ok (.ireturn, 1) := by decide +kernel
theorem dX1_noForm_0 : decode cX1_noForm 0 = .ok (.iload_n 0, 1) := by decide +kernel
theorem dX1_noForm_1 : decode cX1_noForm 1 = .ok (.ifCond .lt 8, 3) := by decide +kernel
theorem dX1_noForm_4 : decode cX1_noForm 4 = .ok (.iload_n 0, 1) := by decide +kernel
theorem dX1_noForm_5 : decode cX1_noForm 5 = .ok (.iconst 2, 1) := by decide +kernel
theorem dX1_noForm_6 : decode cX1_noForm 6 = .ok (.if_icmp .le 7, 3) := by decide +kernel
theorem dX1_noForm_9 : decode cX1_noForm 9 = .ok (.iconst 1, 1) := by decide +kernel
theorem dX1_noForm_10 : decode cX1_noForm 10 = .ok (.goto 4, 3) := by decide +kernel
theorem dX1_noForm_13 : decode cX1_noForm 13 = .ok (.iconst 0, 1) := by decide +kernel
theorem dX1_noForm_14 : decode cX1_noForm 14 = .ok (.ireturn, 1) := by decide +kernel
theorem dX1_finding_0 : decode cX1_finding 0 = .ok (.aload_n 0, 1) := by decide +kernel
theorem dX1_finding_1 : decode cX1_finding 1 = .ok (.iload_n 1, 1) := by decide +kernel
theorem dX1_finding_2 : decode cX1_finding 2 = .ok (.putfield 23, 3) := by decide +kernel
theorem dX1_finding_5 : decode cX1_finding 5 = .ok (.bipush (-10), 2) := by decide +kernel
theorem dX1_finding_7 : decode cX1_finding 7 = .ok (.iload_n 1, 1) := by decide +kernel
theorem dX1_finding_8 : decode cX1_finding 8 = .ok (.isub, 1) := by decide +kernel
theorem dX1_finding_9 : decode cX1_finding 9 = .ok (.ireturn, 1) := by decide +kernel
theorem dX1_refusal_0 : decode cX1_refusal 0 = .ok (.iload_n 1, 1) := by decide +kernel
theorem dX1_refusal_1 : decode cX1_refusal 1 = .ok (.invokestatic 27, 3) := by decide +kernel
theorem dX1_refusal_4 : decode cX1_refusal 4 = .ok (.ifCond .eq 6, 3) := by decide +kernel
theorem dX1_refusal_7 : decode cX1_refusal 7 = .ok (.bipush (-2), 2) := by decide +kernel
theorem dX1_refusal_9 : decode cX1_refusal 9 = .ok (.ireturn, 1) := by decide +kernel
theorem dX1_refusal_10 : decode cX1_refusal 10 = .ok (.aload_n 0, 1) := by decide +kernel
theorem dX1_refusal_11 : decode cX1_refusal 11 = .ok (.getfield 9, 3) := by decide +kernel
theorem dX1_refusal_14 : decode cX1_refusal 14 = .ok (.iload_n 1, 1) := by decide +kernel
theorem dX1_refusal_15 : decode cX1_refusal 15 = .ok (.iaload, 1) := by decide +kernel
theorem dX1_refusal_16 : decode cX1_refusal 16 = .ok (.iconst (-1), 1) := by decide +kernel
theorem dX1_refusal_17 : decode cX1_refusal 17 = .ok (.if_icmp .ne 11, 3) := by decide +kernel
theorem dX1_refusal_20 : decode cX1_refusal 20 = .ok (.aload_n 0, 1) := by decide +kernel
theorem dX1_refusal_21 : decode cX1_refusal 21 = .ok (.iconst 1, 1) := by decide +kernel
theorem dX1_refusal_22 : decode cX1_refusal 22 = .ok (.invokevirtual 31, 3) := by decide +kernel
theorem dX1_refusal_25 : decode cX1_refusal 25 = .ok (.goto 4, 3) := by decide +kernel
theorem dX1_refusal_28 : decode cX1_refusal 28 = .ok (.iconst 0, 1) := by decide +kernel
theorem dX1_refusal_29 : decode cX1_refusal 29 = .ok (.ireturn, 1) := by decide +kernel
theorem dX1_refusalOfItem_0 : decode cX1_refusalOfItem 0 = .ok (.iload_n 1, 1) := by decide +kernel
theorem dX1_refusalOfItem_1 : decode cX1_refusalOfItem 1 = .ok (.invokestatic 27, 3) := by decide +kernel
theorem dX1_refusalOfItem_4 : decode cX1_refusalOfItem 4 = .ok (.ifCond .ne 10, 3) := by decide +kernel
theorem dX1_refusalOfItem_7 : decode cX1_refusalOfItem 7 = .ok (.iload_n 2, 1) := by decide +kernel
theorem dX1_refusalOfItem_8 : decode cX1_refusalOfItem 8 = .ok (.invokestatic 35, 3) := by decide +kernel
theorem dX1_refusalOfItem_11 : decode cX1_refusalOfItem 11 = .ok (.ifCond .eq 6, 3) := by decide +kernel
theorem dX1_refusalOfItem_14 : decode cX1_refusalOfItem 14 = .ok (.bipush (-2), 2) := by decide +kernel
theorem dX1_refusalOfItem_16 : decode cX1_refusalOfItem 16 = .ok (.ireturn, 1) := by decide +kernel
theorem dX1_refusalOfItem_17 : decode cX1_refusalOfItem 17 = .ok (.aload_n 0, 1) := by decide +kernel
theorem dX1_refusalOfItem_18 : decode cX1_refusalOfItem 18 = .ok (.getfield 9, 3) := by decide +kernel
theorem dX1_refusalOfItem_21 : decode cX1_refusalOfItem 21 = .ok (.iload_n 1, 1) := by decide +kernel
theorem dX1_refusalOfItem_22 : decode cX1_refusalOfItem 22 = .ok (.iaload, 1) := by decide +kernel
theorem dX1_refusalOfItem_23 : decode cX1_refusalOfItem 23 = .ok (.iconst (-1), 1) := by decide +kernel
theorem dX1_refusalOfItem_24 : decode cX1_refusalOfItem 24 = .ok (.if_icmp .ne 9, 3) := by decide +kernel
theorem dX1_refusalOfItem_27 : decode cX1_refusalOfItem 27 = .ok (.aload_n 0, 1) := by decide +kernel
theorem dX1_refusalOfItem_28 : decode cX1_refusalOfItem 28 = .ok (.iconst 1, 1) := by decide +kernel
theorem dX1_refusalOfItem_29 : decode cX1_refusalOfItem 29 = .ok (.invokevirtual 31, 3) := by decide +kernel
theorem dX1_refusalOfItem_32 : decode cX1_refusalOfItem 32 = .ok (.ireturn, 1) := by decide +kernel
theorem dX1_refusalOfItem_33 : decode cX1_refusalOfItem 33 = .ok (.aload_n 0, 1) := by decide +kernel
theorem dX1_refusalOfItem_34 : decode cX1_refusalOfItem 34 = .ok (.getfield 9, 3) := by decide +kernel
theorem dX1_refusalOfItem_37 : decode cX1_refusalOfItem 37 = .ok (.iload_n 1, 1) := by decide +kernel
theorem dX1_refusalOfItem_38 : decode cX1_refusalOfItem 38 = .ok (.iaload, 1) := by decide +kernel
theorem dX1_refusalOfItem_39 : decode cX1_refusalOfItem 39 = .ok (.iload_n 2, 1) := by decide +kernel
theorem dX1_refusalOfItem_40 : decode cX1_refusalOfItem 40 = .ok (.if_icmp .eq 9, 3) := by decide +kernel
theorem dX1_refusalOfItem_43 : decode cX1_refusalOfItem 43 = .ok (.aload_n 0, 1) := by decide +kernel
theorem dX1_refusalOfItem_44 : decode cX1_refusalOfItem 44 = .ok (.iconst 3, 1) := by decide +kernel
theorem dX1_refusalOfItem_45 : decode cX1_refusalOfItem 45 = .ok (.invokevirtual 31, 3) := by decide +kernel
theorem dX1_refusalOfItem_48 : decode cX1_refusalOfItem 48 = .ok (.ireturn, 1) := by decide +kernel
theorem dX1_refusalOfItem_49 : decode cX1_refusalOfItem 49 = .ok (.iload_n 3, 1) := by decide +kernel
theorem dX1_refusalOfItem_50 : decode cX1_refusalOfItem 50 = .ok (.ifCond .lt 13, 3) := by decide +kernel
theorem dX1_refusalOfItem_53 : decode cX1_refusalOfItem 53 = .ok (.iload_n 3, 1) := by decide +kernel
theorem dX1_refusalOfItem_54 : decode cX1_refusalOfItem 54 = .ok (.aload_n 0, 1) := by decide +kernel
theorem dX1_refusalOfItem_55 : decode cX1_refusalOfItem 55 = .ok (.getfield 15, 3) := by decide +kernel
theorem dX1_refusalOfItem_58 : decode cX1_refusalOfItem 58 = .ok (.iload_n 1, 1) := by decide +kernel
theorem dX1_refusalOfItem_59 : decode cX1_refusalOfItem 59 = .ok (.iaload, 1) := by decide +kernel
theorem dX1_refusalOfItem_60 : decode cX1_refusalOfItem 60 = .ok (.if_icmp .lt 11, 3) := by decide +kernel
theorem dX1_refusalOfItem_63 : decode cX1_refusalOfItem 63 = .ok (.aload_n 0, 1) := by decide +kernel
theorem dX1_refusalOfItem_64 : decode cX1_refusalOfItem 64 = .ok (.iconst 2, 1) := by decide +kernel
theorem dX1_refusalOfItem_65 : decode cX1_refusalOfItem 65 = .ok (.invokevirtual 31, 3) := by decide +kernel
theorem dX1_refusalOfItem_68 : decode cX1_refusalOfItem 68 = .ok (.goto 4, 3) := by decide +kernel
theorem dX1_refusalOfItem_71 : decode cX1_refusalOfItem 71 = .ok (.iconst 0, 1) := by decide +kernel
theorem dX1_refusalOfItem_72 : decode cX1_refusalOfItem 72 = .ok (.ireturn, 1) := by decide +kernel
theorem dX1_lacks_0 : decode cX1_lacks 0 = .ok (.iload_n 2, 1) := by decide +kernel
theorem dX1_lacks_1 : decode cX1_lacks 1 = .ok (.ifCond .lt 23, 3) := by decide +kernel
theorem dX1_lacks_4 : decode cX1_lacks 4 = .ok (.iload_n 3, 1) := by decide +kernel
theorem dX1_lacks_5 : decode cX1_lacks 5 = .ok (.ifCond .lt 19, 3) := by decide +kernel
theorem dX1_lacks_8 : decode cX1_lacks 8 = .ok (.iload_n 2, 1) := by decide +kernel
theorem dX1_lacks_9 : decode cX1_lacks 9 = .ok (.i2l, 1) := by decide +kernel
theorem dX1_lacks_10 : decode cX1_lacks 10 = .ok (.iload_n 3, 1) := by decide +kernel
theorem dX1_lacks_11 : decode cX1_lacks 11 = .ok (.i2l, 1) := by decide +kernel
theorem dX1_lacks_12 : decode cX1_lacks 12 = .ok (.ladd, 1) := by decide +kernel
theorem dX1_lacks_13 : decode cX1_lacks 13 = .ok (.aload_n 0, 1) := by decide +kernel
theorem dX1_lacks_14 : decode cX1_lacks 14 = .ok (.getfield 15, 3) := by decide +kernel
theorem dX1_lacks_17 : decode cX1_lacks 17 = .ok (.iload_n 1, 1) := by decide +kernel
theorem dX1_lacks_18 : decode cX1_lacks 18 = .ok (.iaload, 1) := by decide +kernel
theorem dX1_lacks_19 : decode cX1_lacks 19 = .ok (.i2l, 1) := by decide +kernel
theorem dX1_lacks_20 : decode cX1_lacks 20 = .ok (.lcmp, 1) := by decide +kernel
theorem dX1_lacks_21 : decode cX1_lacks 21 = .ok (.ifCond .le 7, 3) := by decide +kernel
theorem dX1_lacks_24 : decode cX1_lacks 24 = .ok (.iconst 1, 1) := by decide +kernel
theorem dX1_lacks_25 : decode cX1_lacks 25 = .ok (.goto 4, 3) := by decide +kernel
theorem dX1_lacks_28 : decode cX1_lacks 28 = .ok (.iconst 0, 1) := by decide +kernel
theorem dX1_lacks_29 : decode cX1_lacks 29 = .ok (.ireturn, 1) := by decide +kernel
theorem dX1_renew_0 : decode cX1_renew 0 = .ok (.aload_n 0, 1) := by decide +kernel
theorem dX1_renew_1 : decode cX1_renew 1 = .ok (.getfield 9, 3) := by decide +kernel
theorem dX1_renew_4 : decode cX1_renew 4 = .ok (.iload_n 1, 1) := by decide +kernel
theorem dX1_renew_5 : decode cX1_renew 5 = .ok (.iload_n 2, 1) := by decide +kernel
theorem dX1_renew_6 : decode cX1_renew 6 = .ok (.iastore, 1) := by decide +kernel
theorem dX1_renew_7 : decode cX1_renew 7 = .ok (.aload_n 0, 1) := by decide +kernel
theorem dX1_renew_8 : decode cX1_renew 8 = .ok (.getfield 15, 3) := by decide +kernel
theorem dX1_renew_11 : decode cX1_renew 11 = .ok (.iload_n 1, 1) := by decide +kernel
theorem dX1_renew_12 : decode cX1_renew 12 = .ok (.iload_n 3, 1) := by decide +kernel
theorem dX1_renew_13 : decode cX1_renew 13 = .ok (.iastore, 1) := by decide +kernel
theorem dX1_renew_14 : decode cX1_renew 14 = .ok (.aload_n 0, 1) := by decide +kernel
theorem dX1_renew_15 : decode cX1_renew 15 = .ok (.getfield 20, 3) := by decide +kernel
theorem dX1_renew_18 : decode cX1_renew 18 = .ok (.iload_n 1, 1) := by decide +kernel
theorem dX1_renew_19 : decode cX1_renew 19 = .ok (.aaload, 1) := by decide +kernel
theorem dX1_renew_20 : decode cX1_renew 20 = .ok (.iconst 0, 1) := by decide +kernel
theorem dX1_renew_21 : decode cX1_renew 21 = .ok (.invokestatic 38, 3) := by decide +kernel
theorem dX1_renew_24 : decode cX1_renew 24 = .ok (.return_, 1) := by decide +kernel
theorem dX1_put_0 : decode cX1_put 0 = .ok (.aload_n 0, 1) := by decide +kernel
theorem dX1_put_1 : decode cX1_put 1 = .ok (.getfield 9, 3) := by decide +kernel
theorem dX1_put_4 : decode cX1_put 4 = .ok (.iload_n 1, 1) := by decide +kernel
theorem dX1_put_5 : decode cX1_put 5 = .ok (.iaload, 1) := by decide +kernel
theorem dX1_put_6 : decode cX1_put 6 = .ok (.ifCond .ne 16, 3) := by decide +kernel
theorem dX1_put_9 : decode cX1_put 9 = .ok (.aload_n 0, 1) := by decide +kernel
theorem dX1_put_10 : decode cX1_put 10 = .ok (.getfield 20, 3) := by decide +kernel
theorem dX1_put_13 : decode cX1_put 13 = .ok (.iload_n 1, 1) := by decide +kernel
theorem dX1_put_14 : decode cX1_put 14 = .ok (.aaload, 1) := by decide +kernel
theorem dX1_put_15 : decode cX1_put 15 = .ok (.iload_n 2, 1) := by decide +kernel
theorem dX1_put_16 : decode cX1_put 16 = .ok (.iload_n 3, 1) := by decide +kernel
theorem dX1_put_17 : decode cX1_put 17 = .ok (.i2b, 1) := by decide +kernel
theorem dX1_put_18 : decode cX1_put 18 = .ok (.iastore, 1) := by decide +kernel
theorem dX1_put_19 : decode cX1_put 19 = .ok (.goto 35, 3) := by decide +kernel
theorem dX1_put_22 : decode cX1_put 22 = .ok (.aload_n 0, 1) := by decide +kernel
theorem dX1_put_23 : decode cX1_put 23 = .ok (.getfield 9, 3) := by decide +kernel
theorem dX1_put_26 : decode cX1_put 26 = .ok (.iload_n 1, 1) := by decide +kernel
theorem dX1_put_27 : decode cX1_put 27 = .ok (.iaload, 1) := by decide +kernel
theorem dX1_put_28 : decode cX1_put 28 = .ok (.iconst 1, 1) := by decide +kernel
theorem dX1_put_29 : decode cX1_put 29 = .ok (.if_icmp .ne 16, 3) := by decide +kernel
theorem dX1_put_32 : decode cX1_put 32 = .ok (.aload_n 0, 1) := by decide +kernel
theorem dX1_put_33 : decode cX1_put 33 = .ok (.getfield 20, 3) := by decide +kernel
theorem dX1_put_36 : decode cX1_put 36 = .ok (.iload_n 1, 1) := by decide +kernel
theorem dX1_put_37 : decode cX1_put 37 = .ok (.aaload, 1) := by decide +kernel
theorem dX1_put_38 : decode cX1_put 38 = .ok (.iload_n 2, 1) := by decide +kernel
theorem dX1_put_39 : decode cX1_put 39 = .ok (.iload_n 3, 1) := by decide +kernel
theorem dX1_put_40 : decode cX1_put 40 = .ok (.i2s, 1) := by decide +kernel
theorem dX1_put_41 : decode cX1_put 41 = .ok (.iastore, 1) := by decide +kernel
theorem dX1_put_42 : decode cX1_put 42 = .ok (.goto 12, 3) := by decide +kernel
theorem dX1_put_45 : decode cX1_put 45 = .ok (.aload_n 0, 1) := by decide +kernel
theorem dX1_put_46 : decode cX1_put 46 = .ok (.getfield 20, 3) := by decide +kernel
theorem dX1_put_49 : decode cX1_put 49 = .ok (.iload_n 1, 1) := by decide +kernel
theorem dX1_put_50 : decode cX1_put 50 = .ok (.aaload, 1) := by decide +kernel
theorem dX1_put_51 : decode cX1_put 51 = .ok (.iload_n 2, 1) := by decide +kernel
theorem dX1_put_52 : decode cX1_put 52 = .ok (.iload_n 3, 1) := by decide +kernel
theorem dX1_put_53 : decode cX1_put 53 = .ok (.iastore, 1) := by decide +kernel
theorem dX1_put_54 : decode cX1_put 54 = .ok (.return_, 1) := by decide +kernel
theorem dX2_init_0 : decode cX2_init 0 = .ok (.aload_n 0, 1) := by decide +kernel
theorem dX2_init_1 : decode cX2_init 1 = .ok (.invokespecial 3, 3) := by decide +kernel
theorem dX2_init_4 : decode cX2_init 4 = .ok (.aload_n 0, 1) := by decide +kernel
theorem dX2_init_5 : decode cX2_init 5 = .ok (.sipush 150, 3) := by decide +kernel
theorem dX2_init_8 : decode cX2_init 8 = .ok (.newarray .int, 2) := by decide +kernel
theorem dX2_init_10 : decode cX2_init 10 = .ok (.putfield 9, 3) := by decide +kernel
theorem dX2_init_13 : decode cX2_init 13 = .ok (.aload_n 0, 1) := by decide +kernel
theorem dX2_init_14 : decode cX2_init 14 = .ok (.iconst 5, 1) := by decide +kernel
theorem dX2_init_15 : decode cX2_init 15 = .ok (.newarray .int, 2) := by decide +kernel
theorem dX2_init_17 : decode cX2_init 17 = .ok (.putfield 15, 3) := by decide +kernel
theorem dX2_init_20 : decode cX2_init 20 = .ok (.aload_n 0, 1) := by decide +kernel
theorem dX2_init_21 : decode cX2_init 21 = .ok (.iconst 5, 1) := by decide +kernel
theorem dX2_init_22 : decode cX2_init 22 = .ok (.newarray .int, 2) := by decide +kernel
theorem dX2_init_24 : decode cX2_init 24 = .ok (.putfield 18, 3) := by decide +kernel
theorem dX2_init_27 : decode cX2_init 27 = .ok (.aload_n 0, 1) := by decide +kernel
theorem dX2_init_28 : decode cX2_init 28 = .ok (.bipush 6, 2) := by decide +kernel
theorem dX2_init_30 : decode cX2_init 30 = .ok (.bipush 6, 2) := by decide +kernel
theorem dX2_init_32 : decode cX2_init 32 = .ok (.multianewarray 21 2, 4) := by decide +kernel
theorem dX2_init_36 : decode cX2_init 36 = .ok (.putfield 23, 3) := by decide +kernel
theorem dX2_init_39 : decode cX2_init 39 = .ok (.aload_n 0, 1) := by decide +kernel
theorem dX2_init_40 : decode cX2_init 40 = .ok (.iconst (-1), 1) := by decide +kernel
theorem dX2_init_41 : decode cX2_init 41 = .ok (.putfield 26, 3) := by decide +kernel
theorem dX2_init_44 : decode cX2_init 44 = .ok (.return_, 1) := by decide +kernel
theorem dX2_append_0 : decode cX2_append 0 = .ok (.aload_n 0, 1) := by decide +kernel
theorem dX2_append_1 : decode cX2_append 1 = .ok (.getfield 30, 3) := by decide +kernel
theorem dX2_append_4 : decode cX2_append 4 = .ok (.sipush 150, 3) := by decide +kernel
theorem dX2_append_7 : decode cX2_append 7 = .ok (.if_icmp .ge 27, 3) := by decide +kernel
theorem dX2_append_10 : decode cX2_append 10 = .ok (.aload_n 0, 1) := by decide +kernel
theorem dX2_append_11 : decode cX2_append 11 = .ok (.getfield 9, 3) := by decide +kernel
theorem dX2_append_14 : decode cX2_append 14 = .ok (.aload_n 0, 1) := by decide +kernel
theorem dX2_append_15 : decode cX2_append 15 = .ok (.getfield 30, 3) := by decide +kernel
theorem dX2_append_18 : decode cX2_append 18 = .ok (.iload_n 1, 1) := by decide +kernel
theorem dX2_append_19 : decode cX2_append 19 = .ok (.iastore, 1) := by decide +kernel
theorem dX2_append_20 : decode cX2_append 20 = .ok (.aload_n 0, 1) := by decide +kernel
theorem dX2_append_21 : decode cX2_append 21 = .ok (.dup, 1) := by decide +kernel
theorem dX2_append_22 : decode cX2_append 22 = .ok (.getfield 30, 3) := by decide +kernel
theorem dX2_append_25 : decode cX2_append 25 = .ok (.iconst 1, 1) := by decide +kernel
theorem dX2_append_26 : decode cX2_append 26 = .ok (.iadd, 1) := by decide +kernel
theorem dX2_append_27 : decode cX2_append 27 = .ok (.putfield 30, 3) := by decide +kernel
theorem dX2_append_30 : decode cX2_append 30 = .ok (.aload_n 0, 1) := by decide +kernel
theorem dX2_append_31 : decode cX2_append 31 = .ok (.invokevirtual 33, 3) := by decide +kernel
theorem dX2_append_34 : decode cX2_append 34 = .ok (.return_, 1) := by decide +kernel
theorem dX2_clear_0 : decode cX2_clear 0 = .ok (.aload_n 0, 1) := by decide +kernel
theorem dX2_clear_1 : decode cX2_clear 1 = .ok (.iconst 0, 1) := by decide +kernel
theorem dX2_clear_2 : decode cX2_clear 2 = .ok (.putfield 30, 3) := by decide +kernel
theorem dX2_clear_5 : decode cX2_clear 5 = .ok (.aload_n 0, 1) := by decide +kernel
theorem dX2_clear_6 : decode cX2_clear 6 = .ok (.invokevirtual 33, 3) := by decide +kernel
theorem dX2_clear_9 : decode cX2_clear 9 = .ok (.return_, 1) := by decide +kernel
theorem dX2_crowd_0 : decode cX2_crowd 0 = .ok (.iconst 0, 1) := by decide +kernel
theorem dX2_crowd_1 : decode cX2_crowd 1 = .ok (.istore_n 1, 1) := by decide +kernel
theorem dX2_crowd_2 : decode cX2_crowd 2 = .ok (.iconst 0, 1) := by decide +kernel
theorem dX2_crowd_3 : decode cX2_crowd 3 = .ok (.istore_n 2, 1) := by decide +kernel
theorem dX2_crowd_4 : decode cX2_crowd 4 = .ok (.iload_n 2, 1) := by decide +kernel
theorem dX2_crowd_5 : decode cX2_crowd 5 = .ok (.aload_n 0, 1) := by decide +kernel
theorem dX2_crowd_6 : decode cX2_crowd 6 = .ok (.getfield 36, 3) := by decide +kernel
theorem dX2_crowd_9 : decode cX2_crowd 9 = .ok (.if_icmp .ge 20, 3) := by decide +kernel
theorem dX2_crowd_12 : decode cX2_crowd 12 = .ok (.iload_n 1, 1) := by decide +kernel
theorem dX2_crowd_13 : decode cX2_crowd 13 = .ok (.aload_n 0, 1) := by decide +kernel
theorem dX2_crowd_14 : decode cX2_crowd 14 = .ok (.getfield 23, 3) := by decide +kernel
theorem dX2_crowd_17 : decode cX2_crowd 17 = .ok (.iload_n 2, 1) := by decide +kernel
theorem dX2_crowd_18 : decode cX2_crowd 18 = .ok (.aaload, 1) := by decide +kernel
theorem dX2_crowd_19 : decode cX2_crowd 19 = .ok (.iconst 1, 1) := by decide +kernel
theorem dX2_crowd_20 : decode cX2_crowd 20 = .ok (.iaload, 1) := by decide +kernel
theorem dX2_crowd_21 : decode cX2_crowd 21 = .ok (.iadd, 1) := by decide +kernel
theorem dX2_crowd_22 : decode cX2_crowd 22 = .ok (.istore_n 1, 1) := by decide +kernel
theorem dX2_crowd_23 : decode cX2_crowd 23 = .ok (.iinc 2 1, 3) := by decide +kernel
theorem dX2_crowd_26 : decode cX2_crowd 26 = .ok (.goto (-22), 3) := by decide +kernel
theorem dX2_crowd_29 : decode cX2_crowd 29 = .ok (.iload_n 1, 1) := by decide +kernel
theorem dX2_crowd_30 : decode cX2_crowd 30 = .ok (.ireturn, 1) := by decide +kernel
theorem dX2_parse_0 : decode cX2_parse 0 = .ok (.aload_n 0, 1) := by decide +kernel
theorem dX2_parse_1 : decode cX2_parse 1 = .ok (.iconst 0, 1) := by decide +kernel
theorem dX2_parse_2 : decode cX2_parse 2 = .ok (.putfield 39, 3) := by decide +kernel
theorem dX2_parse_5 : decode cX2_parse 5 = .ok (.aload_n 0, 1) := by decide +kernel
theorem dX2_parse_6 : decode cX2_parse 6 = .ok (.iconst 0, 1) := by decide +kernel
theorem dX2_parse_7 : decode cX2_parse 7 = .ok (.putfield 36, 3) := by decide +kernel
theorem dX2_parse_10 : decode cX2_parse 10 = .ok (.aload_n 0, 1) := by decide +kernel
theorem dX2_parse_11 : decode cX2_parse 11 = .ok (.iconst (-1), 1) := by decide +kernel
theorem dX2_parse_12 : decode cX2_parse 12 = .ok (.putfield 26, 3) := by decide +kernel
theorem dX2_parse_15 : decode cX2_parse 15 = .ok (.aload_n 0, 1) := by decide +kernel
theorem dX2_parse_16 : decode cX2_parse 16 = .ok (.iconst 0, 1) := by decide +kernel
theorem dX2_parse_17 : decode cX2_parse 17 = .ok (.putfield 42, 3) := by decide +kernel
theorem dX2_parse_20 : decode cX2_parse 20 = .ok (.aload_n 0, 1) := by decide +kernel
theorem dX2_parse_21 : decode cX2_parse 21 = .ok (.getfield 30, 3) := by decide +kernel
theorem dX2_parse_24 : decode cX2_parse 24 = .ok (.ifCond .le 7, 3) := by decide +kernel
theorem dX2_parse_27 : decode cX2_parse 27 = .ok (.iconst 1, 1) := by decide +kernel
theorem dX2_parse_28 : decode cX2_parse 28 = .ok (.goto 4, 3) := by decide +kernel
theorem dX2_parse_31 : decode cX2_parse 31 = .ok (.iconst 0, 1) := by decide +kernel
theorem dX2_parse_32 : decode cX2_parse 32 = .ok (.istore_n 1, 1) := by decide +kernel
theorem dX2_parse_33 : decode cX2_parse 33 = .ok (.iconst 0, 1) := by decide +kernel
theorem dX2_parse_34 : decode cX2_parse 34 = .ok (.istore_n 2, 1) := by decide +kernel
theorem dX2_parse_35 : decode cX2_parse 35 = .ok (.iload_n 2, 1) := by decide +kernel
theorem dX2_parse_36 : decode cX2_parse 36 = .ok (.sipush 150, 3) := by decide +kernel
theorem dX2_parse_39 : decode cX2_parse 39 = .ok (.if_icmp .gt 66, 3) := by decide +kernel
theorem dX2_parse_42 : decode cX2_parse 42 = .ok (.iload_n 1, 1) := by decide +kernel
theorem dX2_parse_43 : decode cX2_parse 43 = .ok (.ifCond .eq 62, 3) := by decide +kernel
theorem dX2_parse_46 : decode cX2_parse 46 = .ok (.aload_n 0, 1) := by decide +kernel
theorem dX2_parse_47 : decode cX2_parse 47 = .ok (.invokevirtual 45, 3) := by decide +kernel
theorem dX2_parse_50 : decode cX2_parse 50 = .ok (.aload_n 0, 1) := by decide +kernel
theorem dX2_parse_51 : decode cX2_parse 51 = .ok (.getfield 26, 3) := by decide +kernel
theorem dX2_parse_54 : decode cX2_parse 54 = .ok (.iconst (-1), 1) := by decide +kernel
theorem dX2_parse_55 : decode cX2_parse 55 = .ok (.if_icmp .ne 18, 3) := by decide +kernel
theorem dX2_parse_58 : decode cX2_parse 58 = .ok (.aload_n 0, 1) := by decide +kernel
theorem dX2_parse_59 : decode cX2_parse 59 = .ok (.getfield 42, 3) := by decide +kernel
theorem dX2_parse_62 : decode cX2_parse 62 = .ok (.aload_n 0, 1) := by decide +kernel
theorem dX2_parse_63 : decode cX2_parse 63 = .ok (.getfield 30, 3) := by decide +kernel
theorem dX2_parse_66 : decode cX2_parse 66 = .ok (.if_icmp .ge 7, 3) := by decide +kernel
theorem dX2_parse_69 : decode cX2_parse 69 = .ok (.iconst 1, 1) := by decide +kernel
theorem dX2_parse_70 : decode cX2_parse 70 = .ok (.goto 4, 3) := by decide +kernel
theorem dX2_parse_73 : decode cX2_parse 73 = .ok (.iconst 0, 1) := by decide +kernel
theorem dX2_parse_74 : decode cX2_parse 74 = .ok (.istore_n 1, 1) := by decide +kernel
theorem dX2_parse_75 : decode cX2_parse 75 = .ok (.iload_n 1, 1) := by decide +kernel
theorem dX2_parse_76 : decode cX2_parse 76 = .ok (.ifCond .eq 23, 3) := by decide +kernel
theorem dX2_parse_79 : decode cX2_parse 79 = .ok (.aload_n 0, 1) := by decide +kernel
theorem dX2_parse_80 : decode cX2_parse 80 = .ok (.bipush 59, 2) := by decide +kernel
theorem dX2_parse_82 : decode cX2_parse 82 = .ok (.invokevirtual 48, 3) := by decide +kernel
theorem dX2_parse_85 : decode cX2_parse 85 = .ok (.aload_n 0, 1) := by decide +kernel
theorem dX2_parse_86 : decode cX2_parse 86 = .ok (.getfield 26, 3) := by decide +kernel
theorem dX2_parse_89 : decode cX2_parse 89 = .ok (.iconst (-1), 1) := by decide +kernel
theorem dX2_parse_90 : decode cX2_parse 90 = .ok (.if_icmp .ne 7, 3) := by decide +kernel
theorem dX2_parse_93 : decode cX2_parse 93 = .ok (.iconst 1, 1) := by decide +kernel
theorem dX2_parse_94 : decode cX2_parse 94 = .ok (.goto 4, 3) := by decide +kernel
theorem dX2_parse_97 : decode cX2_parse 97 = .ok (.iconst 0, 1) := by decide +kernel
theorem dX2_parse_98 : decode cX2_parse 98 = .ok (.istore_n 1, 1) := by decide +kernel
theorem dX2_parse_99 : decode cX2_parse 99 = .ok (.iinc 2 1, 3) := by decide +kernel
theorem dX2_parse_102 : decode cX2_parse 102 = .ok (.goto (-67), 3) := by decide +kernel
theorem dX2_parse_105 : decode cX2_parse 105 = .ok (.aload_n 0, 1) := by decide +kernel
theorem dX2_parse_106 : decode cX2_parse 106 = .ok (.getfield 26, 3) := by decide +kernel
theorem dX2_parse_109 : decode cX2_parse 109 = .ok (.iconst (-1), 1) := by decide +kernel
theorem dX2_parse_110 : decode cX2_parse 110 = .ok (.if_icmp .eq 13, 3) := by decide +kernel
theorem dX2_parse_113 : decode cX2_parse 113 = .ok (.aload_n 0, 1) := by decide +kernel
theorem dX2_parse_114 : decode cX2_parse 114 = .ok (.iconst 0, 1) := by decide +kernel
theorem dX2_parse_115 : decode cX2_parse 115 = .ok (.putfield 39, 3) := by decide +kernel
theorem dX2_parse_118 : decode cX2_parse 118 = .ok (.aload_n 0, 1) := by decide +kernel
theorem dX2_parse_119 : decode cX2_parse 119 = .ok (.iconst 0, 1) := by decide +kernel
theorem dX2_parse_120 : decode cX2_parse 120 = .ok (.putfield 36, 3) := by decide +kernel
theorem dX2_parse_123 : decode cX2_parse 123 = .ok (.return_, 1) := by decide +kernel
theorem dX2_takePart_0 : decode cX2_takePart 0 = .ok (.aload_n 0, 1) := by decide +kernel
theorem dX2_takePart_1 : decode cX2_takePart 1 = .ok (.invokevirtual 52, 3) := by decide +kernel
theorem dX2_takePart_4 : decode cX2_takePart 4 = .ok (.istore_n 1, 1) := by decide +kernel
theorem dX2_takePart_5 : decode cX2_takePart 5 = .ok (.iload_n 1, 1) := by decide +kernel
theorem dX2_takePart_6 : decode cX2_takePart 6 = .ok (.bipush 115, 2) := by decide +kernel
theorem dX2_takePart_8 : decode cX2_takePart 8 = .ok (.if_icmp .ne 18, 3) := by decide +kernel
theorem dX2_takePart_11 : decode cX2_takePart 11 = .ok (.aload_n 0, 1) := by decide +kernel
theorem dX2_takePart_12 : decode cX2_takePart 12 = .ok (.getfield 39, 3) := by decide +kernel
theorem dX2_takePart_15 : decode cX2_takePart 15 = .ok (.iconst 5, 1) := by decide +kernel
theorem dX2_takePart_16 : decode cX2_takePart 16 = .ok (.if_icmp .ge 10, 3) := by decide +kernel
theorem dX2_takePart_19 : decode cX2_takePart 19 = .ok (.aload_n 0, 1) := by decide +kernel
theorem dX2_takePart_20 : decode cX2_takePart 20 = .ok (.invokevirtual 56, 3) := by decide +kernel
theorem dX2_takePart_23 : decode cX2_takePart 23 = .ok (.goto 33, 3) := by decide +kernel
theorem dX2_takePart_26 : decode cX2_takePart 26 = .ok (.iload_n 1, 1) := by decide +kernel
theorem dX2_takePart_27 : decode cX2_takePart 27 = .ok (.bipush 98, 2) := by decide +kernel
theorem dX2_takePart_29 : decode cX2_takePart 29 = .ok (.if_icmp .ne 19, 3) := by decide +kernel
theorem dX2_takePart_32 : decode cX2_takePart 32 = .ok (.aload_n 0, 1) := by decide +kernel
theorem dX2_takePart_33 : decode cX2_takePart 33 = .ok (.getfield 36, 3) := by decide +kernel
theorem dX2_takePart_36 : decode cX2_takePart 36 = .ok (.bipush 6, 2) := by decide +kernel
theorem dX2_takePart_38 : decode cX2_takePart 38 = .ok (.if_icmp .ge 10, 3) := by decide +kernel
theorem dX2_takePart_41 : decode cX2_takePart 41 = .ok (.aload_n 0, 1) := by decide +kernel
theorem dX2_takePart_42 : decode cX2_takePart 42 = .ok (.invokevirtual 59, 3) := by decide +kernel
theorem dX2_takePart_45 : decode cX2_takePart 45 = .ok (.goto 11, 3) := by decide +kernel
theorem dX2_takePart_48 : decode cX2_takePart 48 = .ok (.aload_n 0, 1) := by decide +kernel
theorem dX2_takePart_49 : decode cX2_takePart 49 = .ok (.aload_n 0, 1) := by decide +kernel
theorem dX2_takePart_50 : decode cX2_takePart 50 = .ok (.getfield 42, 3) := by decide +kernel
theorem dX2_takePart_53 : decode cX2_takePart 53 = .ok (.invokevirtual 62, 3) := by decide +kernel
theorem dX2_takePart_56 : decode cX2_takePart 56 = .ok (.return_, 1) := by decide +kernel
end
section
theorem dX2_takeShop_0 : decode cX2_takeShop 0 = .ok (.aload_n 0, 1) := by decide +kernel
theorem dX2_takeShop_1 : decode cX2_takeShop 1 = .ok (.dup, 1) := by decide +kernel
theorem dX2_takeShop_2 : decode cX2_takeShop 2 = .ok (.getfield 42, 3) := by decide +kernel
theorem dX2_takeShop_5 : decode cX2_takeShop 5 = .ok (.iconst 1, 1) := by decide +kernel
theorem dX2_takeShop_6 : decode cX2_takeShop 6 = .ok (.iadd, 1) := by decide +kernel
theorem dX2_takeShop_7 : decode cX2_takeShop 7 = .ok (.putfield 42, 3) := by decide +kernel
theorem dX2_takeShop_10 : decode cX2_takeShop 10 = .ok (.aload_n 0, 1) := by decide +kernel
theorem dX2_takeShop_11 : decode cX2_takeShop 11 = .ok (.invokevirtual 65, 3) := by decide +kernel
theorem dX2_takeShop_14 : decode cX2_takeShop 14 = .ok (.istore_n 1, 1) := by decide +kernel
theorem dX2_takeShop_15 : decode cX2_takeShop 15 = .ok (.aload_n 0, 1) := by decide +kernel
theorem dX2_takeShop_16 : decode cX2_takeShop 16 = .ok (.bipush 44, 2) := by decide +kernel
theorem dX2_takeShop_18 : decode cX2_takeShop 18 = .ok (.invokevirtual 48, 3) := by decide +kernel
theorem dX2_takeShop_21 : decode cX2_takeShop 21 = .ok (.aload_n 0, 1) := by decide +kernel
theorem dX2_takeShop_22 : decode cX2_takeShop 22 = .ok (.iconst 0, 1) := by decide +kernel
theorem dX2_takeShop_23 : decode cX2_takeShop 23 = .ok (.bipush 99, 2) := by decide +kernel
theorem dX2_takeShop_25 : decode cX2_takeShop 25 = .ok (.invokevirtual 68, 3) := by decide +kernel
theorem dX2_takeShop_28 : decode cX2_takeShop 28 = .ok (.istore_n 2, 1) := by decide +kernel
theorem dX2_takeShop_29 : decode cX2_takeShop 29 = .ok (.aload_n 0, 1) := by decide +kernel
theorem dX2_takeShop_30 : decode cX2_takeShop 30 = .ok (.getfield 26, 3) := by decide +kernel
theorem dX2_takeShop_33 : decode cX2_takeShop 33 = .ok (.iconst (-1), 1) := by decide +kernel
theorem dX2_takeShop_34 : decode cX2_takeShop 34 = .ok (.if_icmp .ne 33, 3) := by decide +kernel
theorem dX2_takeShop_37 : decode cX2_takeShop 37 = .ok (.aload_n 0, 1) := by decide +kernel
theorem dX2_takeShop_38 : decode cX2_takeShop 38 = .ok (.getfield 15, 3) := by decide +kernel
theorem dX2_takeShop_41 : decode cX2_takeShop 41 = .ok (.aload_n 0, 1) := by decide +kernel
theorem dX2_takeShop_42 : decode cX2_takeShop 42 = .ok (.getfield 39, 3) := by decide +kernel
theorem dX2_takeShop_45 : decode cX2_takeShop 45 = .ok (.iload_n 1, 1) := by decide +kernel
theorem dX2_takeShop_46 : decode cX2_takeShop 46 = .ok (.iastore, 1) := by decide +kernel
theorem dX2_takeShop_47 : decode cX2_takeShop 47 = .ok (.aload_n 0, 1) := by decide +kernel
theorem dX2_takeShop_48 : decode cX2_takeShop 48 = .ok (.getfield 18, 3) := by decide +kernel
theorem dX2_takeShop_51 : decode cX2_takeShop 51 = .ok (.aload_n 0, 1) := by decide +kernel
theorem dX2_takeShop_52 : decode cX2_takeShop 52 = .ok (.getfield 39, 3) := by decide +kernel
theorem dX2_takeShop_55 : decode cX2_takeShop 55 = .ok (.iload_n 2, 1) := by decide +kernel
theorem dX2_takeShop_56 : decode cX2_takeShop 56 = .ok (.iastore, 1) := by decide +kernel
theorem dX2_takeShop_57 : decode cX2_takeShop 57 = .ok (.aload_n 0, 1) := by decide +kernel
theorem dX2_takeShop_58 : decode cX2_takeShop 58 = .ok (.dup, 1) := by decide +kernel
theorem dX2_takeShop_59 : decode cX2_takeShop 59 = .ok (.getfield 39, 3) := by decide +kernel
theorem dX2_takeShop_62 : decode cX2_takeShop 62 = .ok (.iconst 1, 1) := by decide +kernel
theorem dX2_takeShop_63 : decode cX2_takeShop 63 = .ok (.iadd, 1) := by decide +kernel
theorem dX2_takeShop_64 : decode cX2_takeShop 64 = .ok (.putfield 39, 3) := by decide +kernel
theorem dX2_takeShop_67 : decode cX2_takeShop 67 = .ok (.return_, 1) := by decide +kernel
theorem dX2_takeSort_0 : decode cX2_takeSort 0 = .ok (.aload_n 0, 1) := by decide +kernel
theorem dX2_takeSort_1 : decode cX2_takeSort 1 = .ok (.dup, 1) := by decide +kernel
theorem dX2_takeSort_2 : decode cX2_takeSort 2 = .ok (.getfield 42, 3) := by decide +kernel
theorem dX2_takeSort_5 : decode cX2_takeSort 5 = .ok (.iconst 1, 1) := by decide +kernel
theorem dX2_takeSort_6 : decode cX2_takeSort 6 = .ok (.iadd, 1) := by decide +kernel
theorem dX2_takeSort_7 : decode cX2_takeSort 7 = .ok (.putfield 42, 3) := by decide +kernel
theorem dX2_takeSort_10 : decode cX2_takeSort 10 = .ok (.aload_n 0, 1) := by decide +kernel
theorem dX2_takeSort_11 : decode cX2_takeSort 11 = .ok (.getfield 23, 3) := by decide +kernel
theorem dX2_takeSort_14 : decode cX2_takeSort 14 = .ok (.aload_n 0, 1) := by decide +kernel
theorem dX2_takeSort_15 : decode cX2_takeSort 15 = .ok (.getfield 36, 3) := by decide +kernel
theorem dX2_takeSort_18 : decode cX2_takeSort 18 = .ok (.aaload, 1) := by decide +kernel
theorem dX2_takeSort_19 : decode cX2_takeSort 19 = .ok (.astore_n 1, 1) := by decide +kernel
theorem dX2_takeSort_20 : decode cX2_takeSort 20 = .ok (.aload_n 1, 1) := by decide +kernel
theorem dX2_takeSort_21 : decode cX2_takeSort 21 = .ok (.iconst 0, 1) := by decide +kernel
theorem dX2_takeSort_22 : decode cX2_takeSort 22 = .ok (.aload_n 0, 1) := by decide +kernel
theorem dX2_takeSort_23 : decode cX2_takeSort 23 = .ok (.invokevirtual 65, 3) := by decide +kernel
theorem dX2_takeSort_26 : decode cX2_takeSort 26 = .ok (.iastore, 1) := by decide +kernel
theorem dX2_takeSort_27 : decode cX2_takeSort 27 = .ok (.aload_n 0, 1) := by decide +kernel
theorem dX2_takeSort_28 : decode cX2_takeSort 28 = .ok (.bipush 44, 2) := by decide +kernel
theorem dX2_takeSort_30 : decode cX2_takeSort 30 = .ok (.invokevirtual 48, 3) := by decide +kernel
theorem dX2_takeSort_33 : decode cX2_takeSort 33 = .ok (.aload_n 1, 1) := by decide +kernel
theorem dX2_takeSort_34 : decode cX2_takeSort 34 = .ok (.iconst 1, 1) := by decide +kernel
theorem dX2_takeSort_35 : decode cX2_takeSort 35 = .ok (.aload_n 0, 1) := by decide +kernel
theorem dX2_takeSort_36 : decode cX2_takeSort 36 = .ok (.iconst 1, 1) := by decide +kernel
theorem dX2_takeSort_37 : decode cX2_takeSort 37 = .ok (.bipush 99, 2) := by decide +kernel
theorem dX2_takeSort_39 : decode cX2_takeSort 39 = .ok (.invokevirtual 68, 3) := by decide +kernel
theorem dX2_takeSort_42 : decode cX2_takeSort 42 = .ok (.iastore, 1) := by decide +kernel
theorem dX2_takeSort_43 : decode cX2_takeSort 43 = .ok (.aload_n 0, 1) := by decide +kernel
theorem dX2_takeSort_44 : decode cX2_takeSort 44 = .ok (.bipush 44, 2) := by decide +kernel
theorem dX2_takeSort_46 : decode cX2_takeSort 46 = .ok (.invokevirtual 48, 3) := by decide +kernel
theorem dX2_takeSort_49 : decode cX2_takeSort 49 = .ok (.aload_n 1, 1) := by decide +kernel
theorem dX2_takeSort_50 : decode cX2_takeSort 50 = .ok (.iconst 2, 1) := by decide +kernel
theorem dX2_takeSort_51 : decode cX2_takeSort 51 = .ok (.aload_n 0, 1) := by decide +kernel
theorem dX2_takeSort_52 : decode cX2_takeSort 52 = .ok (.invokevirtual 72, 3) := by decide +kernel
theorem dX2_takeSort_55 : decode cX2_takeSort 55 = .ok (.iastore, 1) := by decide +kernel
theorem dX2_takeSort_56 : decode cX2_takeSort 56 = .ok (.aload_n 0, 1) := by decide +kernel
theorem dX2_takeSort_57 : decode cX2_takeSort 57 = .ok (.bipush 44, 2) := by decide +kernel
theorem dX2_takeSort_59 : decode cX2_takeSort 59 = .ok (.invokevirtual 48, 3) := by decide +kernel
theorem dX2_takeSort_62 : decode cX2_takeSort 62 = .ok (.aload_n 1, 1) := by decide +kernel
theorem dX2_takeSort_63 : decode cX2_takeSort 63 = .ok (.iconst 3, 1) := by decide +kernel
theorem dX2_takeSort_64 : decode cX2_takeSort 64 = .ok (.aload_n 0, 1) := by decide +kernel
theorem dX2_takeSort_65 : decode cX2_takeSort 65 = .ok (.iconst 0, 1) := by decide +kernel
theorem dX2_takeSort_66 : decode cX2_takeSort 66 = .ok (.bipush 16, 2) := by decide +kernel
theorem dX2_takeSort_68 : decode cX2_takeSort 68 = .ok (.invokevirtual 68, 3) := by decide +kernel
theorem dX2_takeSort_71 : decode cX2_takeSort 71 = .ok (.iastore, 1) := by decide +kernel
theorem dX2_takeSort_72 : decode cX2_takeSort 72 = .ok (.aload_n 0, 1) := by decide +kernel
theorem dX2_takeSort_73 : decode cX2_takeSort 73 = .ok (.bipush 44, 2) := by decide +kernel
theorem dX2_takeSort_75 : decode cX2_takeSort 75 = .ok (.invokevirtual 48, 3) := by decide +kernel
theorem dX2_takeSort_78 : decode cX2_takeSort 78 = .ok (.aload_n 1, 1) := by decide +kernel
theorem dX2_takeSort_79 : decode cX2_takeSort 79 = .ok (.iconst 4, 1) := by decide +kernel
theorem dX2_takeSort_80 : decode cX2_takeSort 80 = .ok (.aload_n 0, 1) := by decide +kernel
theorem dX2_takeSort_81 : decode cX2_takeSort 81 = .ok (.iconst 0, 1) := by decide +kernel
theorem dX2_takeSort_82 : decode cX2_takeSort 82 = .ok (.bipush 16, 2) := by decide +kernel
theorem dX2_takeSort_84 : decode cX2_takeSort 84 = .ok (.invokevirtual 68, 3) := by decide +kernel
theorem dX2_takeSort_87 : decode cX2_takeSort 87 = .ok (.iastore, 1) := by decide +kernel
theorem dX2_takeSort_88 : decode cX2_takeSort 88 = .ok (.aload_n 0, 1) := by decide +kernel
theorem dX2_takeSort_89 : decode cX2_takeSort 89 = .ok (.bipush 44, 2) := by decide +kernel
theorem dX2_takeSort_91 : decode cX2_takeSort 91 = .ok (.invokevirtual 48, 3) := by decide +kernel
theorem dX2_takeSort_94 : decode cX2_takeSort 94 = .ok (.aload_n 1, 1) := by decide +kernel
theorem dX2_takeSort_95 : decode cX2_takeSort 95 = .ok (.iconst 5, 1) := by decide +kernel
theorem dX2_takeSort_96 : decode cX2_takeSort 96 = .ok (.aload_n 0, 1) := by decide +kernel
theorem dX2_takeSort_97 : decode cX2_takeSort 97 = .ok (.iconst 1, 1) := by decide +kernel
theorem dX2_takeSort_98 : decode cX2_takeSort 98 = .ok (.bipush 99, 2) := by decide +kernel
theorem dX2_takeSort_100 : decode cX2_takeSort 100 = .ok (.invokevirtual 68, 3) := by decide +kernel
theorem dX2_takeSort_103 : decode cX2_takeSort 103 = .ok (.iastore, 1) := by decide +kernel
theorem dX2_takeSort_104 : decode cX2_takeSort 104 = .ok (.aload_n 0, 1) := by decide +kernel
theorem dX2_takeSort_105 : decode cX2_takeSort 105 = .ok (.getfield 26, 3) := by decide +kernel
theorem dX2_takeSort_108 : decode cX2_takeSort 108 = .ok (.iconst (-1), 1) := by decide +kernel
theorem dX2_takeSort_109 : decode cX2_takeSort 109 = .ok (.if_icmp .ne 13, 3) := by decide +kernel
theorem dX2_takeSort_112 : decode cX2_takeSort 112 = .ok (.aload_n 0, 1) := by decide +kernel
theorem dX2_takeSort_113 : decode cX2_takeSort 113 = .ok (.dup, 1) := by decide +kernel
theorem dX2_takeSort_114 : decode cX2_takeSort 114 = .ok (.getfield 36, 3) := by decide +kernel
theorem dX2_takeSort_117 : decode cX2_takeSort 117 = .ok (.iconst 1, 1) := by decide +kernel
theorem dX2_takeSort_118 : decode cX2_takeSort 118 = .ok (.iadd, 1) := by decide +kernel
theorem dX2_takeSort_119 : decode cX2_takeSort 119 = .ok (.putfield 36, 3) := by decide +kernel
theorem dX2_takeSort_122 : decode cX2_takeSort 122 = .ok (.return_, 1) := by decide +kernel
theorem dX2_takeSign_0 : decode cX2_takeSign 0 = .ok (.aload_n 0, 1) := by decide +kernel
theorem dX2_takeSign_1 : decode cX2_takeSign 1 = .ok (.invokevirtual 52, 3) := by decide +kernel
theorem dX2_takeSign_4 : decode cX2_takeSign 4 = .ok (.iload_n 1, 1) := by decide +kernel
theorem dX2_takeSign_5 : decode cX2_takeSign 5 = .ok (.if_icmp .ne 16, 3) := by decide +kernel
theorem dX2_takeSign_8 : decode cX2_takeSign 8 = .ok (.aload_n 0, 1) := by decide +kernel
theorem dX2_takeSign_9 : decode cX2_takeSign 9 = .ok (.dup, 1) := by decide +kernel
theorem dX2_takeSign_10 : decode cX2_takeSign 10 = .ok (.getfield 42, 3) := by decide +kernel
theorem dX2_takeSign_13 : decode cX2_takeSign 13 = .ok (.iconst 1, 1) := by decide +kernel
theorem dX2_takeSign_14 : decode cX2_takeSign 14 = .ok (.iadd, 1) := by decide +kernel
theorem dX2_takeSign_15 : decode cX2_takeSign 15 = .ok (.putfield 42, 3) := by decide +kernel
theorem dX2_takeSign_18 : decode cX2_takeSign 18 = .ok (.goto 11, 3) := by decide +kernel
theorem dX2_takeSign_21 : decode cX2_takeSign 21 = .ok (.aload_n 0, 1) := by decide +kernel
theorem dX2_takeSign_22 : decode cX2_takeSign 22 = .ok (.aload_n 0, 1) := by decide +kernel
theorem dX2_takeSign_23 : decode cX2_takeSign 23 = .ok (.getfield 42, 3) := by decide +kernel
theorem dX2_takeSign_26 : decode cX2_takeSign 26 = .ok (.invokevirtual 62, 3) := by decide +kernel
theorem dX2_takeSign_29 : decode cX2_takeSign 29 = .ok (.return_, 1) := by decide +kernel
theorem dX2_takeFigure_0 : decode cX2_takeFigure 0 = .ok (.aload_n 0, 1) := by decide +kernel
theorem dX2_takeFigure_1 : decode cX2_takeFigure 1 = .ok (.invokevirtual 52, 3) := by decide +kernel
theorem dX2_takeFigure_4 : decode cX2_takeFigure 4 = .ok (.bipush 48, 2) := by decide +kernel
theorem dX2_takeFigure_6 : decode cX2_takeFigure 6 = .ok (.isub, 1) := by decide +kernel
theorem dX2_takeFigure_7 : decode cX2_takeFigure 7 = .ok (.istore_n 1, 1) := by decide +kernel
theorem dX2_takeFigure_8 : decode cX2_takeFigure 8 = .ok (.iload_n 1, 1) := by decide +kernel
theorem dX2_takeFigure_9 : decode cX2_takeFigure 9 = .ok (.iconst 1, 1) := by decide +kernel
theorem dX2_takeFigure_10 : decode cX2_takeFigure 10 = .ok (.if_icmp .lt 8, 3) := by decide +kernel
theorem dX2_takeFigure_13 : decode cX2_takeFigure 13 = .ok (.iload_n 1, 1) := by decide +kernel
theorem dX2_takeFigure_14 : decode cX2_takeFigure 14 = .ok (.iconst 3, 1) := by decide +kernel
theorem dX2_takeFigure_15 : decode cX2_takeFigure 15 = .ok (.if_icmp .le 13, 3) := by decide +kernel
theorem dX2_takeFigure_18 : decode cX2_takeFigure 18 = .ok (.aload_n 0, 1) := by decide +kernel
theorem dX2_takeFigure_19 : decode cX2_takeFigure 19 = .ok (.aload_n 0, 1) := by decide +kernel
theorem dX2_takeFigure_20 : decode cX2_takeFigure 20 = .ok (.getfield 42, 3) := by decide +kernel
theorem dX2_takeFigure_23 : decode cX2_takeFigure 23 = .ok (.invokevirtual 62, 3) := by decide +kernel
theorem dX2_takeFigure_26 : decode cX2_takeFigure 26 = .ok (.iconst 0, 1) := by decide +kernel
theorem dX2_takeFigure_27 : decode cX2_takeFigure 27 = .ok (.ireturn, 1) := by decide +kernel
theorem dX2_takeFigure_28 : decode cX2_takeFigure 28 = .ok (.aload_n 0, 1) := by decide +kernel
theorem dX2_takeFigure_29 : decode cX2_takeFigure 29 = .ok (.dup, 1) := by decide +kernel
theorem dX2_takeFigure_30 : decode cX2_takeFigure 30 = .ok (.getfield 42, 3) := by decide +kernel
theorem dX2_takeFigure_33 : decode cX2_takeFigure 33 = .ok (.iconst 1, 1) := by decide +kernel
theorem dX2_takeFigure_34 : decode cX2_takeFigure 34 = .ok (.iadd, 1) := by decide +kernel
theorem dX2_takeFigure_35 : decode cX2_takeFigure 35 = .ok (.putfield 42, 3) := by decide +kernel
theorem dX2_takeFigure_38 : decode cX2_takeFigure 38 = .ok (.iload_n 1, 1) := by decide +kernel
theorem dX2_takeFigure_39 : decode cX2_takeFigure 39 = .ok (.ireturn, 1) := by decide +kernel
theorem dX2_takeLiked_0 : decode cX2_takeLiked 0 = .ok (.aload_n 0, 1) := by decide +kernel
theorem dX2_takeLiked_1 : decode cX2_takeLiked 1 = .ok (.invokevirtual 52, 3) := by decide +kernel
theorem dX2_takeLiked_4 : decode cX2_takeLiked 4 = .ok (.istore_n 1, 1) := by decide +kernel
theorem dX2_takeLiked_5 : decode cX2_takeLiked 5 = .ok (.iload_n 1, 1) := by decide +kernel
theorem dX2_takeLiked_6 : decode cX2_takeLiked 6 = .ok (.bipush 45, 2) := by decide +kernel
theorem dX2_takeLiked_8 : decode cX2_takeLiked 8 = .ok (.if_icmp .ne 7, 3) := by decide +kernel
theorem dX2_takeLiked_11 : decode cX2_takeLiked 11 = .ok (.iconst (-1), 1) := by decide +kernel
theorem dX2_takeLiked_12 : decode cX2_takeLiked 12 = .ok (.goto 7, 3) := by decide +kernel
theorem dX2_takeLiked_15 : decode cX2_takeLiked 15 = .ok (.iload_n 1, 1) := by decide +kernel
theorem dX2_takeLiked_16 : decode cX2_takeLiked 16 = .ok (.bipush 48, 2) := by decide +kernel
theorem dX2_takeLiked_18 : decode cX2_takeLiked 18 = .ok (.isub, 1) := by decide +kernel
theorem dX2_takeLiked_19 : decode cX2_takeLiked 19 = .ok (.istore_n 2, 1) := by decide +kernel
theorem dX2_takeLiked_20 : decode cX2_takeLiked 20 = .ok (.iload_n 1, 1) := by decide +kernel
theorem dX2_takeLiked_21 : decode cX2_takeLiked 21 = .ok (.bipush 45, 2) := by decide +kernel
theorem dX2_takeLiked_23 : decode cX2_takeLiked 23 = .ok (.if_icmp .eq 25, 3) := by decide +kernel
theorem dX2_takeLiked_26 : decode cX2_takeLiked 26 = .ok (.iload_n 2, 1) := by decide +kernel
theorem dX2_takeLiked_27 : decode cX2_takeLiked 27 = .ok (.ifCond .lt 11, 3) := by decide +kernel
theorem dX2_takeLiked_30 : decode cX2_takeLiked 30 = .ok (.iload_n 2, 1) := by decide +kernel
theorem dX2_takeLiked_31 : decode cX2_takeLiked 31 = .ok (.aload_n 0, 1) := by decide +kernel
theorem dX2_takeLiked_32 : decode cX2_takeLiked 32 = .ok (.getfield 39, 3) := by decide +kernel
theorem dX2_takeLiked_35 : decode cX2_takeLiked 35 = .ok (.if_icmp .lt 13, 3) := by decide +kernel
theorem dX2_takeLiked_38 : decode cX2_takeLiked 38 = .ok (.aload_n 0, 1) := by decide +kernel
theorem dX2_takeLiked_39 : decode cX2_takeLiked 39 = .ok (.aload_n 0, 1) := by decide +kernel
theorem dX2_takeLiked_40 : decode cX2_takeLiked 40 = .ok (.getfield 42, 3) := by decide +kernel
theorem dX2_takeLiked_43 : decode cX2_takeLiked 43 = .ok (.invokevirtual 62, 3) := by decide +kernel
theorem dX2_takeLiked_46 : decode cX2_takeLiked 46 = .ok (.iconst (-1), 1) := by decide +kernel
theorem dX2_takeLiked_47 : decode cX2_takeLiked 47 = .ok (.ireturn, 1) := by decide +kernel
theorem dX2_takeLiked_48 : decode cX2_takeLiked 48 = .ok (.aload_n 0, 1) := by decide +kernel
theorem dX2_takeLiked_49 : decode cX2_takeLiked 49 = .ok (.dup, 1) := by decide +kernel
theorem dX2_takeLiked_50 : decode cX2_takeLiked 50 = .ok (.getfield 42, 3) := by decide +kernel
theorem dX2_takeLiked_53 : decode cX2_takeLiked 53 = .ok (.iconst 1, 1) := by decide +kernel
theorem dX2_takeLiked_54 : decode cX2_takeLiked 54 = .ok (.iadd, 1) := by decide +kernel
theorem dX2_takeLiked_55 : decode cX2_takeLiked 55 = .ok (.putfield 42, 3) := by decide +kernel
theorem dX2_takeLiked_58 : decode cX2_takeLiked 58 = .ok (.iload_n 2, 1) := by decide +kernel
theorem dX2_takeLiked_59 : decode cX2_takeLiked 59 = .ok (.ireturn, 1) := by decide +kernel
theorem dX2_takeNumber_0 : decode cX2_takeNumber 0 = .ok (.aload_n 0, 1) := by decide +kernel
theorem dX2_takeNumber_1 : decode cX2_takeNumber 1 = .ok (.getfield 42, 3) := by decide +kernel
theorem dX2_takeNumber_4 : decode cX2_takeNumber 4 = .ok (.istore_n 3, 1) := by decide +kernel
theorem dX2_takeNumber_5 : decode cX2_takeNumber 5 = .ok (.iconst 0, 1) := by decide +kernel
theorem dX2_takeNumber_6 : decode cX2_takeNumber 6 = .ok (.istore 4, 2) := by decide +kernel
theorem dX2_takeNumber_8 : decode cX2_takeNumber 8 = .ok (.iconst 0, 1) := by decide +kernel
theorem dX2_takeNumber_9 : decode cX2_takeNumber 9 = .ok (.istore 5, 2) := by decide +kernel
theorem dX2_takeNumber_11 : decode cX2_takeNumber 11 = .ok (.iload 5, 2) := by decide +kernel
theorem dX2_takeNumber_13 : decode cX2_takeNumber 13 = .ok (.iconst 2, 1) := by decide +kernel
theorem dX2_takeNumber_14 : decode cX2_takeNumber 14 = .ok (.if_icmp .ge 44, 3) := by decide +kernel
theorem dX2_takeNumber_17 : decode cX2_takeNumber 17 = .ok (.aload_n 0, 1) := by decide +kernel
theorem dX2_takeNumber_18 : decode cX2_takeNumber 18 = .ok (.invokevirtual 52, 3) := by decide +kernel
theorem dX2_takeNumber_21 : decode cX2_takeNumber 21 = .ok (.invokestatic 75, 3) := by decide +kernel
theorem dX2_takeNumber_24 : decode cX2_takeNumber 24 = .ok (.ifCond .eq 34, 3) := by decide +kernel
theorem dX2_takeNumber_27 : decode cX2_takeNumber 27 = .ok (.bipush 10, 2) := by decide +kernel
theorem dX2_takeNumber_29 : decode cX2_takeNumber 29 = .ok (.iload 4, 2) := by decide +kernel
theorem dX2_takeNumber_31 : decode cX2_takeNumber 31 = .ok (.imul, 1) := by decide +kernel
theorem dX2_takeNumber_32 : decode cX2_takeNumber 32 = .ok (.aload_n 0, 1) := by decide +kernel
theorem dX2_takeNumber_33 : decode cX2_takeNumber 33 = .ok (.invokevirtual 52, 3) := by decide +kernel
theorem dX2_takeNumber_36 : decode cX2_takeNumber 36 = .ok (.iadd, 1) := by decide +kernel
theorem dX2_takeNumber_37 : decode cX2_takeNumber 37 = .ok (.bipush 48, 2) := by decide +kernel
theorem dX2_takeNumber_39 : decode cX2_takeNumber 39 = .ok (.isub, 1) := by decide +kernel
theorem dX2_takeNumber_40 : decode cX2_takeNumber 40 = .ok (.istore 4, 2) := by decide +kernel
theorem dX2_takeNumber_42 : decode cX2_takeNumber 42 = .ok (.aload_n 0, 1) := by decide +kernel
theorem dX2_takeNumber_43 : decode cX2_takeNumber 43 = .ok (.dup, 1) := by decide +kernel
theorem dX2_takeNumber_44 : decode cX2_takeNumber 44 = .ok (.getfield 42, 3) := by decide +kernel
theorem dX2_takeNumber_47 : decode cX2_takeNumber 47 = .ok (.iconst 1, 1) := by decide +kernel
theorem dX2_takeNumber_48 : decode cX2_takeNumber 48 = .ok (.iadd, 1) := by decide +kernel
theorem dX2_takeNumber_49 : decode cX2_takeNumber 49 = .ok (.putfield 42, 3) := by decide +kernel
theorem dX2_takeNumber_52 : decode cX2_takeNumber 52 = .ok (.iinc 5 1, 3) := by decide +kernel
theorem dX2_takeNumber_55 : decode cX2_takeNumber 55 = .ok (.goto (-44), 3) := by decide +kernel
theorem dX2_takeNumber_58 : decode cX2_takeNumber 58 = .ok (.aload_n 0, 1) := by decide +kernel
theorem dX2_takeNumber_59 : decode cX2_takeNumber 59 = .ok (.getfield 42, 3) := by decide +kernel
theorem dX2_takeNumber_62 : decode cX2_takeNumber 62 = .ok (.iload_n 3, 1) := by decide +kernel
theorem dX2_takeNumber_63 : decode cX2_takeNumber 63 = .ok (.if_icmp .eq 15, 3) := by decide +kernel
theorem dX2_takeNumber_66 : decode cX2_takeNumber 66 = .ok (.iload 4, 2) := by decide +kernel
theorem dX2_takeNumber_68 : decode cX2_takeNumber 68 = .ok (.iload_n 1, 1) := by decide +kernel
theorem dX2_takeNumber_69 : decode cX2_takeNumber 69 = .ok (.if_icmp .lt 9, 3) := by decide +kernel
theorem dX2_takeNumber_72 : decode cX2_takeNumber 72 = .ok (.iload 4, 2) := by decide +kernel
theorem dX2_takeNumber_74 : decode cX2_takeNumber 74 = .ok (.iload_n 2, 1) := by decide +kernel
theorem dX2_takeNumber_75 : decode cX2_takeNumber 75 = .ok (.if_icmp .le 8, 3) := by decide +kernel
theorem dX2_takeNumber_78 : decode cX2_takeNumber 78 = .ok (.aload_n 0, 1) := by decide +kernel
theorem dX2_takeNumber_79 : decode cX2_takeNumber 79 = .ok (.iload_n 3, 1) := by decide +kernel
theorem dX2_takeNumber_80 : decode cX2_takeNumber 80 = .ok (.invokevirtual 62, 3) := by decide +kernel
theorem dX2_takeNumber_83 : decode cX2_takeNumber 83 = .ok (.iload 4, 2) := by decide +kernel
theorem dX2_takeNumber_85 : decode cX2_takeNumber 85 = .ok (.ireturn, 1) := by decide +kernel
theorem dX2_next_0 : decode cX2_next 0 = .ok (.aload_n 0, 1) := by decide +kernel
theorem dX2_next_1 : decode cX2_next 1 = .ok (.getfield 42, 3) := by decide +kernel
theorem dX2_next_4 : decode cX2_next 4 = .ok (.ifCond .lt 26, 3) := by decide +kernel
theorem dX2_next_7 : decode cX2_next 7 = .ok (.aload_n 0, 1) := by decide +kernel
theorem dX2_next_8 : decode cX2_next 8 = .ok (.getfield 42, 3) := by decide +kernel
theorem dX2_next_11 : decode cX2_next 11 = .ok (.aload_n 0, 1) := by decide +kernel
theorem dX2_next_12 : decode cX2_next 12 = .ok (.getfield 30, 3) := by decide +kernel
theorem dX2_next_15 : decode cX2_next 15 = .ok (.if_icmp .ge 15, 3) := by decide +kernel
theorem dX2_next_18 : decode cX2_next 18 = .ok (.aload_n 0, 1) := by decide +kernel
theorem dX2_next_19 : decode cX2_next 19 = .ok (.getfield 9, 3) := by decide +kernel
theorem dX2_next_22 : decode cX2_next 22 = .ok (.aload_n 0, 1) := by decide +kernel
theorem dX2_next_23 : decode cX2_next 23 = .ok (.getfield 42, 3) := by decide +kernel
theorem dX2_next_26 : decode cX2_next 26 = .ok (.iaload, 1) := by decide +kernel
theorem dX2_next_27 : decode cX2_next 27 = .ok (.goto 4, 3) := by decide +kernel
theorem dX2_next_30 : decode cX2_next 30 = .ok (.iconst (-1), 1) := by decide +kernel
theorem dX2_next_31 : decode cX2_next 31 = .ok (.ireturn, 1) := by decide +kernel
theorem dX2_isFigure_0 : decode cX2_isFigure 0 = .ok (.iload_n 0, 1) := by decide +kernel
theorem dX2_isFigure_1 : decode cX2_isFigure 1 = .ok (.bipush 48, 2) := by decide +kernel
theorem dX2_isFigure_3 : decode cX2_isFigure 3 = .ok (.if_icmp .lt 13, 3) := by decide +kernel
theorem dX2_isFigure_6 : decode cX2_isFigure 6 = .ok (.iload_n 0, 1) := by decide +kernel
theorem dX2_isFigure_7 : decode cX2_isFigure 7 = .ok (.bipush 57, 2) := by decide +kernel
theorem dX2_isFigure_9 : decode cX2_isFigure 9 = .ok (.if_icmp .gt 7, 3) := by decide +kernel
theorem dX2_isFigure_12 : decode cX2_isFigure 12 = .ok (.iconst 1, 1) := by decide +kernel
theorem dX2_isFigure_13 : decode cX2_isFigure 13 = .ok (.goto 4, 3) := by decide +kernel
theorem dX2_isFigure_16 : decode cX2_isFigure 16 = .ok (.iconst 0, 1) := by decide +kernel
theorem dX2_isFigure_17 : decode cX2_isFigure 17 = .ok (.ireturn, 1) := by decide +kernel
theorem dX2_fail_0 : decode cX2_fail 0 = .ok (.aload_n 0, 1) := by decide +kernel
theorem dX2_fail_1 : decode cX2_fail 1 = .ok (.getfield 26, 3) := by decide +kernel
theorem dX2_fail_4 : decode cX2_fail 4 = .ok (.iconst (-1), 1) := by decide +kernel
theorem dX2_fail_5 : decode cX2_fail 5 = .ok (.if_icmp .ne 8, 3) := by decide +kernel
theorem dX2_fail_8 : decode cX2_fail 8 = .ok (.aload_n 0, 1) := by decide +kernel
theorem dX2_fail_9 : decode cX2_fail 9 = .ok (.iload_n 1, 1) := by decide +kernel
theorem dX2_fail_10 : decode cX2_fail 10 = .ok (.putfield 26, 3) := by decide +kernel
theorem dX2_fail_13 : decode cX2_fail 13 = .ok (.return_, 1) := by decide +kernel
theorem dX3_init_0 : decode cX3_init 0 = .ok (.aload_n 0, 1) := by decide +kernel
theorem dX3_init_1 : decode cX3_init 1 = .ok (.invokespecial 3, 3) := by decide +kernel
theorem dX3_init_4 : decode cX3_init 4 = .ok (.aload_n 0, 1) := by decide +kernel
theorem dX3_init_5 : decode cX3_init 5 = .ok (.sipush 672, 3) := by decide +kernel
theorem dX3_init_8 : decode cX3_init 8 = .ok (.newarray .long, 2) := by decide +kernel
theorem dX3_init_10 : decode cX3_init 10 = .ok (.putfield 11, 3) := by decide +kernel
theorem dX3_init_13 : decode cX3_init 13 = .ok (.return_, 1) := by decide +kernel
theorem dX3_rowOf_0 : decode cX3_rowOf 0 = .ok (.iload_n 0, 1) := by decide +kernel
theorem dX3_rowOf_1 : decode cX3_rowOf 1 = .ok (.iconst 1, 1) := by decide +kernel
theorem dX3_rowOf_2 : decode cX3_rowOf 2 = .ok (.isub, 1) := by decide +kernel
theorem dX3_rowOf_3 : decode cX3_rowOf 3 = .ok (.bipush 32, 2) := by decide +kernel
theorem dX3_rowOf_5 : decode cX3_rowOf 5 = .ok (.imul, 1) := by decide +kernel
theorem dX3_rowOf_6 : decode cX3_rowOf 6 = .ok (.iload_n 1, 1) := by decide +kernel
theorem dX3_rowOf_7 : decode cX3_rowOf 7 = .ok (.iadd, 1) := by decide +kernel
theorem dX3_rowOf_8 : decode cX3_rowOf 8 = .ok (.bipush 7, 2) := by decide +kernel
theorem dX3_rowOf_10 : decode cX3_rowOf 10 = .ok (.imul, 1) := by decide +kernel
theorem dX3_rowOf_11 : decode cX3_rowOf 11 = .ok (.ireturn, 1) := by decide +kernel
theorem dX3_fill_0 : decode cX3_fill 0 = .ok (.aload_n 0, 1) := by decide +kernel
theorem dX3_fill_1 : decode cX3_fill 1 = .ok (.iconst 0, 1) := by decide +kernel
theorem dX3_fill_2 : decode cX3_fill 2 = .ok (.putfield 15, 3) := by decide +kernel
theorem dX3_fill_5 : decode cX3_fill 5 = .ok (.aload_n 0, 1) := by decide +kernel
theorem dX3_fill_6 : decode cX3_fill 6 = .ok (.getfield 11, 3) := by decide +kernel
theorem dX3_fill_9 : decode cX3_fill 9 = .ok (.lconst 0, 1) := by decide +kernel
theorem dX3_fill_10 : decode cX3_fill 10 = .ok (.invokestatic 19, 3) := by decide +kernel
theorem dX3_fill_13 : decode cX3_fill 13 = .ok (.iconst 1, 1) := by decide +kernel
theorem dX3_fill_14 : decode cX3_fill 14 = .ok (.aload_n 1, 1) := by decide +kernel
theorem dX3_fill_15 : decode cX3_fill 15 = .ok (.getfield 25, 3) := by decide +kernel
theorem dX3_fill_18 : decode cX3_fill 18 = .ok (.ishl, 1) := by decide +kernel
theorem dX3_fill_19 : decode cX3_fill 19 = .ok (.istore_n 3, 1) := by decide +kernel
theorem dX3_fill_20 : decode cX3_fill 20 = .ok (.iconst 0, 1) := by decide +kernel
theorem dX3_fill_21 : decode cX3_fill 21 = .ok (.istore 4, 2) := by decide +kernel
theorem dX3_fill_23 : decode cX3_fill 23 = .ok (.iload 4, 2) := by decide +kernel
theorem dX3_fill_25 : decode cX3_fill 25 = .ok (.aload_n 1, 1) := by decide +kernel
theorem dX3_fill_26 : decode cX3_fill 26 = .ok (.getfield 31, 3) := by decide +kernel
theorem dX3_fill_29 : decode cX3_fill 29 = .ok (.if_icmp .ge 39, 3) := by decide +kernel
theorem dX3_fill_32 : decode cX3_fill 32 = .ok (.iconst 0, 1) := by decide +kernel
theorem dX3_fill_33 : decode cX3_fill 33 = .ok (.istore 5, 2) := by decide +kernel
theorem dX3_fill_35 : decode cX3_fill 35 = .ok (.iload 5, 2) := by decide +kernel
theorem dX3_fill_37 : decode cX3_fill 37 = .ok (.iload_n 3, 1) := by decide +kernel
theorem dX3_fill_38 : decode cX3_fill 38 = .ok (.if_icmp .ge 24, 3) := by decide +kernel
theorem dX3_fill_41 : decode cX3_fill 41 = .ok (.aload_n 0, 1) := by decide +kernel
theorem dX3_fill_42 : decode cX3_fill 42 = .ok (.aload_n 1, 1) := by decide +kernel
theorem dX3_fill_43 : decode cX3_fill 43 = .ok (.aload_n 1, 1) := by decide +kernel
theorem dX3_fill_44 : decode cX3_fill 44 = .ok (.getfield 34, 3) := by decide +kernel
theorem dX3_fill_47 : decode cX3_fill 47 = .ok (.iload 4, 2) := by decide +kernel
theorem dX3_fill_49 : decode cX3_fill 49 = .ok (.aaload, 1) := by decide +kernel
theorem dX3_fill_50 : decode cX3_fill 50 = .ok (.iload 5, 2) := by decide +kernel
theorem dX3_fill_52 : decode cX3_fill 52 = .ok (.iload_n 2, 1) := by decide +kernel
theorem dX3_fill_53 : decode cX3_fill 53 = .ok (.invokevirtual 38, 3) := by decide +kernel
theorem dX3_fill_56 : decode cX3_fill 56 = .ok (.iinc 5 1, 3) := by decide +kernel
theorem dX3_fill_59 : decode cX3_fill 59 = .ok (.goto (-24), 3) := by decide +kernel
theorem dX3_fill_62 : decode cX3_fill 62 = .ok (.iinc 4 1, 3) := by decide +kernel
theorem dX3_fill_65 : decode cX3_fill 65 = .ok (.goto (-42), 3) := by decide +kernel
theorem dX3_fill_68 : decode cX3_fill 68 = .ok (.return_, 1) := by decide +kernel
theorem dX3_addBuyers_0 : decode cX3_addBuyers 0 = .ok (.aload_n 2, 1) := by decide +kernel
theorem dX3_addBuyers_1 : decode cX3_addBuyers 1 = .ok (.iconst 0, 1) := by decide +kernel
theorem dX3_addBuyers_2 : decode cX3_addBuyers 2 = .ok (.iaload, 1) := by decide +kernel
theorem dX3_addBuyers_3 : decode cX3_addBuyers 3 = .ok (.iload_n 3, 1) := by decide +kernel
theorem dX3_addBuyers_4 : decode cX3_addBuyers 4 = .ok (.invokestatic 42, 3) := by decide +kernel
theorem dX3_addBuyers_7 : decode cX3_addBuyers 7 = .ok (.istore 5, 2) := by decide +kernel
theorem dX3_addBuyers_9 : decode cX3_addBuyers 9 = .ok (.iload_n 3, 1) := by decide +kernel
theorem dX3_addBuyers_10 : decode cX3_addBuyers 10 = .ok (.invokestatic 46, 3) := by decide +kernel
theorem dX3_addBuyers_13 : decode cX3_addBuyers 13 = .ok (.istore 6, 2) := by decide +kernel
theorem dX3_addBuyers_15 : decode cX3_addBuyers 15 = .ok (.aload_n 2, 1) := by decide +kernel
theorem dX3_addBuyers_16 : decode cX3_addBuyers 16 = .ok (.iconst 1, 1) := by decide +kernel
theorem dX3_addBuyers_17 : decode cX3_addBuyers 17 = .ok (.iaload, 1) := by decide +kernel
theorem dX3_addBuyers_18 : decode cX3_addBuyers 18 = .ok (.i2l, 1) := by decide +kernel
theorem dX3_addBuyers_19 : decode cX3_addBuyers 19 = .ok (.iload 6, 2) := by decide +kernel
theorem dX3_addBuyers_21 : decode cX3_addBuyers 21 = .ok (.ifCond .ne 9, 3) := by decide +kernel
theorem dX3_addBuyers_24 : decode cX3_addBuyers 24 = .ok (.ldc2_w 52, 3) := by decide +kernel
theorem dX3_addBuyers_27 : decode cX3_addBuyers 27 = .ok (.goto 16, 3) := by decide +kernel
theorem dX3_addBuyers_30 : decode cX3_addBuyers 30 = .ok (.ldc2_w 52, 3) := by decide +kernel
theorem dX3_addBuyers_33 : decode cX3_addBuyers 33 = .ok (.iload 4, 2) := by decide +kernel
theorem dX3_addBuyers_35 : decode cX3_addBuyers 35 = .ok (.i2l, 1) := by decide +kernel
theorem dX3_addBuyers_36 : decode cX3_addBuyers 36 = .ok (.iload 6, 2) := by decide +kernel
theorem dX3_addBuyers_38 : decode cX3_addBuyers 38 = .ok (.i2l, 1) := by decide +kernel
theorem dX3_addBuyers_39 : decode cX3_addBuyers 39 = .ok (.lconst 1, 1) := by decide +kernel
theorem dX3_addBuyers_40 : decode cX3_addBuyers 40 = .ok (.lsub, 1) := by decide +kernel
theorem dX3_addBuyers_41 : decode cX3_addBuyers 41 = .ok (.lmul, 1) := by decide +kernel
theorem dX3_addBuyers_42 : decode cX3_addBuyers 42 = .ok (.ladd, 1) := by decide +kernel
theorem dX3_addBuyers_43 : decode cX3_addBuyers 43 = .ok (.lmul, 1) := by decide +kernel
theorem dX3_addBuyers_44 : decode cX3_addBuyers 44 = .ok (.ldc2_w 54, 3) := by decide +kernel
theorem dX3_addBuyers_47 : decode cX3_addBuyers 47 = .ok (.lmul, 1) := by decide +kernel
theorem dX3_addBuyers_48 : decode cX3_addBuyers 48 = .ok (.lstore 7, 2) := by decide +kernel
theorem dX3_addBuyers_50 : decode cX3_addBuyers 50 = .ok (.aload_n 2, 1) := by decide +kernel
theorem dX3_addBuyers_51 : decode cX3_addBuyers 51 = .ok (.iconst 2, 1) := by decide +kernel
theorem dX3_addBuyers_52 : decode cX3_addBuyers 52 = .ok (.iaload, 1) := by decide +kernel
theorem dX3_addBuyers_53 : decode cX3_addBuyers 53 = .ok (.istore 9, 2) := by decide +kernel
theorem dX3_addBuyers_55 : decode cX3_addBuyers 55 = .ok (.iload 9, 2) := by decide +kernel
theorem dX3_addBuyers_57 : decode cX3_addBuyers 57 = .ok (.iconst (-1), 1) := by decide +kernel
theorem dX3_addBuyers_58 : decode cX3_addBuyers 58 = .ok (.if_icmp .eq 34, 3) := by decide +kernel
theorem dX3_addBuyers_61 : decode cX3_addBuyers 61 = .ok (.iload_n 3, 1) := by decide +kernel
theorem dX3_addBuyers_62 : decode cX3_addBuyers 62 = .ok (.iload 9, 2) := by decide +kernel
theorem dX3_addBuyers_64 : decode cX3_addBuyers 64 = .ok (.ishr, 1) := by decide +kernel
theorem dX3_addBuyers_65 : decode cX3_addBuyers 65 = .ok (.iconst 1, 1) := by decide +kernel
theorem dX3_addBuyers_66 : decode cX3_addBuyers 66 = .ok (.iand, 1) := by decide +kernel
theorem dX3_addBuyers_67 : decode cX3_addBuyers 67 = .ok (.iconst 1, 1) := by decide +kernel
theorem dX3_addBuyers_68 : decode cX3_addBuyers 68 = .ok (.if_icmp .ne 24, 3) := by decide +kernel
theorem dX3_addBuyers_71 : decode cX3_addBuyers 71 = .ok (.aload_n 0, 1) := by decide +kernel
theorem dX3_addBuyers_72 : decode cX3_addBuyers 72 = .ok (.aload_n 1, 1) := by decide +kernel
theorem dX3_addBuyers_73 : decode cX3_addBuyers 73 = .ok (.iload 5, 2) := by decide +kernel
theorem dX3_addBuyers_75 : decode cX3_addBuyers 75 = .ok (.iconst 1, 1) := by decide +kernel
theorem dX3_addBuyers_76 : decode cX3_addBuyers 76 = .ok (.iload 9, 2) := by decide +kernel
theorem dX3_addBuyers_78 : decode cX3_addBuyers 78 = .ok (.ishl, 1) := by decide +kernel
theorem dX3_addBuyers_79 : decode cX3_addBuyers 79 = .ok (.lload 7, 2) := by decide +kernel
theorem dX3_addBuyers_81 : decode cX3_addBuyers 81 = .ok (.ldc2_w 56, 3) := by decide +kernel
theorem dX3_addBuyers_84 : decode cX3_addBuyers 84 = .ok (.lmul, 1) := by decide +kernel
theorem dX3_addBuyers_85 : decode cX3_addBuyers 85 = .ok (.aload_n 2, 1) := by decide +kernel
theorem dX3_addBuyers_86 : decode cX3_addBuyers 86 = .ok (.iconst 5, 1) := by decide +kernel
theorem dX3_addBuyers_87 : decode cX3_addBuyers 87 = .ok (.iaload, 1) := by decide +kernel
theorem dX3_addBuyers_88 : decode cX3_addBuyers 88 = .ok (.invokevirtual 58, 3) := by decide +kernel
theorem dX3_addBuyers_91 : decode cX3_addBuyers 91 = .ok (.return_, 1) := by decide +kernel
theorem dX3_addBuyers_92 : decode cX3_addBuyers 92 = .ok (.iload 6, 2) := by decide +kernel
theorem dX3_addBuyers_94 : decode cX3_addBuyers 94 = .ok (.ifCond .ne 7, 3) := by decide +kernel
theorem dX3_addBuyers_97 : decode cX3_addBuyers 97 = .ok (.iconst 0, 1) := by decide +kernel
theorem dX3_addBuyers_98 : decode cX3_addBuyers 98 = .ok (.goto 6, 3) := by decide +kernel
theorem dX3_addBuyers_101 : decode cX3_addBuyers 101 = .ok (.aload_n 2, 1) := by decide +kernel
theorem dX3_addBuyers_102 : decode cX3_addBuyers 102 = .ok (.iconst 3, 1) := by decide +kernel
theorem dX3_addBuyers_103 : decode cX3_addBuyers 103 = .ok (.iaload, 1) := by decide +kernel
theorem dX3_addBuyers_104 : decode cX3_addBuyers 104 = .ok (.istore 10, 2) := by decide +kernel
theorem dX3_addBuyers_106 : decode cX3_addBuyers 106 = .ok (.aload_n 0, 1) := by decide +kernel
theorem dX3_addBuyers_107 : decode cX3_addBuyers 107 = .ok (.aload_n 1, 1) := by decide +kernel
theorem dX3_addBuyers_108 : decode cX3_addBuyers 108 = .ok (.iload 5, 2) := by decide +kernel
theorem dX3_addBuyers_110 : decode cX3_addBuyers 110 = .ok (.iload_n 3, 1) := by decide +kernel
theorem dX3_addBuyers_111 : decode cX3_addBuyers 111 = .ok (.lload 7, 2) := by decide +kernel
theorem dX3_addBuyers_113 : decode cX3_addBuyers 113 = .ok (.iload 10, 2) := by decide +kernel
theorem dX3_addBuyers_115 : decode cX3_addBuyers 115 = .ok (.i2l, 1) := by decide +kernel
theorem dX3_addBuyers_116 : decode cX3_addBuyers 116 = .ok (.lmul, 1) := by decide +kernel
theorem dX3_addBuyers_117 : decode cX3_addBuyers 117 = .ok (.ldc2_w 52, 3) := by decide +kernel
theorem dX3_addBuyers_120 : decode cX3_addBuyers 120 = .ok (.lmul, 1) := by decide +kernel
theorem dX3_addBuyers_121 : decode cX3_addBuyers 121 = .ok (.aload_n 2, 1) := by decide +kernel
theorem dX3_addBuyers_122 : decode cX3_addBuyers 122 = .ok (.iconst 5, 1) := by decide +kernel
theorem dX3_addBuyers_123 : decode cX3_addBuyers 123 = .ok (.iaload, 1) := by decide +kernel
theorem dX3_addBuyers_124 : decode cX3_addBuyers 124 = .ok (.invokevirtual 58, 3) := by decide +kernel
theorem dX3_addBuyers_127 : decode cX3_addBuyers 127 = .ok (.iload 9, 2) := by decide +kernel
theorem dX3_addBuyers_129 : decode cX3_addBuyers 129 = .ok (.iconst (-1), 1) := by decide +kernel
theorem dX3_addBuyers_130 : decode cX3_addBuyers 130 = .ok (.if_icmp .ne 8, 3) := by decide +kernel
theorem dX3_addBuyers_133 : decode cX3_addBuyers 133 = .ok (.bipush 31, 2) := by decide +kernel
theorem dX3_addBuyers_135 : decode cX3_addBuyers 135 = .ok (.goto 7, 3) := by decide +kernel
theorem dX3_addBuyers_138 : decode cX3_addBuyers 138 = .ok (.iconst 1, 1) := by decide +kernel
theorem dX3_addBuyers_139 : decode cX3_addBuyers 139 = .ok (.iload 9, 2) := by decide +kernel
theorem dX3_addBuyers_141 : decode cX3_addBuyers 141 = .ok (.ishl, 1) := by decide +kernel
theorem dX3_addBuyers_142 : decode cX3_addBuyers 142 = .ok (.istore 11, 2) := by decide +kernel
theorem dX3_addBuyers_144 : decode cX3_addBuyers 144 = .ok (.aload_n 0, 1) := by decide +kernel
theorem dX3_addBuyers_145 : decode cX3_addBuyers 145 = .ok (.aload_n 1, 1) := by decide +kernel
theorem dX3_addBuyers_146 : decode cX3_addBuyers 146 = .ok (.iload 5, 2) := by decide +kernel
theorem dX3_addBuyers_148 : decode cX3_addBuyers 148 = .ok (.iload 11, 2) := by decide +kernel
theorem dX3_addBuyers_150 : decode cX3_addBuyers 150 = .ok (.lload 7, 2) := by decide +kernel
theorem dX3_addBuyers_152 : decode cX3_addBuyers 152 = .ok (.bipush 16, 2) := by decide +kernel
theorem dX3_addBuyers_154 : decode cX3_addBuyers 154 = .ok (.iload 10, 2) := by decide +kernel
theorem dX3_addBuyers_156 : decode cX3_addBuyers 156 = .ok (.isub, 1) := by decide +kernel
theorem dX3_addBuyers_157 : decode cX3_addBuyers 157 = .ok (.i2l, 1) := by decide +kernel
theorem dX3_addBuyers_158 : decode cX3_addBuyers 158 = .ok (.lmul, 1) := by decide +kernel
theorem dX3_addBuyers_159 : decode cX3_addBuyers 159 = .ok (.aload_n 2, 1) := by decide +kernel
theorem dX3_addBuyers_160 : decode cX3_addBuyers 160 = .ok (.iconst 4, 1) := by decide +kernel
theorem dX3_addBuyers_161 : decode cX3_addBuyers 161 = .ok (.iaload, 1) := by decide +kernel
theorem dX3_addBuyers_162 : decode cX3_addBuyers 162 = .ok (.i2l, 1) := by decide +kernel
theorem dX3_addBuyers_163 : decode cX3_addBuyers 163 = .ok (.lmul, 1) := by decide +kernel
theorem dX3_addBuyers_164 : decode cX3_addBuyers 164 = .ok (.aload_n 2, 1) := by decide +kernel
theorem dX3_addBuyers_165 : decode cX3_addBuyers 165 = .ok (.iconst 5, 1) := by decide +kernel
theorem dX3_addBuyers_166 : decode cX3_addBuyers 166 = .ok (.iaload, 1) := by decide +kernel
theorem dX3_addBuyers_167 : decode cX3_addBuyers 167 = .ok (.invokevirtual 58, 3) := by decide +kernel
theorem dX3_addBuyers_170 : decode cX3_addBuyers 170 = .ok (.return_, 1) := by decide +kernel
theorem dX3_part_0 : decode cX3_part 0 = .ok (.iconst 0, 1) := by decide +kernel
theorem dX3_part_1 : decode cX3_part 1 = .ok (.istore 7, 2) := by decide +kernel
theorem dX3_part_3 : decode cX3_part 3 = .ok (.iconst 0, 1) := by decide +kernel
theorem dX3_part_4 : decode cX3_part 4 = .ok (.istore 8, 2) := by decide +kernel
theorem dX3_part_6 : decode cX3_part 6 = .ok (.iload 8, 2) := by decide +kernel
theorem dX3_part_8 : decode cX3_part 8 = .ok (.aload_n 1, 1) := by decide +kernel
theorem dX3_part_9 : decode cX3_part 9 = .ok (.getfield 25, 3) := by decide +kernel
theorem dX3_part_12 : decode cX3_part 12 = .ok (.if_icmp .ge 28, 3) := by decide +kernel
theorem dX3_part_15 : decode cX3_part 15 = .ok (.iload 7, 2) := by decide +kernel
theorem dX3_part_17 : decode cX3_part 17 = .ok (.iload_n 3, 1) := by decide +kernel
theorem dX3_part_18 : decode cX3_part 18 = .ok (.iload 8, 2) := by decide +kernel
theorem dX3_part_20 : decode cX3_part 20 = .ok (.ishr, 1) := by decide +kernel
theorem dX3_part_21 : decode cX3_part 21 = .ok (.iconst 1, 1) := by decide +kernel
theorem dX3_part_22 : decode cX3_part 22 = .ok (.iand, 1) := by decide +kernel
theorem dX3_part_23 : decode cX3_part 23 = .ok (.aload_n 1, 1) := by decide +kernel
theorem dX3_part_24 : decode cX3_part 24 = .ok (.getfield 62, 3) := by decide +kernel
theorem dX3_part_27 : decode cX3_part 27 = .ok (.iload 8, 2) := by decide +kernel
theorem dX3_part_29 : decode cX3_part 29 = .ok (.iaload, 1) := by decide +kernel
theorem dX3_part_30 : decode cX3_part 30 = .ok (.imul, 1) := by decide +kernel
theorem dX3_part_31 : decode cX3_part 31 = .ok (.iadd, 1) := by decide +kernel
theorem dX3_part_32 : decode cX3_part 32 = .ok (.istore 7, 2) := by decide +kernel
theorem dX3_part_34 : decode cX3_part 34 = .ok (.iinc 8 1, 3) := by decide +kernel
theorem dX3_part_37 : decode cX3_part 37 = .ok (.goto (-31), 3) := by decide +kernel
theorem dX3_part_40 : decode cX3_part 40 = .ok (.iload 7, 2) := by decide +kernel
theorem dX3_part_42 : decode cX3_part 42 = .ok (.ifCond .ne 4, 3) := by decide +kernel
theorem dX3_part_45 : decode cX3_part 45 = .ok (.return_, 1) := by decide +kernel
theorem dX3_part_46 : decode cX3_part 46 = .ok (.lload 4, 2) := by decide +kernel
theorem dX3_part_48 : decode cX3_part 48 = .ok (.iload 7, 2) := by decide +kernel
theorem dX3_part_50 : decode cX3_part 50 = .ok (.i2l, 1) := by decide +kernel
theorem dX3_part_51 : decode cX3_part 51 = .ok (.ldiv, 1) := by decide +kernel
theorem dX3_part_52 : decode cX3_part 52 = .ok (.lstore 8, 2) := by decide +kernel
theorem dX3_part_54 : decode cX3_part 54 = .ok (.iconst 0, 1) := by decide +kernel
theorem dX3_part_55 : decode cX3_part 55 = .ok (.istore 10, 2) := by decide +kernel
theorem dX3_part_57 : decode cX3_part 57 = .ok (.iload 10, 2) := by decide +kernel
theorem dX3_part_59 : decode cX3_part 59 = .ok (.aload_n 1, 1) := by decide +kernel
theorem dX3_part_60 : decode cX3_part 60 = .ok (.getfield 25, 3) := by decide +kernel
theorem dX3_part_63 : decode cX3_part 63 = .ok (.if_icmp .ge 46, 3) := by decide +kernel
theorem dX3_part_66 : decode cX3_part 66 = .ok (.iload_n 3, 1) := by decide +kernel
theorem dX3_part_67 : decode cX3_part 67 = .ok (.iload 10, 2) := by decide +kernel
theorem dX3_part_69 : decode cX3_part 69 = .ok (.ishr, 1) := by decide +kernel
theorem dX3_part_70 : decode cX3_part 70 = .ok (.iconst 1, 1) := by decide +kernel
theorem dX3_part_71 : decode cX3_part 71 = .ok (.iand, 1) := by decide +kernel
theorem dX3_part_72 : decode cX3_part 72 = .ok (.iconst 1, 1) := by decide +kernel
theorem dX3_part_73 : decode cX3_part 73 = .ok (.if_icmp .ne 30, 3) := by decide +kernel
theorem dX3_part_76 : decode cX3_part 76 = .ok (.aload_n 0, 1) := by decide +kernel
theorem dX3_part_77 : decode cX3_part 77 = .ok (.getfield 11, 3) := by decide +kernel
theorem dX3_part_80 : decode cX3_part 80 = .ok (.iload_n 2, 1) := by decide +kernel
theorem dX3_part_81 : decode cX3_part 81 = .ok (.iload 10, 2) := by decide +kernel
theorem dX3_part_83 : decode cX3_part 83 = .ok (.iadd, 1) := by decide +kernel
theorem dX3_part_84 : decode cX3_part 84 = .ok (.dup2, 1) := by decide +kernel
theorem dX3_part_85 : decode cX3_part 85 = .ok (.laload, 1) := by decide +kernel
theorem dX3_part_86 : decode cX3_part 86 = .ok (.lload 8, 2) := by decide +kernel
theorem dX3_part_88 : decode cX3_part 88 = .ok (.aload_n 1, 1) := by decide +kernel
theorem dX3_part_89 : decode cX3_part 89 = .ok (.getfield 62, 3) := by decide +kernel
theorem dX3_part_92 : decode cX3_part 92 = .ok (.iload 10, 2) := by decide +kernel
theorem dX3_part_94 : decode cX3_part 94 = .ok (.iaload, 1) := by decide +kernel
theorem dX3_part_95 : decode cX3_part 95 = .ok (.i2l, 1) := by decide +kernel
theorem dX3_part_96 : decode cX3_part 96 = .ok (.lmul, 1) := by decide +kernel
theorem dX3_part_97 : decode cX3_part 97 = .ok (.iload 6, 2) := by decide +kernel
theorem dX3_part_99 : decode cX3_part 99 = .ok (.i2l, 1) := by decide +kernel
theorem dX3_part_100 : decode cX3_part 100 = .ok (.lmul, 1) := by decide +kernel
theorem dX3_part_101 : decode cX3_part 101 = .ok (.ladd, 1) := by decide +kernel
theorem dX3_part_102 : decode cX3_part 102 = .ok (.lastore, 1) := by decide +kernel
theorem dX3_part_103 : decode cX3_part 103 = .ok (.iinc 10 1, 3) := by decide +kernel
theorem dX3_part_106 : decode cX3_part 106 = .ok (.goto (-49), 3) := by decide +kernel
theorem dX3_part_109 : decode cX3_part 109 = .ok (.aload_n 0, 1) := by decide +kernel
theorem dX3_part_110 : decode cX3_part 110 = .ok (.getfield 11, 3) := by decide +kernel
theorem dX3_part_113 : decode cX3_part 113 = .ok (.iload_n 2, 1) := by decide +kernel
theorem dX3_part_114 : decode cX3_part 114 = .ok (.iconst 5, 1) := by decide +kernel
theorem dX3_part_115 : decode cX3_part 115 = .ok (.iadd, 1) := by decide +kernel
theorem dX3_part_116 : decode cX3_part 116 = .ok (.dup2, 1) := by decide +kernel
theorem dX3_part_117 : decode cX3_part 117 = .ok (.laload, 1) := by decide +kernel
theorem dX3_part_118 : decode cX3_part 118 = .ok (.lload 4, 2) := by decide +kernel
theorem dX3_part_120 : decode cX3_part 120 = .ok (.iload 6, 2) := by decide +kernel
theorem dX3_part_122 : decode cX3_part 122 = .ok (.i2l, 1) := by decide +kernel
theorem dX3_part_123 : decode cX3_part 123 = .ok (.lmul, 1) := by decide +kernel
theorem dX3_part_124 : decode cX3_part 124 = .ok (.ladd, 1) := by decide +kernel
theorem dX3_part_125 : decode cX3_part 125 = .ok (.lastore, 1) := by decide +kernel
theorem dX3_part_126 : decode cX3_part 126 = .ok (.aload_n 0, 1) := by decide +kernel
theorem dX3_part_127 : decode cX3_part 127 = .ok (.getfield 11, 3) := by decide +kernel
theorem dX3_part_130 : decode cX3_part 130 = .ok (.iload_n 2, 1) := by decide +kernel
theorem dX3_part_131 : decode cX3_part 131 = .ok (.bipush 6, 2) := by decide +kernel
theorem dX3_part_133 : decode cX3_part 133 = .ok (.iadd, 1) := by decide +kernel
theorem dX3_part_134 : decode cX3_part 134 = .ok (.dup2, 1) := by decide +kernel
theorem dX3_part_135 : decode cX3_part 135 = .ok (.laload, 1) := by decide +kernel
theorem dX3_part_136 : decode cX3_part 136 = .ok (.lload 4, 2) := by decide +kernel
theorem dX3_part_138 : decode cX3_part 138 = .ok (.ladd, 1) := by decide +kernel
theorem dX3_part_139 : decode cX3_part 139 = .ok (.lastore, 1) := by decide +kernel
theorem dX3_part_140 : decode cX3_part 140 = .ok (.return_, 1) := by decide +kernel
theorem dX4_init_0 : decode cX4_init 0 = .ok (.aload_n 0, 1) := by decide +kernel
theorem dX4_init_1 : decode cX4_init 1 = .ok (.invokespecial 3, 3) := by decide +kernel
theorem dX4_init_4 : decode cX4_init 4 = .ok (.aload_n 0, 1) := by decide +kernel
theorem dX4_init_5 : decode cX4_init 5 = .ok (.new 9, 3) := by decide +kernel
theorem dX4_init_8 : decode cX4_init 8 = .ok (.dup, 1) := by decide +kernel
theorem dX4_init_9 : decode cX4_init 9 = .ok (.invokespecial 11, 3) := by decide +kernel
theorem dX4_init_12 : decode cX4_init 12 = .ok (.putfield 12, 3) := by decide +kernel
theorem dX4_init_15 : decode cX4_init 15 = .ok (.aload_n 0, 1) := by decide +kernel
theorem dX4_init_16 : decode cX4_init 16 = .ok (.new 16, 3) := by decide +kernel
theorem dX4_init_19 : decode cX4_init 19 = .ok (.dup, 1) := by decide +kernel
theorem dX4_init_20 : decode cX4_init 20 = .ok (.invokespecial 18, 3) := by decide +kernel
theorem dX4_init_23 : decode cX4_init 23 = .ok (.putfield 19, 3) := by decide +kernel
theorem dX4_init_26 : decode cX4_init 26 = .ok (.aload_n 0, 1) := by decide +kernel
theorem dX4_init_27 : decode cX4_init 27 = .ok (.new 23, 3) := by decide +kernel
theorem dX4_init_30 : decode cX4_init 30 = .ok (.dup, 1) := by decide +kernel
theorem dX4_init_31 : decode cX4_init 31 = .ok (.aload_n 0, 1) := by decide +kernel
theorem dX4_init_32 : decode cX4_init 32 = .ok (.getfield 12, 3) := by decide +kernel
theorem dX4_init_35 : decode cX4_init 35 = .ok (.aload_n 0, 1) := by decide +kernel
theorem dX4_init_36 : decode cX4_init 36 = .ok (.getfield 19, 3) := by decide +kernel
theorem dX4_init_39 : decode cX4_init 39 = .ok (.invokespecial 25, 3) := by decide +kernel
theorem dX4_init_42 : decode cX4_init 42 = .ok (.putfield 28, 3) := by decide +kernel
theorem dX4_init_45 : decode cX4_init 45 = .ok (.aload_n 0, 1) := by decide +kernel
theorem dX4_init_46 : decode cX4_init 46 = .ok (.new 32, 3) := by decide +kernel
theorem dX4_init_49 : decode cX4_init 49 = .ok (.dup, 1) := by decide +kernel
theorem dX4_init_50 : decode cX4_init 50 = .ok (.invokespecial 34, 3) := by decide +kernel
theorem dX4_init_53 : decode cX4_init 53 = .ok (.putfield 35, 3) := by decide +kernel
theorem dX4_init_56 : decode cX4_init 56 = .ok (.aload_n 0, 1) := by decide +kernel
theorem dX4_init_57 : decode cX4_init 57 = .ok (.bipush 8, 2) := by decide +kernel
theorem dX4_init_59 : decode cX4_init 59 = .ok (.newarray .int, 2) := by decide +kernel
theorem dX4_init_61 : decode cX4_init 61 = .ok (.dup, 1) := by decide +kernel
theorem dX4_init_62 : decode cX4_init 62 = .ok (.iconst 0, 1) := by decide +kernel
theorem dX4_init_63 : decode cX4_init 63 = .ok (.iconst 0, 1) := by decide +kernel
theorem dX4_init_64 : decode cX4_init 64 = .ok (.iastore, 1) := by decide +kernel
theorem dX4_init_65 : decode cX4_init 65 = .ok (.dup, 1) := by decide +kernel
theorem dX4_init_66 : decode cX4_init 66 = .ok (.iconst 1, 1) := by decide +kernel
theorem dX4_init_67 : decode cX4_init 67 = .ok (.iconst 3, 1) := by decide +kernel
theorem dX4_init_68 : decode cX4_init 68 = .ok (.iastore, 1) := by decide +kernel
theorem dX4_init_69 : decode cX4_init 69 = .ok (.dup, 1) := by decide +kernel
theorem dX4_init_70 : decode cX4_init 70 = .ok (.iconst 2, 1) := by decide +kernel
theorem dX4_init_71 : decode cX4_init 71 = .ok (.iconst 0, 1) := by decide +kernel
theorem dX4_init_72 : decode cX4_init 72 = .ok (.iastore, 1) := by decide +kernel
theorem dX4_init_73 : decode cX4_init 73 = .ok (.dup, 1) := by decide +kernel
theorem dX4_init_74 : decode cX4_init 74 = .ok (.iconst 3, 1) := by decide +kernel
theorem dX4_init_75 : decode cX4_init 75 = .ok (.iconst 0, 1) := by decide +kernel
theorem dX4_init_76 : decode cX4_init 76 = .ok (.iastore, 1) := by decide +kernel
theorem dX4_init_77 : decode cX4_init 77 = .ok (.dup, 1) := by decide +kernel
theorem dX4_init_78 : decode cX4_init 78 = .ok (.iconst 4, 1) := by decide +kernel
theorem dX4_init_79 : decode cX4_init 79 = .ok (.bipush 16, 2) := by decide +kernel
theorem dX4_init_81 : decode cX4_init 81 = .ok (.iastore, 1) := by decide +kernel
theorem dX4_init_82 : decode cX4_init 82 = .ok (.dup, 1) := by decide +kernel
theorem dX4_init_83 : decode cX4_init 83 = .ok (.iconst 5, 1) := by decide +kernel
theorem dX4_init_84 : decode cX4_init 84 = .ok (.iconst 0, 1) := by decide +kernel
theorem dX4_init_85 : decode cX4_init 85 = .ok (.iastore, 1) := by decide +kernel
theorem dX4_init_86 : decode cX4_init 86 = .ok (.dup, 1) := by decide +kernel
theorem dX4_init_87 : decode cX4_init 87 = .ok (.bipush 6, 2) := by decide +kernel
theorem dX4_init_89 : decode cX4_init 89 = .ok (.iconst 0, 1) := by decide +kernel
theorem dX4_init_90 : decode cX4_init 90 = .ok (.iastore, 1) := by decide +kernel
theorem dX4_init_91 : decode cX4_init 91 = .ok (.dup, 1) := by decide +kernel
theorem dX4_init_92 : decode cX4_init 92 = .ok (.bipush 7, 2) := by decide +kernel
theorem dX4_init_94 : decode cX4_init 94 = .ok (.iconst 0, 1) := by decide +kernel
theorem dX4_init_95 : decode cX4_init 95 = .ok (.iastore, 1) := by decide +kernel
theorem dX4_init_96 : decode cX4_init 96 = .ok (.putfield 39, 3) := by decide +kernel
theorem dX4_init_99 : decode cX4_init 99 = .ok (.aload_n 0, 1) := by decide +kernel
theorem dX4_init_100 : decode cX4_init 100 = .ok (.iconst 5, 1) := by decide +kernel
theorem dX4_init_101 : decode cX4_init 101 = .ok (.newarray .int, 2) := by decide +kernel
theorem dX4_init_103 : decode cX4_init 103 = .ok (.putfield 43, 3) := by decide +kernel
theorem dX4_init_106 : decode cX4_init 106 = .ok (.aload_n 0, 1) := by decide +kernel
theorem dX4_init_107 : decode cX4_init 107 = .ok (.bipush 6, 2) := by decide +kernel
theorem dX4_init_109 : decode cX4_init 109 = .ok (.newarray .int, 2) := by decide +kernel
theorem dX4_init_111 : decode cX4_init 111 = .ok (.putfield 46, 3) := by decide +kernel
theorem dX4_init_114 : decode cX4_init 114 = .ok (.return_, 1) := by decide +kernel
theorem dX4_type_0 : decode cX4_type 0 = .ok (.iload_n 1, 1) := by decide +kernel
theorem dX4_type_1 : decode cX4_type 1 = .ok (.ifCond .lt 10, 3) := by decide +kernel
theorem dX4_type_4 : decode cX4_type 4 = .ok (.iload_n 1, 1) := by decide +kernel
theorem dX4_type_5 : decode cX4_type 5 = .ok (.sipush 255, 3) := by decide +kernel
theorem dX4_type_8 : decode cX4_type 8 = .ok (.if_icmp .le 6, 3) := by decide +kernel
theorem dX4_type_11 : decode cX4_type 11 = .ok (.bipush (-2), 2) := by decide +kernel
theorem dX4_type_13 : decode cX4_type 13 = .ok (.ireturn, 1) := by decide +kernel
theorem dX4_type_14 : decode cX4_type 14 = .ok (.aload_n 0, 1) := by decide +kernel
theorem dX4_type_15 : decode cX4_type 15 = .ok (.getfield 12, 3) := by decide +kernel
theorem dX4_type_18 : decode cX4_type 18 = .ok (.getfield 49, 3) := by decide +kernel
theorem dX4_type_21 : decode cX4_type 21 = .ok (.sipush 150, 3) := by decide +kernel
theorem dX4_type_24 : decode cX4_type 24 = .ok (.if_icmp .lt 6, 3) := by decide +kernel
theorem dX4_type_27 : decode cX4_type 27 = .ok (.bipush (-4), 2) := by decide +kernel
theorem dX4_type_29 : decode cX4_type 29 = .ok (.ireturn, 1) := by decide +kernel
theorem dX4_type_30 : decode cX4_type 30 = .ok (.aload_n 0, 1) := by decide +kernel
theorem dX4_type_31 : decode cX4_type 31 = .ok (.getfield 12, 3) := by decide +kernel
theorem dX4_type_34 : decode cX4_type 34 = .ok (.iload_n 1, 1) := by decide +kernel
theorem dX4_type_35 : decode cX4_type 35 = .ok (.invokevirtual 53, 3) := by decide +kernel
theorem dX4_type_38 : decode cX4_type 38 = .ok (.aload_n 0, 1) := by decide +kernel
theorem dX4_type_39 : decode cX4_type 39 = .ok (.getfield 19, 3) := by decide +kernel
theorem dX4_type_42 : decode cX4_type 42 = .ok (.iconst 1, 1) := by decide +kernel
theorem dX4_type_43 : decode cX4_type 43 = .ok (.putfield 57, 3) := by decide +kernel
theorem dX4_type_46 : decode cX4_type 46 = .ok (.aload_n 0, 1) := by decide +kernel
theorem dX4_type_47 : decode cX4_type 47 = .ok (.getfield 12, 3) := by decide +kernel
theorem dX4_type_50 : decode cX4_type 50 = .ok (.getfield 49, 3) := by decide +kernel
theorem dX4_type_53 : decode cX4_type 53 = .ok (.ireturn, 1) := by decide +kernel
theorem dX4_wipe_0 : decode cX4_wipe 0 = .ok (.aload_n 0, 1) := by decide +kernel
theorem dX4_wipe_1 : decode cX4_wipe 1 = .ok (.getfield 12, 3) := by decide +kernel
theorem dX4_wipe_4 : decode cX4_wipe 4 = .ok (.getfield 49, 3) := by decide +kernel
theorem dX4_wipe_7 : decode cX4_wipe 7 = .ok (.istore_n 1, 1) := by decide +kernel
theorem dX4_wipe_8 : decode cX4_wipe 8 = .ok (.aload_n 0, 1) := by decide +kernel
theorem dX4_wipe_9 : decode cX4_wipe 9 = .ok (.getfield 12, 3) := by decide +kernel
theorem dX4_wipe_12 : decode cX4_wipe 12 = .ok (.invokevirtual 61, 3) := by decide +kernel
theorem dX4_wipe_15 : decode cX4_wipe 15 = .ok (.aload_n 0, 1) := by decide +kernel
theorem dX4_wipe_16 : decode cX4_wipe 16 = .ok (.getfield 19, 3) := by decide +kernel
theorem dX4_wipe_19 : decode cX4_wipe 19 = .ok (.iconst 1, 1) := by decide +kernel
theorem dX4_wipe_20 : decode cX4_wipe 20 = .ok (.putfield 57, 3) := by decide +kernel
theorem dX4_wipe_23 : decode cX4_wipe 23 = .ok (.iload_n 1, 1) := by decide +kernel
theorem dX4_wipe_24 : decode cX4_wipe 24 = .ok (.ireturn, 1) := by decide +kernel
theorem dX4_fault_0 : decode cX4_fault 0 = .ok (.aload_n 0, 1) := by decide +kernel
theorem dX4_fault_1 : decode cX4_fault 1 = .ok (.getfield 12, 3) := by decide +kernel
theorem dX4_fault_4 : decode cX4_fault 4 = .ok (.getfield 64, 3) := by decide +kernel
theorem dX4_fault_7 : decode cX4_fault 7 = .ok (.ireturn, 1) := by decide +kernel
theorem dX4_shop_0 : decode cX4_shop 0 = .ok (.aload_n 0, 1) := by decide +kernel
theorem dX4_shop_1 : decode cX4_shop 1 = .ok (.iload_n 1, 1) := by decide +kernel
theorem dX4_shop_2 : decode cX4_shop 2 = .ok (.invokevirtual 67, 3) := by decide +kernel
theorem dX4_shop_5 : decode cX4_shop 5 = .ok (.ifCond .ne 12, 3) := by decide +kernel
theorem dX4_shop_8 : decode cX4_shop 8 = .ok (.iload_n 2, 1) := by decide +kernel
theorem dX4_shop_9 : decode cX4_shop 9 = .ok (.ifCond .lt 8, 3) := by decide +kernel
theorem dX4_shop_12 : decode cX4_shop 12 = .ok (.iload_n 2, 1) := by decide +kernel
theorem dX4_shop_13 : decode cX4_shop 13 = .ok (.iconst 2, 1) := by decide +kernel
theorem dX4_shop_14 : decode cX4_shop 14 = .ok (.if_icmp .le 6, 3) := by decide +kernel
theorem dX4_shop_17 : decode cX4_shop 17 = .ok (.bipush (-2), 2) := by decide +kernel
theorem dX4_shop_19 : decode cX4_shop 19 = .ok (.ireturn, 1) := by decide +kernel
theorem dX4_shop_20 : decode cX4_shop 20 = .ok (.iload_n 2, 1) := by decide +kernel
theorem dX4_shop_21 : decode cX4_shop 21 = .ok (.ifCond .ne 13, 3) := by decide +kernel
theorem dX4_shop_24 : decode cX4_shop 24 = .ok (.aload_n 0, 1) := by decide +kernel
theorem dX4_shop_25 : decode cX4_shop 25 = .ok (.getfield 12, 3) := by decide +kernel
theorem dX4_shop_28 : decode cX4_shop 28 = .ok (.getfield 71, 3) := by decide +kernel
theorem dX4_shop_31 : decode cX4_shop 31 = .ok (.iload_n 1, 1) := by decide +kernel
theorem dX4_shop_32 : decode cX4_shop 32 = .ok (.iaload, 1) := by decide +kernel
theorem dX4_shop_33 : decode cX4_shop 33 = .ok (.ireturn, 1) := by decide +kernel
theorem dX4_shop_34 : decode cX4_shop 34 = .ok (.iload_n 2, 1) := by decide +kernel
theorem dX4_shop_35 : decode cX4_shop 35 = .ok (.iconst 1, 1) := by decide +kernel
theorem dX4_shop_36 : decode cX4_shop 36 = .ok (.if_icmp .ne 13, 3) := by decide +kernel
theorem dX4_shop_39 : decode cX4_shop 39 = .ok (.aload_n 0, 1) := by decide +kernel
theorem dX4_shop_40 : decode cX4_shop 40 = .ok (.getfield 12, 3) := by decide +kernel
theorem dX4_shop_43 : decode cX4_shop 43 = .ok (.getfield 74, 3) := by decide +kernel
theorem dX4_shop_46 : decode cX4_shop 46 = .ok (.iload_n 1, 1) := by decide +kernel
theorem dX4_shop_47 : decode cX4_shop 47 = .ok (.iaload, 1) := by decide +kernel
theorem dX4_shop_48 : decode cX4_shop 48 = .ok (.ireturn, 1) := by decide +kernel
theorem dX4_shop_49 : decode cX4_shop 49 = .ok (.aload_n 0, 1) := by decide +kernel
theorem dX4_shop_50 : decode cX4_shop 50 = .ok (.getfield 12, 3) := by decide +kernel
theorem dX4_shop_53 : decode cX4_shop 53 = .ok (.getfield 71, 3) := by decide +kernel
theorem dX4_shop_56 : decode cX4_shop 56 = .ok (.iload_n 1, 1) := by decide +kernel
theorem dX4_shop_57 : decode cX4_shop 57 = .ok (.iaload, 1) := by decide +kernel
theorem dX4_shop_58 : decode cX4_shop 58 = .ok (.aload_n 0, 1) := by decide +kernel
theorem dX4_shop_59 : decode cX4_shop 59 = .ok (.getfield 39, 3) := by decide +kernel
theorem dX4_shop_62 : decode cX4_shop 62 = .ok (.iconst 2, 1) := by decide +kernel
theorem dX4_shop_63 : decode cX4_shop 63 = .ok (.iaload, 1) := by decide +kernel
theorem dX4_shop_64 : decode cX4_shop 64 = .ok (.if_icmp .le 7, 3) := by decide +kernel
theorem dX4_shop_67 : decode cX4_shop 67 = .ok (.iconst 1, 1) := by decide +kernel
theorem dX4_shop_68 : decode cX4_shop 68 = .ok (.goto 4, 3) := by decide +kernel
theorem dX4_shop_71 : decode cX4_shop 71 = .ok (.iconst 0, 1) := by decide +kernel
theorem dX4_shop_72 : decode cX4_shop 72 = .ok (.ireturn, 1) := by decide +kernel
theorem dX4_sort_0 : decode cX4_sort 0 = .ok (.iload_n 1, 1) := by decide +kernel
theorem dX4_sort_1 : decode cX4_sort 1 = .ok (.ifCond .lt 23, 3) := by decide +kernel
theorem dX4_sort_4 : decode cX4_sort 4 = .ok (.iload_n 1, 1) := by decide +kernel
theorem dX4_sort_5 : decode cX4_sort 5 = .ok (.aload_n 0, 1) := by decide +kernel
theorem dX4_sort_6 : decode cX4_sort 6 = .ok (.getfield 12, 3) := by decide +kernel
theorem dX4_sort_9 : decode cX4_sort 9 = .ok (.getfield 77, 3) := by decide +kernel
theorem dX4_sort_12 : decode cX4_sort 12 = .ok (.if_icmp .ge 12, 3) := by decide +kernel
theorem dX4_sort_15 : decode cX4_sort 15 = .ok (.iload_n 2, 1) := by decide +kernel
theorem dX4_sort_16 : decode cX4_sort 16 = .ok (.ifCond .lt 8, 3) := by decide +kernel
theorem dX4_sort_19 : decode cX4_sort 19 = .ok (.iload_n 2, 1) := by decide +kernel
theorem dX4_sort_20 : decode cX4_sort 20 = .ok (.iconst 5, 1) := by decide +kernel
theorem dX4_sort_21 : decode cX4_sort 21 = .ok (.if_icmp .le 6, 3) := by decide +kernel
theorem dX4_sort_24 : decode cX4_sort 24 = .ok (.bipush (-2), 2) := by decide +kernel
theorem dX4_sort_26 : decode cX4_sort 26 = .ok (.ireturn, 1) := by decide +kernel
theorem dX4_sort_27 : decode cX4_sort 27 = .ok (.aload_n 0, 1) := by decide +kernel
theorem dX4_sort_28 : decode cX4_sort 28 = .ok (.getfield 12, 3) := by decide +kernel
theorem dX4_sort_31 : decode cX4_sort 31 = .ok (.getfield 80, 3) := by decide +kernel
theorem dX4_sort_34 : decode cX4_sort 34 = .ok (.iload_n 1, 1) := by decide +kernel
theorem dX4_sort_35 : decode cX4_sort 35 = .ok (.aaload, 1) := by decide +kernel
theorem dX4_sort_36 : decode cX4_sort 36 = .ok (.iload_n 2, 1) := by decide +kernel
theorem dX4_sort_37 : decode cX4_sort 37 = .ok (.iaload, 1) := by decide +kernel
theorem dX4_sort_38 : decode cX4_sort 38 = .ok (.ireturn, 1) := by decide +kernel
theorem dX4_set_0 : decode cX4_set 0 = .ok (.iload_n 1, 1) := by decide +kernel
theorem dX4_set_1 : decode cX4_set 1 = .ok (.ifCond .lt 22, 3) := by decide +kernel
theorem dX4_set_4 : decode cX4_set 4 = .ok (.iload_n 1, 1) := by decide +kernel
theorem dX4_set_5 : decode cX4_set 5 = .ok (.bipush 8, 2) := by decide +kernel
theorem dX4_set_7 : decode cX4_set 7 = .ok (.if_icmp .ge 16, 3) := by decide +kernel
theorem dX4_set_10 : decode cX4_set 10 = .ok (.iload_n 2, 1) := by decide +kernel
theorem dX4_set_11 : decode cX4_set 11 = .ok (.ifCond .lt 12, 3) := by decide +kernel
theorem dX4_set_14 : decode cX4_set 14 = .ok (.iload_n 2, 1) := by decide +kernel
theorem dX4_set_15 : decode cX4_set 15 = .ok (.getstatic 84, 3) := by decide +kernel
theorem dX4_set_18 : decode cX4_set 18 = .ok (.iload_n 1, 1) := by decide +kernel
theorem dX4_set_19 : decode cX4_set 19 = .ok (.iaload, 1) := by decide +kernel
theorem dX4_set_20 : decode cX4_set 20 = .ok (.if_icmp .le 6, 3) := by decide +kernel
theorem dX4_set_23 : decode cX4_set 23 = .ok (.bipush (-2), 2) := by decide +kernel
theorem dX4_set_25 : decode cX4_set 25 = .ok (.ireturn, 1) := by decide +kernel
theorem dX4_set_26 : decode cX4_set 26 = .ok (.aload_n 0, 1) := by decide +kernel
theorem dX4_set_27 : decode cX4_set 27 = .ok (.getfield 39, 3) := by decide +kernel
theorem dX4_set_30 : decode cX4_set 30 = .ok (.iload_n 1, 1) := by decide +kernel
theorem dX4_set_31 : decode cX4_set 31 = .ok (.iaload, 1) := by decide +kernel
theorem dX4_set_32 : decode cX4_set 32 = .ok (.istore_n 3, 1) := by decide +kernel
theorem dX4_set_33 : decode cX4_set 33 = .ok (.aload_n 0, 1) := by decide +kernel
theorem dX4_set_34 : decode cX4_set 34 = .ok (.getfield 39, 3) := by decide +kernel
theorem dX4_set_37 : decode cX4_set 37 = .ok (.iload_n 1, 1) := by decide +kernel
theorem dX4_set_38 : decode cX4_set 38 = .ok (.iload_n 2, 1) := by decide +kernel
theorem dX4_set_39 : decode cX4_set 39 = .ok (.iastore, 1) := by decide +kernel
theorem dX4_set_40 : decode cX4_set 40 = .ok (.iload_n 1, 1) := by decide +kernel
theorem dX4_set_41 : decode cX4_set 41 = .ok (.ifCond .ne 11, 3) := by decide +kernel
theorem dX4_set_44 : decode cX4_set 44 = .ok (.aload_n 0, 1) := by decide +kernel
theorem dX4_set_45 : decode cX4_set 45 = .ok (.getfield 19, 3) := by decide +kernel
theorem dX4_set_48 : decode cX4_set 48 = .ok (.iconst 1, 1) := by decide +kernel
theorem dX4_set_49 : decode cX4_set 49 = .ok (.putfield 57, 3) := by decide +kernel
theorem dX4_set_52 : decode cX4_set 52 = .ok (.iload_n 3, 1) := by decide +kernel
theorem dX4_set_53 : decode cX4_set 53 = .ok (.ireturn, 1) := by decide +kernel
theorem dX4_hours_0 : decode cX4_hours 0 = .ok (.iload_n 1, 1) := by decide +kernel
theorem dX4_hours_1 : decode cX4_hours 1 = .ok (.ifCond .lt 17, 3) := by decide +kernel
theorem dX4_hours_4 : decode cX4_hours 4 = .ok (.iload_n 1, 1) := by decide +kernel
theorem dX4_hours_5 : decode cX4_hours 5 = .ok (.iconst 5, 1) := by decide +kernel
theorem dX4_hours_6 : decode cX4_hours 6 = .ok (.if_icmp .ge 12, 3) := by decide +kernel
theorem dX4_hours_9 : decode cX4_hours 9 = .ok (.iload_n 2, 1) := by decide +kernel
theorem dX4_hours_10 : decode cX4_hours 10 = .ok (.ifCond .lt 8, 3) := by decide +kernel
theorem dX4_hours_13 : decode cX4_hours 13 = .ok (.iload_n 2, 1) := by decide +kernel
theorem dX4_hours_14 : decode cX4_hours 14 = .ok (.iconst 3, 1) := by decide +kernel
theorem dX4_hours_15 : decode cX4_hours 15 = .ok (.if_icmp .le 6, 3) := by decide +kernel
theorem dX4_hours_18 : decode cX4_hours 18 = .ok (.bipush (-2), 2) := by decide +kernel
theorem dX4_hours_20 : decode cX4_hours 20 = .ok (.ireturn, 1) := by decide +kernel
theorem dX4_hours_21 : decode cX4_hours 21 = .ok (.aload_n 0, 1) := by decide +kernel
theorem dX4_hours_22 : decode cX4_hours 22 = .ok (.getfield 43, 3) := by decide +kernel
theorem dX4_hours_25 : decode cX4_hours 25 = .ok (.iload_n 1, 1) := by decide +kernel
theorem dX4_hours_26 : decode cX4_hours 26 = .ok (.iaload, 1) := by decide +kernel
theorem dX4_hours_27 : decode cX4_hours 27 = .ok (.istore_n 3, 1) := by decide +kernel
theorem dX4_hours_28 : decode cX4_hours 28 = .ok (.aload_n 0, 1) := by decide +kernel
theorem dX4_hours_29 : decode cX4_hours 29 = .ok (.getfield 43, 3) := by decide +kernel
theorem dX4_hours_32 : decode cX4_hours 32 = .ok (.iload_n 1, 1) := by decide +kernel
theorem dX4_hours_33 : decode cX4_hours 33 = .ok (.iload_n 2, 1) := by decide +kernel
theorem dX4_hours_34 : decode cX4_hours 34 = .ok (.iastore, 1) := by decide +kernel
theorem dX4_hours_35 : decode cX4_hours 35 = .ok (.iload_n 3, 1) := by decide +kernel
theorem dX4_hours_36 : decode cX4_hours 36 = .ok (.ireturn, 1) := by decide +kernel
theorem dX4_read_0 : decode cX4_read 0 = .ok (.aload_n 0, 1) := by decide +kernel
theorem dX4_read_1 : decode cX4_read 1 = .ok (.getfield 35, 3) := by decide +kernel
theorem dX4_read_4 : decode cX4_read 4 = .ok (.iload_n 1, 1) := by decide +kernel
theorem dX4_read_5 : decode cX4_read 5 = .ok (.invokevirtual 87, 3) := by decide +kernel
theorem dX4_read_8 : decode cX4_read 8 = .ok (.istore_n 2, 1) := by decide +kernel
theorem dX4_read_9 : decode cX4_read 9 = .ok (.iload_n 2, 1) := by decide +kernel
theorem dX4_read_10 : decode cX4_read 10 = .ok (.ifCond .eq 5, 3) := by decide +kernel
theorem dX4_read_13 : decode cX4_read 13 = .ok (.iload_n 2, 1) := by decide +kernel
theorem dX4_read_14 : decode cX4_read 14 = .ok (.ireturn, 1) := by decide +kernel
theorem dX4_read_15 : decode cX4_read 15 = .ok (.iconst 5, 1) := by decide +kernel
theorem dX4_read_16 : decode cX4_read 16 = .ok (.aload_n 0, 1) := by decide +kernel
theorem dX4_read_17 : decode cX4_read 17 = .ok (.getfield 35, 3) := by decide +kernel
theorem dX4_read_20 : decode cX4_read 20 = .ok (.getfield 91, 3) := by decide +kernel
theorem dX4_read_23 : decode cX4_read 23 = .ok (.iload_n 1, 1) := by decide +kernel
theorem dX4_read_24 : decode cX4_read 24 = .ok (.iaload, 1) := by decide +kernel
theorem dX4_read_25 : decode cX4_read 25 = .ok (.invokestatic 92, 3) := by decide +kernel
theorem dX4_read_28 : decode cX4_read 28 = .ok (.istore_n 3, 1) := by decide +kernel
theorem dX4_read_29 : decode cX4_read 29 = .ok (.iconst 0, 1) := by decide +kernel
theorem dX4_read_30 : decode cX4_read 30 = .ok (.istore 4, 2) := by decide +kernel
theorem dX4_read_32 : decode cX4_read 32 = .ok (.iload 4, 2) := by decide +kernel
theorem dX4_read_34 : decode cX4_read 34 = .ok (.iload_n 3, 1) := by decide +kernel
theorem dX4_read_35 : decode cX4_read 35 = .ok (.if_icmp .ge 46, 3) := by decide +kernel
theorem dX4_read_38 : decode cX4_read 38 = .ok (.aload_n 0, 1) := by decide +kernel
theorem dX4_read_39 : decode cX4_read 39 = .ok (.getfield 35, 3) := by decide +kernel
theorem dX4_read_42 : decode cX4_read 42 = .ok (.getfield 98, 3) := by decide +kernel
theorem dX4_read_45 : decode cX4_read 45 = .ok (.iload_n 1, 1) := by decide +kernel
theorem dX4_read_46 : decode cX4_read 46 = .ok (.aaload, 1) := by decide +kernel
theorem dX4_read_47 : decode cX4_read 47 = .ok (.iload 4, 2) := by decide +kernel
theorem dX4_read_49 : decode cX4_read 49 = .ok (.iaload, 1) := by decide +kernel
theorem dX4_read_50 : decode cX4_read 50 = .ok (.istore 5, 2) := by decide +kernel
theorem dX4_read_52 : decode cX4_read 52 = .ok (.iload 5, 2) := by decide +kernel
theorem dX4_read_54 : decode cX4_read 54 = .ok (.ifCond .lt 9, 3) := by decide +kernel
theorem dX4_read_57 : decode cX4_read 57 = .ok (.iload 5, 2) := by decide +kernel
theorem dX4_read_59 : decode cX4_read 59 = .ok (.iconst 3, 1) := by decide +kernel
theorem dX4_read_60 : decode cX4_read 60 = .ok (.if_icmp .le 6, 3) := by decide +kernel
theorem dX4_read_63 : decode cX4_read 63 = .ok (.iload 4, 2) := by decide +kernel
theorem dX4_read_65 : decode cX4_read 65 = .ok (.ireturn, 1) := by decide +kernel
theorem dX4_read_66 : decode cX4_read 66 = .ok (.aload_n 0, 1) := by decide +kernel
theorem dX4_read_67 : decode cX4_read 67 = .ok (.getfield 43, 3) := by decide +kernel
theorem dX4_read_70 : decode cX4_read 70 = .ok (.iload 4, 2) := by decide +kernel
theorem dX4_read_72 : decode cX4_read 72 = .ok (.iload 5, 2) := by decide +kernel
theorem dX4_read_74 : decode cX4_read 74 = .ok (.iastore, 1) := by decide +kernel
theorem dX4_read_75 : decode cX4_read 75 = .ok (.iinc 4 1, 3) := by decide +kernel
theorem dX4_read_78 : decode cX4_read 78 = .ok (.goto (-46), 3) := by decide +kernel
theorem dX4_read_81 : decode cX4_read 81 = .ok (.iload_n 3, 1) := by decide +kernel
theorem dX4_read_82 : decode cX4_read 82 = .ok (.ireturn, 1) := by decide +kernel
theorem dX4_open_0 : decode cX4_open 0 = .ok (.iload_n 1, 1) := by decide +kernel
theorem dX4_open_1 : decode cX4_open 1 = .ok (.iconst 1, 1) := by decide +kernel
theorem dX4_open_2 : decode cX4_open 2 = .ok (.if_icmp .lt 8, 3) := by decide +kernel
theorem dX4_open_5 : decode cX4_open 5 = .ok (.iload_n 1, 1) := by decide +kernel
theorem dX4_open_6 : decode cX4_open 6 = .ok (.iconst 3, 1) := by decide +kernel
theorem dX4_open_7 : decode cX4_open 7 = .ok (.if_icmp .le 6, 3) := by decide +kernel
theorem dX4_open_10 : decode cX4_open 10 = .ok (.bipush (-2), 2) := by decide +kernel
theorem dX4_open_12 : decode cX4_open 12 = .ok (.ireturn, 1) := by decide +kernel
theorem dX4_open_13 : decode cX4_open 13 = .ok (.aload_n 0, 1) := by decide +kernel
theorem dX4_open_14 : decode cX4_open 14 = .ok (.invokevirtual 101, 3) := by decide +kernel
theorem dX4_open_17 : decode cX4_open 17 = .ok (.getfield 105, 3) := by decide +kernel
theorem dX4_open_20 : decode cX4_open 20 = .ok (.iload_n 1, 1) := by decide +kernel
theorem dX4_open_21 : decode cX4_open 21 = .ok (.iaload, 1) := by decide +kernel
theorem dX4_open_22 : decode cX4_open 22 = .ok (.ireturn, 1) := by decide +kernel
theorem dX4_earns_0 : decode cX4_earns 0 = .ok (.aload_n 0, 1) := by decide +kernel
theorem dX4_earns_1 : decode cX4_earns 1 = .ok (.iload_n 1, 1) := by decide +kernel
theorem dX4_earns_2 : decode cX4_earns 2 = .ok (.invokevirtual 67, 3) := by decide +kernel
theorem dX4_earns_5 : decode cX4_earns 5 = .ok (.ifCond .ne 10, 3) := by decide +kernel
theorem dX4_earns_8 : decode cX4_earns 8 = .ok (.iload_n 2, 1) := by decide +kernel
theorem dX4_earns_9 : decode cX4_earns 9 = .ok (.invokestatic 108, 3) := by decide +kernel
theorem dX4_earns_12 : decode cX4_earns 12 = .ok (.ifCond .eq 9, 3) := by decide +kernel
theorem dX4_earns_15 : decode cX4_earns 15 = .ok (.bipush (-2), 2) := by decide +kernel
theorem dX4_earns_17 : decode cX4_earns 17 = .ok (.invokestatic 111, 3) := by decide +kernel
theorem dX4_earns_20 : decode cX4_earns 20 = .ok (.lreturn, 1) := by decide +kernel
theorem dX4_earns_21 : decode cX4_earns 21 = .ok (.aload_n 0, 1) := by decide +kernel
theorem dX4_earns_22 : decode cX4_earns 22 = .ok (.invokevirtual 101, 3) := by decide +kernel
theorem dX4_earns_25 : decode cX4_earns 25 = .ok (.iload_n 1, 1) := by decide +kernel
theorem dX4_earns_26 : decode cX4_earns 26 = .ok (.invokevirtual 115, 3) := by decide +kernel
theorem dX4_earns_29 : decode cX4_earns 29 = .ok (.iload_n 2, 1) := by decide +kernel
theorem dX4_earns_30 : decode cX4_earns 30 = .ok (.invokestatic 118, 3) := by decide +kernel
theorem dX4_earns_33 : decode cX4_earns 33 = .ok (.lreturn, 1) := by decide +kernel
theorem dX4_all_0 : decode cX4_all 0 = .ok (.iload_n 1, 1) := by decide +kernel
theorem dX4_all_1 : decode cX4_all 1 = .ok (.ifCond .lt 15, 3) := by decide +kernel
theorem dX4_all_4 : decode cX4_all 4 = .ok (.iload_n 1, 1) := by decide +kernel
theorem dX4_all_5 : decode cX4_all 5 = .ok (.iconst 1, 1) := by decide +kernel
theorem dX4_all_6 : decode cX4_all 6 = .ok (.if_icmp .gt 10, 3) := by decide +kernel
theorem dX4_all_9 : decode cX4_all 9 = .ok (.iload_n 2, 1) := by decide +kernel
theorem dX4_all_10 : decode cX4_all 10 = .ok (.invokestatic 108, 3) := by decide +kernel
theorem dX4_all_13 : decode cX4_all 13 = .ok (.ifCond .eq 9, 3) := by decide +kernel
theorem dX4_all_16 : decode cX4_all 16 = .ok (.bipush (-2), 2) := by decide +kernel
theorem dX4_all_18 : decode cX4_all 18 = .ok (.invokestatic 111, 3) := by decide +kernel
theorem dX4_all_21 : decode cX4_all 21 = .ok (.lreturn, 1) := by decide +kernel
theorem dX4_all_22 : decode cX4_all 22 = .ok (.aload_n 0, 1) := by decide +kernel
theorem dX4_all_23 : decode cX4_all 23 = .ok (.invokevirtual 101, 3) := by decide +kernel
theorem dX4_all_26 : decode cX4_all 26 = .ok (.iload_n 1, 1) := by decide +kernel
theorem dX4_all_27 : decode cX4_all 27 = .ok (.invokevirtual 122, 3) := by decide +kernel
theorem dX4_all_30 : decode cX4_all 30 = .ok (.iload_n 2, 1) := by decide +kernel
theorem dX4_all_31 : decode cX4_all 31 = .ok (.invokestatic 118, 3) := by decide +kernel
theorem dX4_all_34 : decode cX4_all 34 = .ok (.lreturn, 1) := by decide +kernel
theorem dX4_answer_0 : decode cX4_answer 0 = .ok (.aload_n 0, 1) := by decide +kernel
theorem dX4_answer_1 : decode cX4_answer 1 = .ok (.iload_n 1, 1) := by decide +kernel
theorem dX4_answer_2 : decode cX4_answer 2 = .ok (.invokevirtual 67, 3) := by decide +kernel
theorem dX4_answer_5 : decode cX4_answer 5 = .ok (.ifCond .eq 6, 3) := by decide +kernel
theorem dX4_answer_8 : decode cX4_answer 8 = .ok (.bipush (-2), 2) := by decide +kernel
theorem dX4_answer_10 : decode cX4_answer 10 = .ok (.ireturn, 1) := by decide +kernel
theorem dX4_answer_11 : decode cX4_answer 11 = .ok (.aload_n 0, 1) := by decide +kernel
theorem dX4_answer_12 : decode cX4_answer 12 = .ok (.invokevirtual 101, 3) := by decide +kernel
theorem dX4_answer_15 : decode cX4_answer 15 = .ok (.iload_n 1, 1) := by decide +kernel
theorem dX4_answer_16 : decode cX4_answer 16 = .ok (.invokevirtual 125, 3) := by decide +kernel
theorem dX4_answer_19 : decode cX4_answer 19 = .ok (.ireturn, 1) := by decide +kernel
theorem dX4_rest_0 : decode cX4_rest 0 = .ok (.iload_n 1, 1) := by decide +kernel
theorem dX4_rest_1 : decode cX4_rest 1 = .ok (.iconst (-1), 1) := by decide +kernel
theorem dX4_rest_2 : decode cX4_rest 2 = .ok (.if_icmp .eq 14, 3) := by decide +kernel
theorem dX4_rest_5 : decode cX4_rest 5 = .ok (.aload_n 0, 1) := by decide +kernel
theorem dX4_rest_6 : decode cX4_rest 6 = .ok (.iload_n 1, 1) := by decide +kernel
theorem dX4_rest_7 : decode cX4_rest 7 = .ok (.invokevirtual 67, 3) := by decide +kernel
theorem dX4_rest_10 : decode cX4_rest 10 = .ok (.ifCond .eq 6, 3) := by decide +kernel
theorem dX4_rest_13 : decode cX4_rest 13 = .ok (.bipush (-2), 2) := by decide +kernel
theorem dX4_rest_15 : decode cX4_rest 15 = .ok (.ireturn, 1) := by decide +kernel
theorem dX4_rest_16 : decode cX4_rest 16 = .ok (.aload_n 0, 1) := by decide +kernel
theorem dX4_rest_17 : decode cX4_rest 17 = .ok (.invokevirtual 101, 3) := by decide +kernel
theorem dX4_rest_20 : decode cX4_rest 20 = .ok (.astore_n 2, 1) := by decide +kernel
theorem dX4_rest_21 : decode cX4_rest 21 = .ok (.aload_n 2, 1) := by decide +kernel
theorem dX4_rest_22 : decode cX4_rest 22 = .ok (.invokevirtual 128, 3) := by decide +kernel
theorem dX4_rest_25 : decode cX4_rest 25 = .ok (.ifCond .ne 6, 3) := by decide +kernel
theorem dX4_rest_28 : decode cX4_rest 28 = .ok (.bipush (-3), 2) := by decide +kernel
theorem dX4_rest_30 : decode cX4_rest 30 = .ok (.ireturn, 1) := by decide +kernel
theorem dX4_rest_31 : decode cX4_rest 31 = .ok (.iload_n 1, 1) := by decide +kernel
theorem dX4_rest_32 : decode cX4_rest 32 = .ok (.iconst (-1), 1) := by decide +kernel
theorem dX4_rest_33 : decode cX4_rest 33 = .ok (.if_icmp .ne 10, 3) := by decide +kernel
theorem dX4_rest_36 : decode cX4_rest 36 = .ok (.aload_n 2, 1) := by decide +kernel
theorem dX4_rest_37 : decode cX4_rest 37 = .ok (.getfield 132, 3) := by decide +kernel
theorem dX4_rest_40 : decode cX4_rest 40 = .ok (.goto 9, 3) := by decide +kernel
theorem dX4_rest_43 : decode cX4_rest 43 = .ok (.aload_n 2, 1) := by decide +kernel
theorem dX4_rest_44 : decode cX4_rest 44 = .ok (.getfield 135, 3) := by decide +kernel
theorem dX4_rest_47 : decode cX4_rest 47 = .ok (.iload_n 1, 1) := by decide +kernel
theorem dX4_rest_48 : decode cX4_rest 48 = .ok (.iaload, 1) := by decide +kernel
theorem dX4_rest_49 : decode cX4_rest 49 = .ok (.ireturn, 1) := by decide +kernel
theorem dX4_still_0 : decode cX4_still 0 = .ok (.iload_n 1, 1) := by decide +kernel
theorem dX4_still_1 : decode cX4_still 1 = .ok (.iconst (-1), 1) := by decide +kernel
theorem dX4_still_2 : decode cX4_still 2 = .ok (.if_icmp .ne 13, 3) := by decide +kernel
theorem dX4_still_5 : decode cX4_still 5 = .ok (.iload_n 2, 1) := by decide +kernel
theorem dX4_still_6 : decode cX4_still 6 = .ok (.iconst (-1), 1) := by decide +kernel
theorem dX4_still_7 : decode cX4_still 7 = .ok (.if_icmp .ne 8, 3) := by decide +kernel
theorem dX4_still_10 : decode cX4_still 10 = .ok (.aload_n 0, 1) := by decide +kernel
theorem dX4_still_11 : decode cX4_still 11 = .ok (.invokevirtual 138, 3) := by decide +kernel
theorem dX4_still_14 : decode cX4_still 14 = .ok (.ireturn, 1) := by decide +kernel
theorem dX4_still_15 : decode cX4_still 15 = .ok (.iload_n 1, 1) := by decide +kernel
theorem dX4_still_16 : decode cX4_still 16 = .ok (.ifCond .lt 11, 3) := by decide +kernel
theorem dX4_still_19 : decode cX4_still 19 = .ok (.aload_n 0, 1) := by decide +kernel
theorem dX4_still_20 : decode cX4_still 20 = .ok (.iload_n 2, 1) := by decide +kernel
theorem dX4_still_21 : decode cX4_still 21 = .ok (.invokevirtual 67, 3) := by decide +kernel
theorem dX4_still_24 : decode cX4_still 24 = .ok (.ifCond .eq 6, 3) := by decide +kernel
theorem dX4_still_27 : decode cX4_still 27 = .ok (.bipush (-2), 2) := by decide +kernel
theorem dX4_still_29 : decode cX4_still 29 = .ok (.ireturn, 1) := by decide +kernel
theorem dX4_still_30 : decode cX4_still 30 = .ok (.aload_n 0, 1) := by decide +kernel
theorem dX4_still_31 : decode cX4_still 31 = .ok (.invokevirtual 101, 3) := by decide +kernel
theorem dX4_still_34 : decode cX4_still 34 = .ok (.astore_n 3, 1) := by decide +kernel
theorem dX4_still_35 : decode cX4_still 35 = .ok (.aload_n 3, 1) := by decide +kernel
theorem dX4_still_36 : decode cX4_still 36 = .ok (.invokevirtual 142, 3) := by decide +kernel
theorem dX4_still_39 : decode cX4_still 39 = .ok (.istore 4, 2) := by decide +kernel
theorem dX4_still_41 : decode cX4_still 41 = .ok (.iconst 0, 1) := by decide +kernel
theorem dX4_still_42 : decode cX4_still 42 = .ok (.istore 5, 2) := by decide +kernel
theorem dX4_still_44 : decode cX4_still 44 = .ok (.aload_n 3, 1) := by decide +kernel
theorem dX4_still_45 : decode cX4_still 45 = .ok (.iconst 0, 1) := by decide +kernel
theorem dX4_still_46 : decode cX4_still 46 = .ok (.invokevirtual 145, 3) := by decide +kernel
theorem dX4_still_49 : decode cX4_still 49 = .ok (.iconst 0, 1) := by decide +kernel
theorem dX4_still_50 : decode cX4_still 50 = .ok (.istore 6, 2) := by decide +kernel
theorem dX4_still_52 : decode cX4_still 52 = .ok (.iload 6, 2) := by decide +kernel
theorem dX4_still_54 : decode cX4_still 54 = .ok (.iload 4, 2) := by decide +kernel
theorem dX4_still_56 : decode cX4_still 56 = .ok (.if_icmp .ge 37, 3) := by decide +kernel
theorem dX4_still_59 : decode cX4_still 59 = .ok (.aload_n 3, 1) := by decide +kernel
theorem dX4_still_60 : decode cX4_still 60 = .ok (.invokevirtual 148, 3) := by decide +kernel
theorem dX4_still_63 : decode cX4_still 63 = .ok (.iconst (-1), 1) := by decide +kernel
theorem dX4_still_64 : decode cX4_still 64 = .ok (.if_icmp .ne 19, 3) := by decide +kernel
theorem dX4_still_67 : decode cX4_still 67 = .ok (.iload 5, 2) := by decide +kernel
theorem dX4_still_69 : decode cX4_still 69 = .ok (.iload_n 1, 1) := by decide +kernel
theorem dX4_still_70 : decode cX4_still 70 = .ok (.if_icmp .ne 10, 3) := by decide +kernel
theorem dX4_still_73 : decode cX4_still 73 = .ok (.aload_n 3, 1) := by decide +kernel
theorem dX4_still_74 : decode cX4_still 74 = .ok (.getfield 135, 3) := by decide +kernel
theorem dX4_still_77 : decode cX4_still 77 = .ok (.iload_n 2, 1) := by decide +kernel
theorem dX4_still_78 : decode cX4_still 78 = .ok (.iaload, 1) := by decide +kernel
theorem dX4_still_79 : decode cX4_still 79 = .ok (.ireturn, 1) := by decide +kernel
theorem dX4_still_80 : decode cX4_still 80 = .ok (.iinc 5 1, 3) := by decide +kernel
theorem dX4_still_83 : decode cX4_still 83 = .ok (.aload_n 3, 1) := by decide +kernel
theorem dX4_still_84 : decode cX4_still 84 = .ok (.invokevirtual 151, 3) := by decide +kernel
theorem dX4_still_87 : decode cX4_still 87 = .ok (.iinc 6 1, 3) := by decide +kernel
theorem dX4_still_90 : decode cX4_still 90 = .ok (.goto (-38), 3) := by decide +kernel
theorem dX4_still_93 : decode cX4_still 93 = .ok (.iconst (-1), 1) := by decide +kernel
theorem dX4_still_94 : decode cX4_still 94 = .ok (.ireturn, 1) := by decide +kernel
theorem dX4_best_0 : decode cX4_best 0 = .ok (.iload_n 1, 1) := by decide +kernel
theorem dX4_best_1 : decode cX4_best 1 = .ok (.ifCond .lt 16, 3) := by decide +kernel
theorem dX4_best_4 : decode cX4_best 4 = .ok (.iload_n 1, 1) := by decide +kernel
theorem dX4_best_5 : decode cX4_best 5 = .ok (.iconst 1, 1) := by decide +kernel
theorem dX4_best_6 : decode cX4_best 6 = .ok (.if_icmp .gt 11, 3) := by decide +kernel
theorem dX4_best_9 : decode cX4_best 9 = .ok (.aload_n 0, 1) := by decide +kernel
theorem dX4_best_10 : decode cX4_best 10 = .ok (.iload_n 2, 1) := by decide +kernel
theorem dX4_best_11 : decode cX4_best 11 = .ok (.invokevirtual 67, 3) := by decide +kernel
theorem dX4_best_14 : decode cX4_best 14 = .ok (.ifCond .eq 6, 3) := by decide +kernel
theorem dX4_best_17 : decode cX4_best 17 = .ok (.bipush (-2), 2) := by decide +kernel
theorem dX4_best_19 : decode cX4_best 19 = .ok (.ireturn, 1) := by decide +kernel
theorem dX4_best_20 : decode cX4_best 20 = .ok (.aload_n 0, 1) := by decide +kernel
theorem dX4_best_21 : decode cX4_best 21 = .ok (.iload_n 1, 1) := by decide +kernel
theorem dX4_best_22 : decode cX4_best 22 = .ok (.invokevirtual 154, 3) := by decide +kernel
theorem dX4_best_25 : decode cX4_best 25 = .ok (.getfield 135, 3) := by decide +kernel
theorem dX4_best_28 : decode cX4_best 28 = .ok (.iload_n 2, 1) := by decide +kernel
theorem dX4_best_29 : decode cX4_best 29 = .ok (.iaload, 1) := by decide +kernel
theorem dX4_best_30 : decode cX4_best 30 = .ok (.ireturn, 1) := by decide +kernel
theorem dX4_loss_0 : decode cX4_loss 0 = .ok (.iload_n 1, 1) := by decide +kernel
theorem dX4_loss_1 : decode cX4_loss 1 = .ok (.invokestatic 108, 3) := by decide +kernel
theorem dX4_loss_4 : decode cX4_loss 4 = .ok (.ifCond .eq 9, 3) := by decide +kernel
theorem dX4_loss_7 : decode cX4_loss 7 = .ok (.bipush (-2), 2) := by decide +kernel
theorem dX4_loss_9 : decode cX4_loss 9 = .ok (.invokestatic 111, 3) := by decide +kernel
theorem dX4_loss_12 : decode cX4_loss 12 = .ok (.lreturn, 1) := by decide +kernel
theorem dX4_loss_13 : decode cX4_loss 13 = .ok (.aload_n 0, 1) := by decide +kernel
theorem dX4_loss_14 : decode cX4_loss 14 = .ok (.iconst 0, 1) := by decide +kernel
theorem dX4_loss_15 : decode cX4_loss 15 = .ok (.invokevirtual 154, 3) := by decide +kernel
theorem dX4_loss_18 : decode cX4_loss 18 = .ok (.invokevirtual 158, 3) := by decide +kernel
theorem dX4_loss_21 : decode cX4_loss 21 = .ok (.lstore_n 2, 1) := by decide +kernel
theorem dX4_loss_22 : decode cX4_loss 22 = .ok (.lload_n 2, 1) := by decide +kernel
theorem dX4_loss_23 : decode cX4_loss 23 = .ok (.aload_n 0, 1) := by decide +kernel
theorem dX4_loss_24 : decode cX4_loss 24 = .ok (.invokevirtual 101, 3) := by decide +kernel
theorem dX4_loss_27 : decode cX4_loss 27 = .ok (.invokevirtual 158, 3) := by decide +kernel
theorem dX4_loss_30 : decode cX4_loss 30 = .ok (.lsub, 1) := by decide +kernel
theorem dX4_loss_31 : decode cX4_loss 31 = .ok (.iload_n 1, 1) := by decide +kernel
theorem dX4_loss_32 : decode cX4_loss 32 = .ok (.invokestatic 118, 3) := by decide +kernel
theorem dX4_loss_35 : decode cX4_loss 35 = .ok (.lreturn, 1) := by decide +kernel
theorem dX4_leastFine_0 : decode cX4_leastFine 0 = .ok (.aload_n 0, 1) := by decide +kernel
theorem dX4_leastFine_1 : decode cX4_leastFine 1 = .ok (.invokevirtual 101, 3) := by decide +kernel
theorem dX4_leastFine_4 : decode cX4_leastFine 4 = .ok (.astore_n 1, 1) := by decide +kernel
theorem dX4_leastFine_5 : decode cX4_leastFine 5 = .ok (.aload_n 1, 1) := by decide +kernel
theorem dX4_leastFine_6 : decode cX4_leastFine 6 = .ok (.lconst 0, 1) := by decide +kernel
theorem dX4_leastFine_7 : decode cX4_leastFine 7 = .ok (.putfield 162, 3) := by decide +kernel
theorem dX4_leastFine_10 : decode cX4_leastFine 10 = .ok (.aload_n 1, 1) := by decide +kernel
theorem dX4_leastFine_11 : decode cX4_leastFine 11 = .ok (.invokevirtual 166, 3) := by decide +kernel
theorem dX4_leastFine_14 : decode cX4_leastFine 14 = .ok (.aload_n 1, 1) := by decide +kernel
theorem dX4_leastFine_15 : decode cX4_leastFine 15 = .ok (.invokevirtual 169, 3) := by decide +kernel
theorem dX4_leastFine_18 : decode cX4_leastFine 18 = .ok (.lstore_n 2, 1) := by decide +kernel
theorem dX4_leastFine_19 : decode cX4_leastFine 19 = .ok (.lload_n 2, 1) := by decide +kernel
theorem dX4_leastFine_20 : decode cX4_leastFine 20 = .ok (.lconst 0, 1) := by decide +kernel
theorem dX4_leastFine_21 : decode cX4_leastFine 21 = .ok (.lcmp, 1) := by decide +kernel
theorem dX4_leastFine_22 : decode cX4_leastFine 22 = .ok (.ifCond .gt 5, 3) := by decide +kernel
theorem dX4_leastFine_25 : decode cX4_leastFine 25 = .ok (.iconst 0, 1) := by decide +kernel
theorem dX4_leastFine_26 : decode cX4_leastFine 26 = .ok (.ireturn, 1) := by decide +kernel
theorem dX4_leastFine_27 : decode cX4_leastFine 27 = .ok (.aload_n 0, 1) := by decide +kernel
theorem dX4_leastFine_28 : decode cX4_leastFine 28 = .ok (.getfield 39, 3) := by decide +kernel
theorem dX4_leastFine_31 : decode cX4_leastFine 31 = .ok (.iconst 4, 1) := by decide +kernel
theorem dX4_leastFine_32 : decode cX4_leastFine 32 = .ok (.iaload, 1) := by decide +kernel
theorem dX4_leastFine_33 : decode cX4_leastFine 33 = .ok (.ifCond .ne 5, 3) := by decide +kernel
theorem dX4_leastFine_36 : decode cX4_leastFine 36 = .ok (.iconst (-1), 1) := by decide +kernel
theorem dX4_leastFine_37 : decode cX4_leastFine 37 = .ok (.ireturn, 1) := by decide +kernel
theorem dX4_leastFine_38 : decode cX4_leastFine 38 = .ok (.lload_n 2, 1) := by decide +kernel
theorem dX4_leastFine_39 : decode cX4_leastFine 39 = .ok (.aload_n 0, 1) := by decide +kernel
theorem dX4_leastFine_40 : decode cX4_leastFine 40 = .ok (.getfield 39, 3) := by decide +kernel
theorem dX4_leastFine_43 : decode cX4_leastFine 43 = .ok (.iconst 4, 1) := by decide +kernel
theorem dX4_leastFine_44 : decode cX4_leastFine 44 = .ok (.iaload, 1) := by decide +kernel
theorem dX4_leastFine_45 : decode cX4_leastFine 45 = .ok (.i2l, 1) := by decide +kernel
theorem dX4_leastFine_46 : decode cX4_leastFine 46 = .ok (.ldc2_w 172, 3) := by decide +kernel
theorem dX4_leastFine_49 : decode cX4_leastFine 49 = .ok (.lmul, 1) := by decide +kernel
theorem dX4_leastFine_50 : decode cX4_leastFine 50 = .ok (.invokestatic 174, 3) := by decide +kernel
theorem dX4_leastFine_53 : decode cX4_leastFine 53 = .ok (.lstore 4, 2) := by decide +kernel
theorem dX4_leastFine_55 : decode cX4_leastFine 55 = .ok (.lload 4, 2) := by decide +kernel
theorem dX4_leastFine_57 : decode cX4_leastFine 57 = .ok (.getstatic 84, 3) := by decide +kernel
theorem dX4_leastFine_60 : decode cX4_leastFine 60 = .ok (.iconst 3, 1) := by decide +kernel
theorem dX4_leastFine_61 : decode cX4_leastFine 61 = .ok (.iaload, 1) := by decide +kernel
theorem dX4_leastFine_62 : decode cX4_leastFine 62 = .ok (.i2l, 1) := by decide +kernel
theorem dX4_leastFine_63 : decode cX4_leastFine 63 = .ok (.lcmp, 1) := by decide +kernel
theorem dX4_leastFine_64 : decode cX4_leastFine 64 = .ok (.ifCond .le 7, 3) := by decide +kernel
theorem dX4_leastFine_67 : decode cX4_leastFine 67 = .ok (.iconst (-1), 1) := by decide +kernel
theorem dX4_leastFine_68 : decode cX4_leastFine 68 = .ok (.goto 6, 3) := by decide +kernel
theorem dX4_leastFine_71 : decode cX4_leastFine 71 = .ok (.lload 4, 2) := by decide +kernel
theorem dX4_leastFine_73 : decode cX4_leastFine 73 = .ok (.l2i, 1) := by decide +kernel
theorem dX4_leastFine_74 : decode cX4_leastFine 74 = .ok (.ireturn, 1) := by decide +kernel
theorem dX4_bestCap_0 : decode cX4_bestCap 0 = .ok (.iload_n 1, 1) := by decide +kernel
theorem dX4_bestCap_1 : decode cX4_bestCap 1 = .ok (.ifCond .lt 8, 3) := by decide +kernel
theorem dX4_bestCap_4 : decode cX4_bestCap 4 = .ok (.iload_n 1, 1) := by decide +kernel
theorem dX4_bestCap_5 : decode cX4_bestCap 5 = .ok (.iconst 2, 1) := by decide +kernel
theorem dX4_bestCap_6 : decode cX4_bestCap 6 = .ok (.if_icmp .le 9, 3) := by decide +kernel
theorem dX4_bestCap_9 : decode cX4_bestCap 9 = .ok (.bipush (-2), 2) := by decide +kernel
theorem dX4_bestCap_11 : decode cX4_bestCap 11 = .ok (.invokestatic 111, 3) := by decide +kernel
theorem dX4_bestCap_14 : decode cX4_bestCap 14 = .ok (.lreturn, 1) := by decide +kernel
theorem dX4_bestCap_15 : decode cX4_bestCap 15 = .ok (.aload_n 0, 1) := by decide +kernel
theorem dX4_bestCap_16 : decode cX4_bestCap 16 = .ok (.invokevirtual 178, 3) := by decide +kernel
theorem dX4_bestCap_19 : decode cX4_bestCap 19 = .ok (.istore_n 2, 1) := by decide +kernel
theorem dX4_bestCap_20 : decode cX4_bestCap 20 = .ok (.iload_n 1, 1) := by decide +kernel
theorem dX4_bestCap_21 : decode cX4_bestCap 21 = .ok (.iconst 2, 1) := by decide +kernel
theorem dX4_bestCap_22 : decode cX4_bestCap 22 = .ok (.if_icmp .ne 6, 3) := by decide +kernel
theorem dX4_bestCap_25 : decode cX4_bestCap 25 = .ok (.iload_n 2, 1) := by decide +kernel
theorem dX4_bestCap_26 : decode cX4_bestCap 26 = .ok (.i2l, 1) := by decide +kernel
theorem dX4_bestCap_27 : decode cX4_bestCap 27 = .ok (.lreturn, 1) := by decide +kernel
theorem dX4_bestCap_28 : decode cX4_bestCap 28 = .ok (.iload_n 2, 1) := by decide +kernel
theorem dX4_bestCap_29 : decode cX4_bestCap 29 = .ok (.iconst (-1), 1) := by decide +kernel
theorem dX4_bestCap_30 : decode cX4_bestCap 30 = .ok (.if_icmp .eq 11, 3) := by decide +kernel
theorem dX4_bestCap_33 : decode cX4_bestCap 33 = .ok (.aload_n 0, 1) := by decide +kernel
theorem dX4_bestCap_34 : decode cX4_bestCap 34 = .ok (.iload_n 2, 1) := by decide +kernel
theorem dX4_bestCap_35 : decode cX4_bestCap 35 = .ok (.invokevirtual 181, 3) := by decide +kernel
theorem dX4_bestCap_38 : decode cX4_bestCap 38 = .ok (.ifCond .ne 9, 3) := by decide +kernel
theorem dX4_bestCap_41 : decode cX4_bestCap 41 = .ok (.bipush (-3), 2) := by decide +kernel
theorem dX4_bestCap_43 : decode cX4_bestCap 43 = .ok (.invokestatic 111, 3) := by decide +kernel
theorem dX4_bestCap_46 : decode cX4_bestCap 46 = .ok (.lreturn, 1) := by decide +kernel
theorem dX4_bestCap_47 : decode cX4_bestCap 47 = .ok (.aload_n 0, 1) := by decide +kernel
theorem dX4_bestCap_48 : decode cX4_bestCap 48 = .ok (.getfield 28, 3) := by decide +kernel
theorem dX4_bestCap_51 : decode cX4_bestCap 51 = .ok (.invokevirtual 158, 3) := by decide +kernel
theorem dX4_bestCap_54 : decode cX4_bestCap 54 = .ok (.iload_n 1, 1) := by decide +kernel
theorem dX4_bestCap_55 : decode cX4_bestCap 55 = .ok (.invokestatic 118, 3) := by decide +kernel
theorem dX4_bestCap_58 : decode cX4_bestCap 58 = .ok (.lreturn, 1) := by decide +kernel
theorem dX4_edge_0 : decode cX4_edge 0 = .ok (.aload_n 0, 1) := by decide +kernel
theorem dX4_edge_1 : decode cX4_edge 1 = .ok (.iload_n 1, 1) := by decide +kernel
theorem dX4_edge_2 : decode cX4_edge 2 = .ok (.invokevirtual 67, 3) := by decide +kernel
theorem dX4_edge_5 : decode cX4_edge 5 = .ok (.ifCond .eq 6, 3) := by decide +kernel
theorem dX4_edge_8 : decode cX4_edge 8 = .ok (.bipush (-2), 2) := by decide +kernel
theorem dX4_edge_10 : decode cX4_edge 10 = .ok (.ireturn, 1) := by decide +kernel
theorem dX4_edge_11 : decode cX4_edge 11 = .ok (.aload_n 0, 1) := by decide +kernel
theorem dX4_edge_12 : decode cX4_edge 12 = .ok (.invokevirtual 101, 3) := by decide +kernel
theorem dX4_edge_15 : decode cX4_edge 15 = .ok (.iload_n 1, 1) := by decide +kernel
theorem dX4_edge_16 : decode cX4_edge 16 = .ok (.invokevirtual 184, 3) := by decide +kernel
theorem dX4_edge_19 : decode cX4_edge 19 = .ok (.lstore_n 2, 1) := by decide +kernel
theorem dX4_edge_20 : decode cX4_edge 20 = .ok (.lload_n 2, 1) := by decide +kernel
theorem dX4_edge_21 : decode cX4_edge 21 = .ok (.ldc2_w 187, 3) := by decide +kernel
theorem dX4_edge_24 : decode cX4_edge 24 = .ok (.lcmp, 1) := by decide +kernel
theorem dX4_edge_25 : decode cX4_edge 25 = .ok (.ifCond .le 7, 3) := by decide +kernel
theorem dX4_edge_28 : decode cX4_edge 28 = .ok (.iconst (-1), 1) := by decide +kernel
theorem dX4_edge_29 : decode cX4_edge 29 = .ok (.goto 5, 3) := by decide +kernel
theorem dX4_edge_32 : decode cX4_edge 32 = .ok (.lload_n 2, 1) := by decide +kernel
theorem dX4_edge_33 : decode cX4_edge 33 = .ok (.l2i, 1) := by decide +kernel
theorem dX4_edge_34 : decode cX4_edge 34 = .ok (.ireturn, 1) := by decide +kernel
theorem dX4_always_0 : decode cX4_always 0 = .ok (.aload_n 0, 1) := by decide +kernel
theorem dX4_always_1 : decode cX4_always 1 = .ok (.iload_n 1, 1) := by decide +kernel
theorem dX4_always_2 : decode cX4_always 2 = .ok (.invokevirtual 67, 3) := by decide +kernel
theorem dX4_always_5 : decode cX4_always 5 = .ok (.ifCond .ne 10, 3) := by decide +kernel
theorem dX4_always_8 : decode cX4_always 8 = .ok (.iload_n 2, 1) := by decide +kernel
theorem dX4_always_9 : decode cX4_always 9 = .ok (.invokestatic 108, 3) := by decide +kernel
theorem dX4_always_12 : decode cX4_always 12 = .ok (.ifCond .eq 9, 3) := by decide +kernel
theorem dX4_always_15 : decode cX4_always 15 = .ok (.bipush (-2), 2) := by decide +kernel
theorem dX4_always_17 : decode cX4_always 17 = .ok (.invokestatic 111, 3) := by decide +kernel
theorem dX4_always_20 : decode cX4_always 20 = .ok (.lreturn, 1) := by decide +kernel
theorem dX4_always_21 : decode cX4_always 21 = .ok (.aload_n 0, 1) := by decide +kernel
theorem dX4_always_22 : decode cX4_always 22 = .ok (.invokevirtual 101, 3) := by decide +kernel
theorem dX4_always_25 : decode cX4_always 25 = .ok (.astore_n 3, 1) := by decide +kernel
theorem dX4_always_26 : decode cX4_always 26 = .ok (.aload_n 3, 1) := by decide +kernel
theorem dX4_always_27 : decode cX4_always 27 = .ok (.iload_n 1, 1) := by decide +kernel
theorem dX4_always_28 : decode cX4_always 28 = .ok (.iconst 3, 1) := by decide +kernel
theorem dX4_always_29 : decode cX4_always 29 = .ok (.invokevirtual 189, 3) := by decide +kernel
theorem dX4_always_32 : decode cX4_always 32 = .ok (.aload_n 3, 1) := by decide +kernel
theorem dX4_always_33 : decode cX4_always 33 = .ok (.iload_n 1, 1) := by decide +kernel
theorem dX4_always_34 : decode cX4_always 34 = .ok (.putfield 193, 3) := by decide +kernel
theorem dX4_always_37 : decode cX4_always 37 = .ok (.aload_n 3, 1) := by decide +kernel
theorem dX4_always_38 : decode cX4_always 38 = .ok (.invokevirtual 128, 3) := by decide +kernel
theorem dX4_always_41 : decode cX4_always 41 = .ok (.ifCond .ne 9, 3) := by decide +kernel
theorem dX4_always_44 : decode cX4_always 44 = .ok (.bipush (-3), 2) := by decide +kernel
theorem dX4_always_46 : decode cX4_always 46 = .ok (.invokestatic 111, 3) := by decide +kernel
theorem dX4_always_49 : decode cX4_always 49 = .ok (.lreturn, 1) := by decide +kernel
theorem dX4_always_50 : decode cX4_always 50 = .ok (.aload_n 3, 1) := by decide +kernel
theorem dX4_always_51 : decode cX4_always 51 = .ok (.iload_n 1, 1) := by decide +kernel
theorem dX4_always_52 : decode cX4_always 52 = .ok (.invokevirtual 115, 3) := by decide +kernel
theorem dX4_always_55 : decode cX4_always 55 = .ok (.lstore 4, 2) := by decide +kernel
theorem dX4_always_57 : decode cX4_always 57 = .ok (.aload_n 0, 1) := by decide +kernel
theorem dX4_always_58 : decode cX4_always 58 = .ok (.invokevirtual 101, 3) := by decide +kernel
theorem dX4_always_61 : decode cX4_always 61 = .ok (.astore_n 3, 1) := by decide +kernel
theorem dX4_always_62 : decode cX4_always 62 = .ok (.aload_n 3, 1) := by decide +kernel
theorem dX4_always_63 : decode cX4_always 63 = .ok (.invokevirtual 128, 3) := by decide +kernel
theorem dX4_always_66 : decode cX4_always 66 = .ok (.ifCond .ne 9, 3) := by decide +kernel
theorem dX4_always_69 : decode cX4_always 69 = .ok (.bipush (-3), 2) := by decide +kernel
theorem dX4_always_71 : decode cX4_always 71 = .ok (.invokestatic 111, 3) := by decide +kernel
theorem dX4_always_74 : decode cX4_always 74 = .ok (.lreturn, 1) := by decide +kernel
theorem dX4_always_75 : decode cX4_always 75 = .ok (.lload 4, 2) := by decide +kernel
theorem dX4_always_77 : decode cX4_always 77 = .ok (.aload_n 3, 1) := by decide +kernel
theorem dX4_always_78 : decode cX4_always 78 = .ok (.iload_n 1, 1) := by decide +kernel
theorem dX4_always_79 : decode cX4_always 79 = .ok (.invokevirtual 115, 3) := by decide +kernel
theorem dX4_always_82 : decode cX4_always 82 = .ok (.lsub, 1) := by decide +kernel
theorem dX4_always_83 : decode cX4_always 83 = .ok (.iload_n 2, 1) := by decide +kernel
theorem dX4_always_84 : decode cX4_always 84 = .ok (.invokestatic 118, 3) := by decide +kernel
theorem dX4_always_87 : decode cX4_always 87 = .ok (.lreturn, 1) := by decide +kernel
theorem dX4_turn_0 : decode cX4_turn 0 = .ok (.iload_n 1, 1) := by decide +kernel
theorem dX4_turn_1 : decode cX4_turn 1 = .ok (.ifCond .lt 19, 3) := by decide +kernel
theorem dX4_turn_4 : decode cX4_turn 4 = .ok (.iload_n 1, 1) := by decide +kernel
theorem dX4_turn_5 : decode cX4_turn 5 = .ok (.bipush 6, 2) := by decide +kernel
theorem dX4_turn_7 : decode cX4_turn 7 = .ok (.if_icmp .ge 13, 3) := by decide +kernel
theorem dX4_turn_10 : decode cX4_turn 10 = .ok (.iload_n 2, 1) := by decide +kernel
theorem dX4_turn_11 : decode cX4_turn 11 = .ok (.ifCond .lt 9, 3) := by decide +kernel
theorem dX4_turn_14 : decode cX4_turn 14 = .ok (.iload_n 2, 1) := by decide +kernel
theorem dX4_turn_15 : decode cX4_turn 15 = .ok (.bipush 32, 2) := by decide +kernel
theorem dX4_turn_17 : decode cX4_turn 17 = .ok (.if_icmp .lt 6, 3) := by decide +kernel
theorem dX4_turn_20 : decode cX4_turn 20 = .ok (.bipush (-2), 2) := by decide +kernel
theorem dX4_turn_22 : decode cX4_turn 22 = .ok (.ireturn, 1) := by decide +kernel
theorem dX4_turn_23 : decode cX4_turn 23 = .ok (.aload_n 0, 1) := by decide +kernel
theorem dX4_turn_24 : decode cX4_turn 24 = .ok (.getfield 46, 3) := by decide +kernel
theorem dX4_turn_27 : decode cX4_turn 27 = .ok (.iload_n 1, 1) := by decide +kernel
theorem dX4_turn_28 : decode cX4_turn 28 = .ok (.iaload, 1) := by decide +kernel
theorem dX4_turn_29 : decode cX4_turn 29 = .ok (.istore_n 3, 1) := by decide +kernel
theorem dX4_turn_30 : decode cX4_turn 30 = .ok (.aload_n 0, 1) := by decide +kernel
theorem dX4_turn_31 : decode cX4_turn 31 = .ok (.getfield 46, 3) := by decide +kernel
theorem dX4_turn_34 : decode cX4_turn 34 = .ok (.iload_n 1, 1) := by decide +kernel
theorem dX4_turn_35 : decode cX4_turn 35 = .ok (.iload_n 2, 1) := by decide +kernel
theorem dX4_turn_36 : decode cX4_turn 36 = .ok (.iastore, 1) := by decide +kernel
theorem dX4_turn_37 : decode cX4_turn 37 = .ok (.iload_n 3, 1) := by decide +kernel
theorem dX4_turn_38 : decode cX4_turn 38 = .ok (.ireturn, 1) := by decide +kernel
end
section
theorem dX4_keeps_0 : decode cX4_keeps 0 = .ok (.iload_n 1, 1) := by decide +kernel
theorem dX4_keeps_1 : decode cX4_keeps 1 = .ok (.ifCond .lt 8, 3) := by decide +kernel
theorem dX4_keeps_4 : decode cX4_keeps 4 = .ok (.iload_n 1, 1) := by decide +kernel
theorem dX4_keeps_5 : decode cX4_keeps 5 = .ok (.iconst 1, 1) := by decide +kernel
theorem dX4_keeps_6 : decode cX4_keeps 6 = .ok (.if_icmp .le 6, 3) := by decide +kernel
theorem dX4_keeps_9 : decode cX4_keeps 9 = .ok (.bipush (-2), 2) := by decide +kernel
theorem dX4_keeps_11 : decode cX4_keeps 11 = .ok (.ireturn, 1) := by decide +kernel
theorem dX4_keeps_12 : decode cX4_keeps 12 = .ok (.aload_n 0, 1) := by decide +kernel
theorem dX4_keeps_13 : decode cX4_keeps 13 = .ok (.invokevirtual 101, 3) := by decide +kernel
theorem dX4_keeps_16 : decode cX4_keeps 16 = .ok (.astore_n 2, 1) := by decide +kernel
theorem dX4_keeps_17 : decode cX4_keeps 17 = .ok (.iconst 0, 1) := by decide +kernel
theorem dX4_keeps_18 : decode cX4_keeps 18 = .ok (.istore_n 3, 1) := by decide +kernel
theorem dX4_keeps_19 : decode cX4_keeps 19 = .ok (.iload_n 3, 1) := by decide +kernel
theorem dX4_keeps_20 : decode cX4_keeps 20 = .ok (.bipush 6, 2) := by decide +kernel
theorem dX4_keeps_22 : decode cX4_keeps 22 = .ok (.if_icmp .ge 42, 3) := by decide +kernel
theorem dX4_keeps_25 : decode cX4_keeps 25 = .ok (.aload_n 2, 1) := by decide +kernel
theorem dX4_keeps_26 : decode cX4_keeps 26 = .ok (.aload_n 0, 1) := by decide +kernel
theorem dX4_keeps_27 : decode cX4_keeps 27 = .ok (.getfield 46, 3) := by decide +kernel
theorem dX4_keeps_30 : decode cX4_keeps 30 = .ok (.iload_n 3, 1) := by decide +kernel
theorem dX4_keeps_31 : decode cX4_keeps 31 = .ok (.iaload, 1) := by decide +kernel
theorem dX4_keeps_32 : decode cX4_keeps 32 = .ok (.invokevirtual 196, 3) := by decide +kernel
theorem dX4_keeps_35 : decode cX4_keeps 35 = .ok (.aload_n 2, 1) := by decide +kernel
theorem dX4_keeps_36 : decode cX4_keeps 36 = .ok (.invokevirtual 148, 3) := by decide +kernel
theorem dX4_keeps_39 : decode cX4_keeps 39 = .ok (.istore 4, 2) := by decide +kernel
theorem dX4_keeps_41 : decode cX4_keeps 41 = .ok (.iload 4, 2) := by decide +kernel
theorem dX4_keeps_43 : decode cX4_keeps 43 = .ok (.iconst (-1), 1) := by decide +kernel
theorem dX4_keeps_44 : decode cX4_keeps 44 = .ok (.if_icmp .eq 14, 3) := by decide +kernel
theorem dX4_keeps_47 : decode cX4_keeps 47 = .ok (.iload_n 1, 1) := by decide +kernel
theorem dX4_keeps_48 : decode cX4_keeps 48 = .ok (.ifCond .ne 7, 3) := by decide +kernel
theorem dX4_keeps_51 : decode cX4_keeps 51 = .ok (.iload_n 3, 1) := by decide +kernel
theorem dX4_keeps_52 : decode cX4_keeps 52 = .ok (.goto 5, 3) := by decide +kernel
theorem dX4_keeps_55 : decode cX4_keeps 55 = .ok (.iload 4, 2) := by decide +kernel
theorem dX4_keeps_57 : decode cX4_keeps 57 = .ok (.ireturn, 1) := by decide +kernel
theorem dX4_keeps_58 : decode cX4_keeps 58 = .ok (.iinc 3 1, 3) := by decide +kernel
theorem dX4_keeps_61 : decode cX4_keeps 61 = .ok (.goto (-42), 3) := by decide +kernel
theorem dX4_keeps_64 : decode cX4_keeps 64 = .ok (.iconst (-1), 1) := by decide +kernel
theorem dX4_keeps_65 : decode cX4_keeps 65 = .ok (.ireturn, 1) := by decide +kernel
theorem dX4_week_0 : decode cX4_week 0 = .ok (.aload_n 0, 1) := by decide +kernel
theorem dX4_week_1 : decode cX4_week 1 = .ok (.iload_n 1, 1) := by decide +kernel
theorem dX4_week_2 : decode cX4_week 2 = .ok (.invokevirtual 67, 3) := by decide +kernel
theorem dX4_week_5 : decode cX4_week 5 = .ok (.ifCond .ne 10, 3) := by decide +kernel
theorem dX4_week_8 : decode cX4_week 8 = .ok (.iload_n 2, 1) := by decide +kernel
theorem dX4_week_9 : decode cX4_week 9 = .ok (.invokestatic 108, 3) := by decide +kernel
theorem dX4_week_12 : decode cX4_week 12 = .ok (.ifCond .eq 9, 3) := by decide +kernel
theorem dX4_week_15 : decode cX4_week 15 = .ok (.bipush (-2), 2) := by decide +kernel
theorem dX4_week_17 : decode cX4_week 17 = .ok (.invokestatic 111, 3) := by decide +kernel
theorem dX4_week_20 : decode cX4_week 20 = .ok (.lreturn, 1) := by decide +kernel
theorem dX4_week_21 : decode cX4_week 21 = .ok (.aload_n 0, 1) := by decide +kernel
theorem dX4_week_22 : decode cX4_week 22 = .ok (.invokevirtual 101, 3) := by decide +kernel
theorem dX4_week_25 : decode cX4_week 25 = .ok (.astore_n 3, 1) := by decide +kernel
theorem dX4_week_26 : decode cX4_week 26 = .ok (.lconst 0, 1) := by decide +kernel
theorem dX4_week_27 : decode cX4_week 27 = .ok (.lstore 4, 2) := by decide +kernel
theorem dX4_week_29 : decode cX4_week 29 = .ok (.iconst 0, 1) := by decide +kernel
theorem dX4_week_30 : decode cX4_week 30 = .ok (.istore 6, 2) := by decide +kernel
theorem dX4_week_32 : decode cX4_week 32 = .ok (.iload 6, 2) := by decide +kernel
theorem dX4_week_34 : decode cX4_week 34 = .ok (.bipush 6, 2) := by decide +kernel
theorem dX4_week_36 : decode cX4_week 36 = .ok (.if_icmp .ge 30, 3) := by decide +kernel
theorem dX4_week_39 : decode cX4_week 39 = .ok (.aload_n 3, 1) := by decide +kernel
theorem dX4_week_40 : decode cX4_week 40 = .ok (.aload_n 0, 1) := by decide +kernel
theorem dX4_week_41 : decode cX4_week 41 = .ok (.getfield 46, 3) := by decide +kernel
theorem dX4_week_44 : decode cX4_week 44 = .ok (.iload 6, 2) := by decide +kernel
theorem dX4_week_46 : decode cX4_week 46 = .ok (.iaload, 1) := by decide +kernel
theorem dX4_week_47 : decode cX4_week 47 = .ok (.invokevirtual 196, 3) := by decide +kernel
theorem dX4_week_50 : decode cX4_week 50 = .ok (.lload 4, 2) := by decide +kernel
theorem dX4_week_52 : decode cX4_week 52 = .ok (.aload_n 3, 1) := by decide +kernel
theorem dX4_week_53 : decode cX4_week 53 = .ok (.iload_n 1, 1) := by decide +kernel
theorem dX4_week_54 : decode cX4_week 54 = .ok (.invokevirtual 115, 3) := by decide +kernel
theorem dX4_week_57 : decode cX4_week 57 = .ok (.ladd, 1) := by decide +kernel
theorem dX4_week_58 : decode cX4_week 58 = .ok (.lstore 4, 2) := by decide +kernel
theorem dX4_week_60 : decode cX4_week 60 = .ok (.iinc 6 1, 3) := by decide +kernel
theorem dX4_week_63 : decode cX4_week 63 = .ok (.goto (-31), 3) := by decide +kernel
theorem dX4_week_66 : decode cX4_week 66 = .ok (.lload 4, 2) := by decide +kernel
theorem dX4_week_68 : decode cX4_week 68 = .ok (.iload_n 2, 1) := by decide +kernel
theorem dX4_week_69 : decode cX4_week 69 = .ok (.invokestatic 118, 3) := by decide +kernel
theorem dX4_week_72 : decode cX4_week 72 = .ok (.lreturn, 1) := by decide +kernel
theorem dX4_weeks_0 : decode cX4_weeks 0 = .ok (.iload_n 1, 1) := by decide +kernel
theorem dX4_weeks_1 : decode cX4_weeks 1 = .ok (.ifCond .lt 19, 3) := by decide +kernel
theorem dX4_weeks_4 : decode cX4_weeks 4 = .ok (.iload_n 1, 1) := by decide +kernel
theorem dX4_weeks_5 : decode cX4_weeks 5 = .ok (.bipush 50, 2) := by decide +kernel
theorem dX4_weeks_7 : decode cX4_weeks 7 = .ok (.if_icmp .gt 13, 3) := by decide +kernel
theorem dX4_weeks_10 : decode cX4_weeks 10 = .ok (.iload_n 2, 1) := by decide +kernel
theorem dX4_weeks_11 : decode cX4_weeks 11 = .ok (.ifCond .lt 9, 3) := by decide +kernel
theorem dX4_weeks_14 : decode cX4_weeks 14 = .ok (.iload_n 2, 1) := by decide +kernel
theorem dX4_weeks_15 : decode cX4_weeks 15 = .ok (.bipush 8, 2) := by decide +kernel
theorem dX4_weeks_17 : decode cX4_weeks 17 = .ok (.if_icmp .lt 6, 3) := by decide +kernel
theorem dX4_weeks_20 : decode cX4_weeks 20 = .ok (.bipush (-2), 2) := by decide +kernel
theorem dX4_weeks_22 : decode cX4_weeks 22 = .ok (.ireturn, 1) := by decide +kernel
theorem dX4_weeks_23 : decode cX4_weeks 23 = .ok (.aload_n 0, 1) := by decide +kernel
theorem dX4_weeks_24 : decode cX4_weeks 24 = .ok (.iload_n 1, 1) := by decide +kernel
theorem dX4_weeks_25 : decode cX4_weeks 25 = .ok (.invokevirtual 199, 3) := by decide +kernel
theorem dX4_weeks_28 : decode cX4_weeks 28 = .ok (.iload_n 2, 1) := by decide +kernel
theorem dX4_weeks_29 : decode cX4_weeks 29 = .ok (.invokevirtual 202, 3) := by decide +kernel
theorem dX4_weeks_32 : decode cX4_weeks 32 = .ok (.ireturn, 1) := by decide +kernel
theorem dX4_back_0 : decode cX4_back 0 = .ok (.aload_n 0, 1) := by decide +kernel
theorem dX4_back_1 : decode cX4_back 1 = .ok (.invokevirtual 101, 3) := by decide +kernel
theorem dX4_back_4 : decode cX4_back 4 = .ok (.astore_n 1, 1) := by decide +kernel
theorem dX4_back_5 : decode cX4_back 5 = .ok (.iconst 0, 1) := by decide +kernel
theorem dX4_back_6 : decode cX4_back 6 = .ok (.istore_n 2, 1) := by decide +kernel
theorem dX4_back_7 : decode cX4_back 7 = .ok (.iload_n 2, 1) := by decide +kernel
theorem dX4_back_8 : decode cX4_back 8 = .ok (.bipush 50, 2) := by decide +kernel
theorem dX4_back_10 : decode cX4_back 10 = .ok (.if_icmp .gt 22, 3) := by decide +kernel
theorem dX4_back_13 : decode cX4_back 13 = .ok (.aload_n 1, 1) := by decide +kernel
theorem dX4_back_14 : decode cX4_back 14 = .ok (.invokevirtual 205, 3) := by decide +kernel
theorem dX4_back_17 : decode cX4_back 17 = .ok (.ifCond .ne 5, 3) := by decide +kernel
theorem dX4_back_20 : decode cX4_back 20 = .ok (.iload_n 2, 1) := by decide +kernel
theorem dX4_back_21 : decode cX4_back 21 = .ok (.ireturn, 1) := by decide +kernel
theorem dX4_back_22 : decode cX4_back 22 = .ok (.aload_n 1, 1) := by decide +kernel
theorem dX4_back_23 : decode cX4_back 23 = .ok (.invokevirtual 208, 3) := by decide +kernel
theorem dX4_back_26 : decode cX4_back 26 = .ok (.iinc 2 1, 3) := by decide +kernel
theorem dX4_back_29 : decode cX4_back 29 = .ok (.goto (-22), 3) := by decide +kernel
theorem dX4_back_32 : decode cX4_back 32 = .ok (.iconst (-1), 1) := by decide +kernel
theorem dX4_back_33 : decode cX4_back 33 = .ok (.ireturn, 1) := by decide +kernel
theorem dX4_sheet_0 : decode cX4_sheet 0 = .ok (.iload_n 1, 1) := by decide +kernel
theorem dX4_sheet_1 : decode cX4_sheet 1 = .ok (.invokestatic 211, 3) := by decide +kernel
theorem dX4_sheet_4 : decode cX4_sheet 4 = .ok (.ifCond .ne 16, 3) := by decide +kernel
theorem dX4_sheet_7 : decode cX4_sheet 7 = .ok (.iload_n 2, 1) := by decide +kernel
theorem dX4_sheet_8 : decode cX4_sheet 8 = .ok (.invokestatic 214, 3) := by decide +kernel
theorem dX4_sheet_11 : decode cX4_sheet 11 = .ok (.ifCond .ne 9, 3) := by decide +kernel
theorem dX4_sheet_14 : decode cX4_sheet 14 = .ok (.iload_n 3, 1) := by decide +kernel
theorem dX4_sheet_15 : decode cX4_sheet 15 = .ok (.bipush 60, 2) := by decide +kernel
theorem dX4_sheet_17 : decode cX4_sheet 17 = .ok (.if_icmp .le 6, 3) := by decide +kernel
theorem dX4_sheet_20 : decode cX4_sheet 20 = .ok (.bipush (-2), 2) := by decide +kernel
theorem dX4_sheet_22 : decode cX4_sheet 22 = .ok (.ireturn, 1) := by decide +kernel
theorem dX4_sheet_23 : decode cX4_sheet 23 = .ok (.iload_n 3, 1) := by decide +kernel
theorem dX4_sheet_24 : decode cX4_sheet 24 = .ok (.ifCond .ge 12, 3) := by decide +kernel
theorem dX4_sheet_27 : decode cX4_sheet 27 = .ok (.aload_n 0, 1) := by decide +kernel
theorem dX4_sheet_28 : decode cX4_sheet 28 = .ok (.getfield 35, 3) := by decide +kernel
theorem dX4_sheet_31 : decode cX4_sheet 31 = .ok (.iconst 5, 1) := by decide +kernel
theorem dX4_sheet_32 : decode cX4_sheet 32 = .ok (.invokevirtual 217, 3) := by decide +kernel
theorem dX4_sheet_35 : decode cX4_sheet 35 = .ok (.ireturn, 1) := by decide +kernel
theorem dX4_sheet_36 : decode cX4_sheet 36 = .ok (.aload_n 0, 1) := by decide +kernel
theorem dX4_sheet_37 : decode cX4_sheet 37 = .ok (.getfield 35, 3) := by decide +kernel
theorem dX4_sheet_40 : decode cX4_sheet 40 = .ok (.iload_n 1, 1) := by decide +kernel
theorem dX4_sheet_41 : decode cX4_sheet 41 = .ok (.iload_n 2, 1) := by decide +kernel
theorem dX4_sheet_42 : decode cX4_sheet 42 = .ok (.iload_n 3, 1) := by decide +kernel
theorem dX4_sheet_43 : decode cX4_sheet 43 = .ok (.invokevirtual 220, 3) := by decide +kernel
theorem dX4_sheet_46 : decode cX4_sheet 46 = .ok (.iload_n 3, 1) := by decide +kernel
theorem dX4_sheet_47 : decode cX4_sheet 47 = .ok (.ireturn, 1) := by decide +kernel
theorem dX4_lose_0 : decode cX4_lose 0 = .ok (.aload_n 0, 1) := by decide +kernel
theorem dX4_lose_1 : decode cX4_lose 1 = .ok (.getfield 35, 3) := by decide +kernel
theorem dX4_lose_4 : decode cX4_lose 4 = .ok (.iload_n 1, 1) := by decide +kernel
theorem dX4_lose_5 : decode cX4_lose 5 = .ok (.invokevirtual 87, 3) := by decide +kernel
theorem dX4_lose_8 : decode cX4_lose 8 = .ok (.istore_n 2, 1) := by decide +kernel
theorem dX4_lose_9 : decode cX4_lose 9 = .ok (.iload_n 2, 1) := by decide +kernel
theorem dX4_lose_10 : decode cX4_lose 10 = .ok (.ifCond .eq 5, 3) := by decide +kernel
theorem dX4_lose_13 : decode cX4_lose 13 = .ok (.iload_n 2, 1) := by decide +kernel
theorem dX4_lose_14 : decode cX4_lose 14 = .ok (.ireturn, 1) := by decide +kernel
theorem dX4_lose_15 : decode cX4_lose 15 = .ok (.aload_n 0, 1) := by decide +kernel
theorem dX4_lose_16 : decode cX4_lose 16 = .ok (.getfield 35, 3) := by decide +kernel
theorem dX4_lose_19 : decode cX4_lose 19 = .ok (.getfield 224, 3) := by decide +kernel
theorem dX4_lose_22 : decode cX4_lose 22 = .ok (.iload_n 1, 1) := by decide +kernel
theorem dX4_lose_23 : decode cX4_lose 23 = .ok (.iconst (-1), 1) := by decide +kernel
theorem dX4_lose_24 : decode cX4_lose 24 = .ok (.iastore, 1) := by decide +kernel
theorem dX4_lose_25 : decode cX4_lose 25 = .ok (.aload_n 0, 1) := by decide +kernel
theorem dX4_lose_26 : decode cX4_lose 26 = .ok (.getfield 35, 3) := by decide +kernel
theorem dX4_lose_29 : decode cX4_lose 29 = .ok (.getfield 91, 3) := by decide +kernel
theorem dX4_lose_32 : decode cX4_lose 32 = .ok (.iload_n 1, 1) := by decide +kernel
theorem dX4_lose_33 : decode cX4_lose 33 = .ok (.iaload, 1) := by decide +kernel
theorem dX4_lose_34 : decode cX4_lose 34 = .ok (.ireturn, 1) := by decide +kernel
theorem dX4_lay_0 : decode cX4_lay 0 = .ok (.aload_n 0, 1) := by decide +kernel
theorem dX4_lay_1 : decode cX4_lay 1 = .ok (.getfield 35, 3) := by decide +kernel
theorem dX4_lay_4 : decode cX4_lay 4 = .ok (.iload_n 1, 1) := by decide +kernel
theorem dX4_lay_5 : decode cX4_lay 5 = .ok (.iload_n 2, 1) := by decide +kernel
theorem dX4_lay_6 : decode cX4_lay 6 = .ok (.iload_n 3, 1) := by decide +kernel
theorem dX4_lay_7 : decode cX4_lay 7 = .ok (.invokevirtual 227, 3) := by decide +kernel
theorem dX4_lay_10 : decode cX4_lay 10 = .ok (.istore 5, 2) := by decide +kernel
theorem dX4_lay_12 : decode cX4_lay 12 = .ok (.iload 5, 2) := by decide +kernel
theorem dX4_lay_14 : decode cX4_lay 14 = .ok (.ifCond .eq 6, 3) := by decide +kernel
theorem dX4_lay_17 : decode cX4_lay 17 = .ok (.iload 5, 2) := by decide +kernel
theorem dX4_lay_19 : decode cX4_lay 19 = .ok (.ireturn, 1) := by decide +kernel
theorem dX4_lay_20 : decode cX4_lay 20 = .ok (.aload_n 0, 1) := by decide +kernel
theorem dX4_lay_21 : decode cX4_lay 21 = .ok (.getfield 35, 3) := by decide +kernel
theorem dX4_lay_24 : decode cX4_lay 24 = .ok (.iload_n 1, 1) := by decide +kernel
theorem dX4_lay_25 : decode cX4_lay 25 = .ok (.iload_n 3, 1) := by decide +kernel
theorem dX4_lay_26 : decode cX4_lay 26 = .ok (.iload 4, 2) := by decide +kernel
theorem dX4_lay_28 : decode cX4_lay 28 = .ok (.invokevirtual 231, 3) := by decide +kernel
theorem dX4_lay_31 : decode cX4_lay 31 = .ok (.iconst 1, 1) := by decide +kernel
theorem dX4_lay_32 : decode cX4_lay 32 = .ok (.ireturn, 1) := by decide +kernel
theorem dX4_get_0 : decode cX4_get 0 = .ok (.aload_n 0, 1) := by decide +kernel
theorem dX4_get_1 : decode cX4_get 1 = .ok (.getfield 35, 3) := by decide +kernel
theorem dX4_get_4 : decode cX4_get 4 = .ok (.iload_n 1, 1) := by decide +kernel
theorem dX4_get_5 : decode cX4_get 5 = .ok (.iload_n 2, 1) := by decide +kernel
theorem dX4_get_6 : decode cX4_get 6 = .ok (.iload_n 3, 1) := by decide +kernel
theorem dX4_get_7 : decode cX4_get 7 = .ok (.invokevirtual 227, 3) := by decide +kernel
theorem dX4_get_10 : decode cX4_get 10 = .ok (.ifCond .eq 6, 3) := by decide +kernel
theorem dX4_get_13 : decode cX4_get 13 = .ok (.ldc 236, 2) := by decide +kernel
theorem dX4_get_15 : decode cX4_get 15 = .ok (.ireturn, 1) := by decide +kernel
theorem dX4_get_16 : decode cX4_get 16 = .ok (.aload_n 0, 1) := by decide +kernel
theorem dX4_get_17 : decode cX4_get 17 = .ok (.getfield 35, 3) := by decide +kernel
theorem dX4_get_20 : decode cX4_get 20 = .ok (.getfield 98, 3) := by decide +kernel
theorem dX4_get_23 : decode cX4_get 23 = .ok (.iload_n 1, 1) := by decide +kernel
theorem dX4_get_24 : decode cX4_get 24 = .ok (.aaload, 1) := by decide +kernel
theorem dX4_get_25 : decode cX4_get 25 = .ok (.iload_n 3, 1) := by decide +kernel
theorem dX4_get_26 : decode cX4_get 26 = .ok (.iaload, 1) := by decide +kernel
theorem dX4_get_27 : decode cX4_get 27 = .ok (.ireturn, 1) := by decide +kernel
theorem dX4_copy_0 : decode cX4_copy 0 = .ok (.iload_n 1, 1) := by decide +kernel
theorem dX4_copy_1 : decode cX4_copy 1 = .ok (.invokestatic 211, 3) := by decide +kernel
theorem dX4_copy_4 : decode cX4_copy 4 = .ok (.ifCond .ne 10, 3) := by decide +kernel
theorem dX4_copy_7 : decode cX4_copy 7 = .ok (.iload_n 3, 1) := by decide +kernel
theorem dX4_copy_8 : decode cX4_copy 8 = .ok (.invokestatic 211, 3) := by decide +kernel
theorem dX4_copy_11 : decode cX4_copy 11 = .ok (.ifCond .eq 6, 3) := by decide +kernel
theorem dX4_copy_14 : decode cX4_copy 14 = .ok (.bipush (-2), 2) := by decide +kernel
theorem dX4_copy_16 : decode cX4_copy 16 = .ok (.ireturn, 1) := by decide +kernel
theorem dX4_copy_17 : decode cX4_copy 17 = .ok (.aload_n 0, 1) := by decide +kernel
theorem dX4_copy_18 : decode cX4_copy 18 = .ok (.getfield 35, 3) := by decide +kernel
theorem dX4_copy_21 : decode cX4_copy 21 = .ok (.getfield 224, 3) := by decide +kernel
theorem dX4_copy_24 : decode cX4_copy 24 = .ok (.iload_n 1, 1) := by decide +kernel
theorem dX4_copy_25 : decode cX4_copy 25 = .ok (.iaload, 1) := by decide +kernel
theorem dX4_copy_26 : decode cX4_copy 26 = .ok (.iconst (-1), 1) := by decide +kernel
theorem dX4_copy_27 : decode cX4_copy 27 = .ok (.if_icmp .eq 16, 3) := by decide +kernel
theorem dX4_copy_30 : decode cX4_copy 30 = .ok (.aload_n 0, 1) := by decide +kernel
theorem dX4_copy_31 : decode cX4_copy 31 = .ok (.getfield 35, 3) := by decide +kernel
theorem dX4_copy_34 : decode cX4_copy 34 = .ok (.getfield 224, 3) := by decide +kernel
theorem dX4_copy_37 : decode cX4_copy 37 = .ok (.iload_n 3, 1) := by decide +kernel
theorem dX4_copy_38 : decode cX4_copy 38 = .ok (.iaload, 1) := by decide +kernel
theorem dX4_copy_39 : decode cX4_copy 39 = .ok (.iconst (-1), 1) := by decide +kernel
theorem dX4_copy_40 : decode cX4_copy 40 = .ok (.if_icmp .ne 12, 3) := by decide +kernel
theorem dX4_copy_43 : decode cX4_copy 43 = .ok (.aload_n 0, 1) := by decide +kernel
theorem dX4_copy_44 : decode cX4_copy 44 = .ok (.getfield 35, 3) := by decide +kernel
theorem dX4_copy_47 : decode cX4_copy 47 = .ok (.iconst 1, 1) := by decide +kernel
theorem dX4_copy_48 : decode cX4_copy 48 = .ok (.invokevirtual 217, 3) := by decide +kernel
theorem dX4_copy_51 : decode cX4_copy 51 = .ok (.ireturn, 1) := by decide +kernel
theorem dX4_copy_52 : decode cX4_copy 52 = .ok (.aload_n 0, 1) := by decide +kernel
theorem dX4_copy_53 : decode cX4_copy 53 = .ok (.getfield 35, 3) := by decide +kernel
theorem dX4_copy_56 : decode cX4_copy 56 = .ok (.getfield 224, 3) := by decide +kernel
theorem dX4_copy_59 : decode cX4_copy 59 = .ok (.iload_n 1, 1) := by decide +kernel
theorem dX4_copy_60 : decode cX4_copy 60 = .ok (.iaload, 1) := by decide +kernel
theorem dX4_copy_61 : decode cX4_copy 61 = .ok (.aload_n 0, 1) := by decide +kernel
theorem dX4_copy_62 : decode cX4_copy 62 = .ok (.getfield 35, 3) := by decide +kernel
theorem dX4_copy_65 : decode cX4_copy 65 = .ok (.getfield 224, 3) := by decide +kernel
theorem dX4_copy_68 : decode cX4_copy 68 = .ok (.iload_n 3, 1) := by decide +kernel
theorem dX4_copy_69 : decode cX4_copy 69 = .ok (.iaload, 1) := by decide +kernel
theorem dX4_copy_70 : decode cX4_copy 70 = .ok (.if_icmp .eq 12, 3) := by decide +kernel
theorem dX4_copy_73 : decode cX4_copy 73 = .ok (.aload_n 0, 1) := by decide +kernel
theorem dX4_copy_74 : decode cX4_copy 74 = .ok (.getfield 35, 3) := by decide +kernel
theorem dX4_copy_77 : decode cX4_copy 77 = .ok (.iconst 4, 1) := by decide +kernel
theorem dX4_copy_78 : decode cX4_copy 78 = .ok (.invokevirtual 217, 3) := by decide +kernel
theorem dX4_copy_81 : decode cX4_copy 81 = .ok (.ireturn, 1) := by decide +kernel
theorem dX4_copy_82 : decode cX4_copy 82 = .ok (.aload_n 0, 1) := by decide +kernel
theorem dX4_copy_83 : decode cX4_copy 83 = .ok (.getfield 35, 3) := by decide +kernel
theorem dX4_copy_86 : decode cX4_copy 86 = .ok (.iload_n 1, 1) := by decide +kernel
theorem dX4_copy_87 : decode cX4_copy 87 = .ok (.iload_n 2, 1) := by decide +kernel
theorem dX4_copy_88 : decode cX4_copy 88 = .ok (.iload 5, 2) := by decide +kernel
theorem dX4_copy_90 : decode cX4_copy 90 = .ok (.invokevirtual 237, 3) := by decide +kernel
theorem dX4_copy_93 : decode cX4_copy 93 = .ok (.ifCond .ne 18, 3) := by decide +kernel
theorem dX4_copy_96 : decode cX4_copy 96 = .ok (.aload_n 0, 1) := by decide +kernel
theorem dX4_copy_97 : decode cX4_copy 97 = .ok (.getfield 35, 3) := by decide +kernel
theorem dX4_copy_100 : decode cX4_copy 100 = .ok (.iload_n 3, 1) := by decide +kernel
theorem dX4_copy_101 : decode cX4_copy 101 = .ok (.iload 4, 2) := by decide +kernel
theorem dX4_copy_103 : decode cX4_copy 103 = .ok (.iload 5, 2) := by decide +kernel
theorem dX4_copy_105 : decode cX4_copy 105 = .ok (.invokevirtual 237, 3) := by decide +kernel
theorem dX4_copy_108 : decode cX4_copy 108 = .ok (.ifCond .eq 12, 3) := by decide +kernel
theorem dX4_copy_111 : decode cX4_copy 111 = .ok (.aload_n 0, 1) := by decide +kernel
theorem dX4_copy_112 : decode cX4_copy 112 = .ok (.getfield 35, 3) := by decide +kernel
theorem dX4_copy_115 : decode cX4_copy 115 = .ok (.iconst 2, 1) := by decide +kernel
theorem dX4_copy_116 : decode cX4_copy 116 = .ok (.invokevirtual 217, 3) := by decide +kernel
theorem dX4_copy_119 : decode cX4_copy 119 = .ok (.ireturn, 1) := by decide +kernel
theorem dX4_copy_120 : decode cX4_copy 120 = .ok (.aload_n 0, 1) := by decide +kernel
theorem dX4_copy_121 : decode cX4_copy 121 = .ok (.getfield 35, 3) := by decide +kernel
theorem dX4_copy_124 : decode cX4_copy 124 = .ok (.getfield 98, 3) := by decide +kernel
theorem dX4_copy_127 : decode cX4_copy 127 = .ok (.iload_n 1, 1) := by decide +kernel
theorem dX4_copy_128 : decode cX4_copy 128 = .ok (.aaload, 1) := by decide +kernel
theorem dX4_copy_129 : decode cX4_copy 129 = .ok (.iload_n 2, 1) := by decide +kernel
theorem dX4_copy_130 : decode cX4_copy 130 = .ok (.aload_n 0, 1) := by decide +kernel
theorem dX4_copy_131 : decode cX4_copy 131 = .ok (.getfield 35, 3) := by decide +kernel
theorem dX4_copy_134 : decode cX4_copy 134 = .ok (.getfield 98, 3) := by decide +kernel
theorem dX4_copy_137 : decode cX4_copy 137 = .ok (.iload_n 3, 1) := by decide +kernel
theorem dX4_copy_138 : decode cX4_copy 138 = .ok (.aaload, 1) := by decide +kernel
theorem dX4_copy_139 : decode cX4_copy 139 = .ok (.iload 4, 2) := by decide +kernel
theorem dX4_copy_141 : decode cX4_copy 141 = .ok (.iload 5, 2) := by decide +kernel
theorem dX4_copy_143 : decode cX4_copy 143 = .ok (.invokestatic 241, 3) := by decide +kernel
theorem dX4_copy_146 : decode cX4_copy 146 = .ok (.iconst 1, 1) := by decide +kernel
theorem dX4_copy_147 : decode cX4_copy 147 = .ok (.ireturn, 1) := by decide +kernel
theorem dX4_write_0 : decode cX4_write 0 = .ok (.aload_n 0, 1) := by decide +kernel
theorem dX4_write_1 : decode cX4_write 1 = .ok (.getfield 35, 3) := by decide +kernel
theorem dX4_write_4 : decode cX4_write 4 = .ok (.iload_n 1, 1) := by decide +kernel
theorem dX4_write_5 : decode cX4_write 5 = .ok (.invokevirtual 87, 3) := by decide +kernel
theorem dX4_write_8 : decode cX4_write 8 = .ok (.istore_n 2, 1) := by decide +kernel
theorem dX4_write_9 : decode cX4_write 9 = .ok (.iload_n 2, 1) := by decide +kernel
theorem dX4_write_10 : decode cX4_write 10 = .ok (.ifCond .eq 5, 3) := by decide +kernel
theorem dX4_write_13 : decode cX4_write 13 = .ok (.iload_n 2, 1) := by decide +kernel
theorem dX4_write_14 : decode cX4_write 14 = .ok (.ireturn, 1) := by decide +kernel
theorem dX4_write_15 : decode cX4_write 15 = .ok (.aload_n 0, 1) := by decide +kernel
theorem dX4_write_16 : decode cX4_write 16 = .ok (.invokevirtual 101, 3) := by decide +kernel
theorem dX4_write_19 : decode cX4_write 19 = .ok (.astore_n 3, 1) := by decide +kernel
theorem dX4_write_20 : decode cX4_write 20 = .ok (.aload_n 0, 1) := by decide +kernel
theorem dX4_write_21 : decode cX4_write 21 = .ok (.getfield 35, 3) := by decide +kernel
theorem dX4_write_24 : decode cX4_write 24 = .ok (.getfield 91, 3) := by decide +kernel
theorem dX4_write_27 : decode cX4_write 27 = .ok (.iload_n 1, 1) := by decide +kernel
theorem dX4_write_28 : decode cX4_write 28 = .ok (.iaload, 1) := by decide +kernel
theorem dX4_write_29 : decode cX4_write 29 = .ok (.aload_n 0, 1) := by decide +kernel
theorem dX4_write_30 : decode cX4_write 30 = .ok (.getfield 12, 3) := by decide +kernel
theorem dX4_write_33 : decode cX4_write 33 = .ok (.getfield 247, 3) := by decide +kernel
theorem dX4_write_36 : decode cX4_write 36 = .ok (.invokestatic 92, 3) := by decide +kernel
theorem dX4_write_39 : decode cX4_write 39 = .ok (.istore 4, 2) := by decide +kernel
theorem dX4_write_41 : decode cX4_write 41 = .ok (.iconst 0, 1) := by decide +kernel
theorem dX4_write_42 : decode cX4_write 42 = .ok (.istore 5, 2) := by decide +kernel
theorem dX4_write_44 : decode cX4_write 44 = .ok (.iload 5, 2) := by decide +kernel
theorem dX4_write_46 : decode cX4_write 46 = .ok (.iload 4, 2) := by decide +kernel
theorem dX4_write_48 : decode cX4_write 48 = .ok (.if_icmp .ge 25, 3) := by decide +kernel
theorem dX4_write_51 : decode cX4_write 51 = .ok (.aload_n 0, 1) := by decide +kernel
theorem dX4_write_52 : decode cX4_write 52 = .ok (.getfield 35, 3) := by decide +kernel
theorem dX4_write_55 : decode cX4_write 55 = .ok (.iload_n 1, 1) := by decide +kernel
theorem dX4_write_56 : decode cX4_write 56 = .ok (.iload 5, 2) := by decide +kernel
theorem dX4_write_58 : decode cX4_write 58 = .ok (.aload_n 3, 1) := by decide +kernel
theorem dX4_write_59 : decode cX4_write 59 = .ok (.iload 5, 2) := by decide +kernel
theorem dX4_write_61 : decode cX4_write 61 = .ok (.invokevirtual 125, 3) := by decide +kernel
theorem dX4_write_64 : decode cX4_write 64 = .ok (.invokevirtual 231, 3) := by decide +kernel
theorem dX4_write_67 : decode cX4_write 67 = .ok (.iinc 5 1, 3) := by decide +kernel
theorem dX4_write_70 : decode cX4_write 70 = .ok (.goto (-26), 3) := by decide +kernel
theorem dX4_write_73 : decode cX4_write 73 = .ok (.iload 4, 2) := by decide +kernel
theorem dX4_write_75 : decode cX4_write 75 = .ok (.ireturn, 1) := by decide +kernel
theorem dX4_count_0 : decode cX4_count 0 = .ok (.iload_n 1, 1) := by decide +kernel
theorem dX4_count_1 : decode cX4_count 1 = .ok (.tableswitch 136 0 8 #[51, 59, 67, 75, 91, 102, 113, 120, 128], 51) := by decide +kernel
theorem dX4_count_52 : decode cX4_count 52 = .ok (.aload_n 0, 1) := by decide +kernel
theorem dX4_count_53 : decode cX4_count 53 = .ok (.getfield 12, 3) := by decide +kernel
theorem dX4_count_56 : decode cX4_count 56 = .ok (.getfield 247, 3) := by decide +kernel
theorem dX4_count_59 : decode cX4_count 59 = .ok (.ireturn, 1) := by decide +kernel
theorem dX4_count_60 : decode cX4_count 60 = .ok (.aload_n 0, 1) := by decide +kernel
theorem dX4_count_61 : decode cX4_count 61 = .ok (.getfield 12, 3) := by decide +kernel
theorem dX4_count_64 : decode cX4_count 64 = .ok (.getfield 77, 3) := by decide +kernel
theorem dX4_count_67 : decode cX4_count 67 = .ok (.ireturn, 1) := by decide +kernel
theorem dX4_count_68 : decode cX4_count 68 = .ok (.aload_n 0, 1) := by decide +kernel
theorem dX4_count_69 : decode cX4_count 69 = .ok (.getfield 12, 3) := by decide +kernel
theorem dX4_count_72 : decode cX4_count 72 = .ok (.getfield 49, 3) := by decide +kernel
theorem dX4_count_75 : decode cX4_count 75 = .ok (.ireturn, 1) := by decide +kernel
theorem dX4_count_76 : decode cX4_count 76 = .ok (.aload_n 0, 1) := by decide +kernel
theorem dX4_count_77 : decode cX4_count 77 = .ok (.getfield 43, 3) := by decide +kernel
theorem dX4_count_80 : decode cX4_count 80 = .ok (.iconst 0, 1) := by decide +kernel
theorem dX4_count_81 : decode cX4_count 81 = .ok (.aload_n 0, 1) := by decide +kernel
theorem dX4_count_82 : decode cX4_count 82 = .ok (.getfield 12, 3) := by decide +kernel
theorem dX4_count_85 : decode cX4_count 85 = .ok (.getfield 247, 3) := by decide +kernel
theorem dX4_count_88 : decode cX4_count 88 = .ok (.invokestatic 250, 3) := by decide +kernel
theorem dX4_count_91 : decode cX4_count 91 = .ok (.ireturn, 1) := by decide +kernel
theorem dX4_count_92 : decode cX4_count 92 = .ok (.aload_n 0, 1) := by decide +kernel
theorem dX4_count_93 : decode cX4_count 93 = .ok (.getfield 46, 3) := by decide +kernel
theorem dX4_count_96 : decode cX4_count 96 = .ok (.iconst 0, 1) := by decide +kernel
theorem dX4_count_97 : decode cX4_count 97 = .ok (.bipush 6, 2) := by decide +kernel
theorem dX4_count_99 : decode cX4_count 99 = .ok (.invokestatic 250, 3) := by decide +kernel
theorem dX4_count_102 : decode cX4_count 102 = .ok (.ireturn, 1) := by decide +kernel
theorem dX4_count_103 : decode cX4_count 103 = .ok (.aload_n 0, 1) := by decide +kernel
theorem dX4_count_104 : decode cX4_count 104 = .ok (.getfield 39, 3) := by decide +kernel
theorem dX4_count_107 : decode cX4_count 107 = .ok (.iconst 5, 1) := by decide +kernel
theorem dX4_count_108 : decode cX4_count 108 = .ok (.bipush 8, 2) := by decide +kernel
theorem dX4_count_110 : decode cX4_count 110 = .ok (.invokestatic 250, 3) := by decide +kernel
theorem dX4_count_113 : decode cX4_count 113 = .ok (.ireturn, 1) := by decide +kernel
theorem dX4_count_114 : decode cX4_count 114 = .ok (.aload_n 0, 1) := by decide +kernel
theorem dX4_count_115 : decode cX4_count 115 = .ok (.getfield 39, 3) := by decide +kernel
theorem dX4_count_118 : decode cX4_count 118 = .ok (.iconst 1, 1) := by decide +kernel
theorem dX4_count_119 : decode cX4_count 119 = .ok (.iaload, 1) := by decide +kernel
theorem dX4_count_120 : decode cX4_count 120 = .ok (.ireturn, 1) := by decide +kernel
theorem dX4_count_121 : decode cX4_count 121 = .ok (.aload_n 0, 1) := by decide +kernel
theorem dX4_count_122 : decode cX4_count 122 = .ok (.getfield 12, 3) := by decide +kernel
theorem dX4_count_125 : decode cX4_count 125 = .ok (.invokevirtual 254, 3) := by decide +kernel
theorem dX4_count_128 : decode cX4_count 128 = .ok (.ireturn, 1) := by decide +kernel
theorem dX4_count_129 : decode cX4_count 129 = .ok (.aload_n 0, 1) := by decide +kernel
theorem dX4_count_130 : decode cX4_count 130 = .ok (.getfield 35, 3) := by decide +kernel
theorem dX4_count_133 : decode cX4_count 133 = .ok (.getfield 257, 3) := by decide +kernel
theorem dX4_count_136 : decode cX4_count 136 = .ok (.ireturn, 1) := by decide +kernel
theorem dX4_count_137 : decode cX4_count 137 = .ok (.bipush (-2), 2) := by decide +kernel
theorem dX4_count_139 : decode cX4_count 139 = .ok (.ireturn, 1) := by decide +kernel
theorem dX4_digest_0 : decode cX4_digest 0 = .ok (.ldc2_w 260, 3) := by decide +kernel
theorem dX4_digest_3 : decode cX4_digest 3 = .ok (.lstore_n 1, 1) := by decide +kernel
theorem dX4_digest_4 : decode cX4_digest 4 = .ok (.iconst 0, 1) := by decide +kernel
theorem dX4_digest_5 : decode cX4_digest 5 = .ok (.istore_n 3, 1) := by decide +kernel
theorem dX4_digest_6 : decode cX4_digest 6 = .ok (.iload_n 3, 1) := by decide +kernel
theorem dX4_digest_7 : decode cX4_digest 7 = .ok (.bipush 7, 2) := by decide +kernel
theorem dX4_digest_9 : decode cX4_digest 9 = .ok (.if_icmp .gt 22, 3) := by decide +kernel
theorem dX4_digest_12 : decode cX4_digest 12 = .ok (.ldc2_w 262, 3) := by decide +kernel
theorem dX4_digest_15 : decode cX4_digest 15 = .ok (.lload_n 1, 1) := by decide +kernel
theorem dX4_digest_16 : decode cX4_digest 16 = .ok (.lmul, 1) := by decide +kernel
theorem dX4_digest_17 : decode cX4_digest 17 = .ok (.aload_n 0, 1) := by decide +kernel
theorem dX4_digest_18 : decode cX4_digest 18 = .ok (.iload_n 3, 1) := by decide +kernel
theorem dX4_digest_19 : decode cX4_digest 19 = .ok (.invokevirtual 264, 3) := by decide +kernel
theorem dX4_digest_22 : decode cX4_digest 22 = .ok (.i2l, 1) := by decide +kernel
theorem dX4_digest_23 : decode cX4_digest 23 = .ok (.ladd, 1) := by decide +kernel
theorem dX4_digest_24 : decode cX4_digest 24 = .ok (.lstore_n 1, 1) := by decide +kernel
theorem dX4_digest_25 : decode cX4_digest 25 = .ok (.iinc 3 1, 3) := by decide +kernel
theorem dX4_digest_28 : decode cX4_digest 28 = .ok (.goto (-22), 3) := by decide +kernel
theorem dX4_digest_31 : decode cX4_digest 31 = .ok (.ldc2_w 262, 3) := by decide +kernel
theorem dX4_digest_34 : decode cX4_digest 34 = .ok (.lload_n 1, 1) := by decide +kernel
theorem dX4_digest_35 : decode cX4_digest 35 = .ok (.lmul, 1) := by decide +kernel
theorem dX4_digest_36 : decode cX4_digest 36 = .ok (.aload_n 0, 1) := by decide +kernel
theorem dX4_digest_37 : decode cX4_digest 37 = .ok (.invokevirtual 267, 3) := by decide +kernel
theorem dX4_digest_40 : decode cX4_digest 40 = .ok (.i2l, 1) := by decide +kernel
theorem dX4_digest_41 : decode cX4_digest 41 = .ok (.ladd, 1) := by decide +kernel
theorem dX4_digest_42 : decode cX4_digest 42 = .ok (.lstore_n 1, 1) := by decide +kernel
theorem dX4_digest_43 : decode cX4_digest 43 = .ok (.aload_n 0, 1) := by decide +kernel
theorem dX4_digest_44 : decode cX4_digest 44 = .ok (.iconst 0, 1) := by decide +kernel
theorem dX4_digest_45 : decode cX4_digest 45 = .ok (.invokevirtual 270, 3) := by decide +kernel
theorem dX4_digest_48 : decode cX4_digest 48 = .ok (.istore_n 3, 1) := by decide +kernel
theorem dX4_digest_49 : decode cX4_digest 49 = .ok (.aload_n 0, 1) := by decide +kernel
theorem dX4_digest_50 : decode cX4_digest 50 = .ok (.iconst 1, 1) := by decide +kernel
theorem dX4_digest_51 : decode cX4_digest 51 = .ok (.invokevirtual 270, 3) := by decide +kernel
theorem dX4_digest_54 : decode cX4_digest 54 = .ok (.istore 4, 2) := by decide +kernel
theorem dX4_digest_56 : decode cX4_digest 56 = .ok (.iconst 0, 1) := by decide +kernel
theorem dX4_digest_57 : decode cX4_digest 57 = .ok (.istore 5, 2) := by decide +kernel
theorem dX4_digest_59 : decode cX4_digest 59 = .ok (.iload 5, 2) := by decide +kernel
theorem dX4_digest_61 : decode cX4_digest 61 = .ok (.aload_n 0, 1) := by decide +kernel
theorem dX4_digest_62 : decode cX4_digest 62 = .ok (.getfield 12, 3) := by decide +kernel
theorem dX4_digest_65 : decode cX4_digest 65 = .ok (.getfield 247, 3) := by decide +kernel
theorem dX4_digest_68 : decode cX4_digest 68 = .ok (.if_icmp .ge 102, 3) := by decide +kernel
theorem dX4_digest_71 : decode cX4_digest 71 = .ok (.ldc2_w 262, 3) := by decide +kernel
theorem dX4_digest_74 : decode cX4_digest 74 = .ok (.lload_n 1, 1) := by decide +kernel
theorem dX4_digest_75 : decode cX4_digest 75 = .ok (.lmul, 1) := by decide +kernel
theorem dX4_digest_76 : decode cX4_digest 76 = .ok (.aload_n 0, 1) := by decide +kernel
theorem dX4_digest_77 : decode cX4_digest 77 = .ok (.iload 5, 2) := by decide +kernel
theorem dX4_digest_79 : decode cX4_digest 79 = .ok (.iconst 0, 1) := by decide +kernel
theorem dX4_digest_80 : decode cX4_digest 80 = .ok (.invokevirtual 273, 3) := by decide +kernel
theorem dX4_digest_83 : decode cX4_digest 83 = .ok (.ladd, 1) := by decide +kernel
theorem dX4_digest_84 : decode cX4_digest 84 = .ok (.lstore_n 1, 1) := by decide +kernel
theorem dX4_digest_85 : decode cX4_digest 85 = .ok (.ldc2_w 262, 3) := by decide +kernel
theorem dX4_digest_88 : decode cX4_digest 88 = .ok (.lload_n 1, 1) := by decide +kernel
theorem dX4_digest_89 : decode cX4_digest 89 = .ok (.lmul, 1) := by decide +kernel
theorem dX4_digest_90 : decode cX4_digest 90 = .ok (.aload_n 0, 1) := by decide +kernel
theorem dX4_digest_91 : decode cX4_digest 91 = .ok (.iload 5, 2) := by decide +kernel
theorem dX4_digest_93 : decode cX4_digest 93 = .ok (.iconst 1, 1) := by decide +kernel
theorem dX4_digest_94 : decode cX4_digest 94 = .ok (.invokevirtual 273, 3) := by decide +kernel
theorem dX4_digest_97 : decode cX4_digest 97 = .ok (.ladd, 1) := by decide +kernel
theorem dX4_digest_98 : decode cX4_digest 98 = .ok (.lstore_n 1, 1) := by decide +kernel
theorem dX4_digest_99 : decode cX4_digest 99 = .ok (.ldc2_w 262, 3) := by decide +kernel
theorem dX4_digest_102 : decode cX4_digest 102 = .ok (.lload_n 1, 1) := by decide +kernel
theorem dX4_digest_103 : decode cX4_digest 103 = .ok (.lmul, 1) := by decide +kernel
theorem dX4_digest_104 : decode cX4_digest 104 = .ok (.aload_n 0, 1) := by decide +kernel
theorem dX4_digest_105 : decode cX4_digest 105 = .ok (.iload 5, 2) := by decide +kernel
theorem dX4_digest_107 : decode cX4_digest 107 = .ok (.invokevirtual 277, 3) := by decide +kernel
theorem dX4_digest_110 : decode cX4_digest 110 = .ok (.i2l, 1) := by decide +kernel
theorem dX4_digest_111 : decode cX4_digest 111 = .ok (.ladd, 1) := by decide +kernel
theorem dX4_digest_112 : decode cX4_digest 112 = .ok (.lstore_n 1, 1) := by decide +kernel
theorem dX4_digest_113 : decode cX4_digest 113 = .ok (.ldc2_w 262, 3) := by decide +kernel
theorem dX4_digest_116 : decode cX4_digest 116 = .ok (.lload_n 1, 1) := by decide +kernel
theorem dX4_digest_117 : decode cX4_digest 117 = .ok (.lmul, 1) := by decide +kernel
theorem dX4_digest_118 : decode cX4_digest 118 = .ok (.aload_n 0, 1) := by decide +kernel
theorem dX4_digest_119 : decode cX4_digest 119 = .ok (.iload 5, 2) := by decide +kernel
theorem dX4_digest_121 : decode cX4_digest 121 = .ok (.invokevirtual 280, 3) := by decide +kernel
theorem dX4_digest_124 : decode cX4_digest 124 = .ok (.i2l, 1) := by decide +kernel
theorem dX4_digest_125 : decode cX4_digest 125 = .ok (.ladd, 1) := by decide +kernel
theorem dX4_digest_126 : decode cX4_digest 126 = .ok (.lstore_n 1, 1) := by decide +kernel
theorem dX4_digest_127 : decode cX4_digest 127 = .ok (.ldc2_w 262, 3) := by decide +kernel
theorem dX4_digest_130 : decode cX4_digest 130 = .ok (.lload_n 1, 1) := by decide +kernel
theorem dX4_digest_131 : decode cX4_digest 131 = .ok (.lmul, 1) := by decide +kernel
theorem dX4_digest_132 : decode cX4_digest 132 = .ok (.aload_n 0, 1) := by decide +kernel
theorem dX4_digest_133 : decode cX4_digest 133 = .ok (.getfield 28, 3) := by decide +kernel
theorem dX4_digest_136 : decode cX4_digest 136 = .ok (.iload_n 3, 1) := by decide +kernel
theorem dX4_digest_137 : decode cX4_digest 137 = .ok (.iload 5, 2) := by decide +kernel
theorem dX4_digest_139 : decode cX4_digest 139 = .ok (.invokevirtual 283, 3) := by decide +kernel
theorem dX4_digest_142 : decode cX4_digest 142 = .ok (.i2l, 1) := by decide +kernel
theorem dX4_digest_143 : decode cX4_digest 143 = .ok (.ladd, 1) := by decide +kernel
theorem dX4_digest_144 : decode cX4_digest 144 = .ok (.lstore_n 1, 1) := by decide +kernel
theorem dX4_digest_145 : decode cX4_digest 145 = .ok (.ldc2_w 262, 3) := by decide +kernel
theorem dX4_digest_148 : decode cX4_digest 148 = .ok (.lload_n 1, 1) := by decide +kernel
theorem dX4_digest_149 : decode cX4_digest 149 = .ok (.lmul, 1) := by decide +kernel
theorem dX4_digest_150 : decode cX4_digest 150 = .ok (.aload_n 0, 1) := by decide +kernel
theorem dX4_digest_151 : decode cX4_digest 151 = .ok (.getfield 28, 3) := by decide +kernel
theorem dX4_digest_154 : decode cX4_digest 154 = .ok (.iload 4, 2) := by decide +kernel
theorem dX4_digest_156 : decode cX4_digest 156 = .ok (.iload 5, 2) := by decide +kernel
theorem dX4_digest_158 : decode cX4_digest 158 = .ok (.invokevirtual 283, 3) := by decide +kernel
theorem dX4_digest_161 : decode cX4_digest 161 = .ok (.i2l, 1) := by decide +kernel
theorem dX4_digest_162 : decode cX4_digest 162 = .ok (.ladd, 1) := by decide +kernel
theorem dX4_digest_163 : decode cX4_digest 163 = .ok (.lstore_n 1, 1) := by decide +kernel
theorem dX4_digest_164 : decode cX4_digest 164 = .ok (.iinc 5 1, 3) := by decide +kernel
theorem dX4_digest_167 : decode cX4_digest 167 = .ok (.goto (-108), 3) := by decide +kernel
theorem dX4_digest_170 : decode cX4_digest 170 = .ok (.iconst 0, 1) := by decide +kernel
theorem dX4_digest_171 : decode cX4_digest 171 = .ok (.istore 5, 2) := by decide +kernel
theorem dX4_digest_173 : decode cX4_digest 173 = .ok (.iload 5, 2) := by decide +kernel
theorem dX4_digest_175 : decode cX4_digest 175 = .ok (.iconst 1, 1) := by decide +kernel
theorem dX4_digest_176 : decode cX4_digest 176 = .ok (.if_icmp .gt 37, 3) := by decide +kernel
theorem dX4_digest_179 : decode cX4_digest 179 = .ok (.ldc2_w 262, 3) := by decide +kernel
theorem dX4_digest_182 : decode cX4_digest 182 = .ok (.lload_n 1, 1) := by decide +kernel
theorem dX4_digest_183 : decode cX4_digest 183 = .ok (.lmul, 1) := by decide +kernel
theorem dX4_digest_184 : decode cX4_digest 184 = .ok (.aload_n 0, 1) := by decide +kernel
theorem dX4_digest_185 : decode cX4_digest 185 = .ok (.iload 5, 2) := by decide +kernel
theorem dX4_digest_187 : decode cX4_digest 187 = .ok (.iconst 0, 1) := by decide +kernel
theorem dX4_digest_188 : decode cX4_digest 188 = .ok (.invokevirtual 286, 3) := by decide +kernel
theorem dX4_digest_191 : decode cX4_digest 191 = .ok (.ladd, 1) := by decide +kernel
theorem dX4_digest_192 : decode cX4_digest 192 = .ok (.lstore_n 1, 1) := by decide +kernel
theorem dX4_digest_193 : decode cX4_digest 193 = .ok (.ldc2_w 262, 3) := by decide +kernel
theorem dX4_digest_196 : decode cX4_digest 196 = .ok (.lload_n 1, 1) := by decide +kernel
theorem dX4_digest_197 : decode cX4_digest 197 = .ok (.lmul, 1) := by decide +kernel
theorem dX4_digest_198 : decode cX4_digest 198 = .ok (.aload_n 0, 1) := by decide +kernel
theorem dX4_digest_199 : decode cX4_digest 199 = .ok (.iload 5, 2) := by decide +kernel
theorem dX4_digest_201 : decode cX4_digest 201 = .ok (.iconst 1, 1) := by decide +kernel
theorem dX4_digest_202 : decode cX4_digest 202 = .ok (.invokevirtual 286, 3) := by decide +kernel
theorem dX4_digest_205 : decode cX4_digest 205 = .ok (.ladd, 1) := by decide +kernel
theorem dX4_digest_206 : decode cX4_digest 206 = .ok (.lstore_n 1, 1) := by decide +kernel
theorem dX4_digest_207 : decode cX4_digest 207 = .ok (.iinc 5 1, 3) := by decide +kernel
theorem dX4_digest_210 : decode cX4_digest 210 = .ok (.goto (-37), 3) := by decide +kernel
theorem dX4_digest_213 : decode cX4_digest 213 = .ok (.ldc2_w 262, 3) := by decide +kernel
theorem dX4_digest_216 : decode cX4_digest 216 = .ok (.lload_n 1, 1) := by decide +kernel
theorem dX4_digest_217 : decode cX4_digest 217 = .ok (.lmul, 1) := by decide +kernel
theorem dX4_digest_218 : decode cX4_digest 218 = .ok (.aload_n 0, 1) := by decide +kernel
theorem dX4_digest_219 : decode cX4_digest 219 = .ok (.iconst (-1), 1) := by decide +kernel
theorem dX4_digest_220 : decode cX4_digest 220 = .ok (.invokevirtual 280, 3) := by decide +kernel
theorem dX4_digest_223 : decode cX4_digest 223 = .ok (.i2l, 1) := by decide +kernel
theorem dX4_digest_224 : decode cX4_digest 224 = .ok (.ladd, 1) := by decide +kernel
theorem dX4_digest_225 : decode cX4_digest 225 = .ok (.lstore_n 1, 1) := by decide +kernel
theorem dX4_digest_226 : decode cX4_digest 226 = .ok (.ldc2_w 262, 3) := by decide +kernel
theorem dX4_digest_229 : decode cX4_digest 229 = .ok (.lload_n 1, 1) := by decide +kernel
theorem dX4_digest_230 : decode cX4_digest 230 = .ok (.lmul, 1) := by decide +kernel
theorem dX4_digest_231 : decode cX4_digest 231 = .ok (.aload_n 0, 1) := by decide +kernel
theorem dX4_digest_232 : decode cX4_digest 232 = .ok (.invokevirtual 138, 3) := by decide +kernel
theorem dX4_digest_235 : decode cX4_digest 235 = .ok (.i2l, 1) := by decide +kernel
theorem dX4_digest_236 : decode cX4_digest 236 = .ok (.ladd, 1) := by decide +kernel
theorem dX4_digest_237 : decode cX4_digest 237 = .ok (.lstore_n 1, 1) := by decide +kernel
theorem dX4_digest_238 : decode cX4_digest 238 = .ok (.ldc2_w 262, 3) := by decide +kernel
theorem dX4_digest_241 : decode cX4_digest 241 = .ok (.lload_n 1, 1) := by decide +kernel
theorem dX4_digest_242 : decode cX4_digest 242 = .ok (.lmul, 1) := by decide +kernel
theorem dX4_digest_243 : decode cX4_digest 243 = .ok (.aload_n 0, 1) := by decide +kernel
theorem dX4_digest_244 : decode cX4_digest 244 = .ok (.invokevirtual 289, 3) := by decide +kernel
theorem dX4_digest_247 : decode cX4_digest 247 = .ok (.i2l, 1) := by decide +kernel
theorem dX4_digest_248 : decode cX4_digest 248 = .ok (.ladd, 1) := by decide +kernel
theorem dX4_digest_249 : decode cX4_digest 249 = .ok (.lstore_n 1, 1) := by decide +kernel
theorem dX4_digest_250 : decode cX4_digest 250 = .ok (.ldc2_w 262, 3) := by decide +kernel
theorem dX4_digest_253 : decode cX4_digest 253 = .ok (.lload_n 1, 1) := by decide +kernel
theorem dX4_digest_254 : decode cX4_digest 254 = .ok (.lmul, 1) := by decide +kernel
theorem dX4_digest_255 : decode cX4_digest 255 = .ok (.aload_n 0, 1) := by decide +kernel
theorem dX4_digest_256 : decode cX4_digest 256 = .ok (.iconst 0, 1) := by decide +kernel
theorem dX4_digest_257 : decode cX4_digest 257 = .ok (.invokevirtual 292, 3) := by decide +kernel
theorem dX4_digest_260 : decode cX4_digest 260 = .ok (.i2l, 1) := by decide +kernel
theorem dX4_digest_261 : decode cX4_digest 261 = .ok (.ladd, 1) := by decide +kernel
theorem dX4_digest_262 : decode cX4_digest 262 = .ok (.lstore_n 1, 1) := by decide +kernel
theorem dX4_digest_263 : decode cX4_digest 263 = .ok (.ldc2_w 262, 3) := by decide +kernel
theorem dX4_digest_266 : decode cX4_digest 266 = .ok (.lload_n 1, 1) := by decide +kernel
theorem dX4_digest_267 : decode cX4_digest 267 = .ok (.lmul, 1) := by decide +kernel
theorem dX4_digest_268 : decode cX4_digest 268 = .ok (.aload_n 0, 1) := by decide +kernel
theorem dX4_digest_269 : decode cX4_digest 269 = .ok (.iconst 1, 1) := by decide +kernel
theorem dX4_digest_270 : decode cX4_digest 270 = .ok (.invokevirtual 292, 3) := by decide +kernel
theorem dX4_digest_273 : decode cX4_digest 273 = .ok (.i2l, 1) := by decide +kernel
theorem dX4_digest_274 : decode cX4_digest 274 = .ok (.ladd, 1) := by decide +kernel
theorem dX4_digest_275 : decode cX4_digest 275 = .ok (.lstore_n 1, 1) := by decide +kernel
theorem dX4_digest_276 : decode cX4_digest 276 = .ok (.aload_n 0, 1) := by decide +kernel
theorem dX4_digest_277 : decode cX4_digest 277 = .ok (.iconst 5, 1) := by decide +kernel
theorem dX4_digest_278 : decode cX4_digest 278 = .ok (.invokevirtual 199, 3) := by decide +kernel
theorem dX4_digest_281 : decode cX4_digest 281 = .ok (.astore 5, 2) := by decide +kernel
theorem dX4_digest_283 : decode cX4_digest 283 = .ok (.iconst 0, 1) := by decide +kernel
theorem dX4_digest_284 : decode cX4_digest 284 = .ok (.istore 6, 2) := by decide +kernel
theorem dX4_digest_286 : decode cX4_digest 286 = .ok (.iload 6, 2) := by decide +kernel
theorem dX4_digest_288 : decode cX4_digest 288 = .ok (.bipush 8, 2) := by decide +kernel
theorem dX4_digest_290 : decode cX4_digest 290 = .ok (.if_icmp .ge 24, 3) := by decide +kernel
theorem dX4_digest_293 : decode cX4_digest 293 = .ok (.ldc2_w 262, 3) := by decide +kernel
theorem dX4_digest_296 : decode cX4_digest 296 = .ok (.lload_n 1, 1) := by decide +kernel
theorem dX4_digest_297 : decode cX4_digest 297 = .ok (.lmul, 1) := by decide +kernel
theorem dX4_digest_298 : decode cX4_digest 298 = .ok (.aload 5, 2) := by decide +kernel
theorem dX4_digest_300 : decode cX4_digest 300 = .ok (.iload 6, 2) := by decide +kernel
theorem dX4_digest_302 : decode cX4_digest 302 = .ok (.invokevirtual 202, 3) := by decide +kernel
theorem dX4_digest_305 : decode cX4_digest 305 = .ok (.i2l, 1) := by decide +kernel
theorem dX4_digest_306 : decode cX4_digest 306 = .ok (.ladd, 1) := by decide +kernel
theorem dX4_digest_307 : decode cX4_digest 307 = .ok (.lstore_n 1, 1) := by decide +kernel
theorem dX4_digest_308 : decode cX4_digest 308 = .ok (.iinc 6 1, 3) := by decide +kernel
theorem dX4_digest_311 : decode cX4_digest 311 = .ok (.goto (-25), 3) := by decide +kernel
theorem dX4_digest_314 : decode cX4_digest 314 = .ok (.ldc2_w 262, 3) := by decide +kernel
theorem dX4_digest_317 : decode cX4_digest 317 = .ok (.lload_n 1, 1) := by decide +kernel
theorem dX4_digest_318 : decode cX4_digest 318 = .ok (.lmul, 1) := by decide +kernel
theorem dX4_digest_319 : decode cX4_digest 319 = .ok (.aload_n 0, 1) := by decide +kernel
theorem dX4_digest_320 : decode cX4_digest 320 = .ok (.invokevirtual 295, 3) := by decide +kernel
theorem dX4_digest_323 : decode cX4_digest 323 = .ok (.i2l, 1) := by decide +kernel
theorem dX4_digest_324 : decode cX4_digest 324 = .ok (.ladd, 1) := by decide +kernel
theorem dX4_digest_325 : decode cX4_digest 325 = .ok (.lreturn, 1) := by decide +kernel
theorem dX4_sceneNow_0 : decode cX4_sceneNow 0 = .ok (.aload_n 0, 1) := by decide +kernel
theorem dX4_sceneNow_1 : decode cX4_sceneNow 1 = .ok (.getfield 19, 3) := by decide +kernel
theorem dX4_sceneNow_4 : decode cX4_sceneNow 4 = .ok (.getfield 57, 3) := by decide +kernel
theorem dX4_sceneNow_7 : decode cX4_sceneNow 7 = .ok (.ifCond .eq 20, 3) := by decide +kernel
theorem dX4_sceneNow_10 : decode cX4_sceneNow 10 = .ok (.aload_n 0, 1) := by decide +kernel
theorem dX4_sceneNow_11 : decode cX4_sceneNow 11 = .ok (.getfield 19, 3) := by decide +kernel
theorem dX4_sceneNow_14 : decode cX4_sceneNow 14 = .ok (.aload_n 0, 1) := by decide +kernel
theorem dX4_sceneNow_15 : decode cX4_sceneNow 15 = .ok (.getfield 12, 3) := by decide +kernel
theorem dX4_sceneNow_18 : decode cX4_sceneNow 18 = .ok (.aload_n 0, 1) := by decide +kernel
theorem dX4_sceneNow_19 : decode cX4_sceneNow 19 = .ok (.getfield 39, 3) := by decide +kernel
theorem dX4_sceneNow_22 : decode cX4_sceneNow 22 = .ok (.iconst 0, 1) := by decide +kernel
theorem dX4_sceneNow_23 : decode cX4_sceneNow 23 = .ok (.iaload, 1) := by decide +kernel
theorem dX4_sceneNow_24 : decode cX4_sceneNow 24 = .ok (.invokevirtual 298, 3) := by decide +kernel
theorem dX4_sceneNow_27 : decode cX4_sceneNow 27 = .ok (.aload_n 0, 1) := by decide +kernel
theorem dX4_sceneNow_28 : decode cX4_sceneNow 28 = .ok (.getfield 28, 3) := by decide +kernel
theorem dX4_sceneNow_31 : decode cX4_sceneNow 31 = .ok (.aload_n 0, 1) := by decide +kernel
theorem dX4_sceneNow_32 : decode cX4_sceneNow 32 = .ok (.getfield 43, 3) := by decide +kernel
theorem dX4_sceneNow_35 : decode cX4_sceneNow 35 = .ok (.aload_n 0, 1) := by decide +kernel
theorem dX4_sceneNow_36 : decode cX4_sceneNow 36 = .ok (.getfield 39, 3) := by decide +kernel
theorem dX4_sceneNow_39 : decode cX4_sceneNow 39 = .ok (.invokevirtual 302, 3) := by decide +kernel
theorem dX4_sceneNow_42 : decode cX4_sceneNow 42 = .ok (.aload_n 0, 1) := by decide +kernel
theorem dX4_sceneNow_43 : decode cX4_sceneNow 43 = .ok (.getfield 28, 3) := by decide +kernel
theorem dX4_sceneNow_46 : decode cX4_sceneNow 46 = .ok (.areturn, 1) := by decide +kernel
theorem dX4_sceneAfter_0 : decode cX4_sceneAfter 0 = .ok (.aload_n 0, 1) := by decide +kernel
theorem dX4_sceneAfter_1 : decode cX4_sceneAfter 1 = .ok (.invokevirtual 101, 3) := by decide +kernel
theorem dX4_sceneAfter_4 : decode cX4_sceneAfter 4 = .ok (.astore_n 2, 1) := by decide +kernel
theorem dX4_sceneAfter_5 : decode cX4_sceneAfter 5 = .ok (.iconst 0, 1) := by decide +kernel
theorem dX4_sceneAfter_6 : decode cX4_sceneAfter 6 = .ok (.istore_n 3, 1) := by decide +kernel
theorem dX4_sceneAfter_7 : decode cX4_sceneAfter 7 = .ok (.iload_n 3, 1) := by decide +kernel
theorem dX4_sceneAfter_8 : decode cX4_sceneAfter 8 = .ok (.iload_n 1, 1) := by decide +kernel
theorem dX4_sceneAfter_9 : decode cX4_sceneAfter 9 = .ok (.if_icmp .ge 13, 3) := by decide +kernel
theorem dX4_sceneAfter_12 : decode cX4_sceneAfter 12 = .ok (.aload_n 2, 1) := by decide +kernel
theorem dX4_sceneAfter_13 : decode cX4_sceneAfter 13 = .ok (.invokevirtual 208, 3) := by decide +kernel
theorem dX4_sceneAfter_16 : decode cX4_sceneAfter 16 = .ok (.iinc 3 1, 3) := by decide +kernel
theorem dX4_sceneAfter_19 : decode cX4_sceneAfter 19 = .ok (.goto (-12), 3) := by decide +kernel
theorem dX4_sceneAfter_22 : decode cX4_sceneAfter 22 = .ok (.aload_n 2, 1) := by decide +kernel
theorem dX4_sceneAfter_23 : decode cX4_sceneAfter 23 = .ok (.areturn, 1) := by decide +kernel
theorem dX4_countStill_0 : decode cX4_countStill 0 = .ok (.aload_n 0, 1) := by decide +kernel
theorem dX4_countStill_1 : decode cX4_countStill 1 = .ok (.invokevirtual 101, 3) := by decide +kernel
theorem dX4_countStill_4 : decode cX4_countStill 4 = .ok (.astore_n 1, 1) := by decide +kernel
theorem dX4_countStill_5 : decode cX4_countStill 5 = .ok (.aload_n 1, 1) := by decide +kernel
theorem dX4_countStill_6 : decode cX4_countStill 6 = .ok (.invokevirtual 142, 3) := by decide +kernel
theorem dX4_countStill_9 : decode cX4_countStill 9 = .ok (.istore_n 2, 1) := by decide +kernel
theorem dX4_countStill_10 : decode cX4_countStill 10 = .ok (.iconst 0, 1) := by decide +kernel
theorem dX4_countStill_11 : decode cX4_countStill 11 = .ok (.istore_n 3, 1) := by decide +kernel
theorem dX4_countStill_12 : decode cX4_countStill 12 = .ok (.aload_n 1, 1) := by decide +kernel
theorem dX4_countStill_13 : decode cX4_countStill 13 = .ok (.iconst 0, 1) := by decide +kernel
theorem dX4_countStill_14 : decode cX4_countStill 14 = .ok (.invokevirtual 145, 3) := by decide +kernel
theorem dX4_countStill_17 : decode cX4_countStill 17 = .ok (.iconst 0, 1) := by decide +kernel
theorem dX4_countStill_18 : decode cX4_countStill 18 = .ok (.istore 4, 2) := by decide +kernel
theorem dX4_countStill_20 : decode cX4_countStill 20 = .ok (.iload 4, 2) := by decide +kernel
theorem dX4_countStill_22 : decode cX4_countStill 22 = .ok (.iload_n 2, 1) := by decide +kernel
theorem dX4_countStill_23 : decode cX4_countStill 23 = .ok (.if_icmp .ge 24, 3) := by decide +kernel
theorem dX4_countStill_26 : decode cX4_countStill 26 = .ok (.aload_n 1, 1) := by decide +kernel
theorem dX4_countStill_27 : decode cX4_countStill 27 = .ok (.invokevirtual 148, 3) := by decide +kernel
theorem dX4_countStill_30 : decode cX4_countStill 30 = .ok (.iconst (-1), 1) := by decide +kernel
theorem dX4_countStill_31 : decode cX4_countStill 31 = .ok (.if_icmp .ne 6, 3) := by decide +kernel
theorem dX4_countStill_34 : decode cX4_countStill 34 = .ok (.iinc 3 1, 3) := by decide +kernel
theorem dX4_countStill_37 : decode cX4_countStill 37 = .ok (.aload_n 1, 1) := by decide +kernel
theorem dX4_countStill_38 : decode cX4_countStill 38 = .ok (.invokevirtual 151, 3) := by decide +kernel
theorem dX4_countStill_41 : decode cX4_countStill 41 = .ok (.iinc 4 1, 3) := by decide +kernel
theorem dX4_countStill_44 : decode cX4_countStill 44 = .ok (.goto (-24), 3) := by decide +kernel
theorem dX4_countStill_47 : decode cX4_countStill 47 = .ok (.iload_n 3, 1) := by decide +kernel
theorem dX4_countStill_48 : decode cX4_countStill 48 = .ok (.ireturn, 1) := by decide +kernel
theorem dX4_bestCode_0 : decode cX4_bestCode 0 = .ok (.aload_n 0, 1) := by decide +kernel
theorem dX4_bestCode_1 : decode cX4_bestCode 1 = .ok (.invokevirtual 101, 3) := by decide +kernel
theorem dX4_bestCode_4 : decode cX4_bestCode 4 = .ok (.astore_n 2, 1) := by decide +kernel
theorem dX4_bestCode_5 : decode cX4_bestCode 5 = .ok (.aload_n 2, 1) := by decide +kernel
theorem dX4_bestCode_6 : decode cX4_bestCode 6 = .ok (.invokevirtual 142, 3) := by decide +kernel
theorem dX4_bestCode_9 : decode cX4_bestCode 9 = .ok (.istore_n 3, 1) := by decide +kernel
theorem dX4_bestCode_10 : decode cX4_bestCode 10 = .ok (.iconst 0, 1) := by decide +kernel
theorem dX4_bestCode_11 : decode cX4_bestCode 11 = .ok (.istore 4, 2) := by decide +kernel
theorem dX4_bestCode_13 : decode cX4_bestCode 13 = .ok (.ldc2_w 308, 3) := by decide +kernel
theorem dX4_bestCode_16 : decode cX4_bestCode 16 = .ok (.lstore 5, 2) := by decide +kernel
theorem dX4_bestCode_18 : decode cX4_bestCode 18 = .ok (.aload_n 2, 1) := by decide +kernel
theorem dX4_bestCode_19 : decode cX4_bestCode 19 = .ok (.iconst 0, 1) := by decide +kernel
theorem dX4_bestCode_20 : decode cX4_bestCode 20 = .ok (.invokevirtual 145, 3) := by decide +kernel
theorem dX4_bestCode_23 : decode cX4_bestCode 23 = .ok (.iconst 0, 1) := by decide +kernel
theorem dX4_bestCode_24 : decode cX4_bestCode 24 = .ok (.istore 7, 2) := by decide +kernel
theorem dX4_bestCode_26 : decode cX4_bestCode 26 = .ok (.iload 7, 2) := by decide +kernel
theorem dX4_bestCode_28 : decode cX4_bestCode 28 = .ok (.iload_n 3, 1) := by decide +kernel
theorem dX4_bestCode_29 : decode cX4_bestCode 29 = .ok (.if_icmp .ge 36, 3) := by decide +kernel
theorem dX4_bestCode_32 : decode cX4_bestCode 32 = .ok (.aload_n 2, 1) := by decide +kernel
theorem dX4_bestCode_33 : decode cX4_bestCode 33 = .ok (.iload_n 1, 1) := by decide +kernel
theorem dX4_bestCode_34 : decode cX4_bestCode 34 = .ok (.invokevirtual 122, 3) := by decide +kernel
theorem dX4_bestCode_37 : decode cX4_bestCode 37 = .ok (.lstore 8, 2) := by decide +kernel
theorem dX4_bestCode_39 : decode cX4_bestCode 39 = .ok (.lload 8, 2) := by decide +kernel
theorem dX4_bestCode_41 : decode cX4_bestCode 41 = .ok (.lload 5, 2) := by decide +kernel
theorem dX4_bestCode_43 : decode cX4_bestCode 43 = .ok (.lcmp, 1) := by decide +kernel
theorem dX4_bestCode_44 : decode cX4_bestCode 44 = .ok (.ifCond .le 11, 3) := by decide +kernel
theorem dX4_bestCode_47 : decode cX4_bestCode 47 = .ok (.lload 8, 2) := by decide +kernel
theorem dX4_bestCode_49 : decode cX4_bestCode 49 = .ok (.lstore 5, 2) := by decide +kernel
theorem dX4_bestCode_51 : decode cX4_bestCode 51 = .ok (.iload 7, 2) := by decide +kernel
theorem dX4_bestCode_53 : decode cX4_bestCode 53 = .ok (.istore 4, 2) := by decide +kernel
theorem dX4_bestCode_55 : decode cX4_bestCode 55 = .ok (.aload_n 2, 1) := by decide +kernel
theorem dX4_bestCode_56 : decode cX4_bestCode 56 = .ok (.invokevirtual 151, 3) := by decide +kernel
theorem dX4_bestCode_59 : decode cX4_bestCode 59 = .ok (.iinc 7 1, 3) := by decide +kernel
theorem dX4_bestCode_62 : decode cX4_bestCode 62 = .ok (.goto (-36), 3) := by decide +kernel
theorem dX4_bestCode_65 : decode cX4_bestCode 65 = .ok (.iload 4, 2) := by decide +kernel
theorem dX4_bestCode_67 : decode cX4_bestCode 67 = .ok (.ireturn, 1) := by decide +kernel
theorem dX4_placedBest_0 : decode cX4_placedBest 0 = .ok (.aload_n 0, 1) := by decide +kernel
theorem dX4_placedBest_1 : decode cX4_placedBest 1 = .ok (.getfield 28, 3) := by decide +kernel
theorem dX4_placedBest_4 : decode cX4_placedBest 4 = .ok (.aload_n 0, 1) := by decide +kernel
theorem dX4_placedBest_5 : decode cX4_placedBest 5 = .ok (.iload_n 1, 1) := by decide +kernel
theorem dX4_placedBest_6 : decode cX4_placedBest 6 = .ok (.invokevirtual 270, 3) := by decide +kernel
theorem dX4_placedBest_9 : decode cX4_placedBest 9 = .ok (.invokevirtual 145, 3) := by decide +kernel
theorem dX4_placedBest_12 : decode cX4_placedBest 12 = .ok (.aload_n 0, 1) := by decide +kernel
theorem dX4_placedBest_13 : decode cX4_placedBest 13 = .ok (.getfield 28, 3) := by decide +kernel
theorem dX4_placedBest_16 : decode cX4_placedBest 16 = .ok (.areturn, 1) := by decide +kernel
theorem dX4_bestCapNow_0 : decode cX4_bestCapNow 0 = .ok (.iconst (-1), 1) := by decide +kernel
theorem dX4_bestCapNow_1 : decode cX4_bestCapNow 1 = .ok (.istore_n 1, 1) := by decide +kernel
theorem dX4_bestCapNow_2 : decode cX4_bestCapNow 2 = .ok (.lconst 0, 1) := by decide +kernel
theorem dX4_bestCapNow_3 : decode cX4_bestCapNow 3 = .ok (.lstore_n 2, 1) := by decide +kernel
theorem dX4_bestCapNow_4 : decode cX4_bestCapNow 4 = .ok (.iconst 0, 1) := by decide +kernel
theorem dX4_bestCapNow_5 : decode cX4_bestCapNow 5 = .ok (.istore 4, 2) := by decide +kernel
theorem dX4_bestCapNow_7 : decode cX4_bestCapNow 7 = .ok (.iload 4, 2) := by decide +kernel
theorem dX4_bestCapNow_9 : decode cX4_bestCapNow 9 = .ok (.iconst 3, 1) := by decide +kernel
theorem dX4_bestCapNow_10 : decode cX4_bestCapNow 10 = .ok (.if_icmp .gt 45, 3) := by decide +kernel
theorem dX4_bestCapNow_13 : decode cX4_bestCapNow 13 = .ok (.aload_n 0, 1) := by decide +kernel
theorem dX4_bestCapNow_14 : decode cX4_bestCapNow 14 = .ok (.iload 4, 2) := by decide +kernel
theorem dX4_bestCapNow_16 : decode cX4_bestCapNow 16 = .ok (.invokevirtual 181, 3) := by decide +kernel
theorem dX4_bestCapNow_19 : decode cX4_bestCapNow 19 = .ok (.ifCond .eq 30, 3) := by decide +kernel
theorem dX4_bestCapNow_22 : decode cX4_bestCapNow 22 = .ok (.aload_n 0, 1) := by decide +kernel
theorem dX4_bestCapNow_23 : decode cX4_bestCapNow 23 = .ok (.getfield 28, 3) := by decide +kernel
theorem dX4_bestCapNow_26 : decode cX4_bestCapNow 26 = .ok (.invokevirtual 158, 3) := by decide +kernel
theorem dX4_bestCapNow_29 : decode cX4_bestCapNow 29 = .ok (.lstore 5, 2) := by decide +kernel
theorem dX4_bestCapNow_31 : decode cX4_bestCapNow 31 = .ok (.iload_n 1, 1) := by decide +kernel
theorem dX4_bestCapNow_32 : decode cX4_bestCapNow 32 = .ok (.iconst (-1), 1) := by decide +kernel
theorem dX4_bestCapNow_33 : decode cX4_bestCapNow 33 = .ok (.if_icmp .eq 10, 3) := by decide +kernel
theorem dX4_bestCapNow_36 : decode cX4_bestCapNow 36 = .ok (.lload 5, 2) := by decide +kernel
theorem dX4_bestCapNow_38 : decode cX4_bestCapNow 38 = .ok (.lload_n 2, 1) := by decide +kernel
theorem dX4_bestCapNow_39 : decode cX4_bestCapNow 39 = .ok (.lcmp, 1) := by decide +kernel
theorem dX4_bestCapNow_40 : decode cX4_bestCapNow 40 = .ok (.ifCond .le 9, 3) := by decide +kernel
theorem dX4_bestCapNow_43 : decode cX4_bestCapNow 43 = .ok (.lload 5, 2) := by decide +kernel
theorem dX4_bestCapNow_45 : decode cX4_bestCapNow 45 = .ok (.lstore_n 2, 1) := by decide +kernel
theorem dX4_bestCapNow_46 : decode cX4_bestCapNow 46 = .ok (.iload 4, 2) := by decide +kernel
theorem dX4_bestCapNow_48 : decode cX4_bestCapNow 48 = .ok (.istore_n 1, 1) := by decide +kernel
theorem dX4_bestCapNow_49 : decode cX4_bestCapNow 49 = .ok (.iinc 4 1, 3) := by decide +kernel
theorem dX4_bestCapNow_52 : decode cX4_bestCapNow 52 = .ok (.goto (-45), 3) := by decide +kernel
theorem dX4_bestCapNow_55 : decode cX4_bestCapNow 55 = .ok (.iload_n 1, 1) := by decide +kernel
theorem dX4_bestCapNow_56 : decode cX4_bestCapNow 56 = .ok (.ireturn, 1) := by decide +kernel
theorem dX4_restsUnder_0 : decode cX4_restsUnder 0 = .ok (.aload_n 0, 1) := by decide +kernel
theorem dX4_restsUnder_1 : decode cX4_restsUnder 1 = .ok (.invokevirtual 101, 3) := by decide +kernel
theorem dX4_restsUnder_4 : decode cX4_restsUnder 4 = .ok (.astore_n 2, 1) := by decide +kernel
theorem dX4_restsUnder_5 : decode cX4_restsUnder 5 = .ok (.aload_n 2, 1) := by decide +kernel
theorem dX4_restsUnder_6 : decode cX4_restsUnder 6 = .ok (.lconst 0, 1) := by decide +kernel
theorem dX4_restsUnder_7 : decode cX4_restsUnder 7 = .ok (.putfield 162, 3) := by decide +kernel
theorem dX4_restsUnder_10 : decode cX4_restsUnder 10 = .ok (.aload_n 2, 1) := by decide +kernel
theorem dX4_restsUnder_11 : decode cX4_restsUnder 11 = .ok (.iconst 0, 1) := by decide +kernel
theorem dX4_restsUnder_12 : decode cX4_restsUnder 12 = .ok (.invokevirtual 196, 3) := by decide +kernel
theorem dX4_restsUnder_15 : decode cX4_restsUnder 15 = .ok (.aload_n 2, 1) := by decide +kernel
theorem dX4_restsUnder_16 : decode cX4_restsUnder 16 = .ok (.iload_n 1, 1) := by decide +kernel
theorem dX4_restsUnder_17 : decode cX4_restsUnder 17 = .ok (.invokevirtual 310, 3) := by decide +kernel
theorem dX4_restsUnder_20 : decode cX4_restsUnder 20 = .ok (.aload_n 2, 1) := by decide +kernel
theorem dX4_restsUnder_21 : decode cX4_restsUnder 21 = .ok (.invokevirtual 128, 3) := by decide +kernel
theorem dX4_restsUnder_24 : decode cX4_restsUnder 24 = .ok (.ireturn, 1) := by decide +kernel
theorem dX4_noShop_0 : decode cX4_noShop 0 = .ok (.iload_n 1, 1) := by decide +kernel
theorem dX4_noShop_1 : decode cX4_noShop 1 = .ok (.ifCond .lt 14, 3) := by decide +kernel
theorem dX4_noShop_4 : decode cX4_noShop 4 = .ok (.iload_n 1, 1) := by decide +kernel
theorem dX4_noShop_5 : decode cX4_noShop 5 = .ok (.aload_n 0, 1) := by decide +kernel
theorem dX4_noShop_6 : decode cX4_noShop 6 = .ok (.getfield 12, 3) := by decide +kernel
theorem dX4_noShop_9 : decode cX4_noShop 9 = .ok (.getfield 247, 3) := by decide +kernel
theorem dX4_noShop_12 : decode cX4_noShop 12 = .ok (.if_icmp .lt 7, 3) := by decide +kernel
theorem dX4_noShop_15 : decode cX4_noShop 15 = .ok (.iconst 1, 1) := by decide +kernel
theorem dX4_noShop_16 : decode cX4_noShop 16 = .ok (.goto 4, 3) := by decide +kernel
theorem dX4_noShop_19 : decode cX4_noShop 19 = .ok (.iconst 0, 1) := by decide +kernel
theorem dX4_noShop_20 : decode cX4_noShop 20 = .ok (.ireturn, 1) := by decide +kernel
theorem dX4_noSide_0 : decode cX4_noSide 0 = .ok (.iload_n 0, 1) := by decide +kernel
theorem dX4_noSide_1 : decode cX4_noSide 1 = .ok (.ifCond .lt 8, 3) := by decide +kernel
theorem dX4_noSide_4 : decode cX4_noSide 4 = .ok (.iload_n 0, 1) := by decide +kernel
theorem dX4_noSide_5 : decode cX4_noSide 5 = .ok (.iconst 1, 1) := by decide +kernel
theorem dX4_noSide_6 : decode cX4_noSide 6 = .ok (.if_icmp .le 7, 3) := by decide +kernel
theorem dX4_noSide_9 : decode cX4_noSide 9 = .ok (.iconst 1, 1) := by decide +kernel
theorem dX4_noSide_10 : decode cX4_noSide 10 = .ok (.goto 4, 3) := by decide +kernel
theorem dX4_noSide_13 : decode cX4_noSide 13 = .ok (.iconst 0, 1) := by decide +kernel
theorem dX4_noSide_14 : decode cX4_noSide 14 = .ok (.ireturn, 1) := by decide +kernel
theorem dX4_refused_0 : decode cX4_refused 0 = .ok (.ldc2_w 308, 3) := by decide +kernel
theorem dX4_refused_3 : decode cX4_refused 3 = .ok (.iload_n 0, 1) := by decide +kernel
theorem dX4_refused_4 : decode cX4_refused 4 = .ok (.i2l, 1) := by decide +kernel
theorem dX4_refused_5 : decode cX4_refused 5 = .ok (.lsub, 1) := by decide +kernel
theorem dX4_refused_6 : decode cX4_refused 6 = .ok (.lreturn, 1) := by decide +kernel
theorem dX4_fraction_0 : decode cX4_fraction 0 = .ok (.lload_n 0, 1) := by decide +kernel
theorem dX4_fraction_1 : decode cX4_fraction 1 = .ok (.invokestatic 313, 3) := by decide +kernel
theorem dX4_fraction_4 : decode cX4_fraction 4 = .ok (.ldc2_w 317, 3) := by decide +kernel
theorem dX4_fraction_7 : decode cX4_fraction 7 = .ok (.invokestatic 319, 3) := by decide +kernel
theorem dX4_fraction_10 : decode cX4_fraction 10 = .ok (.lstore_n 3, 1) := by decide +kernel
theorem dX4_fraction_11 : decode cX4_fraction 11 = .ok (.lload_n 3, 1) := by decide +kernel
theorem dX4_fraction_12 : decode cX4_fraction 12 = .ok (.lconst 0, 1) := by decide +kernel
theorem dX4_fraction_13 : decode cX4_fraction 13 = .ok (.lcmp, 1) := by decide +kernel
theorem dX4_fraction_14 : decode cX4_fraction 14 = .ok (.ifCond .ne 5, 3) := by decide +kernel
theorem dX4_fraction_17 : decode cX4_fraction 17 = .ok (.lconst 0, 1) := by decide +kernel
theorem dX4_fraction_18 : decode cX4_fraction 18 = .ok (.lreturn, 1) := by decide +kernel
theorem dX4_fraction_19 : decode cX4_fraction 19 = .ok (.iload_n 2, 1) := by decide +kernel
theorem dX4_fraction_20 : decode cX4_fraction 20 = .ok (.ifCond .ne 9, 3) := by decide +kernel
theorem dX4_fraction_23 : decode cX4_fraction 23 = .ok (.lload_n 0, 1) := by decide +kernel
theorem dX4_fraction_24 : decode cX4_fraction 24 = .ok (.lload_n 3, 1) := by decide +kernel
theorem dX4_fraction_25 : decode cX4_fraction 25 = .ok (.ldiv, 1) := by decide +kernel
theorem dX4_fraction_26 : decode cX4_fraction 26 = .ok (.goto 8, 3) := by decide +kernel
theorem dX4_fraction_29 : decode cX4_fraction 29 = .ok (.ldc2_w 317, 3) := by decide +kernel
theorem dX4_fraction_32 : decode cX4_fraction 32 = .ok (.lload_n 3, 1) := by decide +kernel
theorem dX4_fraction_33 : decode cX4_fraction 33 = .ok (.ldiv, 1) := by decide +kernel
theorem dX4_fraction_34 : decode cX4_fraction 34 = .ok (.lreturn, 1) := by decide +kernel
theorem dX4_divisor_0 : decode cX4_divisor 0 = .ok (.lload_n 0, 1) := by decide +kernel
theorem dX4_divisor_1 : decode cX4_divisor 1 = .ok (.lstore 4, 2) := by decide +kernel
theorem dX4_divisor_3 : decode cX4_divisor 3 = .ok (.lload_n 2, 1) := by decide +kernel
theorem dX4_divisor_4 : decode cX4_divisor 4 = .ok (.lstore 6, 2) := by decide +kernel
theorem dX4_divisor_6 : decode cX4_divisor 6 = .ok (.iconst 0, 1) := by decide +kernel
theorem dX4_divisor_7 : decode cX4_divisor 7 = .ok (.istore 8, 2) := by decide +kernel
theorem dX4_divisor_9 : decode cX4_divisor 9 = .ok (.iload 8, 2) := by decide +kernel
theorem dX4_divisor_11 : decode cX4_divisor 11 = .ok (.sipush 200, 3) := by decide +kernel
theorem dX4_divisor_14 : decode cX4_divisor 14 = .ok (.if_icmp .ge 31, 3) := by decide +kernel
theorem dX4_divisor_17 : decode cX4_divisor 17 = .ok (.lload 6, 2) := by decide +kernel
theorem dX4_divisor_19 : decode cX4_divisor 19 = .ok (.lconst 0, 1) := by decide +kernel
theorem dX4_divisor_20 : decode cX4_divisor 20 = .ok (.lcmp, 1) := by decide +kernel
theorem dX4_divisor_21 : decode cX4_divisor 21 = .ok (.ifCond .eq 24, 3) := by decide +kernel
theorem dX4_divisor_24 : decode cX4_divisor 24 = .ok (.lload 4, 2) := by decide +kernel
theorem dX4_divisor_26 : decode cX4_divisor 26 = .ok (.lload 6, 2) := by decide +kernel
theorem dX4_divisor_28 : decode cX4_divisor 28 = .ok (.lrem, 1) := by decide +kernel
theorem dX4_divisor_29 : decode cX4_divisor 29 = .ok (.lstore 9, 2) := by decide +kernel
theorem dX4_divisor_31 : decode cX4_divisor 31 = .ok (.lload 6, 2) := by decide +kernel
theorem dX4_divisor_33 : decode cX4_divisor 33 = .ok (.lstore 4, 2) := by decide +kernel
theorem dX4_divisor_35 : decode cX4_divisor 35 = .ok (.lload 9, 2) := by decide +kernel
theorem dX4_divisor_37 : decode cX4_divisor 37 = .ok (.lstore 6, 2) := by decide +kernel
theorem dX4_divisor_39 : decode cX4_divisor 39 = .ok (.iinc 8 1, 3) := by decide +kernel
theorem dX4_divisor_42 : decode cX4_divisor 42 = .ok (.goto (-33), 3) := by decide +kernel
theorem dX4_divisor_45 : decode cX4_divisor 45 = .ok (.lload 4, 2) := by decide +kernel
theorem dX4_divisor_47 : decode cX4_divisor 47 = .ok (.lreturn, 1) := by decide +kernel
theorem dX4_ceiling_0 : decode cX4_ceiling 0 = .ok (.lload_n 0, 1) := by decide +kernel
theorem dX4_ceiling_1 : decode cX4_ceiling 1 = .ok (.lconst 0, 1) := by decide +kernel
theorem dX4_ceiling_2 : decode cX4_ceiling 2 = .ok (.lcmp, 1) := by decide +kernel
theorem dX4_ceiling_3 : decode cX4_ceiling 3 = .ok (.ifCond .le 9, 3) := by decide +kernel
theorem dX4_ceiling_6 : decode cX4_ceiling 6 = .ok (.lload_n 2, 1) := by decide +kernel
theorem dX4_ceiling_7 : decode cX4_ceiling 7 = .ok (.lconst 0, 1) := by decide +kernel
theorem dX4_ceiling_8 : decode cX4_ceiling 8 = .ok (.lcmp, 1) := by decide +kernel
theorem dX4_ceiling_9 : decode cX4_ceiling 9 = .ok (.ifCond .gt 5, 3) := by decide +kernel
theorem dX4_ceiling_12 : decode cX4_ceiling 12 = .ok (.lconst 0, 1) := by decide +kernel
theorem dX4_ceiling_13 : decode cX4_ceiling 13 = .ok (.lreturn, 1) := by decide +kernel
theorem dX4_ceiling_14 : decode cX4_ceiling 14 = .ok (.lload_n 0, 1) := by decide +kernel
theorem dX4_ceiling_15 : decode cX4_ceiling 15 = .ok (.lconst 1, 1) := by decide +kernel
theorem dX4_ceiling_16 : decode cX4_ceiling 16 = .ok (.lsub, 1) := by decide +kernel
theorem dX4_ceiling_17 : decode cX4_ceiling 17 = .ok (.lload_n 2, 1) := by decide +kernel
theorem dX4_ceiling_18 : decode cX4_ceiling 18 = .ok (.ldiv, 1) := by decide +kernel
theorem dX4_ceiling_19 : decode cX4_ceiling 19 = .ok (.lconst 1, 1) := by decide +kernel
theorem dX4_ceiling_20 : decode cX4_ceiling 20 = .ok (.ladd, 1) := by decide +kernel
theorem dX4_ceiling_21 : decode cX4_ceiling 21 = .ok (.lreturn, 1) := by decide +kernel
theorem dX4_sum_0 : decode cX4_sum 0 = .ok (.iconst 0, 1) := by decide +kernel
theorem dX4_sum_1 : decode cX4_sum 1 = .ok (.istore_n 3, 1) := by decide +kernel
theorem dX4_sum_2 : decode cX4_sum 2 = .ok (.iload_n 1, 1) := by decide +kernel
theorem dX4_sum_3 : decode cX4_sum 3 = .ok (.istore 4, 2) := by decide +kernel
theorem dX4_sum_5 : decode cX4_sum 5 = .ok (.iload 4, 2) := by decide +kernel
theorem dX4_sum_7 : decode cX4_sum 7 = .ok (.iload_n 2, 1) := by decide +kernel
theorem dX4_sum_8 : decode cX4_sum 8 = .ok (.if_icmp .ge 23, 3) := by decide +kernel
theorem dX4_sum_11 : decode cX4_sum 11 = .ok (.iload 4, 2) := by decide +kernel
theorem dX4_sum_13 : decode cX4_sum 13 = .ok (.aload_n 0, 1) := by decide +kernel
theorem dX4_sum_14 : decode cX4_sum 14 = .ok (.arraylength, 1) := by decide +kernel
theorem dX4_sum_15 : decode cX4_sum 15 = .ok (.if_icmp .ge 16, 3) := by decide +kernel
theorem dX4_sum_18 : decode cX4_sum 18 = .ok (.iload_n 3, 1) := by decide +kernel
theorem dX4_sum_19 : decode cX4_sum 19 = .ok (.aload_n 0, 1) := by decide +kernel
theorem dX4_sum_20 : decode cX4_sum 20 = .ok (.iload 4, 2) := by decide +kernel
theorem dX4_sum_22 : decode cX4_sum 22 = .ok (.iaload, 1) := by decide +kernel
theorem dX4_sum_23 : decode cX4_sum 23 = .ok (.iadd, 1) := by decide +kernel
theorem dX4_sum_24 : decode cX4_sum 24 = .ok (.istore_n 3, 1) := by decide +kernel
theorem dX4_sum_25 : decode cX4_sum 25 = .ok (.iinc 4 1, 3) := by decide +kernel
theorem dX4_sum_28 : decode cX4_sum 28 = .ok (.goto (-23), 3) := by decide +kernel
theorem dX4_sum_31 : decode cX4_sum 31 = .ok (.iload_n 3, 1) := by decide +kernel
theorem dX4_sum_32 : decode cX4_sum 32 = .ok (.ireturn, 1) := by decide +kernel
theorem dX5_init_0 : decode cX5_init 0 = .ok (.aload_n 0, 1) := by decide +kernel
theorem dX5_init_1 : decode cX5_init 1 = .ok (.invokespecial 1, 3) := by decide +kernel
theorem dX5_init_4 : decode cX5_init 4 = .ok (.aload_n 0, 1) := by decide +kernel
theorem dX5_init_5 : decode cX5_init 5 = .ok (.iconst 4, 1) := by decide +kernel
theorem dX5_init_6 : decode cX5_init 6 = .ok (.newarray .int, 2) := by decide +kernel
theorem dX5_init_8 : decode cX5_init 8 = .ok (.putfield 7, 3) := by decide +kernel
theorem dX5_init_11 : decode cX5_init 11 = .ok (.aload_n 0, 1) := by decide +kernel
theorem dX5_init_12 : decode cX5_init 12 = .ok (.iconst 4, 1) := by decide +kernel
theorem dX5_init_13 : decode cX5_init 13 = .ok (.newarray .int, 2) := by decide +kernel
theorem dX5_init_15 : decode cX5_init 15 = .ok (.putfield 13, 3) := by decide +kernel
theorem dX5_init_18 : decode cX5_init 18 = .ok (.aload_n 0, 1) := by decide +kernel
theorem dX5_init_19 : decode cX5_init 19 = .ok (.sipush 240, 3) := by decide +kernel
theorem dX5_init_22 : decode cX5_init 22 = .ok (.newarray .int, 2) := by decide +kernel
theorem dX5_init_24 : decode cX5_init 24 = .ok (.putfield 16, 3) := by decide +kernel
theorem dX5_init_27 : decode cX5_init 27 = .ok (.aload_n 0, 1) := by decide +kernel
theorem dX5_init_28 : decode cX5_init 28 = .ok (.bipush 60, 2) := by decide +kernel
theorem dX5_init_30 : decode cX5_init 30 = .ok (.newarray .int, 2) := by decide +kernel
theorem dX5_init_32 : decode cX5_init 32 = .ok (.putfield 19, 3) := by decide +kernel
theorem dX5_init_35 : decode cX5_init 35 = .ok (.aload_n 0, 1) := by decide +kernel
theorem dX5_init_36 : decode cX5_init 36 = .ok (.sipush 150, 3) := by decide +kernel
theorem dX5_init_39 : decode cX5_init 39 = .ok (.newarray .int, 2) := by decide +kernel
theorem dX5_init_41 : decode cX5_init 41 = .ok (.putfield 22, 3) := by decide +kernel
theorem dX5_init_44 : decode cX5_init 44 = .ok (.aload_n 0, 1) := by decide +kernel
theorem dX5_init_45 : decode cX5_init 45 = .ok (.iconst 5, 1) := by decide +kernel
theorem dX5_init_46 : decode cX5_init 46 = .ok (.newarray .int, 2) := by decide +kernel
theorem dX5_init_48 : decode cX5_init 48 = .ok (.putfield 25, 3) := by decide +kernel
theorem dX5_init_51 : decode cX5_init 51 = .ok (.aload_n 0, 1) := by decide +kernel
theorem dX5_init_52 : decode cX5_init 52 = .ok (.iconst 5, 1) := by decide +kernel
theorem dX5_init_53 : decode cX5_init 53 = .ok (.newarray .int, 2) := by decide +kernel
theorem dX5_init_55 : decode cX5_init 55 = .ok (.putfield 28, 3) := by decide +kernel
theorem dX5_init_58 : decode cX5_init 58 = .ok (.aload_n 0, 1) := by decide +kernel
theorem dX5_init_59 : decode cX5_init 59 = .ok (.bipush 36, 2) := by decide +kernel
theorem dX5_init_61 : decode cX5_init 61 = .ok (.newarray .int, 2) := by decide +kernel
theorem dX5_init_63 : decode cX5_init 63 = .ok (.putfield 31, 3) := by decide +kernel
theorem dX5_init_66 : decode cX5_init 66 = .ok (.aload_n 0, 1) := by decide +kernel
theorem dX5_init_67 : decode cX5_init 67 = .ok (.bipush 8, 2) := by decide +kernel
theorem dX5_init_69 : decode cX5_init 69 = .ok (.newarray .int, 2) := by decide +kernel
theorem dX5_init_71 : decode cX5_init 71 = .ok (.putfield 34, 3) := by decide +kernel
theorem dX5_init_74 : decode cX5_init 74 = .ok (.aload_n 0, 1) := by decide +kernel
theorem dX5_init_75 : decode cX5_init 75 = .ok (.iconst 5, 1) := by decide +kernel
theorem dX5_init_76 : decode cX5_init 76 = .ok (.newarray .int, 2) := by decide +kernel
theorem dX5_init_78 : decode cX5_init 78 = .ok (.putfield 37, 3) := by decide +kernel
theorem dX5_init_81 : decode cX5_init 81 = .ok (.aload_n 0, 1) := by decide +kernel
theorem dX5_init_82 : decode cX5_init 82 = .ok (.bipush 6, 2) := by decide +kernel
theorem dX5_init_84 : decode cX5_init 84 = .ok (.newarray .int, 2) := by decide +kernel
theorem dX5_init_86 : decode cX5_init 86 = .ok (.putfield 40, 3) := by decide +kernel
theorem dX5_init_89 : decode cX5_init 89 = .ok (.aload_n 0, 1) := by decide +kernel
theorem dX5_init_90 : decode cX5_init 90 = .ok (.iconst 5, 1) := by decide +kernel
theorem dX5_init_91 : decode cX5_init 91 = .ok (.newarray .int, 2) := by decide +kernel
theorem dX5_init_93 : decode cX5_init 93 = .ok (.putfield 43, 3) := by decide +kernel
theorem dX5_init_96 : decode cX5_init 96 = .ok (.aload_n 0, 1) := by decide +kernel
theorem dX5_init_97 : decode cX5_init 97 = .ok (.iconst 4, 1) := by decide +kernel
theorem dX5_init_98 : decode cX5_init 98 = .ok (.newarray .int, 2) := by decide +kernel
theorem dX5_init_100 : decode cX5_init 100 = .ok (.putfield 46, 3) := by decide +kernel
theorem dX5_init_103 : decode cX5_init 103 = .ok (.aload_n 0, 1) := by decide +kernel
theorem dX5_init_104 : decode cX5_init 104 = .ok (.iconst 5, 1) := by decide +kernel
theorem dX5_init_105 : decode cX5_init 105 = .ok (.newarray .int, 2) := by decide +kernel
theorem dX5_init_107 : decode cX5_init 107 = .ok (.putfield 49, 3) := by decide +kernel
theorem dX5_init_110 : decode cX5_init 110 = .ok (.aload_n 0, 1) := by decide +kernel
theorem dX5_init_111 : decode cX5_init 111 = .ok (.iconst 5, 1) := by decide +kernel
theorem dX5_init_112 : decode cX5_init 112 = .ok (.newarray .long, 2) := by decide +kernel
theorem dX5_init_114 : decode cX5_init 114 = .ok (.putfield 52, 3) := by decide +kernel
theorem dX5_init_117 : decode cX5_init 117 = .ok (.aload_n 0, 1) := by decide +kernel
theorem dX5_init_118 : decode cX5_init 118 = .ok (.iconst 5, 1) := by decide +kernel
theorem dX5_init_119 : decode cX5_init 119 = .ok (.newarray .int, 2) := by decide +kernel
theorem dX5_init_121 : decode cX5_init 121 = .ok (.putfield 56, 3) := by decide +kernel
theorem dX5_init_124 : decode cX5_init 124 = .ok (.iconst 0, 1) := by decide +kernel
theorem dX5_init_125 : decode cX5_init 125 = .ok (.istore_n 1, 1) := by decide +kernel
theorem dX5_init_126 : decode cX5_init 126 = .ok (.iload_n 1, 1) := by decide +kernel
theorem dX5_init_127 : decode cX5_init 127 = .ok (.iconst 4, 1) := by decide +kernel
theorem dX5_init_128 : decode cX5_init 128 = .ok (.if_icmp .ge 16, 3) := by decide +kernel
theorem dX5_init_131 : decode cX5_init 131 = .ok (.aload_n 0, 1) := by decide +kernel
theorem dX5_init_132 : decode cX5_init 132 = .ok (.getfield 7, 3) := by decide +kernel
theorem dX5_init_135 : decode cX5_init 135 = .ok (.iload_n 1, 1) := by decide +kernel
theorem dX5_init_136 : decode cX5_init 136 = .ok (.iconst (-1), 1) := by decide +kernel
theorem dX5_init_137 : decode cX5_init 137 = .ok (.iastore, 1) := by decide +kernel
theorem dX5_init_138 : decode cX5_init 138 = .ok (.iinc 1 1, 3) := by decide +kernel
theorem dX5_init_141 : decode cX5_init 141 = .ok (.goto (-15), 3) := by decide +kernel
theorem dX5_init_144 : decode cX5_init 144 = .ok (.aload_n 0, 1) := by decide +kernel
theorem dX5_init_145 : decode cX5_init 145 = .ok (.getfield 34, 3) := by decide +kernel
theorem dX5_init_148 : decode cX5_init 148 = .ok (.iconst 1, 1) := by decide +kernel
theorem dX5_init_149 : decode cX5_init 149 = .ok (.iconst 3, 1) := by decide +kernel
theorem dX5_init_150 : decode cX5_init 150 = .ok (.iastore, 1) := by decide +kernel
theorem dX5_init_151 : decode cX5_init 151 = .ok (.aload_n 0, 1) := by decide +kernel
theorem dX5_init_152 : decode cX5_init 152 = .ok (.getfield 34, 3) := by decide +kernel
theorem dX5_init_155 : decode cX5_init 155 = .ok (.iconst 4, 1) := by decide +kernel
theorem dX5_init_156 : decode cX5_init 156 = .ok (.bipush 16, 2) := by decide +kernel
theorem dX5_init_158 : decode cX5_init 158 = .ok (.iastore, 1) := by decide +kernel
theorem dX5_init_159 : decode cX5_init 159 = .ok (.return_, 1) := by decide +kernel
theorem dX5_in_0 : decode cX5_in 0 = .ok (.lload_n 0, 1) := by decide +kernel
theorem dX5_in_1 : decode cX5_in 1 = .ok (.lload_n 2, 1) := by decide +kernel
theorem dX5_in_2 : decode cX5_in 2 = .ok (.lcmp, 1) := by decide +kernel
theorem dX5_in_3 : decode cX5_in 3 = .ok (.ifCond .lt 14, 3) := by decide +kernel
theorem dX5_in_6 : decode cX5_in 6 = .ok (.lload_n 0, 1) := by decide +kernel
theorem dX5_in_7 : decode cX5_in 7 = .ok (.lload 4, 2) := by decide +kernel
theorem dX5_in_9 : decode cX5_in 9 = .ok (.lcmp, 1) := by decide +kernel
theorem dX5_in_10 : decode cX5_in 10 = .ok (.ifCond .gt 7, 3) := by decide +kernel
theorem dX5_in_13 : decode cX5_in 13 = .ok (.iconst 1, 1) := by decide +kernel
theorem dX5_in_14 : decode cX5_in 14 = .ok (.goto 4, 3) := by decide +kernel
theorem dX5_in_17 : decode cX5_in 17 = .ok (.iconst 0, 1) := by decide +kernel
theorem dX5_in_18 : decode cX5_in 18 = .ok (.ireturn, 1) := by decide +kernel
theorem dX5_no_0 : decode cX5_no 0 = .ok (.ldc2_w 59, 3) := by decide +kernel
theorem dX5_no_3 : decode cX5_no 3 = .ok (.iload_n 0, 1) := by decide +kernel
theorem dX5_no_4 : decode cX5_no 4 = .ok (.i2l, 1) := by decide +kernel
theorem dX5_no_5 : decode cX5_no 5 = .ok (.lsub, 1) := by decide +kernel
theorem dX5_no_6 : decode cX5_no 6 = .ok (.lreturn, 1) := by decide +kernel
theorem dX5_isTwo_0 : decode cX5_isTwo 0 = .ok (.iload_n 0, 1) := by decide +kernel
theorem dX5_isTwo_1 : decode cX5_isTwo 1 = .ok (.i2l, 1) := by decide +kernel
theorem dX5_isTwo_2 : decode cX5_isTwo 2 = .ok (.lconst 0, 1) := by decide +kernel
theorem dX5_isTwo_3 : decode cX5_isTwo 3 = .ok (.lconst 1, 1) := by decide +kernel
theorem dX5_isTwo_4 : decode cX5_isTwo 4 = .ok (.invokestatic 61, 3) := by decide +kernel
theorem dX5_isTwo_7 : decode cX5_isTwo 7 = .ok (.ireturn, 1) := by decide +kernel
theorem dX5_met_0 : decode cX5_met 0 = .ok (.aload_n 0, 1) := by decide +kernel
theorem dX5_met_1 : decode cX5_met 1 = .ok (.iload_n 1, 1) := by decide +kernel
theorem dX5_met_2 : decode cX5_met 2 = .ok (.putfield 65, 3) := by decide +kernel
theorem dX5_met_5 : decode cX5_met 5 = .ok (.bipush (-10), 2) := by decide +kernel
theorem dX5_met_7 : decode cX5_met 7 = .ok (.iload_n 1, 1) := by decide +kernel
theorem dX5_met_8 : decode cX5_met 8 = .ok (.isub, 1) := by decide +kernel
theorem dX5_met_9 : decode cX5_met 9 = .ok (.ireturn, 1) := by decide +kernel
theorem dX5_isSheet_0 : decode cX5_isSheet 0 = .ok (.iload_n 0, 1) := by decide +kernel
theorem dX5_isSheet_1 : decode cX5_isSheet 1 = .ok (.i2l, 1) := by decide +kernel
theorem dX5_isSheet_2 : decode cX5_isSheet 2 = .ok (.lconst 0, 1) := by decide +kernel
theorem dX5_isSheet_3 : decode cX5_isSheet 3 = .ok (.ldc2_w 69, 3) := by decide +kernel
theorem dX5_isSheet_6 : decode cX5_isSheet 6 = .ok (.invokestatic 61, 3) := by decide +kernel
theorem dX5_isSheet_9 : decode cX5_isSheet 9 = .ok (.ireturn, 1) := by decide +kernel
theorem dX5_sheet_0 : decode cX5_sheet 0 = .ok (.iload_n 1, 1) := by decide +kernel
theorem dX5_sheet_1 : decode cX5_sheet 1 = .ok (.invokestatic 71, 3) := by decide +kernel
theorem dX5_sheet_4 : decode cX5_sheet 4 = .ok (.ifCond .eq 21, 3) := by decide +kernel
theorem dX5_sheet_7 : decode cX5_sheet 7 = .ok (.iload_n 2, 1) := by decide +kernel
theorem dX5_sheet_8 : decode cX5_sheet 8 = .ok (.i2l, 1) := by decide +kernel
theorem dX5_sheet_9 : decode cX5_sheet 9 = .ok (.lconst 0, 1) := by decide +kernel
theorem dX5_sheet_10 : decode cX5_sheet 10 = .ok (.ldc2_w 75, 3) := by decide +kernel
theorem dX5_sheet_13 : decode cX5_sheet 13 = .ok (.invokestatic 61, 3) := by decide +kernel
theorem dX5_sheet_16 : decode cX5_sheet 16 = .ok (.ifCond .eq 9, 3) := by decide +kernel
theorem dX5_sheet_19 : decode cX5_sheet 19 = .ok (.iload_n 3, 1) := by decide +kernel
theorem dX5_sheet_20 : decode cX5_sheet 20 = .ok (.bipush 60, 2) := by decide +kernel
theorem dX5_sheet_22 : decode cX5_sheet 22 = .ok (.if_icmp .le 6, 3) := by decide +kernel
theorem dX5_sheet_25 : decode cX5_sheet 25 = .ok (.bipush (-2), 2) := by decide +kernel
theorem dX5_sheet_27 : decode cX5_sheet 27 = .ok (.ireturn, 1) := by decide +kernel
theorem dX5_sheet_28 : decode cX5_sheet 28 = .ok (.iload_n 3, 1) := by decide +kernel
theorem dX5_sheet_29 : decode cX5_sheet 29 = .ok (.ifCond .ge 9, 3) := by decide +kernel
theorem dX5_sheet_32 : decode cX5_sheet 32 = .ok (.aload_n 0, 1) := by decide +kernel
theorem dX5_sheet_33 : decode cX5_sheet 33 = .ok (.iconst 5, 1) := by decide +kernel
theorem dX5_sheet_34 : decode cX5_sheet 34 = .ok (.invokevirtual 77, 3) := by decide +kernel
theorem dX5_sheet_37 : decode cX5_sheet 37 = .ok (.ireturn, 1) := by decide +kernel
theorem dX5_sheet_38 : decode cX5_sheet 38 = .ok (.aload_n 0, 1) := by decide +kernel
theorem dX5_sheet_39 : decode cX5_sheet 39 = .ok (.getfield 7, 3) := by decide +kernel
theorem dX5_sheet_42 : decode cX5_sheet 42 = .ok (.iload_n 1, 1) := by decide +kernel
theorem dX5_sheet_43 : decode cX5_sheet 43 = .ok (.iload_n 2, 1) := by decide +kernel
theorem dX5_sheet_44 : decode cX5_sheet 44 = .ok (.iastore, 1) := by decide +kernel
theorem dX5_sheet_45 : decode cX5_sheet 45 = .ok (.aload_n 0, 1) := by decide +kernel
theorem dX5_sheet_46 : decode cX5_sheet 46 = .ok (.getfield 13, 3) := by decide +kernel
theorem dX5_sheet_49 : decode cX5_sheet 49 = .ok (.iload_n 1, 1) := by decide +kernel
theorem dX5_sheet_50 : decode cX5_sheet 50 = .ok (.iload_n 3, 1) := by decide +kernel
theorem dX5_sheet_51 : decode cX5_sheet 51 = .ok (.iastore, 1) := by decide +kernel
theorem dX5_sheet_52 : decode cX5_sheet 52 = .ok (.iconst 0, 1) := by decide +kernel
theorem dX5_sheet_53 : decode cX5_sheet 53 = .ok (.istore 4, 2) := by decide +kernel
theorem dX5_sheet_55 : decode cX5_sheet 55 = .ok (.iload 4, 2) := by decide +kernel
theorem dX5_sheet_57 : decode cX5_sheet 57 = .ok (.iload_n 3, 1) := by decide +kernel
theorem dX5_sheet_58 : decode cX5_sheet 58 = .ok (.if_icmp .ge 22, 3) := by decide +kernel
theorem dX5_sheet_61 : decode cX5_sheet 61 = .ok (.aload_n 0, 1) := by decide +kernel
theorem dX5_sheet_62 : decode cX5_sheet 62 = .ok (.getfield 16, 3) := by decide +kernel
theorem dX5_sheet_65 : decode cX5_sheet 65 = .ok (.bipush 60, 2) := by decide +kernel
theorem dX5_sheet_67 : decode cX5_sheet 67 = .ok (.iload_n 1, 1) := by decide +kernel
theorem dX5_sheet_68 : decode cX5_sheet 68 = .ok (.imul, 1) := by decide +kernel
theorem dX5_sheet_69 : decode cX5_sheet 69 = .ok (.iload 4, 2) := by decide +kernel
theorem dX5_sheet_71 : decode cX5_sheet 71 = .ok (.iadd, 1) := by decide +kernel
theorem dX5_sheet_72 : decode cX5_sheet 72 = .ok (.iconst 0, 1) := by decide +kernel
theorem dX5_sheet_73 : decode cX5_sheet 73 = .ok (.iastore, 1) := by decide +kernel
theorem dX5_sheet_74 : decode cX5_sheet 74 = .ok (.iinc 4 1, 3) := by decide +kernel
theorem dX5_sheet_77 : decode cX5_sheet 77 = .ok (.goto (-22), 3) := by decide +kernel
theorem dX5_sheet_80 : decode cX5_sheet 80 = .ok (.iload_n 3, 1) := by decide +kernel
theorem dX5_sheet_81 : decode cX5_sheet 81 = .ok (.ireturn, 1) := by decide +kernel
theorem dX5_lose_0 : decode cX5_lose 0 = .ok (.iload_n 1, 1) := by decide +kernel
theorem dX5_lose_1 : decode cX5_lose 1 = .ok (.invokestatic 71, 3) := by decide +kernel
theorem dX5_lose_4 : decode cX5_lose 4 = .ok (.ifCond .ne 6, 3) := by decide +kernel
theorem dX5_lose_7 : decode cX5_lose 7 = .ok (.bipush (-2), 2) := by decide +kernel
theorem dX5_lose_9 : decode cX5_lose 9 = .ok (.ireturn, 1) := by decide +kernel
theorem dX5_lose_10 : decode cX5_lose 10 = .ok (.aload_n 0, 1) := by decide +kernel
theorem dX5_lose_11 : decode cX5_lose 11 = .ok (.getfield 7, 3) := by decide +kernel
theorem dX5_lose_14 : decode cX5_lose 14 = .ok (.iload_n 1, 1) := by decide +kernel
theorem dX5_lose_15 : decode cX5_lose 15 = .ok (.iaload, 1) := by decide +kernel
theorem dX5_lose_16 : decode cX5_lose 16 = .ok (.ifCond .ge 9, 3) := by decide +kernel
theorem dX5_lose_19 : decode cX5_lose 19 = .ok (.aload_n 0, 1) := by decide +kernel
theorem dX5_lose_20 : decode cX5_lose 20 = .ok (.iconst 1, 1) := by decide +kernel
theorem dX5_lose_21 : decode cX5_lose 21 = .ok (.invokevirtual 77, 3) := by decide +kernel
theorem dX5_lose_24 : decode cX5_lose 24 = .ok (.ireturn, 1) := by decide +kernel
theorem dX5_lose_25 : decode cX5_lose 25 = .ok (.aload_n 0, 1) := by decide +kernel
theorem dX5_lose_26 : decode cX5_lose 26 = .ok (.getfield 7, 3) := by decide +kernel
theorem dX5_lose_29 : decode cX5_lose 29 = .ok (.iload_n 1, 1) := by decide +kernel
theorem dX5_lose_30 : decode cX5_lose 30 = .ok (.iconst (-1), 1) := by decide +kernel
theorem dX5_lose_31 : decode cX5_lose 31 = .ok (.iastore, 1) := by decide +kernel
theorem dX5_lose_32 : decode cX5_lose 32 = .ok (.aload_n 0, 1) := by decide +kernel
theorem dX5_lose_33 : decode cX5_lose 33 = .ok (.getfield 13, 3) := by decide +kernel
theorem dX5_lose_36 : decode cX5_lose 36 = .ok (.iload_n 1, 1) := by decide +kernel
theorem dX5_lose_37 : decode cX5_lose 37 = .ok (.iaload, 1) := by decide +kernel
theorem dX5_lose_38 : decode cX5_lose 38 = .ok (.ireturn, 1) := by decide +kernel
theorem dX5_lacks_0 : decode cX5_lacks 0 = .ok (.aload_n 0, 1) := by decide +kernel
theorem dX5_lacks_1 : decode cX5_lacks 1 = .ok (.getfield 7, 3) := by decide +kernel
theorem dX5_lacks_4 : decode cX5_lacks 4 = .ok (.iload_n 1, 1) := by decide +kernel
theorem dX5_lacks_5 : decode cX5_lacks 5 = .ok (.iaload, 1) := by decide +kernel
theorem dX5_lacks_6 : decode cX5_lacks 6 = .ok (.ifCond .ge 9, 3) := by decide +kernel
theorem dX5_lacks_9 : decode cX5_lacks 9 = .ok (.aload_n 0, 1) := by decide +kernel
theorem dX5_lacks_10 : decode cX5_lacks 10 = .ok (.iconst 1, 1) := by decide +kernel
theorem dX5_lacks_11 : decode cX5_lacks 11 = .ok (.invokevirtual 77, 3) := by decide +kernel
theorem dX5_lacks_14 : decode cX5_lacks 14 = .ok (.ireturn, 1) := by decide +kernel
theorem dX5_lacks_15 : decode cX5_lacks 15 = .ok (.aload_n 0, 1) := by decide +kernel
theorem dX5_lacks_16 : decode cX5_lacks 16 = .ok (.getfield 7, 3) := by decide +kernel
theorem dX5_lacks_19 : decode cX5_lacks 19 = .ok (.iload_n 1, 1) := by decide +kernel
theorem dX5_lacks_20 : decode cX5_lacks 20 = .ok (.iaload, 1) := by decide +kernel
theorem dX5_lacks_21 : decode cX5_lacks 21 = .ok (.iload_n 2, 1) := by decide +kernel
theorem dX5_lacks_22 : decode cX5_lacks 22 = .ok (.if_icmp .eq 9, 3) := by decide +kernel
theorem dX5_lacks_25 : decode cX5_lacks 25 = .ok (.aload_n 0, 1) := by decide +kernel
theorem dX5_lacks_26 : decode cX5_lacks 26 = .ok (.iconst 3, 1) := by decide +kernel
theorem dX5_lacks_27 : decode cX5_lacks 27 = .ok (.invokevirtual 77, 3) := by decide +kernel
theorem dX5_lacks_30 : decode cX5_lacks 30 = .ok (.ireturn, 1) := by decide +kernel
theorem dX5_lacks_31 : decode cX5_lacks 31 = .ok (.iload_n 3, 1) := by decide +kernel
theorem dX5_lacks_32 : decode cX5_lacks 32 = .ok (.i2l, 1) := by decide +kernel
theorem dX5_lacks_33 : decode cX5_lacks 33 = .ok (.lconst 0, 1) := by decide +kernel
theorem dX5_lacks_34 : decode cX5_lacks 34 = .ok (.aload_n 0, 1) := by decide +kernel
theorem dX5_lacks_35 : decode cX5_lacks 35 = .ok (.getfield 13, 3) := by decide +kernel
theorem dX5_lacks_38 : decode cX5_lacks 38 = .ok (.iload_n 1, 1) := by decide +kernel
theorem dX5_lacks_39 : decode cX5_lacks 39 = .ok (.iaload, 1) := by decide +kernel
theorem dX5_lacks_40 : decode cX5_lacks 40 = .ok (.iconst 1, 1) := by decide +kernel
theorem dX5_lacks_41 : decode cX5_lacks 41 = .ok (.isub, 1) := by decide +kernel
theorem dX5_lacks_42 : decode cX5_lacks 42 = .ok (.i2l, 1) := by decide +kernel
theorem dX5_lacks_43 : decode cX5_lacks 43 = .ok (.invokestatic 61, 3) := by decide +kernel
theorem dX5_lacks_46 : decode cX5_lacks 46 = .ok (.ifCond .eq 7, 3) := by decide +kernel
theorem dX5_lacks_49 : decode cX5_lacks 49 = .ok (.iconst 0, 1) := by decide +kernel
theorem dX5_lacks_50 : decode cX5_lacks 50 = .ok (.goto 8, 3) := by decide +kernel
theorem dX5_lacks_53 : decode cX5_lacks 53 = .ok (.aload_n 0, 1) := by decide +kernel
theorem dX5_lacks_54 : decode cX5_lacks 54 = .ok (.iconst 2, 1) := by decide +kernel
theorem dX5_lacks_55 : decode cX5_lacks 55 = .ok (.invokevirtual 77, 3) := by decide +kernel
theorem dX5_lacks_58 : decode cX5_lacks 58 = .ok (.ireturn, 1) := by decide +kernel
theorem dX5_cut_0 : decode cX5_cut 0 = .ok (.iload_n 0, 1) := by decide +kernel
theorem dX5_cut_1 : decode cX5_cut 1 = .ok (.ifCond .ne 8, 3) := by decide +kernel
theorem dX5_cut_4 : decode cX5_cut 4 = .ok (.iload_n 1, 1) := by decide +kernel
theorem dX5_cut_5 : decode cX5_cut 5 = .ok (.i2b, 1) := by decide +kernel
theorem dX5_cut_6 : decode cX5_cut 6 = .ok (.goto 14, 3) := by decide +kernel
theorem dX5_cut_9 : decode cX5_cut 9 = .ok (.iload_n 0, 1) := by decide +kernel
theorem dX5_cut_10 : decode cX5_cut 10 = .ok (.iconst 1, 1) := by decide +kernel
theorem dX5_cut_11 : decode cX5_cut 11 = .ok (.if_icmp .ne 8, 3) := by decide +kernel
theorem dX5_cut_14 : decode cX5_cut 14 = .ok (.iload_n 1, 1) := by decide +kernel
theorem dX5_cut_15 : decode cX5_cut 15 = .ok (.i2s, 1) := by decide +kernel
theorem dX5_cut_16 : decode cX5_cut 16 = .ok (.goto 4, 3) := by decide +kernel
theorem dX5_cut_19 : decode cX5_cut 19 = .ok (.iload_n 1, 1) := by decide +kernel
theorem dX5_cut_20 : decode cX5_cut 20 = .ok (.ireturn, 1) := by decide +kernel
theorem dX5_lay_0 : decode cX5_lay 0 = .ok (.iload_n 1, 1) := by decide +kernel
theorem dX5_lay_1 : decode cX5_lay 1 = .ok (.invokestatic 71, 3) := by decide +kernel
theorem dX5_lay_4 : decode cX5_lay 4 = .ok (.ifCond .eq 15, 3) := by decide +kernel
theorem dX5_lay_7 : decode cX5_lay 7 = .ok (.iload_n 2, 1) := by decide +kernel
theorem dX5_lay_8 : decode cX5_lay 8 = .ok (.i2l, 1) := by decide +kernel
theorem dX5_lay_9 : decode cX5_lay 9 = .ok (.lconst 0, 1) := by decide +kernel
theorem dX5_lay_10 : decode cX5_lay 10 = .ok (.ldc2_w 75, 3) := by decide +kernel
theorem dX5_lay_13 : decode cX5_lay 13 = .ok (.invokestatic 61, 3) := by decide +kernel
theorem dX5_lay_16 : decode cX5_lay 16 = .ok (.ifCond .ne 6, 3) := by decide +kernel
theorem dX5_lay_19 : decode cX5_lay 19 = .ok (.bipush (-2), 2) := by decide +kernel
theorem dX5_lay_21 : decode cX5_lay 21 = .ok (.ireturn, 1) := by decide +kernel
theorem dX5_lay_22 : decode cX5_lay 22 = .ok (.aload_n 0, 1) := by decide +kernel
theorem dX5_lay_23 : decode cX5_lay 23 = .ok (.iload_n 1, 1) := by decide +kernel
theorem dX5_lay_24 : decode cX5_lay 24 = .ok (.iload_n 2, 1) := by decide +kernel
theorem dX5_lay_25 : decode cX5_lay 25 = .ok (.iload_n 3, 1) := by decide +kernel
theorem dX5_lay_26 : decode cX5_lay 26 = .ok (.invokevirtual 81, 3) := by decide +kernel
theorem dX5_lay_29 : decode cX5_lay 29 = .ok (.istore 5, 2) := by decide +kernel
theorem dX5_lay_31 : decode cX5_lay 31 = .ok (.iload 5, 2) := by decide +kernel
theorem dX5_lay_33 : decode cX5_lay 33 = .ok (.ifCond .eq 6, 3) := by decide +kernel
theorem dX5_lay_36 : decode cX5_lay 36 = .ok (.iload 5, 2) := by decide +kernel
theorem dX5_lay_38 : decode cX5_lay 38 = .ok (.ireturn, 1) := by decide +kernel
theorem dX5_lay_39 : decode cX5_lay 39 = .ok (.aload_n 0, 1) := by decide +kernel
theorem dX5_lay_40 : decode cX5_lay 40 = .ok (.getfield 16, 3) := by decide +kernel
theorem dX5_lay_43 : decode cX5_lay 43 = .ok (.bipush 60, 2) := by decide +kernel
theorem dX5_lay_45 : decode cX5_lay 45 = .ok (.iload_n 1, 1) := by decide +kernel
theorem dX5_lay_46 : decode cX5_lay 46 = .ok (.imul, 1) := by decide +kernel
theorem dX5_lay_47 : decode cX5_lay 47 = .ok (.iload_n 3, 1) := by decide +kernel
theorem dX5_lay_48 : decode cX5_lay 48 = .ok (.iadd, 1) := by decide +kernel
theorem dX5_lay_49 : decode cX5_lay 49 = .ok (.iload_n 2, 1) := by decide +kernel
theorem dX5_lay_50 : decode cX5_lay 50 = .ok (.iload 4, 2) := by decide +kernel
theorem dX5_lay_52 : decode cX5_lay 52 = .ok (.invokestatic 85, 3) := by decide +kernel
theorem dX5_lay_55 : decode cX5_lay 55 = .ok (.iastore, 1) := by decide +kernel
theorem dX5_lay_56 : decode cX5_lay 56 = .ok (.iconst 1, 1) := by decide +kernel
theorem dX5_lay_57 : decode cX5_lay 57 = .ok (.ireturn, 1) := by decide +kernel
theorem dX5_get_0 : decode cX5_get 0 = .ok (.iload_n 1, 1) := by decide +kernel
theorem dX5_get_1 : decode cX5_get 1 = .ok (.invokestatic 71, 3) := by decide +kernel
theorem dX5_get_4 : decode cX5_get 4 = .ok (.ifCond .eq 25, 3) := by decide +kernel
theorem dX5_get_7 : decode cX5_get 7 = .ok (.iload_n 2, 1) := by decide +kernel
theorem dX5_get_8 : decode cX5_get 8 = .ok (.i2l, 1) := by decide +kernel
theorem dX5_get_9 : decode cX5_get 9 = .ok (.lconst 0, 1) := by decide +kernel
theorem dX5_get_10 : decode cX5_get 10 = .ok (.ldc2_w 75, 3) := by decide +kernel
theorem dX5_get_13 : decode cX5_get 13 = .ok (.invokestatic 61, 3) := by decide +kernel
theorem dX5_get_16 : decode cX5_get 16 = .ok (.ifCond .eq 13, 3) := by decide +kernel
theorem dX5_get_19 : decode cX5_get 19 = .ok (.aload_n 0, 1) := by decide +kernel
theorem dX5_get_20 : decode cX5_get 20 = .ok (.iload_n 1, 1) := by decide +kernel
theorem dX5_get_21 : decode cX5_get 21 = .ok (.iload_n 2, 1) := by decide +kernel
theorem dX5_get_22 : decode cX5_get 22 = .ok (.iload_n 3, 1) := by decide +kernel
theorem dX5_get_23 : decode cX5_get 23 = .ok (.invokevirtual 81, 3) := by decide +kernel
theorem dX5_get_26 : decode cX5_get 26 = .ok (.ifCond .eq 6, 3) := by decide +kernel
theorem dX5_get_29 : decode cX5_get 29 = .ok (.ldc 89, 2) := by decide +kernel
theorem dX5_get_31 : decode cX5_get 31 = .ok (.ireturn, 1) := by decide +kernel
theorem dX5_get_32 : decode cX5_get 32 = .ok (.aload_n 0, 1) := by decide +kernel
theorem dX5_get_33 : decode cX5_get 33 = .ok (.getfield 16, 3) := by decide +kernel
theorem dX5_get_36 : decode cX5_get 36 = .ok (.bipush 60, 2) := by decide +kernel
theorem dX5_get_38 : decode cX5_get 38 = .ok (.iload_n 1, 1) := by decide +kernel
theorem dX5_get_39 : decode cX5_get 39 = .ok (.imul, 1) := by decide +kernel
theorem dX5_get_40 : decode cX5_get 40 = .ok (.iload_n 3, 1) := by decide +kernel
theorem dX5_get_41 : decode cX5_get 41 = .ok (.iadd, 1) := by decide +kernel
theorem dX5_get_42 : decode cX5_get 42 = .ok (.iaload, 1) := by decide +kernel
theorem dX5_get_43 : decode cX5_get 43 = .ok (.ireturn, 1) := by decide +kernel
theorem dX5_copy_0 : decode cX5_copy 0 = .ok (.iload_n 1, 1) := by decide +kernel
theorem dX5_copy_1 : decode cX5_copy 1 = .ok (.invokestatic 71, 3) := by decide +kernel
theorem dX5_copy_4 : decode cX5_copy 4 = .ok (.ifCond .eq 10, 3) := by decide +kernel
theorem dX5_copy_7 : decode cX5_copy 7 = .ok (.iload_n 3, 1) := by decide +kernel
theorem dX5_copy_8 : decode cX5_copy 8 = .ok (.invokestatic 71, 3) := by decide +kernel
theorem dX5_copy_11 : decode cX5_copy 11 = .ok (.ifCond .ne 6, 3) := by decide +kernel
theorem dX5_copy_14 : decode cX5_copy 14 = .ok (.bipush (-2), 2) := by decide +kernel
theorem dX5_copy_16 : decode cX5_copy 16 = .ok (.ireturn, 1) := by decide +kernel
theorem dX5_copy_17 : decode cX5_copy 17 = .ok (.aload_n 0, 1) := by decide +kernel
theorem dX5_copy_18 : decode cX5_copy 18 = .ok (.getfield 7, 3) := by decide +kernel
theorem dX5_copy_21 : decode cX5_copy 21 = .ok (.iload_n 1, 1) := by decide +kernel
theorem dX5_copy_22 : decode cX5_copy 22 = .ok (.iaload, 1) := by decide +kernel
theorem dX5_copy_23 : decode cX5_copy 23 = .ok (.ifCond .lt 12, 3) := by decide +kernel
theorem dX5_copy_26 : decode cX5_copy 26 = .ok (.aload_n 0, 1) := by decide +kernel
theorem dX5_copy_27 : decode cX5_copy 27 = .ok (.getfield 7, 3) := by decide +kernel
theorem dX5_copy_30 : decode cX5_copy 30 = .ok (.iload_n 3, 1) := by decide +kernel
theorem dX5_copy_31 : decode cX5_copy 31 = .ok (.iaload, 1) := by decide +kernel
theorem dX5_copy_32 : decode cX5_copy 32 = .ok (.ifCond .ge 9, 3) := by decide +kernel
theorem dX5_copy_35 : decode cX5_copy 35 = .ok (.aload_n 0, 1) := by decide +kernel
theorem dX5_copy_36 : decode cX5_copy 36 = .ok (.iconst 1, 1) := by decide +kernel
theorem dX5_copy_37 : decode cX5_copy 37 = .ok (.invokevirtual 77, 3) := by decide +kernel
theorem dX5_copy_40 : decode cX5_copy 40 = .ok (.ireturn, 1) := by decide +kernel
theorem dX5_copy_41 : decode cX5_copy 41 = .ok (.aload_n 0, 1) := by decide +kernel
theorem dX5_copy_42 : decode cX5_copy 42 = .ok (.getfield 7, 3) := by decide +kernel
theorem dX5_copy_45 : decode cX5_copy 45 = .ok (.iload_n 1, 1) := by decide +kernel
theorem dX5_copy_46 : decode cX5_copy 46 = .ok (.iaload, 1) := by decide +kernel
theorem dX5_copy_47 : decode cX5_copy 47 = .ok (.aload_n 0, 1) := by decide +kernel
theorem dX5_copy_48 : decode cX5_copy 48 = .ok (.getfield 7, 3) := by decide +kernel
theorem dX5_copy_51 : decode cX5_copy 51 = .ok (.iload_n 3, 1) := by decide +kernel
theorem dX5_copy_52 : decode cX5_copy 52 = .ok (.iaload, 1) := by decide +kernel
theorem dX5_copy_53 : decode cX5_copy 53 = .ok (.if_icmp .eq 9, 3) := by decide +kernel
theorem dX5_copy_56 : decode cX5_copy 56 = .ok (.aload_n 0, 1) := by decide +kernel
theorem dX5_copy_57 : decode cX5_copy 57 = .ok (.iconst 4, 1) := by decide +kernel
theorem dX5_copy_58 : decode cX5_copy 58 = .ok (.invokevirtual 77, 3) := by decide +kernel
theorem dX5_copy_61 : decode cX5_copy 61 = .ok (.ireturn, 1) := by decide +kernel
theorem dX5_copy_62 : decode cX5_copy 62 = .ok (.iload_n 2, 1) := by decide +kernel
theorem dX5_copy_63 : decode cX5_copy 63 = .ok (.ifCond .lt 48, 3) := by decide +kernel
theorem dX5_copy_66 : decode cX5_copy 66 = .ok (.iload 4, 2) := by decide +kernel
theorem dX5_copy_68 : decode cX5_copy 68 = .ok (.ifCond .lt 43, 3) := by decide +kernel
theorem dX5_copy_71 : decode cX5_copy 71 = .ok (.iload 5, 2) := by decide +kernel
theorem dX5_copy_73 : decode cX5_copy 73 = .ok (.ifCond .lt 38, 3) := by decide +kernel
theorem dX5_copy_76 : decode cX5_copy 76 = .ok (.iload_n 2, 1) := by decide +kernel
theorem dX5_copy_77 : decode cX5_copy 77 = .ok (.i2l, 1) := by decide +kernel
theorem dX5_copy_78 : decode cX5_copy 78 = .ok (.iload 5, 2) := by decide +kernel
theorem dX5_copy_80 : decode cX5_copy 80 = .ok (.i2l, 1) := by decide +kernel
theorem dX5_copy_81 : decode cX5_copy 81 = .ok (.ladd, 1) := by decide +kernel
theorem dX5_copy_82 : decode cX5_copy 82 = .ok (.aload_n 0, 1) := by decide +kernel
theorem dX5_copy_83 : decode cX5_copy 83 = .ok (.getfield 13, 3) := by decide +kernel
theorem dX5_copy_86 : decode cX5_copy 86 = .ok (.iload_n 1, 1) := by decide +kernel
theorem dX5_copy_87 : decode cX5_copy 87 = .ok (.iaload, 1) := by decide +kernel
theorem dX5_copy_88 : decode cX5_copy 88 = .ok (.i2l, 1) := by decide +kernel
theorem dX5_copy_89 : decode cX5_copy 89 = .ok (.lcmp, 1) := by decide +kernel
theorem dX5_copy_90 : decode cX5_copy 90 = .ok (.ifCond .gt 21, 3) := by decide +kernel
theorem dX5_copy_93 : decode cX5_copy 93 = .ok (.iload 4, 2) := by decide +kernel
theorem dX5_copy_95 : decode cX5_copy 95 = .ok (.i2l, 1) := by decide +kernel
theorem dX5_copy_96 : decode cX5_copy 96 = .ok (.iload 5, 2) := by decide +kernel
theorem dX5_copy_98 : decode cX5_copy 98 = .ok (.i2l, 1) := by decide +kernel
theorem dX5_copy_99 : decode cX5_copy 99 = .ok (.ladd, 1) := by decide +kernel
theorem dX5_copy_100 : decode cX5_copy 100 = .ok (.aload_n 0, 1) := by decide +kernel
theorem dX5_copy_101 : decode cX5_copy 101 = .ok (.getfield 13, 3) := by decide +kernel
theorem dX5_copy_104 : decode cX5_copy 104 = .ok (.iload_n 3, 1) := by decide +kernel
theorem dX5_copy_105 : decode cX5_copy 105 = .ok (.iaload, 1) := by decide +kernel
theorem dX5_copy_106 : decode cX5_copy 106 = .ok (.i2l, 1) := by decide +kernel
theorem dX5_copy_107 : decode cX5_copy 107 = .ok (.lcmp, 1) := by decide +kernel
theorem dX5_copy_108 : decode cX5_copy 108 = .ok (.ifCond .le 9, 3) := by decide +kernel
theorem dX5_copy_111 : decode cX5_copy 111 = .ok (.aload_n 0, 1) := by decide +kernel
theorem dX5_copy_112 : decode cX5_copy 112 = .ok (.iconst 2, 1) := by decide +kernel
theorem dX5_copy_113 : decode cX5_copy 113 = .ok (.invokevirtual 77, 3) := by decide +kernel
theorem dX5_copy_116 : decode cX5_copy 116 = .ok (.ireturn, 1) := by decide +kernel
theorem dX5_copy_117 : decode cX5_copy 117 = .ok (.iconst 0, 1) := by decide +kernel
theorem dX5_copy_118 : decode cX5_copy 118 = .ok (.istore 6, 2) := by decide +kernel
theorem dX5_copy_120 : decode cX5_copy 120 = .ok (.iload 6, 2) := by decide +kernel
theorem dX5_copy_122 : decode cX5_copy 122 = .ok (.iload 5, 2) := by decide +kernel
theorem dX5_copy_124 : decode cX5_copy 124 = .ok (.if_icmp .ge 30, 3) := by decide +kernel
theorem dX5_copy_127 : decode cX5_copy 127 = .ok (.aload_n 0, 1) := by decide +kernel
theorem dX5_copy_128 : decode cX5_copy 128 = .ok (.getfield 19, 3) := by decide +kernel
theorem dX5_copy_131 : decode cX5_copy 131 = .ok (.iload 6, 2) := by decide +kernel
theorem dX5_copy_133 : decode cX5_copy 133 = .ok (.aload_n 0, 1) := by decide +kernel
theorem dX5_copy_134 : decode cX5_copy 134 = .ok (.getfield 16, 3) := by decide +kernel
theorem dX5_copy_137 : decode cX5_copy 137 = .ok (.bipush 60, 2) := by decide +kernel
theorem dX5_copy_139 : decode cX5_copy 139 = .ok (.iload_n 1, 1) := by decide +kernel
theorem dX5_copy_140 : decode cX5_copy 140 = .ok (.imul, 1) := by decide +kernel
theorem dX5_copy_141 : decode cX5_copy 141 = .ok (.iload_n 2, 1) := by decide +kernel
theorem dX5_copy_142 : decode cX5_copy 142 = .ok (.iadd, 1) := by decide +kernel
theorem dX5_copy_143 : decode cX5_copy 143 = .ok (.iload 6, 2) := by decide +kernel
theorem dX5_copy_145 : decode cX5_copy 145 = .ok (.iadd, 1) := by decide +kernel
theorem dX5_copy_146 : decode cX5_copy 146 = .ok (.iaload, 1) := by decide +kernel
theorem dX5_copy_147 : decode cX5_copy 147 = .ok (.iastore, 1) := by decide +kernel
theorem dX5_copy_148 : decode cX5_copy 148 = .ok (.iinc 6 1, 3) := by decide +kernel
theorem dX5_copy_151 : decode cX5_copy 151 = .ok (.goto (-31), 3) := by decide +kernel
theorem dX5_copy_154 : decode cX5_copy 154 = .ok (.iconst 0, 1) := by decide +kernel
theorem dX5_copy_155 : decode cX5_copy 155 = .ok (.istore 6, 2) := by decide +kernel
theorem dX5_copy_157 : decode cX5_copy 157 = .ok (.iload 6, 2) := by decide +kernel
theorem dX5_copy_159 : decode cX5_copy 159 = .ok (.iload 5, 2) := by decide +kernel
theorem dX5_copy_161 : decode cX5_copy 161 = .ok (.if_icmp .ge 31, 3) := by decide +kernel
theorem dX5_copy_164 : decode cX5_copy 164 = .ok (.aload_n 0, 1) := by decide +kernel
theorem dX5_copy_165 : decode cX5_copy 165 = .ok (.getfield 16, 3) := by decide +kernel
theorem dX5_copy_168 : decode cX5_copy 168 = .ok (.bipush 60, 2) := by decide +kernel
theorem dX5_copy_170 : decode cX5_copy 170 = .ok (.iload_n 3, 1) := by decide +kernel
theorem dX5_copy_171 : decode cX5_copy 171 = .ok (.imul, 1) := by decide +kernel
theorem dX5_copy_172 : decode cX5_copy 172 = .ok (.iload 4, 2) := by decide +kernel
theorem dX5_copy_174 : decode cX5_copy 174 = .ok (.iadd, 1) := by decide +kernel
theorem dX5_copy_175 : decode cX5_copy 175 = .ok (.iload 6, 2) := by decide +kernel
theorem dX5_copy_177 : decode cX5_copy 177 = .ok (.iadd, 1) := by decide +kernel
theorem dX5_copy_178 : decode cX5_copy 178 = .ok (.aload_n 0, 1) := by decide +kernel
theorem dX5_copy_179 : decode cX5_copy 179 = .ok (.getfield 19, 3) := by decide +kernel
theorem dX5_copy_182 : decode cX5_copy 182 = .ok (.iload 6, 2) := by decide +kernel
theorem dX5_copy_184 : decode cX5_copy 184 = .ok (.iaload, 1) := by decide +kernel
theorem dX5_copy_185 : decode cX5_copy 185 = .ok (.iastore, 1) := by decide +kernel
theorem dX5_copy_186 : decode cX5_copy 186 = .ok (.iinc 6 1, 3) := by decide +kernel
theorem dX5_copy_189 : decode cX5_copy 189 = .ok (.goto (-32), 3) := by decide +kernel
theorem dX5_copy_192 : decode cX5_copy 192 = .ok (.iconst 1, 1) := by decide +kernel
theorem dX5_copy_193 : decode cX5_copy 193 = .ok (.ireturn, 1) := by decide +kernel
end
section
theorem dX5_divisor_0 : decode cX5_divisor 0 = .ok (.lload_n 0, 1) := by decide +kernel
theorem dX5_divisor_1 : decode cX5_divisor 1 = .ok (.lconst 0, 1) := by decide +kernel
theorem dX5_divisor_2 : decode cX5_divisor 2 = .ok (.lcmp, 1) := by decide +kernel
theorem dX5_divisor_3 : decode cX5_divisor 3 = .ok (.ifCond .ge 8, 3) := by decide +kernel
theorem dX5_divisor_6 : decode cX5_divisor 6 = .ok (.lload_n 0, 1) := by decide +kernel
theorem dX5_divisor_7 : decode cX5_divisor 7 = .ok (.lneg, 1) := by decide +kernel
theorem dX5_divisor_8 : decode cX5_divisor 8 = .ok (.goto 4, 3) := by decide +kernel
theorem dX5_divisor_11 : decode cX5_divisor 11 = .ok (.lload_n 0, 1) := by decide +kernel
theorem dX5_divisor_12 : decode cX5_divisor 12 = .ok (.lstore 4, 2) := by decide +kernel
theorem dX5_divisor_14 : decode cX5_divisor 14 = .ok (.lload_n 2, 1) := by decide +kernel
theorem dX5_divisor_15 : decode cX5_divisor 15 = .ok (.lstore 6, 2) := by decide +kernel
theorem dX5_divisor_17 : decode cX5_divisor 17 = .ok (.lload 6, 2) := by decide +kernel
theorem dX5_divisor_19 : decode cX5_divisor 19 = .ok (.lconst 0, 1) := by decide +kernel
theorem dX5_divisor_20 : decode cX5_divisor 20 = .ok (.lcmp, 1) := by decide +kernel
theorem dX5_divisor_21 : decode cX5_divisor 21 = .ok (.ifCond .eq 21, 3) := by decide +kernel
theorem dX5_divisor_24 : decode cX5_divisor 24 = .ok (.lload 4, 2) := by decide +kernel
theorem dX5_divisor_26 : decode cX5_divisor 26 = .ok (.lload 6, 2) := by decide +kernel
theorem dX5_divisor_28 : decode cX5_divisor 28 = .ok (.lrem, 1) := by decide +kernel
theorem dX5_divisor_29 : decode cX5_divisor 29 = .ok (.lstore 8, 2) := by decide +kernel
theorem dX5_divisor_31 : decode cX5_divisor 31 = .ok (.lload 6, 2) := by decide +kernel
theorem dX5_divisor_33 : decode cX5_divisor 33 = .ok (.lstore 4, 2) := by decide +kernel
theorem dX5_divisor_35 : decode cX5_divisor 35 = .ok (.lload 8, 2) := by decide +kernel
theorem dX5_divisor_37 : decode cX5_divisor 37 = .ok (.lstore 6, 2) := by decide +kernel
theorem dX5_divisor_39 : decode cX5_divisor 39 = .ok (.goto (-22), 3) := by decide +kernel
theorem dX5_divisor_42 : decode cX5_divisor 42 = .ok (.lload 4, 2) := by decide +kernel
theorem dX5_divisor_44 : decode cX5_divisor 44 = .ok (.lreturn, 1) := by decide +kernel
theorem dX5_part_0 : decode cX5_part 0 = .ok (.iload 4, 2) := by decide +kernel
theorem dX5_part_2 : decode cX5_part 2 = .ok (.ifCond .ne 7, 3) := by decide +kernel
theorem dX5_part_5 : decode cX5_part 5 = .ok (.lload_n 0, 1) := by decide +kernel
theorem dX5_part_6 : decode cX5_part 6 = .ok (.goto 4, 3) := by decide +kernel
theorem dX5_part_9 : decode cX5_part 9 = .ok (.lload_n 2, 1) := by decide +kernel
theorem dX5_part_10 : decode cX5_part 10 = .ok (.lload_n 0, 1) := by decide +kernel
theorem dX5_part_11 : decode cX5_part 11 = .ok (.lload_n 2, 1) := by decide +kernel
theorem dX5_part_12 : decode cX5_part 12 = .ok (.invokestatic 90, 3) := by decide +kernel
theorem dX5_part_15 : decode cX5_part 15 = .ok (.ldiv, 1) := by decide +kernel
theorem dX5_part_16 : decode cX5_part 16 = .ok (.lreturn, 1) := by decide +kernel
theorem dX5_type_0 : decode cX5_type 0 = .ok (.iload_n 1, 1) := by decide +kernel
theorem dX5_type_1 : decode cX5_type 1 = .ok (.i2l, 1) := by decide +kernel
theorem dX5_type_2 : decode cX5_type 2 = .ok (.lconst 0, 1) := by decide +kernel
theorem dX5_type_3 : decode cX5_type 3 = .ok (.ldc2_w 94, 3) := by decide +kernel
theorem dX5_type_6 : decode cX5_type 6 = .ok (.invokestatic 61, 3) := by decide +kernel
theorem dX5_type_9 : decode cX5_type 9 = .ok (.ifCond .ne 6, 3) := by decide +kernel
theorem dX5_type_12 : decode cX5_type 12 = .ok (.bipush (-2), 2) := by decide +kernel
theorem dX5_type_14 : decode cX5_type 14 = .ok (.ireturn, 1) := by decide +kernel
theorem dX5_type_15 : decode cX5_type 15 = .ok (.aload_n 0, 1) := by decide +kernel
theorem dX5_type_16 : decode cX5_type 16 = .ok (.getfield 96, 3) := by decide +kernel
theorem dX5_type_19 : decode cX5_type 19 = .ok (.sipush 150, 3) := by decide +kernel
theorem dX5_type_22 : decode cX5_type 22 = .ok (.if_icmp .ne 6, 3) := by decide +kernel
theorem dX5_type_25 : decode cX5_type 25 = .ok (.bipush (-4), 2) := by decide +kernel
theorem dX5_type_27 : decode cX5_type 27 = .ok (.ireturn, 1) := by decide +kernel
theorem dX5_type_28 : decode cX5_type 28 = .ok (.aload_n 0, 1) := by decide +kernel
theorem dX5_type_29 : decode cX5_type 29 = .ok (.getfield 22, 3) := by decide +kernel
theorem dX5_type_32 : decode cX5_type 32 = .ok (.aload_n 0, 1) := by decide +kernel
theorem dX5_type_33 : decode cX5_type 33 = .ok (.getfield 96, 3) := by decide +kernel
theorem dX5_type_36 : decode cX5_type 36 = .ok (.iload_n 1, 1) := by decide +kernel
theorem dX5_type_37 : decode cX5_type 37 = .ok (.iastore, 1) := by decide +kernel
theorem dX5_type_38 : decode cX5_type 38 = .ok (.aload_n 0, 1) := by decide +kernel
theorem dX5_type_39 : decode cX5_type 39 = .ok (.dup, 1) := by decide +kernel
theorem dX5_type_40 : decode cX5_type 40 = .ok (.getfield 96, 3) := by decide +kernel
theorem dX5_type_43 : decode cX5_type 43 = .ok (.iconst 1, 1) := by decide +kernel
theorem dX5_type_44 : decode cX5_type 44 = .ok (.iadd, 1) := by decide +kernel
theorem dX5_type_45 : decode cX5_type 45 = .ok (.putfield 96, 3) := by decide +kernel
theorem dX5_type_48 : decode cX5_type 48 = .ok (.aload_n 0, 1) := by decide +kernel
theorem dX5_type_49 : decode cX5_type 49 = .ok (.getfield 96, 3) := by decide +kernel
theorem dX5_type_52 : decode cX5_type 52 = .ok (.ireturn, 1) := by decide +kernel
theorem dX5_wipe_0 : decode cX5_wipe 0 = .ok (.aload_n 0, 1) := by decide +kernel
theorem dX5_wipe_1 : decode cX5_wipe 1 = .ok (.getfield 96, 3) := by decide +kernel
theorem dX5_wipe_4 : decode cX5_wipe 4 = .ok (.istore_n 1, 1) := by decide +kernel
theorem dX5_wipe_5 : decode cX5_wipe 5 = .ok (.aload_n 0, 1) := by decide +kernel
theorem dX5_wipe_6 : decode cX5_wipe 6 = .ok (.iconst 0, 1) := by decide +kernel
theorem dX5_wipe_7 : decode cX5_wipe 7 = .ok (.putfield 96, 3) := by decide +kernel
theorem dX5_wipe_10 : decode cX5_wipe 10 = .ok (.iload_n 1, 1) := by decide +kernel
theorem dX5_wipe_11 : decode cX5_wipe 11 = .ok (.ireturn, 1) := by decide +kernel
theorem dX5_here_0 : decode cX5_here 0 = .ok (.aload_n 0, 1) := by decide +kernel
theorem dX5_here_1 : decode cX5_here 1 = .ok (.getfield 99, 3) := by decide +kernel
theorem dX5_here_4 : decode cX5_here 4 = .ok (.aload_n 0, 1) := by decide +kernel
theorem dX5_here_5 : decode cX5_here 5 = .ok (.getfield 96, 3) := by decide +kernel
theorem dX5_here_8 : decode cX5_here 8 = .ok (.if_icmp .ge 15, 3) := by decide +kernel
theorem dX5_here_11 : decode cX5_here 11 = .ok (.aload_n 0, 1) := by decide +kernel
theorem dX5_here_12 : decode cX5_here 12 = .ok (.getfield 22, 3) := by decide +kernel
theorem dX5_here_15 : decode cX5_here 15 = .ok (.aload_n 0, 1) := by decide +kernel
theorem dX5_here_16 : decode cX5_here 16 = .ok (.getfield 99, 3) := by decide +kernel
theorem dX5_here_19 : decode cX5_here 19 = .ok (.iaload, 1) := by decide +kernel
theorem dX5_here_20 : decode cX5_here 20 = .ok (.goto 4, 3) := by decide +kernel
theorem dX5_here_23 : decode cX5_here 23 = .ok (.iconst (-1), 1) := by decide +kernel
theorem dX5_here_24 : decode cX5_here 24 = .ok (.ireturn, 1) := by decide +kernel
theorem dX5_goes_0 : decode cX5_goes 0 = .ok (.aload_n 0, 1) := by decide +kernel
theorem dX5_goes_1 : decode cX5_goes 1 = .ok (.invokevirtual 102, 3) := by decide +kernel
theorem dX5_goes_4 : decode cX5_goes 4 = .ok (.iload_n 1, 1) := by decide +kernel
theorem dX5_goes_5 : decode cX5_goes 5 = .ok (.if_icmp .ne 7, 3) := by decide +kernel
theorem dX5_goes_8 : decode cX5_goes 8 = .ok (.iconst 1, 1) := by decide +kernel
theorem dX5_goes_9 : decode cX5_goes 9 = .ok (.goto 4, 3) := by decide +kernel
theorem dX5_goes_12 : decode cX5_goes 12 = .ok (.iconst 0, 1) := by decide +kernel
theorem dX5_goes_13 : decode cX5_goes 13 = .ok (.istore_n 2, 1) := by decide +kernel
theorem dX5_goes_14 : decode cX5_goes 14 = .ok (.aload_n 0, 1) := by decide +kernel
theorem dX5_goes_15 : decode cX5_goes 15 = .ok (.dup, 1) := by decide +kernel
theorem dX5_goes_16 : decode cX5_goes 16 = .ok (.getfield 99, 3) := by decide +kernel
theorem dX5_goes_19 : decode cX5_goes 19 = .ok (.iload_n 2, 1) := by decide +kernel
theorem dX5_goes_20 : decode cX5_goes 20 = .ok (.ifCond .eq 7, 3) := by decide +kernel
theorem dX5_goes_23 : decode cX5_goes 23 = .ok (.iconst 1, 1) := by decide +kernel
theorem dX5_goes_24 : decode cX5_goes 24 = .ok (.goto 4, 3) := by decide +kernel
theorem dX5_goes_27 : decode cX5_goes 27 = .ok (.iconst 0, 1) := by decide +kernel
theorem dX5_goes_28 : decode cX5_goes 28 = .ok (.iadd, 1) := by decide +kernel
theorem dX5_goes_29 : decode cX5_goes 29 = .ok (.putfield 99, 3) := by decide +kernel
theorem dX5_goes_32 : decode cX5_goes 32 = .ok (.iload_n 2, 1) := by decide +kernel
theorem dX5_goes_33 : decode cX5_goes 33 = .ok (.ireturn, 1) := by decide +kernel
theorem dX5_figures_0 : decode cX5_figures 0 = .ok (.aload_n 0, 1) := by decide +kernel
theorem dX5_figures_1 : decode cX5_figures 1 = .ok (.getfield 99, 3) := by decide +kernel
theorem dX5_figures_4 : decode cX5_figures 4 = .ok (.istore 4, 2) := by decide +kernel
theorem dX5_figures_6 : decode cX5_figures 6 = .ok (.iconst 0, 1) := by decide +kernel
theorem dX5_figures_7 : decode cX5_figures 7 = .ok (.istore 5, 2) := by decide +kernel
theorem dX5_figures_9 : decode cX5_figures 9 = .ok (.aload_n 0, 1) := by decide +kernel
theorem dX5_figures_10 : decode cX5_figures 10 = .ok (.getfield 99, 3) := by decide +kernel
theorem dX5_figures_13 : decode cX5_figures 13 = .ok (.iload 4, 2) := by decide +kernel
theorem dX5_figures_15 : decode cX5_figures 15 = .ok (.iload_n 1, 1) := by decide +kernel
theorem dX5_figures_16 : decode cX5_figures 16 = .ok (.iadd, 1) := by decide +kernel
theorem dX5_figures_17 : decode cX5_figures 17 = .ok (.if_icmp .ge 48, 3) := by decide +kernel
theorem dX5_figures_20 : decode cX5_figures 20 = .ok (.aload_n 0, 1) := by decide +kernel
theorem dX5_figures_21 : decode cX5_figures 21 = .ok (.invokevirtual 102, 3) := by decide +kernel
theorem dX5_figures_24 : decode cX5_figures 24 = .ok (.i2l, 1) := by decide +kernel
theorem dX5_figures_25 : decode cX5_figures 25 = .ok (.ldc2_w 106, 3) := by decide +kernel
theorem dX5_figures_28 : decode cX5_figures 28 = .ok (.ldc2_w 108, 3) := by decide +kernel
theorem dX5_figures_31 : decode cX5_figures 31 = .ok (.invokestatic 61, 3) := by decide +kernel
theorem dX5_figures_34 : decode cX5_figures 34 = .ok (.ifCond .eq 31, 3) := by decide +kernel
theorem dX5_figures_37 : decode cX5_figures 37 = .ok (.bipush 10, 2) := by decide +kernel
theorem dX5_figures_39 : decode cX5_figures 39 = .ok (.iload 5, 2) := by decide +kernel
theorem dX5_figures_41 : decode cX5_figures 41 = .ok (.imul, 1) := by decide +kernel
theorem dX5_figures_42 : decode cX5_figures 42 = .ok (.aload_n 0, 1) := by decide +kernel
theorem dX5_figures_43 : decode cX5_figures 43 = .ok (.invokevirtual 102, 3) := by decide +kernel
theorem dX5_figures_46 : decode cX5_figures 46 = .ok (.iadd, 1) := by decide +kernel
theorem dX5_figures_47 : decode cX5_figures 47 = .ok (.bipush 48, 2) := by decide +kernel
theorem dX5_figures_49 : decode cX5_figures 49 = .ok (.isub, 1) := by decide +kernel
theorem dX5_figures_50 : decode cX5_figures 50 = .ok (.istore 5, 2) := by decide +kernel
theorem dX5_figures_52 : decode cX5_figures 52 = .ok (.aload_n 0, 1) := by decide +kernel
theorem dX5_figures_53 : decode cX5_figures 53 = .ok (.dup, 1) := by decide +kernel
theorem dX5_figures_54 : decode cX5_figures 54 = .ok (.getfield 99, 3) := by decide +kernel
theorem dX5_figures_57 : decode cX5_figures 57 = .ok (.iconst 1, 1) := by decide +kernel
theorem dX5_figures_58 : decode cX5_figures 58 = .ok (.iadd, 1) := by decide +kernel
theorem dX5_figures_59 : decode cX5_figures 59 = .ok (.putfield 99, 3) := by decide +kernel
theorem dX5_figures_62 : decode cX5_figures 62 = .ok (.goto (-53), 3) := by decide +kernel
theorem dX5_figures_65 : decode cX5_figures 65 = .ok (.aload_n 0, 1) := by decide +kernel
theorem dX5_figures_66 : decode cX5_figures 66 = .ok (.getfield 99, 3) := by decide +kernel
theorem dX5_figures_69 : decode cX5_figures 69 = .ok (.iload 4, 2) := by decide +kernel
theorem dX5_figures_71 : decode cX5_figures 71 = .ok (.if_icmp .le 19, 3) := by decide +kernel
theorem dX5_figures_74 : decode cX5_figures 74 = .ok (.iload 5, 2) := by decide +kernel
theorem dX5_figures_76 : decode cX5_figures 76 = .ok (.i2l, 1) := by decide +kernel
theorem dX5_figures_77 : decode cX5_figures 77 = .ok (.iload_n 2, 1) := by decide +kernel
theorem dX5_figures_78 : decode cX5_figures 78 = .ok (.i2l, 1) := by decide +kernel
theorem dX5_figures_79 : decode cX5_figures 79 = .ok (.iload_n 3, 1) := by decide +kernel
theorem dX5_figures_80 : decode cX5_figures 80 = .ok (.i2l, 1) := by decide +kernel
theorem dX5_figures_81 : decode cX5_figures 81 = .ok (.invokestatic 61, 3) := by decide +kernel
theorem dX5_figures_84 : decode cX5_figures 84 = .ok (.ifCond .eq 6, 3) := by decide +kernel
theorem dX5_figures_87 : decode cX5_figures 87 = .ok (.iload 5, 2) := by decide +kernel
theorem dX5_figures_89 : decode cX5_figures 89 = .ok (.ireturn, 1) := by decide +kernel
theorem dX5_figures_90 : decode cX5_figures 90 = .ok (.aload_n 0, 1) := by decide +kernel
theorem dX5_figures_91 : decode cX5_figures 91 = .ok (.iload 4, 2) := by decide +kernel
theorem dX5_figures_93 : decode cX5_figures 93 = .ok (.putfield 99, 3) := by decide +kernel
theorem dX5_figures_96 : decode cX5_figures 96 = .ok (.bipush (-9), 2) := by decide +kernel
theorem dX5_figures_98 : decode cX5_figures 98 = .ok (.ireturn, 1) := by decide +kernel
theorem dX5_readsShop_0 : decode cX5_readsShop 0 = .ok (.aload_n 0, 1) := by decide +kernel
theorem dX5_readsShop_1 : decode cX5_readsShop 1 = .ok (.getfield 110, 3) := by decide +kernel
theorem dX5_readsShop_4 : decode cX5_readsShop 4 = .ok (.iconst 5, 1) := by decide +kernel
theorem dX5_readsShop_5 : decode cX5_readsShop 5 = .ok (.if_icmp .ne 5, 3) := by decide +kernel
theorem dX5_readsShop_8 : decode cX5_readsShop 8 = .ok (.iconst 0, 1) := by decide +kernel
theorem dX5_readsShop_9 : decode cX5_readsShop 9 = .ok (.ireturn, 1) := by decide +kernel
theorem dX5_readsShop_10 : decode cX5_readsShop 10 = .ok (.aload_n 0, 1) := by decide +kernel
theorem dX5_readsShop_11 : decode cX5_readsShop 11 = .ok (.dup, 1) := by decide +kernel
theorem dX5_readsShop_12 : decode cX5_readsShop 12 = .ok (.getfield 99, 3) := by decide +kernel
theorem dX5_readsShop_15 : decode cX5_readsShop 15 = .ok (.iconst 1, 1) := by decide +kernel
theorem dX5_readsShop_16 : decode cX5_readsShop 16 = .ok (.iadd, 1) := by decide +kernel
theorem dX5_readsShop_17 : decode cX5_readsShop 17 = .ok (.putfield 99, 3) := by decide +kernel
theorem dX5_readsShop_20 : decode cX5_readsShop 20 = .ok (.aload_n 0, 1) := by decide +kernel
theorem dX5_readsShop_21 : decode cX5_readsShop 21 = .ok (.iconst 1, 1) := by decide +kernel
theorem dX5_readsShop_22 : decode cX5_readsShop 22 = .ok (.iconst 1, 1) := by decide +kernel
theorem dX5_readsShop_23 : decode cX5_readsShop 23 = .ok (.iconst 3, 1) := by decide +kernel
theorem dX5_readsShop_24 : decode cX5_readsShop 24 = .ok (.invokevirtual 113, 3) := by decide +kernel
theorem dX5_readsShop_27 : decode cX5_readsShop 27 = .ok (.istore_n 1, 1) := by decide +kernel
theorem dX5_readsShop_28 : decode cX5_readsShop 28 = .ok (.iload_n 1, 1) := by decide +kernel
theorem dX5_readsShop_29 : decode cX5_readsShop 29 = .ok (.ifCond .lt 12, 3) := by decide +kernel
theorem dX5_readsShop_32 : decode cX5_readsShop 32 = .ok (.aload_n 0, 1) := by decide +kernel
theorem dX5_readsShop_33 : decode cX5_readsShop 33 = .ok (.bipush 44, 2) := by decide +kernel
theorem dX5_readsShop_35 : decode cX5_readsShop 35 = .ok (.invokevirtual 116, 3) := by decide +kernel
theorem dX5_readsShop_38 : decode cX5_readsShop 38 = .ok (.ifCond .ne 5, 3) := by decide +kernel
theorem dX5_readsShop_41 : decode cX5_readsShop 41 = .ok (.iconst 0, 1) := by decide +kernel
theorem dX5_readsShop_42 : decode cX5_readsShop 42 = .ok (.ireturn, 1) := by decide +kernel
theorem dX5_readsShop_43 : decode cX5_readsShop 43 = .ok (.aload_n 0, 1) := by decide +kernel
theorem dX5_readsShop_44 : decode cX5_readsShop 44 = .ok (.iconst 2, 1) := by decide +kernel
theorem dX5_readsShop_45 : decode cX5_readsShop 45 = .ok (.iconst 0, 1) := by decide +kernel
theorem dX5_readsShop_46 : decode cX5_readsShop 46 = .ok (.bipush 99, 2) := by decide +kernel
theorem dX5_readsShop_48 : decode cX5_readsShop 48 = .ok (.invokevirtual 113, 3) := by decide +kernel
theorem dX5_readsShop_51 : decode cX5_readsShop 51 = .ok (.istore_n 2, 1) := by decide +kernel
theorem dX5_readsShop_52 : decode cX5_readsShop 52 = .ok (.iload_n 2, 1) := by decide +kernel
theorem dX5_readsShop_53 : decode cX5_readsShop 53 = .ok (.ifCond .ge 5, 3) := by decide +kernel
theorem dX5_readsShop_56 : decode cX5_readsShop 56 = .ok (.iconst 0, 1) := by decide +kernel
theorem dX5_readsShop_57 : decode cX5_readsShop 57 = .ok (.ireturn, 1) := by decide +kernel
theorem dX5_readsShop_58 : decode cX5_readsShop 58 = .ok (.aload_n 0, 1) := by decide +kernel
theorem dX5_readsShop_59 : decode cX5_readsShop 59 = .ok (.getfield 25, 3) := by decide +kernel
theorem dX5_readsShop_62 : decode cX5_readsShop 62 = .ok (.aload_n 0, 1) := by decide +kernel
theorem dX5_readsShop_63 : decode cX5_readsShop 63 = .ok (.getfield 110, 3) := by decide +kernel
theorem dX5_readsShop_66 : decode cX5_readsShop 66 = .ok (.iload_n 1, 1) := by decide +kernel
theorem dX5_readsShop_67 : decode cX5_readsShop 67 = .ok (.iastore, 1) := by decide +kernel
theorem dX5_readsShop_68 : decode cX5_readsShop 68 = .ok (.aload_n 0, 1) := by decide +kernel
theorem dX5_readsShop_69 : decode cX5_readsShop 69 = .ok (.getfield 28, 3) := by decide +kernel
theorem dX5_readsShop_72 : decode cX5_readsShop 72 = .ok (.aload_n 0, 1) := by decide +kernel
theorem dX5_readsShop_73 : decode cX5_readsShop 73 = .ok (.getfield 110, 3) := by decide +kernel
theorem dX5_readsShop_76 : decode cX5_readsShop 76 = .ok (.iload_n 2, 1) := by decide +kernel
theorem dX5_readsShop_77 : decode cX5_readsShop 77 = .ok (.iastore, 1) := by decide +kernel
theorem dX5_readsShop_78 : decode cX5_readsShop 78 = .ok (.aload_n 0, 1) := by decide +kernel
theorem dX5_readsShop_79 : decode cX5_readsShop 79 = .ok (.dup, 1) := by decide +kernel
theorem dX5_readsShop_80 : decode cX5_readsShop 80 = .ok (.getfield 110, 3) := by decide +kernel
theorem dX5_readsShop_83 : decode cX5_readsShop 83 = .ok (.iconst 1, 1) := by decide +kernel
theorem dX5_readsShop_84 : decode cX5_readsShop 84 = .ok (.iadd, 1) := by decide +kernel
theorem dX5_readsShop_85 : decode cX5_readsShop 85 = .ok (.putfield 110, 3) := by decide +kernel
theorem dX5_readsShop_88 : decode cX5_readsShop 88 = .ok (.iconst 1, 1) := by decide +kernel
theorem dX5_readsShop_89 : decode cX5_readsShop 89 = .ok (.ireturn, 1) := by decide +kernel
theorem dX5_behind_0 : decode cX5_behind 0 = .ok (.aload_n 0, 1) := by decide +kernel
theorem dX5_behind_1 : decode cX5_behind 1 = .ok (.bipush 44, 2) := by decide +kernel
theorem dX5_behind_3 : decode cX5_behind 3 = .ok (.invokevirtual 116, 3) := by decide +kernel
theorem dX5_behind_6 : decode cX5_behind 6 = .ok (.ifCond .ne 6, 3) := by decide +kernel
theorem dX5_behind_9 : decode cX5_behind 9 = .ok (.bipush (-9), 2) := by decide +kernel
theorem dX5_behind_11 : decode cX5_behind 11 = .ok (.ireturn, 1) := by decide +kernel
theorem dX5_behind_12 : decode cX5_behind 12 = .ok (.iload_n 1, 1) := by decide +kernel
theorem dX5_behind_13 : decode cX5_behind 13 = .ok (.iconst 2, 1) := by decide +kernel
theorem dX5_behind_14 : decode cX5_behind 14 = .ok (.if_icmp .ne 29, 3) := by decide +kernel
theorem dX5_behind_17 : decode cX5_behind 17 = .ok (.aload_n 0, 1) := by decide +kernel
theorem dX5_behind_18 : decode cX5_behind 18 = .ok (.bipush 45, 2) := by decide +kernel
theorem dX5_behind_20 : decode cX5_behind 20 = .ok (.invokevirtual 116, 3) := by decide +kernel
theorem dX5_behind_23 : decode cX5_behind 23 = .ok (.ifCond .eq 7, 3) := by decide +kernel
theorem dX5_behind_26 : decode cX5_behind 26 = .ok (.iconst (-1), 1) := by decide +kernel
theorem dX5_behind_27 : decode cX5_behind 27 = .ok (.goto 15, 3) := by decide +kernel
theorem dX5_behind_30 : decode cX5_behind 30 = .ok (.aload_n 0, 1) := by decide +kernel
theorem dX5_behind_31 : decode cX5_behind 31 = .ok (.iconst 1, 1) := by decide +kernel
theorem dX5_behind_32 : decode cX5_behind 32 = .ok (.iconst 0, 1) := by decide +kernel
theorem dX5_behind_33 : decode cX5_behind 33 = .ok (.aload_n 0, 1) := by decide +kernel
theorem dX5_behind_34 : decode cX5_behind 34 = .ok (.getfield 110, 3) := by decide +kernel
theorem dX5_behind_37 : decode cX5_behind 37 = .ok (.iconst 1, 1) := by decide +kernel
theorem dX5_behind_38 : decode cX5_behind 38 = .ok (.isub, 1) := by decide +kernel
theorem dX5_behind_39 : decode cX5_behind 39 = .ok (.invokevirtual 113, 3) := by decide +kernel
theorem dX5_behind_42 : decode cX5_behind 42 = .ok (.ireturn, 1) := by decide +kernel
theorem dX5_behind_43 : decode cX5_behind 43 = .ok (.iload_n 1, 1) := by decide +kernel
theorem dX5_behind_44 : decode cX5_behind 44 = .ok (.iconst 3, 1) := by decide +kernel
theorem dX5_behind_45 : decode cX5_behind 45 = .ok (.if_icmp .eq 8, 3) := by decide +kernel
theorem dX5_behind_48 : decode cX5_behind 48 = .ok (.iload_n 1, 1) := by decide +kernel
theorem dX5_behind_49 : decode cX5_behind 49 = .ok (.iconst 4, 1) := by decide +kernel
theorem dX5_behind_50 : decode cX5_behind 50 = .ok (.if_icmp .ne 14, 3) := by decide +kernel
theorem dX5_behind_53 : decode cX5_behind 53 = .ok (.aload_n 0, 1) := by decide +kernel
theorem dX5_behind_54 : decode cX5_behind 54 = .ok (.iconst 2, 1) := by decide +kernel
theorem dX5_behind_55 : decode cX5_behind 55 = .ok (.iconst 0, 1) := by decide +kernel
theorem dX5_behind_56 : decode cX5_behind 56 = .ok (.bipush 16, 2) := by decide +kernel
theorem dX5_behind_58 : decode cX5_behind 58 = .ok (.invokevirtual 113, 3) := by decide +kernel
theorem dX5_behind_61 : decode cX5_behind 61 = .ok (.goto 11, 3) := by decide +kernel
theorem dX5_behind_64 : decode cX5_behind 64 = .ok (.aload_n 0, 1) := by decide +kernel
theorem dX5_behind_65 : decode cX5_behind 65 = .ok (.iconst 2, 1) := by decide +kernel
theorem dX5_behind_66 : decode cX5_behind 66 = .ok (.iconst 1, 1) := by decide +kernel
theorem dX5_behind_67 : decode cX5_behind 67 = .ok (.bipush 99, 2) := by decide +kernel
theorem dX5_behind_69 : decode cX5_behind 69 = .ok (.invokevirtual 113, 3) := by decide +kernel
theorem dX5_behind_72 : decode cX5_behind 72 = .ok (.ireturn, 1) := by decide +kernel
theorem dX5_readsSort_0 : decode cX5_readsSort 0 = .ok (.aload_n 0, 1) := by decide +kernel
theorem dX5_readsSort_1 : decode cX5_readsSort 1 = .ok (.getfield 119, 3) := by decide +kernel
theorem dX5_readsSort_4 : decode cX5_readsSort 4 = .ok (.bipush 6, 2) := by decide +kernel
theorem dX5_readsSort_6 : decode cX5_readsSort 6 = .ok (.if_icmp .ne 5, 3) := by decide +kernel
theorem dX5_readsSort_9 : decode cX5_readsSort 9 = .ok (.iconst 0, 1) := by decide +kernel
theorem dX5_readsSort_10 : decode cX5_readsSort 10 = .ok (.ireturn, 1) := by decide +kernel
theorem dX5_readsSort_11 : decode cX5_readsSort 11 = .ok (.aload_n 0, 1) := by decide +kernel
theorem dX5_readsSort_12 : decode cX5_readsSort 12 = .ok (.dup, 1) := by decide +kernel
theorem dX5_readsSort_13 : decode cX5_readsSort 13 = .ok (.getfield 99, 3) := by decide +kernel
theorem dX5_readsSort_16 : decode cX5_readsSort 16 = .ok (.iconst 1, 1) := by decide +kernel
theorem dX5_readsSort_17 : decode cX5_readsSort 17 = .ok (.iadd, 1) := by decide +kernel
theorem dX5_readsSort_18 : decode cX5_readsSort 18 = .ok (.putfield 99, 3) := by decide +kernel
theorem dX5_readsSort_21 : decode cX5_readsSort 21 = .ok (.aload_n 0, 1) := by decide +kernel
theorem dX5_readsSort_22 : decode cX5_readsSort 22 = .ok (.iconst 1, 1) := by decide +kernel
theorem dX5_readsSort_23 : decode cX5_readsSort 23 = .ok (.iconst 1, 1) := by decide +kernel
theorem dX5_readsSort_24 : decode cX5_readsSort 24 = .ok (.iconst 3, 1) := by decide +kernel
theorem dX5_readsSort_25 : decode cX5_readsSort 25 = .ok (.invokevirtual 113, 3) := by decide +kernel
theorem dX5_readsSort_28 : decode cX5_readsSort 28 = .ok (.istore_n 1, 1) := by decide +kernel
theorem dX5_readsSort_29 : decode cX5_readsSort 29 = .ok (.iload_n 1, 1) := by decide +kernel
theorem dX5_readsSort_30 : decode cX5_readsSort 30 = .ok (.ifCond .ge 5, 3) := by decide +kernel
theorem dX5_readsSort_33 : decode cX5_readsSort 33 = .ok (.iconst 0, 1) := by decide +kernel
theorem dX5_readsSort_34 : decode cX5_readsSort 34 = .ok (.ireturn, 1) := by decide +kernel
theorem dX5_readsSort_35 : decode cX5_readsSort 35 = .ok (.aload_n 0, 1) := by decide +kernel
theorem dX5_readsSort_36 : decode cX5_readsSort 36 = .ok (.getfield 31, 3) := by decide +kernel
theorem dX5_readsSort_39 : decode cX5_readsSort 39 = .ok (.bipush 6, 2) := by decide +kernel
theorem dX5_readsSort_41 : decode cX5_readsSort 41 = .ok (.aload_n 0, 1) := by decide +kernel
theorem dX5_readsSort_42 : decode cX5_readsSort 42 = .ok (.getfield 119, 3) := by decide +kernel
theorem dX5_readsSort_45 : decode cX5_readsSort 45 = .ok (.imul, 1) := by decide +kernel
theorem dX5_readsSort_46 : decode cX5_readsSort 46 = .ok (.iload_n 1, 1) := by decide +kernel
theorem dX5_readsSort_47 : decode cX5_readsSort 47 = .ok (.iastore, 1) := by decide +kernel
theorem dX5_readsSort_48 : decode cX5_readsSort 48 = .ok (.iconst 1, 1) := by decide +kernel
theorem dX5_readsSort_49 : decode cX5_readsSort 49 = .ok (.istore_n 2, 1) := by decide +kernel
theorem dX5_readsSort_50 : decode cX5_readsSort 50 = .ok (.iload_n 2, 1) := by decide +kernel
theorem dX5_readsSort_51 : decode cX5_readsSort 51 = .ok (.bipush 6, 2) := by decide +kernel
theorem dX5_readsSort_53 : decode cX5_readsSort 53 = .ok (.if_icmp .ge 38, 3) := by decide +kernel
theorem dX5_readsSort_56 : decode cX5_readsSort 56 = .ok (.aload_n 0, 1) := by decide +kernel
theorem dX5_readsSort_57 : decode cX5_readsSort 57 = .ok (.iload_n 2, 1) := by decide +kernel
theorem dX5_readsSort_58 : decode cX5_readsSort 58 = .ok (.invokevirtual 122, 3) := by decide +kernel
theorem dX5_readsSort_61 : decode cX5_readsSort 61 = .ok (.istore_n 3, 1) := by decide +kernel
theorem dX5_readsSort_62 : decode cX5_readsSort 62 = .ok (.iload_n 3, 1) := by decide +kernel
theorem dX5_readsSort_63 : decode cX5_readsSort 63 = .ok (.bipush (-9), 2) := by decide +kernel
theorem dX5_readsSort_65 : decode cX5_readsSort 65 = .ok (.if_icmp .ne 5, 3) := by decide +kernel
theorem dX5_readsSort_68 : decode cX5_readsSort 68 = .ok (.iconst 0, 1) := by decide +kernel
theorem dX5_readsSort_69 : decode cX5_readsSort 69 = .ok (.ireturn, 1) := by decide +kernel
theorem dX5_readsSort_70 : decode cX5_readsSort 70 = .ok (.aload_n 0, 1) := by decide +kernel
theorem dX5_readsSort_71 : decode cX5_readsSort 71 = .ok (.getfield 31, 3) := by decide +kernel
theorem dX5_readsSort_74 : decode cX5_readsSort 74 = .ok (.bipush 6, 2) := by decide +kernel
theorem dX5_readsSort_76 : decode cX5_readsSort 76 = .ok (.aload_n 0, 1) := by decide +kernel
theorem dX5_readsSort_77 : decode cX5_readsSort 77 = .ok (.getfield 119, 3) := by decide +kernel
theorem dX5_readsSort_80 : decode cX5_readsSort 80 = .ok (.imul, 1) := by decide +kernel
theorem dX5_readsSort_81 : decode cX5_readsSort 81 = .ok (.iload_n 2, 1) := by decide +kernel
theorem dX5_readsSort_82 : decode cX5_readsSort 82 = .ok (.iadd, 1) := by decide +kernel
theorem dX5_readsSort_83 : decode cX5_readsSort 83 = .ok (.iload_n 3, 1) := by decide +kernel
theorem dX5_readsSort_84 : decode cX5_readsSort 84 = .ok (.iastore, 1) := by decide +kernel
theorem dX5_readsSort_85 : decode cX5_readsSort 85 = .ok (.iinc 2 1, 3) := by decide +kernel
theorem dX5_readsSort_88 : decode cX5_readsSort 88 = .ok (.goto (-38), 3) := by decide +kernel
theorem dX5_readsSort_91 : decode cX5_readsSort 91 = .ok (.aload_n 0, 1) := by decide +kernel
theorem dX5_readsSort_92 : decode cX5_readsSort 92 = .ok (.dup, 1) := by decide +kernel
theorem dX5_readsSort_93 : decode cX5_readsSort 93 = .ok (.getfield 119, 3) := by decide +kernel
theorem dX5_readsSort_96 : decode cX5_readsSort 96 = .ok (.iconst 1, 1) := by decide +kernel
theorem dX5_readsSort_97 : decode cX5_readsSort 97 = .ok (.iadd, 1) := by decide +kernel
theorem dX5_readsSort_98 : decode cX5_readsSort 98 = .ok (.putfield 119, 3) := by decide +kernel
theorem dX5_readsSort_101 : decode cX5_readsSort 101 = .ok (.iconst 1, 1) := by decide +kernel
theorem dX5_readsSort_102 : decode cX5_readsSort 102 = .ok (.ireturn, 1) := by decide +kernel
theorem dX5_stops_0 : decode cX5_stops 0 = .ok (.aload_n 0, 1) := by decide +kernel
theorem dX5_stops_1 : decode cX5_stops 1 = .ok (.iconst 0, 1) := by decide +kernel
theorem dX5_stops_2 : decode cX5_stops 2 = .ok (.putfield 110, 3) := by decide +kernel
theorem dX5_stops_5 : decode cX5_stops 5 = .ok (.aload_n 0, 1) := by decide +kernel
theorem dX5_stops_6 : decode cX5_stops 6 = .ok (.iconst 0, 1) := by decide +kernel
theorem dX5_stops_7 : decode cX5_stops 7 = .ok (.putfield 119, 3) := by decide +kernel
theorem dX5_stops_10 : decode cX5_stops 10 = .ok (.aload_n 0, 1) := by decide +kernel
theorem dX5_stops_11 : decode cX5_stops 11 = .ok (.getfield 99, 3) := by decide +kernel
theorem dX5_stops_14 : decode cX5_stops 14 = .ok (.ireturn, 1) := by decide +kernel
theorem dX5_reads_0 : decode cX5_reads 0 = .ok (.aload_n 0, 1) := by decide +kernel
theorem dX5_reads_1 : decode cX5_reads 1 = .ok (.iconst 0, 1) := by decide +kernel
theorem dX5_reads_2 : decode cX5_reads 2 = .ok (.putfield 99, 3) := by decide +kernel
theorem dX5_reads_5 : decode cX5_reads 5 = .ok (.aload_n 0, 1) := by decide +kernel
theorem dX5_reads_6 : decode cX5_reads 6 = .ok (.iconst 0, 1) := by decide +kernel
theorem dX5_reads_7 : decode cX5_reads 7 = .ok (.putfield 110, 3) := by decide +kernel
theorem dX5_reads_10 : decode cX5_reads 10 = .ok (.aload_n 0, 1) := by decide +kernel
theorem dX5_reads_11 : decode cX5_reads 11 = .ok (.iconst 0, 1) := by decide +kernel
theorem dX5_reads_12 : decode cX5_reads 12 = .ok (.putfield 119, 3) := by decide +kernel
theorem dX5_reads_15 : decode cX5_reads 15 = .ok (.aload_n 0, 1) := by decide +kernel
theorem dX5_reads_16 : decode cX5_reads 16 = .ok (.getfield 96, 3) := by decide +kernel
theorem dX5_reads_19 : decode cX5_reads 19 = .ok (.ifCond .le 7, 3) := by decide +kernel
theorem dX5_reads_22 : decode cX5_reads 22 = .ok (.iconst 1, 1) := by decide +kernel
theorem dX5_reads_23 : decode cX5_reads 23 = .ok (.goto 4, 3) := by decide +kernel
theorem dX5_reads_26 : decode cX5_reads 26 = .ok (.iconst 0, 1) := by decide +kernel
theorem dX5_reads_27 : decode cX5_reads 27 = .ok (.istore_n 1, 1) := by decide +kernel
theorem dX5_reads_28 : decode cX5_reads 28 = .ok (.iload_n 1, 1) := by decide +kernel
theorem dX5_reads_29 : decode cX5_reads 29 = .ok (.ifCond .eq 104, 3) := by decide +kernel
theorem dX5_reads_32 : decode cX5_reads 32 = .ok (.aload_n 0, 1) := by decide +kernel
theorem dX5_reads_33 : decode cX5_reads 33 = .ok (.invokevirtual 102, 3) := by decide +kernel
theorem dX5_reads_36 : decode cX5_reads 36 = .ok (.istore_n 2, 1) := by decide +kernel
theorem dX5_reads_37 : decode cX5_reads 37 = .ok (.iload_n 2, 1) := by decide +kernel
theorem dX5_reads_38 : decode cX5_reads 38 = .ok (.bipush 115, 2) := by decide +kernel
theorem dX5_reads_40 : decode cX5_reads 40 = .ok (.if_icmp .eq 9, 3) := by decide +kernel
theorem dX5_reads_43 : decode cX5_reads 43 = .ok (.iload_n 2, 1) := by decide +kernel
theorem dX5_reads_44 : decode cX5_reads 44 = .ok (.bipush 98, 2) := by decide +kernel
theorem dX5_reads_46 : decode cX5_reads 46 = .ok (.if_icmp .ne 26, 3) := by decide +kernel
theorem dX5_reads_49 : decode cX5_reads 49 = .ok (.iload_n 2, 1) := by decide +kernel
theorem dX5_reads_50 : decode cX5_reads 50 = .ok (.bipush 115, 2) := by decide +kernel
theorem dX5_reads_52 : decode cX5_reads 52 = .ok (.if_icmp .ne 13, 3) := by decide +kernel
theorem dX5_reads_55 : decode cX5_reads 55 = .ok (.aload_n 0, 1) := by decide +kernel
theorem dX5_reads_56 : decode cX5_reads 56 = .ok (.invokevirtual 125, 3) := by decide +kernel
theorem dX5_reads_59 : decode cX5_reads 59 = .ok (.ifCond .eq 13, 3) := by decide +kernel
theorem dX5_reads_62 : decode cX5_reads 62 = .ok (.goto 15, 3) := by decide +kernel
theorem dX5_reads_65 : decode cX5_reads 65 = .ok (.aload_n 0, 1) := by decide +kernel
theorem dX5_reads_66 : decode cX5_reads 66 = .ok (.invokevirtual 129, 3) := by decide +kernel
theorem dX5_reads_69 : decode cX5_reads 69 = .ok (.ifCond .ne 8, 3) := by decide +kernel
theorem dX5_reads_72 : decode cX5_reads 72 = .ok (.aload_n 0, 1) := by decide +kernel
theorem dX5_reads_73 : decode cX5_reads 73 = .ok (.invokevirtual 132, 3) := by decide +kernel
theorem dX5_reads_76 : decode cX5_reads 76 = .ok (.ireturn, 1) := by decide +kernel
theorem dX5_reads_77 : decode cX5_reads 77 = .ok (.aload_n 0, 1) := by decide +kernel
theorem dX5_reads_78 : decode cX5_reads 78 = .ok (.getfield 99, 3) := by decide +kernel
theorem dX5_reads_81 : decode cX5_reads 81 = .ok (.aload_n 0, 1) := by decide +kernel
theorem dX5_reads_82 : decode cX5_reads 82 = .ok (.getfield 96, 3) := by decide +kernel
theorem dX5_reads_85 : decode cX5_reads 85 = .ok (.if_icmp .ge 7, 3) := by decide +kernel
theorem dX5_reads_88 : decode cX5_reads 88 = .ok (.iconst 1, 1) := by decide +kernel
theorem dX5_reads_89 : decode cX5_reads 89 = .ok (.goto 4, 3) := by decide +kernel
theorem dX5_reads_92 : decode cX5_reads 92 = .ok (.iconst 0, 1) := by decide +kernel
theorem dX5_reads_93 : decode cX5_reads 93 = .ok (.istore_n 1, 1) := by decide +kernel
theorem dX5_reads_94 : decode cX5_reads 94 = .ok (.iload_n 1, 1) := by decide +kernel
theorem dX5_reads_95 : decode cX5_reads 95 = .ok (.ifCond .eq 17, 3) := by decide +kernel
theorem dX5_reads_98 : decode cX5_reads 98 = .ok (.aload_n 0, 1) := by decide +kernel
theorem dX5_reads_99 : decode cX5_reads 99 = .ok (.invokevirtual 102, 3) := by decide +kernel
theorem dX5_reads_102 : decode cX5_reads 102 = .ok (.bipush 59, 2) := by decide +kernel
theorem dX5_reads_104 : decode cX5_reads 104 = .ok (.if_icmp .eq 8, 3) := by decide +kernel
theorem dX5_reads_107 : decode cX5_reads 107 = .ok (.aload_n 0, 1) := by decide +kernel
theorem dX5_reads_108 : decode cX5_reads 108 = .ok (.invokevirtual 132, 3) := by decide +kernel
theorem dX5_reads_111 : decode cX5_reads 111 = .ok (.ireturn, 1) := by decide +kernel
theorem dX5_reads_112 : decode cX5_reads 112 = .ok (.aload_n 0, 1) := by decide +kernel
theorem dX5_reads_113 : decode cX5_reads 113 = .ok (.dup, 1) := by decide +kernel
theorem dX5_reads_114 : decode cX5_reads 114 = .ok (.getfield 99, 3) := by decide +kernel
theorem dX5_reads_117 : decode cX5_reads 117 = .ok (.iload_n 1, 1) := by decide +kernel
theorem dX5_reads_118 : decode cX5_reads 118 = .ok (.ifCond .eq 7, 3) := by decide +kernel
theorem dX5_reads_121 : decode cX5_reads 121 = .ok (.iconst 1, 1) := by decide +kernel
theorem dX5_reads_122 : decode cX5_reads 122 = .ok (.goto 4, 3) := by decide +kernel
theorem dX5_reads_125 : decode cX5_reads 125 = .ok (.iconst 0, 1) := by decide +kernel
theorem dX5_reads_126 : decode cX5_reads 126 = .ok (.iadd, 1) := by decide +kernel
theorem dX5_reads_127 : decode cX5_reads 127 = .ok (.putfield 99, 3) := by decide +kernel
theorem dX5_reads_130 : decode cX5_reads 130 = .ok (.goto (-102), 3) := by decide +kernel
theorem dX5_reads_133 : decode cX5_reads 133 = .ok (.iconst (-1), 1) := by decide +kernel
theorem dX5_reads_134 : decode cX5_reads 134 = .ok (.ireturn, 1) := by decide +kernel
theorem dX5_fault_0 : decode cX5_fault 0 = .ok (.aload_n 0, 1) := by decide +kernel
theorem dX5_fault_1 : decode cX5_fault 1 = .ok (.invokevirtual 135, 3) := by decide +kernel
theorem dX5_fault_4 : decode cX5_fault 4 = .ok (.ireturn, 1) := by decide +kernel
theorem dX5_isShop_0 : decode cX5_isShop 0 = .ok (.aload_n 0, 1) := by decide +kernel
theorem dX5_isShop_1 : decode cX5_isShop 1 = .ok (.invokevirtual 135, 3) := by decide +kernel
theorem dX5_isShop_4 : decode cX5_isShop 4 = .ok (.pop, 1) := by decide +kernel
theorem dX5_isShop_5 : decode cX5_isShop 5 = .ok (.iload_n 1, 1) := by decide +kernel
theorem dX5_isShop_6 : decode cX5_isShop 6 = .ok (.i2l, 1) := by decide +kernel
theorem dX5_isShop_7 : decode cX5_isShop 7 = .ok (.lconst 0, 1) := by decide +kernel
theorem dX5_isShop_8 : decode cX5_isShop 8 = .ok (.aload_n 0, 1) := by decide +kernel
theorem dX5_isShop_9 : decode cX5_isShop 9 = .ok (.getfield 110, 3) := by decide +kernel
theorem dX5_isShop_12 : decode cX5_isShop 12 = .ok (.iconst 1, 1) := by decide +kernel
theorem dX5_isShop_13 : decode cX5_isShop 13 = .ok (.isub, 1) := by decide +kernel
theorem dX5_isShop_14 : decode cX5_isShop 14 = .ok (.i2l, 1) := by decide +kernel
theorem dX5_isShop_15 : decode cX5_isShop 15 = .ok (.invokestatic 61, 3) := by decide +kernel
theorem dX5_isShop_18 : decode cX5_isShop 18 = .ok (.ireturn, 1) := by decide +kernel
theorem dX5_isBound_0 : decode cX5_isBound 0 = .ok (.aload_n 0, 1) := by decide +kernel
theorem dX5_isBound_1 : decode cX5_isBound 1 = .ok (.getfield 25, 3) := by decide +kernel
theorem dX5_isBound_4 : decode cX5_isBound 4 = .ok (.iload_n 1, 1) := by decide +kernel
theorem dX5_isBound_5 : decode cX5_isBound 5 = .ok (.iaload, 1) := by decide +kernel
theorem dX5_isBound_6 : decode cX5_isBound 6 = .ok (.aload_n 0, 1) := by decide +kernel
theorem dX5_isBound_7 : decode cX5_isBound 7 = .ok (.getfield 34, 3) := by decide +kernel
theorem dX5_isBound_10 : decode cX5_isBound 10 = .ok (.iconst 2, 1) := by decide +kernel
theorem dX5_isBound_11 : decode cX5_isBound 11 = .ok (.iaload, 1) := by decide +kernel
theorem dX5_isBound_12 : decode cX5_isBound 12 = .ok (.if_icmp .le 7, 3) := by decide +kernel
theorem dX5_isBound_15 : decode cX5_isBound 15 = .ok (.iconst 1, 1) := by decide +kernel
theorem dX5_isBound_16 : decode cX5_isBound 16 = .ok (.goto 4, 3) := by decide +kernel
theorem dX5_isBound_19 : decode cX5_isBound 19 = .ok (.iconst 0, 1) := by decide +kernel
theorem dX5_isBound_20 : decode cX5_isBound 20 = .ok (.ireturn, 1) := by decide +kernel
theorem dX5_shop_0 : decode cX5_shop 0 = .ok (.aload_n 0, 1) := by decide +kernel
theorem dX5_shop_1 : decode cX5_shop 1 = .ok (.iload_n 1, 1) := by decide +kernel
theorem dX5_shop_2 : decode cX5_shop 2 = .ok (.invokevirtual 138, 3) := by decide +kernel
theorem dX5_shop_5 : decode cX5_shop 5 = .ok (.ifCond .eq 15, 3) := by decide +kernel
theorem dX5_shop_8 : decode cX5_shop 8 = .ok (.iload_n 2, 1) := by decide +kernel
theorem dX5_shop_9 : decode cX5_shop 9 = .ok (.i2l, 1) := by decide +kernel
theorem dX5_shop_10 : decode cX5_shop 10 = .ok (.lconst 0, 1) := by decide +kernel
theorem dX5_shop_11 : decode cX5_shop 11 = .ok (.ldc2_w 75, 3) := by decide +kernel
theorem dX5_shop_14 : decode cX5_shop 14 = .ok (.invokestatic 61, 3) := by decide +kernel
theorem dX5_shop_17 : decode cX5_shop 17 = .ok (.ifCond .ne 6, 3) := by decide +kernel
theorem dX5_shop_20 : decode cX5_shop 20 = .ok (.bipush (-2), 2) := by decide +kernel
theorem dX5_shop_22 : decode cX5_shop 22 = .ok (.ireturn, 1) := by decide +kernel
theorem dX5_shop_23 : decode cX5_shop 23 = .ok (.iload_n 2, 1) := by decide +kernel
theorem dX5_shop_24 : decode cX5_shop 24 = .ok (.ifCond .ne 12, 3) := by decide +kernel
theorem dX5_shop_27 : decode cX5_shop 27 = .ok (.aload_n 0, 1) := by decide +kernel
theorem dX5_shop_28 : decode cX5_shop 28 = .ok (.getfield 25, 3) := by decide +kernel
theorem dX5_shop_31 : decode cX5_shop 31 = .ok (.iload_n 1, 1) := by decide +kernel
theorem dX5_shop_32 : decode cX5_shop 32 = .ok (.iaload, 1) := by decide +kernel
theorem dX5_shop_33 : decode cX5_shop 33 = .ok (.goto 30, 3) := by decide +kernel
theorem dX5_shop_36 : decode cX5_shop 36 = .ok (.iload_n 2, 1) := by decide +kernel
theorem dX5_shop_37 : decode cX5_shop 37 = .ok (.iconst 1, 1) := by decide +kernel
theorem dX5_shop_38 : decode cX5_shop 38 = .ok (.if_icmp .ne 12, 3) := by decide +kernel
theorem dX5_shop_41 : decode cX5_shop 41 = .ok (.aload_n 0, 1) := by decide +kernel
theorem dX5_shop_42 : decode cX5_shop 42 = .ok (.getfield 28, 3) := by decide +kernel
theorem dX5_shop_45 : decode cX5_shop 45 = .ok (.iload_n 1, 1) := by decide +kernel
theorem dX5_shop_46 : decode cX5_shop 46 = .ok (.iaload, 1) := by decide +kernel
theorem dX5_shop_47 : decode cX5_shop 47 = .ok (.goto 16, 3) := by decide +kernel
theorem dX5_shop_50 : decode cX5_shop 50 = .ok (.aload_n 0, 1) := by decide +kernel
theorem dX5_shop_51 : decode cX5_shop 51 = .ok (.iload_n 1, 1) := by decide +kernel
theorem dX5_shop_52 : decode cX5_shop 52 = .ok (.invokevirtual 141, 3) := by decide +kernel
theorem dX5_shop_55 : decode cX5_shop 55 = .ok (.ifCond .eq 7, 3) := by decide +kernel
theorem dX5_shop_58 : decode cX5_shop 58 = .ok (.iconst 1, 1) := by decide +kernel
theorem dX5_shop_59 : decode cX5_shop 59 = .ok (.goto 4, 3) := by decide +kernel
theorem dX5_shop_62 : decode cX5_shop 62 = .ok (.iconst 0, 1) := by decide +kernel
theorem dX5_shop_63 : decode cX5_shop 63 = .ok (.ireturn, 1) := by decide +kernel
theorem dX5_sort_0 : decode cX5_sort 0 = .ok (.aload_n 0, 1) := by decide +kernel
theorem dX5_sort_1 : decode cX5_sort 1 = .ok (.invokevirtual 135, 3) := by decide +kernel
theorem dX5_sort_4 : decode cX5_sort 4 = .ok (.pop, 1) := by decide +kernel
theorem dX5_sort_5 : decode cX5_sort 5 = .ok (.iload_n 1, 1) := by decide +kernel
theorem dX5_sort_6 : decode cX5_sort 6 = .ok (.i2l, 1) := by decide +kernel
theorem dX5_sort_7 : decode cX5_sort 7 = .ok (.lconst 0, 1) := by decide +kernel
theorem dX5_sort_8 : decode cX5_sort 8 = .ok (.aload_n 0, 1) := by decide +kernel
theorem dX5_sort_9 : decode cX5_sort 9 = .ok (.getfield 119, 3) := by decide +kernel
theorem dX5_sort_12 : decode cX5_sort 12 = .ok (.iconst 1, 1) := by decide +kernel
theorem dX5_sort_13 : decode cX5_sort 13 = .ok (.isub, 1) := by decide +kernel
theorem dX5_sort_14 : decode cX5_sort 14 = .ok (.i2l, 1) := by decide +kernel
theorem dX5_sort_15 : decode cX5_sort 15 = .ok (.invokestatic 61, 3) := by decide +kernel
theorem dX5_sort_18 : decode cX5_sort 18 = .ok (.ifCond .eq 29, 3) := by decide +kernel
theorem dX5_sort_21 : decode cX5_sort 21 = .ok (.iload_n 2, 1) := by decide +kernel
theorem dX5_sort_22 : decode cX5_sort 22 = .ok (.i2l, 1) := by decide +kernel
theorem dX5_sort_23 : decode cX5_sort 23 = .ok (.lconst 0, 1) := by decide +kernel
theorem dX5_sort_24 : decode cX5_sort 24 = .ok (.ldc2_w 144, 3) := by decide +kernel
theorem dX5_sort_27 : decode cX5_sort 27 = .ok (.invokestatic 61, 3) := by decide +kernel
theorem dX5_sort_30 : decode cX5_sort 30 = .ok (.ifCond .eq 17, 3) := by decide +kernel
theorem dX5_sort_33 : decode cX5_sort 33 = .ok (.aload_n 0, 1) := by decide +kernel
theorem dX5_sort_34 : decode cX5_sort 34 = .ok (.getfield 31, 3) := by decide +kernel
theorem dX5_sort_37 : decode cX5_sort 37 = .ok (.bipush 6, 2) := by decide +kernel
theorem dX5_sort_39 : decode cX5_sort 39 = .ok (.iload_n 1, 1) := by decide +kernel
theorem dX5_sort_40 : decode cX5_sort 40 = .ok (.imul, 1) := by decide +kernel
theorem dX5_sort_41 : decode cX5_sort 41 = .ok (.iload_n 2, 1) := by decide +kernel
theorem dX5_sort_42 : decode cX5_sort 42 = .ok (.iadd, 1) := by decide +kernel
theorem dX5_sort_43 : decode cX5_sort 43 = .ok (.iaload, 1) := by decide +kernel
theorem dX5_sort_44 : decode cX5_sort 44 = .ok (.goto 5, 3) := by decide +kernel
theorem dX5_sort_47 : decode cX5_sort 47 = .ok (.bipush (-2), 2) := by decide +kernel
theorem dX5_sort_49 : decode cX5_sort 49 = .ok (.ireturn, 1) := by decide +kernel
theorem dX5_high_0 : decode cX5_high 0 = .ok (.iload_n 0, 1) := by decide +kernel
theorem dX5_high_1 : decode cX5_high 1 = .ok (.tableswitch 44 0 4 #[35, 38, 38, 40, 35], 35) := by decide +kernel
theorem dX5_high_36 : decode cX5_high 36 = .ok (.bipush 16, 2) := by decide +kernel
theorem dX5_high_38 : decode cX5_high 38 = .ok (.ireturn, 1) := by decide +kernel
theorem dX5_high_39 : decode cX5_high 39 = .ok (.iconst 3, 1) := by decide +kernel
theorem dX5_high_40 : decode cX5_high 40 = .ok (.ireturn, 1) := by decide +kernel
theorem dX5_high_41 : decode cX5_high 41 = .ok (.sipush 999, 3) := by decide +kernel
theorem dX5_high_44 : decode cX5_high 44 = .ok (.ireturn, 1) := by decide +kernel
theorem dX5_high_45 : decode cX5_high 45 = .ok (.bipush 8, 2) := by decide +kernel
theorem dX5_high_47 : decode cX5_high 47 = .ok (.ireturn, 1) := by decide +kernel
theorem dX5_set_0 : decode cX5_set 0 = .ok (.iload_n 1, 1) := by decide +kernel
theorem dX5_set_1 : decode cX5_set 1 = .ok (.i2l, 1) := by decide +kernel
theorem dX5_set_2 : decode cX5_set 2 = .ok (.lconst 0, 1) := by decide +kernel
theorem dX5_set_3 : decode cX5_set 3 = .ok (.ldc2_w 146, 3) := by decide +kernel
theorem dX5_set_6 : decode cX5_set 6 = .ok (.invokestatic 61, 3) := by decide +kernel
theorem dX5_set_9 : decode cX5_set 9 = .ok (.ifCond .eq 17, 3) := by decide +kernel
theorem dX5_set_12 : decode cX5_set 12 = .ok (.iload_n 2, 1) := by decide +kernel
theorem dX5_set_13 : decode cX5_set 13 = .ok (.i2l, 1) := by decide +kernel
theorem dX5_set_14 : decode cX5_set 14 = .ok (.lconst 0, 1) := by decide +kernel
theorem dX5_set_15 : decode cX5_set 15 = .ok (.iload_n 1, 1) := by decide +kernel
theorem dX5_set_16 : decode cX5_set 16 = .ok (.invokestatic 148, 3) := by decide +kernel
theorem dX5_set_19 : decode cX5_set 19 = .ok (.i2l, 1) := by decide +kernel
theorem dX5_set_20 : decode cX5_set 20 = .ok (.invokestatic 61, 3) := by decide +kernel
theorem dX5_set_23 : decode cX5_set 23 = .ok (.ifCond .ne 6, 3) := by decide +kernel
theorem dX5_set_26 : decode cX5_set 26 = .ok (.bipush (-2), 2) := by decide +kernel
theorem dX5_set_28 : decode cX5_set 28 = .ok (.ireturn, 1) := by decide +kernel
theorem dX5_set_29 : decode cX5_set 29 = .ok (.aload_n 0, 1) := by decide +kernel
theorem dX5_set_30 : decode cX5_set 30 = .ok (.getfield 34, 3) := by decide +kernel
theorem dX5_set_33 : decode cX5_set 33 = .ok (.iload_n 1, 1) := by decide +kernel
theorem dX5_set_34 : decode cX5_set 34 = .ok (.iaload, 1) := by decide +kernel
theorem dX5_set_35 : decode cX5_set 35 = .ok (.istore_n 3, 1) := by decide +kernel
theorem dX5_set_36 : decode cX5_set 36 = .ok (.aload_n 0, 1) := by decide +kernel
theorem dX5_set_37 : decode cX5_set 37 = .ok (.getfield 34, 3) := by decide +kernel
theorem dX5_set_40 : decode cX5_set 40 = .ok (.iload_n 1, 1) := by decide +kernel
theorem dX5_set_41 : decode cX5_set 41 = .ok (.iload_n 2, 1) := by decide +kernel
theorem dX5_set_42 : decode cX5_set 42 = .ok (.iastore, 1) := by decide +kernel
theorem dX5_set_43 : decode cX5_set 43 = .ok (.iload_n 3, 1) := by decide +kernel
theorem dX5_set_44 : decode cX5_set 44 = .ok (.ireturn, 1) := by decide +kernel
theorem dX5_hours_0 : decode cX5_hours 0 = .ok (.iload_n 1, 1) := by decide +kernel
theorem dX5_hours_1 : decode cX5_hours 1 = .ok (.i2l, 1) := by decide +kernel
theorem dX5_hours_2 : decode cX5_hours 2 = .ok (.lconst 0, 1) := by decide +kernel
theorem dX5_hours_3 : decode cX5_hours 3 = .ok (.ldc2_w 151, 3) := by decide +kernel
theorem dX5_hours_6 : decode cX5_hours 6 = .ok (.invokestatic 61, 3) := by decide +kernel
theorem dX5_hours_9 : decode cX5_hours 9 = .ok (.ifCond .eq 15, 3) := by decide +kernel
theorem dX5_hours_12 : decode cX5_hours 12 = .ok (.iload_n 2, 1) := by decide +kernel
theorem dX5_hours_13 : decode cX5_hours 13 = .ok (.i2l, 1) := by decide +kernel
theorem dX5_hours_14 : decode cX5_hours 14 = .ok (.lconst 0, 1) := by decide +kernel
theorem dX5_hours_15 : decode cX5_hours 15 = .ok (.ldc2_w 69, 3) := by decide +kernel
theorem dX5_hours_18 : decode cX5_hours 18 = .ok (.invokestatic 61, 3) := by decide +kernel
theorem dX5_hours_21 : decode cX5_hours 21 = .ok (.ifCond .ne 6, 3) := by decide +kernel
theorem dX5_hours_24 : decode cX5_hours 24 = .ok (.bipush (-2), 2) := by decide +kernel
theorem dX5_hours_26 : decode cX5_hours 26 = .ok (.ireturn, 1) := by decide +kernel
theorem dX5_hours_27 : decode cX5_hours 27 = .ok (.aload_n 0, 1) := by decide +kernel
theorem dX5_hours_28 : decode cX5_hours 28 = .ok (.getfield 37, 3) := by decide +kernel
theorem dX5_hours_31 : decode cX5_hours 31 = .ok (.iload_n 1, 1) := by decide +kernel
theorem dX5_hours_32 : decode cX5_hours 32 = .ok (.iaload, 1) := by decide +kernel
theorem dX5_hours_33 : decode cX5_hours 33 = .ok (.istore_n 3, 1) := by decide +kernel
theorem dX5_hours_34 : decode cX5_hours 34 = .ok (.aload_n 0, 1) := by decide +kernel
theorem dX5_hours_35 : decode cX5_hours 35 = .ok (.getfield 37, 3) := by decide +kernel
theorem dX5_hours_38 : decode cX5_hours 38 = .ok (.iload_n 1, 1) := by decide +kernel
theorem dX5_hours_39 : decode cX5_hours 39 = .ok (.iload_n 2, 1) := by decide +kernel
theorem dX5_hours_40 : decode cX5_hours 40 = .ok (.iastore, 1) := by decide +kernel
theorem dX5_hours_41 : decode cX5_hours 41 = .ok (.iload_n 3, 1) := by decide +kernel
theorem dX5_hours_42 : decode cX5_hours 42 = .ok (.ireturn, 1) := by decide +kernel
theorem dX5_read_0 : decode cX5_read 0 = .ok (.iload_n 1, 1) := by decide +kernel
theorem dX5_read_1 : decode cX5_read 1 = .ok (.invokestatic 71, 3) := by decide +kernel
theorem dX5_read_4 : decode cX5_read 4 = .ok (.ifCond .ne 6, 3) := by decide +kernel
theorem dX5_read_7 : decode cX5_read 7 = .ok (.bipush (-2), 2) := by decide +kernel
theorem dX5_read_9 : decode cX5_read 9 = .ok (.ireturn, 1) := by decide +kernel
theorem dX5_read_10 : decode cX5_read 10 = .ok (.aload_n 0, 1) := by decide +kernel
theorem dX5_read_11 : decode cX5_read 11 = .ok (.getfield 7, 3) := by decide +kernel
theorem dX5_read_14 : decode cX5_read 14 = .ok (.iload_n 1, 1) := by decide +kernel
theorem dX5_read_15 : decode cX5_read 15 = .ok (.iaload, 1) := by decide +kernel
theorem dX5_read_16 : decode cX5_read 16 = .ok (.ifCond .ge 9, 3) := by decide +kernel
theorem dX5_read_19 : decode cX5_read 19 = .ok (.aload_n 0, 1) := by decide +kernel
theorem dX5_read_20 : decode cX5_read 20 = .ok (.iconst 1, 1) := by decide +kernel
theorem dX5_read_21 : decode cX5_read 21 = .ok (.invokevirtual 77, 3) := by decide +kernel
theorem dX5_read_24 : decode cX5_read 24 = .ok (.ireturn, 1) := by decide +kernel
theorem dX5_read_25 : decode cX5_read 25 = .ok (.iconst 0, 1) := by decide +kernel
theorem dX5_read_26 : decode cX5_read 26 = .ok (.istore_n 2, 1) := by decide +kernel
theorem dX5_read_27 : decode cX5_read 27 = .ok (.iload_n 2, 1) := by decide +kernel
theorem dX5_read_28 : decode cX5_read 28 = .ok (.aload_n 0, 1) := by decide +kernel
theorem dX5_read_29 : decode cX5_read 29 = .ok (.getfield 13, 3) := by decide +kernel
theorem dX5_read_32 : decode cX5_read 32 = .ok (.iload_n 1, 1) := by decide +kernel
theorem dX5_read_33 : decode cX5_read 33 = .ok (.iaload, 1) := by decide +kernel
theorem dX5_read_34 : decode cX5_read 34 = .ok (.if_icmp .ge 28, 3) := by decide +kernel
theorem dX5_read_37 : decode cX5_read 37 = .ok (.aload_n 0, 1) := by decide +kernel
theorem dX5_read_38 : decode cX5_read 38 = .ok (.iload_n 2, 1) := by decide +kernel
theorem dX5_read_39 : decode cX5_read 39 = .ok (.aload_n 0, 1) := by decide +kernel
theorem dX5_read_40 : decode cX5_read 40 = .ok (.getfield 16, 3) := by decide +kernel
theorem dX5_read_43 : decode cX5_read 43 = .ok (.bipush 60, 2) := by decide +kernel
theorem dX5_read_45 : decode cX5_read 45 = .ok (.iload_n 1, 1) := by decide +kernel
theorem dX5_read_46 : decode cX5_read 46 = .ok (.imul, 1) := by decide +kernel
theorem dX5_read_47 : decode cX5_read 47 = .ok (.iload_n 2, 1) := by decide +kernel
theorem dX5_read_48 : decode cX5_read 48 = .ok (.iadd, 1) := by decide +kernel
theorem dX5_read_49 : decode cX5_read 49 = .ok (.iaload, 1) := by decide +kernel
theorem dX5_read_50 : decode cX5_read 50 = .ok (.invokevirtual 153, 3) := by decide +kernel
theorem dX5_read_53 : decode cX5_read 53 = .ok (.ifCond .lt 9, 3) := by decide +kernel
theorem dX5_read_56 : decode cX5_read 56 = .ok (.iinc 2 1, 3) := by decide +kernel
theorem dX5_read_59 : decode cX5_read 59 = .ok (.goto (-32), 3) := by decide +kernel
theorem dX5_read_62 : decode cX5_read 62 = .ok (.iload_n 2, 1) := by decide +kernel
theorem dX5_read_63 : decode cX5_read 63 = .ok (.ireturn, 1) := by decide +kernel
theorem dX5_tries_0 : decode cX5_tries 0 = .ok (.aload_n 0, 1) := by decide +kernel
theorem dX5_tries_1 : decode cX5_tries 1 = .ok (.invokevirtual 135, 3) := by decide +kernel
theorem dX5_tries_4 : decode cX5_tries 4 = .ok (.pop, 1) := by decide +kernel
theorem dX5_tries_5 : decode cX5_tries 5 = .ok (.iconst 0, 1) := by decide +kernel
theorem dX5_tries_6 : decode cX5_tries 6 = .ok (.istore_n 1, 1) := by decide +kernel
theorem dX5_tries_7 : decode cX5_tries 7 = .ok (.iload_n 1, 1) := by decide +kernel
theorem dX5_tries_8 : decode cX5_tries 8 = .ok (.iconst 5, 1) := by decide +kernel
theorem dX5_tries_9 : decode cX5_tries 9 = .ok (.if_icmp .ge 33, 3) := by decide +kernel
theorem dX5_tries_12 : decode cX5_tries 12 = .ok (.aload_n 0, 1) := by decide +kernel
theorem dX5_tries_13 : decode cX5_tries 13 = .ok (.getfield 43, 3) := by decide +kernel
theorem dX5_tries_16 : decode cX5_tries 16 = .ok (.iload_n 1, 1) := by decide +kernel
theorem dX5_tries_17 : decode cX5_tries 17 = .ok (.aload_n 0, 1) := by decide +kernel
theorem dX5_tries_18 : decode cX5_tries 18 = .ok (.getfield 37, 3) := by decide +kernel
theorem dX5_tries_21 : decode cX5_tries 21 = .ok (.iload_n 1, 1) := by decide +kernel
theorem dX5_tries_22 : decode cX5_tries 22 = .ok (.iaload, 1) := by decide +kernel
theorem dX5_tries_23 : decode cX5_tries 23 = .ok (.iastore, 1) := by decide +kernel
theorem dX5_tries_24 : decode cX5_tries 24 = .ok (.aload_n 0, 1) := by decide +kernel
theorem dX5_tries_25 : decode cX5_tries 25 = .ok (.getfield 49, 3) := by decide +kernel
theorem dX5_tries_28 : decode cX5_tries 28 = .ok (.iload_n 1, 1) := by decide +kernel
theorem dX5_tries_29 : decode cX5_tries 29 = .ok (.aload_n 0, 1) := by decide +kernel
theorem dX5_tries_30 : decode cX5_tries 30 = .ok (.getfield 28, 3) := by decide +kernel
theorem dX5_tries_33 : decode cX5_tries 33 = .ok (.iload_n 1, 1) := by decide +kernel
theorem dX5_tries_34 : decode cX5_tries 34 = .ok (.iaload, 1) := by decide +kernel
theorem dX5_tries_35 : decode cX5_tries 35 = .ok (.iastore, 1) := by decide +kernel
theorem dX5_tries_36 : decode cX5_tries 36 = .ok (.iinc 1 1, 3) := by decide +kernel
theorem dX5_tries_39 : decode cX5_tries 39 = .ok (.goto (-32), 3) := by decide +kernel
theorem dX5_tries_42 : decode cX5_tries 42 = .ok (.iconst 1, 1) := by decide +kernel
theorem dX5_tries_43 : decode cX5_tries 43 = .ok (.istore_n 1, 1) := by decide +kernel
theorem dX5_tries_44 : decode cX5_tries 44 = .ok (.iload_n 1, 1) := by decide +kernel
theorem dX5_tries_45 : decode cX5_tries 45 = .ok (.iconst 4, 1) := by decide +kernel
theorem dX5_tries_46 : decode cX5_tries 46 = .ok (.if_icmp .ge 23, 3) := by decide +kernel
theorem dX5_tries_49 : decode cX5_tries 49 = .ok (.aload_n 0, 1) := by decide +kernel
theorem dX5_tries_50 : decode cX5_tries 50 = .ok (.getfield 46, 3) := by decide +kernel
theorem dX5_tries_53 : decode cX5_tries 53 = .ok (.iload_n 1, 1) := by decide +kernel
theorem dX5_tries_54 : decode cX5_tries 54 = .ok (.aload_n 0, 1) := by decide +kernel
theorem dX5_tries_55 : decode cX5_tries 55 = .ok (.getfield 34, 3) := by decide +kernel
theorem dX5_tries_58 : decode cX5_tries 58 = .ok (.iconst 4, 1) := by decide +kernel
theorem dX5_tries_59 : decode cX5_tries 59 = .ok (.iload_n 1, 1) := by decide +kernel
theorem dX5_tries_60 : decode cX5_tries 60 = .ok (.iadd, 1) := by decide +kernel
theorem dX5_tries_61 : decode cX5_tries 61 = .ok (.iaload, 1) := by decide +kernel
theorem dX5_tries_62 : decode cX5_tries 62 = .ok (.iastore, 1) := by decide +kernel
theorem dX5_tries_63 : decode cX5_tries 63 = .ok (.iinc 1 1, 3) := by decide +kernel
theorem dX5_tries_66 : decode cX5_tries 66 = .ok (.goto (-22), 3) := by decide +kernel
theorem dX5_tries_69 : decode cX5_tries 69 = .ok (.aload_n 0, 1) := by decide +kernel
theorem dX5_tries_70 : decode cX5_tries 70 = .ok (.iconst 1, 1) := by decide +kernel
theorem dX5_tries_71 : decode cX5_tries 71 = .ok (.putfield 155, 3) := by decide +kernel
theorem dX5_tries_74 : decode cX5_tries 74 = .ok (.aload_n 0, 1) := by decide +kernel
theorem dX5_tries_75 : decode cX5_tries 75 = .ok (.iconst 3, 1) := by decide +kernel
theorem dX5_tries_76 : decode cX5_tries 76 = .ok (.putfield 159, 3) := by decide +kernel
theorem dX5_tries_79 : decode cX5_tries 79 = .ok (.aload_n 0, 1) := by decide +kernel
theorem dX5_tries_80 : decode cX5_tries 80 = .ok (.iconst (-1), 1) := by decide +kernel
theorem dX5_tries_81 : decode cX5_tries 81 = .ok (.putfield 162, 3) := by decide +kernel
theorem dX5_tries_84 : decode cX5_tries 84 = .ok (.return_, 1) := by decide +kernel
theorem dX5_openIn_0 : decode cX5_openIn 0 = .ok (.iconst 0, 1) := by decide +kernel
theorem dX5_openIn_1 : decode cX5_openIn 1 = .ok (.istore_n 2, 1) := by decide +kernel
theorem dX5_openIn_2 : decode cX5_openIn 2 = .ok (.iconst 0, 1) := by decide +kernel
theorem dX5_openIn_3 : decode cX5_openIn 3 = .ok (.istore_n 3, 1) := by decide +kernel
theorem dX5_openIn_4 : decode cX5_openIn 4 = .ok (.iload_n 3, 1) := by decide +kernel
theorem dX5_openIn_5 : decode cX5_openIn 5 = .ok (.aload_n 0, 1) := by decide +kernel
theorem dX5_openIn_6 : decode cX5_openIn 6 = .ok (.getfield 110, 3) := by decide +kernel
theorem dX5_openIn_9 : decode cX5_openIn 9 = .ok (.if_icmp .ge 29, 3) := by decide +kernel
theorem dX5_openIn_12 : decode cX5_openIn 12 = .ok (.iload_n 2, 1) := by decide +kernel
theorem dX5_openIn_13 : decode cX5_openIn 13 = .ok (.aload_n 0, 1) := by decide +kernel
theorem dX5_openIn_14 : decode cX5_openIn 14 = .ok (.getfield 43, 3) := by decide +kernel
theorem dX5_openIn_17 : decode cX5_openIn 17 = .ok (.iload_n 3, 1) := by decide +kernel
theorem dX5_openIn_18 : decode cX5_openIn 18 = .ok (.iaload, 1) := by decide +kernel
theorem dX5_openIn_19 : decode cX5_openIn 19 = .ok (.iload_n 1, 1) := by decide +kernel
theorem dX5_openIn_20 : decode cX5_openIn 20 = .ok (.if_icmp .lt 9, 3) := by decide +kernel
theorem dX5_openIn_23 : decode cX5_openIn 23 = .ok (.iconst 1, 1) := by decide +kernel
theorem dX5_openIn_24 : decode cX5_openIn 24 = .ok (.iload_n 3, 1) := by decide +kernel
theorem dX5_openIn_25 : decode cX5_openIn 25 = .ok (.ishl, 1) := by decide +kernel
theorem dX5_openIn_26 : decode cX5_openIn 26 = .ok (.goto 4, 3) := by decide +kernel
theorem dX5_openIn_29 : decode cX5_openIn 29 = .ok (.iconst 0, 1) := by decide +kernel
theorem dX5_openIn_30 : decode cX5_openIn 30 = .ok (.ior, 1) := by decide +kernel
theorem dX5_openIn_31 : decode cX5_openIn 31 = .ok (.istore_n 2, 1) := by decide +kernel
theorem dX5_openIn_32 : decode cX5_openIn 32 = .ok (.iinc 3 1, 3) := by decide +kernel
theorem dX5_openIn_35 : decode cX5_openIn 35 = .ok (.goto (-31), 3) := by decide +kernel
theorem dX5_openIn_38 : decode cX5_openIn 38 = .ok (.iload_n 2, 1) := by decide +kernel
theorem dX5_openIn_39 : decode cX5_openIn 39 = .ok (.ireturn, 1) := by decide +kernel
theorem dX5_open_0 : decode cX5_open 0 = .ok (.iload_n 1, 1) := by decide +kernel
theorem dX5_open_1 : decode cX5_open 1 = .ok (.i2l, 1) := by decide +kernel
theorem dX5_open_2 : decode cX5_open 2 = .ok (.lconst 1, 1) := by decide +kernel
theorem dX5_open_3 : decode cX5_open 3 = .ok (.ldc2_w 69, 3) := by decide +kernel
theorem dX5_open_6 : decode cX5_open 6 = .ok (.invokestatic 61, 3) := by decide +kernel
theorem dX5_open_9 : decode cX5_open 9 = .ok (.ifCond .ne 6, 3) := by decide +kernel
theorem dX5_open_12 : decode cX5_open 12 = .ok (.bipush (-2), 2) := by decide +kernel
theorem dX5_open_14 : decode cX5_open 14 = .ok (.ireturn, 1) := by decide +kernel
theorem dX5_open_15 : decode cX5_open 15 = .ok (.aload_n 0, 1) := by decide +kernel
theorem dX5_open_16 : decode cX5_open 16 = .ok (.invokevirtual 165, 3) := by decide +kernel
theorem dX5_open_19 : decode cX5_open 19 = .ok (.aload_n 0, 1) := by decide +kernel
theorem dX5_open_20 : decode cX5_open 20 = .ok (.iload_n 1, 1) := by decide +kernel
theorem dX5_open_21 : decode cX5_open 21 = .ok (.invokevirtual 168, 3) := by decide +kernel
theorem dX5_open_24 : decode cX5_open 24 = .ok (.ireturn, 1) := by decide +kernel
theorem dX5_sizesOf_0 : decode cX5_sizesOf 0 = .ok (.iconst 0, 1) := by decide +kernel
theorem dX5_sizesOf_1 : decode cX5_sizesOf 1 = .ok (.istore_n 2, 1) := by decide +kernel
theorem dX5_sizesOf_2 : decode cX5_sizesOf 2 = .ok (.iconst 0, 1) := by decide +kernel
theorem dX5_sizesOf_3 : decode cX5_sizesOf 3 = .ok (.istore_n 3, 1) := by decide +kernel
theorem dX5_sizesOf_4 : decode cX5_sizesOf 4 = .ok (.iload_n 3, 1) := by decide +kernel
theorem dX5_sizesOf_5 : decode cX5_sizesOf 5 = .ok (.aload_n 0, 1) := by decide +kernel
theorem dX5_sizesOf_6 : decode cX5_sizesOf 6 = .ok (.getfield 110, 3) := by decide +kernel
theorem dX5_sizesOf_9 : decode cX5_sizesOf 9 = .ok (.if_icmp .ge 31, 3) := by decide +kernel
theorem dX5_sizesOf_12 : decode cX5_sizesOf 12 = .ok (.iload_n 2, 1) := by decide +kernel
theorem dX5_sizesOf_13 : decode cX5_sizesOf 13 = .ok (.iload_n 1, 1) := by decide +kernel
theorem dX5_sizesOf_14 : decode cX5_sizesOf 14 = .ok (.iload_n 3, 1) := by decide +kernel
theorem dX5_sizesOf_15 : decode cX5_sizesOf 15 = .ok (.ishr, 1) := by decide +kernel
theorem dX5_sizesOf_16 : decode cX5_sizesOf 16 = .ok (.iconst 1, 1) := by decide +kernel
theorem dX5_sizesOf_17 : decode cX5_sizesOf 17 = .ok (.iand, 1) := by decide +kernel
theorem dX5_sizesOf_18 : decode cX5_sizesOf 18 = .ok (.iconst 1, 1) := by decide +kernel
theorem dX5_sizesOf_19 : decode cX5_sizesOf 19 = .ok (.if_icmp .ne 12, 3) := by decide +kernel
theorem dX5_sizesOf_22 : decode cX5_sizesOf 22 = .ok (.aload_n 0, 1) := by decide +kernel
theorem dX5_sizesOf_23 : decode cX5_sizesOf 23 = .ok (.getfield 25, 3) := by decide +kernel
theorem dX5_sizesOf_26 : decode cX5_sizesOf 26 = .ok (.iload_n 3, 1) := by decide +kernel
theorem dX5_sizesOf_27 : decode cX5_sizesOf 27 = .ok (.iaload, 1) := by decide +kernel
theorem dX5_sizesOf_28 : decode cX5_sizesOf 28 = .ok (.goto 4, 3) := by decide +kernel
theorem dX5_sizesOf_31 : decode cX5_sizesOf 31 = .ok (.iconst 0, 1) := by decide +kernel
theorem dX5_sizesOf_32 : decode cX5_sizesOf 32 = .ok (.iadd, 1) := by decide +kernel
theorem dX5_sizesOf_33 : decode cX5_sizesOf 33 = .ok (.istore_n 2, 1) := by decide +kernel
theorem dX5_sizesOf_34 : decode cX5_sizesOf 34 = .ok (.iinc 3 1, 3) := by decide +kernel
theorem dX5_sizesOf_37 : decode cX5_sizesOf 37 = .ok (.goto (-33), 3) := by decide +kernel
theorem dX5_sizesOf_40 : decode cX5_sizesOf 40 = .ok (.iload_n 2, 1) := by decide +kernel
theorem dX5_sizesOf_41 : decode cX5_sizesOf 41 = .ok (.ireturn, 1) := by decide +kernel
theorem dX5_parts_0 : decode cX5_parts 0 = .ok (.aload_n 0, 1) := by decide +kernel
theorem dX5_parts_1 : decode cX5_parts 1 = .ok (.iload_n 3, 1) := by decide +kernel
theorem dX5_parts_2 : decode cX5_parts 2 = .ok (.invokevirtual 171, 3) := by decide +kernel
theorem dX5_parts_5 : decode cX5_parts 5 = .ok (.istore 5, 2) := by decide +kernel
theorem dX5_parts_7 : decode cX5_parts 7 = .ok (.iconst 0, 1) := by decide +kernel
theorem dX5_parts_8 : decode cX5_parts 8 = .ok (.istore 6, 2) := by decide +kernel
theorem dX5_parts_10 : decode cX5_parts 10 = .ok (.iload 6, 2) := by decide +kernel
theorem dX5_parts_12 : decode cX5_parts 12 = .ok (.aload_n 0, 1) := by decide +kernel
theorem dX5_parts_13 : decode cX5_parts 13 = .ok (.getfield 110, 3) := by decide +kernel
theorem dX5_parts_16 : decode cX5_parts 16 = .ok (.if_icmp .ge 51, 3) := by decide +kernel
theorem dX5_parts_19 : decode cX5_parts 19 = .ok (.aload_n 0, 1) := by decide +kernel
theorem dX5_parts_20 : decode cX5_parts 20 = .ok (.getfield 52, 3) := by decide +kernel
theorem dX5_parts_23 : decode cX5_parts 23 = .ok (.iload 6, 2) := by decide +kernel
theorem dX5_parts_25 : decode cX5_parts 25 = .ok (.dup2, 1) := by decide +kernel
theorem dX5_parts_26 : decode cX5_parts 26 = .ok (.laload, 1) := by decide +kernel
theorem dX5_parts_27 : decode cX5_parts 27 = .ok (.iload_n 3, 1) := by decide +kernel
theorem dX5_parts_28 : decode cX5_parts 28 = .ok (.iload 6, 2) := by decide +kernel
theorem dX5_parts_30 : decode cX5_parts 30 = .ok (.ishr, 1) := by decide +kernel
theorem dX5_parts_31 : decode cX5_parts 31 = .ok (.iconst 1, 1) := by decide +kernel
theorem dX5_parts_32 : decode cX5_parts 32 = .ok (.iand, 1) := by decide +kernel
theorem dX5_parts_33 : decode cX5_parts 33 = .ok (.iconst 1, 1) := by decide +kernel
theorem dX5_parts_34 : decode cX5_parts 34 = .ok (.if_icmp .ne 24, 3) := by decide +kernel
theorem dX5_parts_37 : decode cX5_parts 37 = .ok (.lload_n 1, 1) := by decide +kernel
theorem dX5_parts_38 : decode cX5_parts 38 = .ok (.iload 5, 2) := by decide +kernel
theorem dX5_parts_40 : decode cX5_parts 40 = .ok (.i2l, 1) := by decide +kernel
theorem dX5_parts_41 : decode cX5_parts 41 = .ok (.ldiv, 1) := by decide +kernel
theorem dX5_parts_42 : decode cX5_parts 42 = .ok (.aload_n 0, 1) := by decide +kernel
theorem dX5_parts_43 : decode cX5_parts 43 = .ok (.getfield 25, 3) := by decide +kernel
theorem dX5_parts_46 : decode cX5_parts 46 = .ok (.iload 6, 2) := by decide +kernel
theorem dX5_parts_48 : decode cX5_parts 48 = .ok (.iaload, 1) := by decide +kernel
theorem dX5_parts_49 : decode cX5_parts 49 = .ok (.i2l, 1) := by decide +kernel
theorem dX5_parts_50 : decode cX5_parts 50 = .ok (.lmul, 1) := by decide +kernel
theorem dX5_parts_51 : decode cX5_parts 51 = .ok (.iload 4, 2) := by decide +kernel
theorem dX5_parts_53 : decode cX5_parts 53 = .ok (.i2l, 1) := by decide +kernel
theorem dX5_parts_54 : decode cX5_parts 54 = .ok (.lmul, 1) := by decide +kernel
theorem dX5_parts_55 : decode cX5_parts 55 = .ok (.goto 4, 3) := by decide +kernel
theorem dX5_parts_58 : decode cX5_parts 58 = .ok (.lconst 0, 1) := by decide +kernel
theorem dX5_parts_59 : decode cX5_parts 59 = .ok (.ladd, 1) := by decide +kernel
theorem dX5_parts_60 : decode cX5_parts 60 = .ok (.lastore, 1) := by decide +kernel
theorem dX5_parts_61 : decode cX5_parts 61 = .ok (.iinc 6 1, 3) := by decide +kernel
theorem dX5_parts_64 : decode cX5_parts 64 = .ok (.goto (-54), 3) := by decide +kernel
theorem dX5_parts_67 : decode cX5_parts 67 = .ok (.aload_n 0, 1) := by decide +kernel
theorem dX5_parts_68 : decode cX5_parts 68 = .ok (.dup, 1) := by decide +kernel
theorem dX5_parts_69 : decode cX5_parts 69 = .ok (.getfield 174, 3) := by decide +kernel
theorem dX5_parts_72 : decode cX5_parts 72 = .ok (.lload_n 1, 1) := by decide +kernel
theorem dX5_parts_73 : decode cX5_parts 73 = .ok (.ladd, 1) := by decide +kernel
theorem dX5_parts_74 : decode cX5_parts 74 = .ok (.putfield 174, 3) := by decide +kernel
theorem dX5_parts_77 : decode cX5_parts 77 = .ok (.return_, 1) := by decide +kernel
theorem dX5_ones_0 : decode cX5_ones 0 = .ok (.iconst 0, 1) := by decide +kernel
theorem dX5_ones_1 : decode cX5_ones 1 = .ok (.istore_n 1, 1) := by decide +kernel
theorem dX5_ones_2 : decode cX5_ones 2 = .ok (.iload_n 0, 1) := by decide +kernel
theorem dX5_ones_3 : decode cX5_ones 3 = .ok (.istore_n 2, 1) := by decide +kernel
theorem dX5_ones_4 : decode cX5_ones 4 = .ok (.iload_n 2, 1) := by decide +kernel
theorem dX5_ones_5 : decode cX5_ones 5 = .ok (.ifCond .eq 15, 3) := by decide +kernel
theorem dX5_ones_8 : decode cX5_ones 8 = .ok (.iinc 1 1, 3) := by decide +kernel
theorem dX5_ones_11 : decode cX5_ones 11 = .ok (.iload_n 2, 1) := by decide +kernel
theorem dX5_ones_12 : decode cX5_ones 12 = .ok (.iload_n 2, 1) := by decide +kernel
theorem dX5_ones_13 : decode cX5_ones 13 = .ok (.iconst 1, 1) := by decide +kernel
theorem dX5_ones_14 : decode cX5_ones 14 = .ok (.isub, 1) := by decide +kernel
theorem dX5_ones_15 : decode cX5_ones 15 = .ok (.iand, 1) := by decide +kernel
theorem dX5_ones_16 : decode cX5_ones 16 = .ok (.istore_n 2, 1) := by decide +kernel
theorem dX5_ones_17 : decode cX5_ones 17 = .ok (.goto (-13), 3) := by decide +kernel
theorem dX5_ones_20 : decode cX5_ones 20 = .ok (.iload_n 1, 1) := by decide +kernel
theorem dX5_ones_21 : decode cX5_ones 21 = .ok (.ireturn, 1) := by decide +kernel
theorem dX5_buys_0 : decode cX5_buys 0 = .ok (.bipush 6, 2) := by decide +kernel
theorem dX5_buys_2 : decode cX5_buys 2 = .ok (.iload_n 1, 1) := by decide +kernel
theorem dX5_buys_3 : decode cX5_buys 3 = .ok (.imul, 1) := by decide +kernel
theorem dX5_buys_4 : decode cX5_buys 4 = .ok (.istore_n 2, 1) := by decide +kernel
theorem dX5_buys_5 : decode cX5_buys 5 = .ok (.aload_n 0, 1) := by decide +kernel
theorem dX5_buys_6 : decode cX5_buys 6 = .ok (.getfield 31, 3) := by decide +kernel
theorem dX5_buys_9 : decode cX5_buys 9 = .ok (.iload_n 2, 1) := by decide +kernel
theorem dX5_buys_10 : decode cX5_buys 10 = .ok (.iaload, 1) := by decide +kernel
theorem dX5_buys_11 : decode cX5_buys 11 = .ok (.istore_n 3, 1) := by decide +kernel
theorem dX5_buys_12 : decode cX5_buys 12 = .ok (.aload_n 0, 1) := by decide +kernel
theorem dX5_buys_13 : decode cX5_buys 13 = .ok (.getfield 31, 3) := by decide +kernel
theorem dX5_buys_16 : decode cX5_buys 16 = .ok (.iload_n 2, 1) := by decide +kernel
theorem dX5_buys_17 : decode cX5_buys 17 = .ok (.iconst 2, 1) := by decide +kernel
theorem dX5_buys_18 : decode cX5_buys 18 = .ok (.iadd, 1) := by decide +kernel
theorem dX5_buys_19 : decode cX5_buys 19 = .ok (.iaload, 1) := by decide +kernel
theorem dX5_buys_20 : decode cX5_buys 20 = .ok (.istore 4, 2) := by decide +kernel
theorem dX5_buys_22 : decode cX5_buys 22 = .ok (.aload_n 0, 1) := by decide +kernel
theorem dX5_buys_23 : decode cX5_buys 23 = .ok (.getfield 31, 3) := by decide +kernel
theorem dX5_buys_26 : decode cX5_buys 26 = .ok (.iload_n 2, 1) := by decide +kernel
theorem dX5_buys_27 : decode cX5_buys 27 = .ok (.iconst 5, 1) := by decide +kernel
theorem dX5_buys_28 : decode cX5_buys 28 = .ok (.iadd, 1) := by decide +kernel
theorem dX5_buys_29 : decode cX5_buys 29 = .ok (.iaload, 1) := by decide +kernel
theorem dX5_buys_30 : decode cX5_buys 30 = .ok (.istore 5, 2) := by decide +kernel
theorem dX5_buys_32 : decode cX5_buys 32 = .ok (.aload_n 0, 1) := by decide +kernel
theorem dX5_buys_33 : decode cX5_buys 33 = .ok (.iload_n 3, 1) := by decide +kernel
theorem dX5_buys_34 : decode cX5_buys 34 = .ok (.invokevirtual 168, 3) := by decide +kernel
theorem dX5_buys_37 : decode cX5_buys 37 = .ok (.istore 6, 2) := by decide +kernel
theorem dX5_buys_39 : decode cX5_buys 39 = .ok (.iload 6, 2) := by decide +kernel
theorem dX5_buys_41 : decode cX5_buys 41 = .ok (.invokestatic 178, 3) := by decide +kernel
theorem dX5_buys_44 : decode cX5_buys 44 = .ok (.istore 7, 2) := by decide +kernel
theorem dX5_buys_46 : decode cX5_buys 46 = .ok (.bipush 16, 2) := by decide +kernel
theorem dX5_buys_48 : decode cX5_buys 48 = .ok (.iload 7, 2) := by decide +kernel
theorem dX5_buys_50 : decode cX5_buys 50 = .ok (.iconst 1, 1) := by decide +kernel
theorem dX5_buys_51 : decode cX5_buys 51 = .ok (.if_icmp .le 17, 3) := by decide +kernel
theorem dX5_buys_54 : decode cX5_buys 54 = .ok (.aload_n 0, 1) := by decide +kernel
theorem dX5_buys_55 : decode cX5_buys 55 = .ok (.getfield 34, 3) := by decide +kernel
theorem dX5_buys_58 : decode cX5_buys 58 = .ok (.iconst 0, 1) := by decide +kernel
theorem dX5_buys_59 : decode cX5_buys 59 = .ok (.iaload, 1) := by decide +kernel
theorem dX5_buys_60 : decode cX5_buys 60 = .ok (.iload 7, 2) := by decide +kernel
theorem dX5_buys_62 : decode cX5_buys 62 = .ok (.iconst 1, 1) := by decide +kernel
theorem dX5_buys_63 : decode cX5_buys 63 = .ok (.isub, 1) := by decide +kernel
theorem dX5_buys_64 : decode cX5_buys 64 = .ok (.imul, 1) := by decide +kernel
theorem dX5_buys_65 : decode cX5_buys 65 = .ok (.goto 4, 3) := by decide +kernel
theorem dX5_buys_68 : decode cX5_buys 68 = .ok (.iconst 0, 1) := by decide +kernel
theorem dX5_buys_69 : decode cX5_buys 69 = .ok (.iadd, 1) := by decide +kernel
theorem dX5_buys_70 : decode cX5_buys 70 = .ok (.istore 8, 2) := by decide +kernel
theorem dX5_buys_72 : decode cX5_buys 72 = .ok (.aload_n 0, 1) := by decide +kernel
theorem dX5_buys_73 : decode cX5_buys 73 = .ok (.getfield 31, 3) := by decide +kernel
theorem dX5_buys_76 : decode cX5_buys 76 = .ok (.iload_n 2, 1) := by decide +kernel
theorem dX5_buys_77 : decode cX5_buys 77 = .ok (.iconst 1, 1) := by decide +kernel
theorem dX5_buys_78 : decode cX5_buys 78 = .ok (.iadd, 1) := by decide +kernel
theorem dX5_buys_79 : decode cX5_buys 79 = .ok (.iaload, 1) := by decide +kernel
theorem dX5_buys_80 : decode cX5_buys 80 = .ok (.i2l, 1) := by decide +kernel
theorem dX5_buys_81 : decode cX5_buys 81 = .ok (.iload 8, 2) := by decide +kernel
theorem dX5_buys_83 : decode cX5_buys 83 = .ok (.i2l, 1) := by decide +kernel
theorem dX5_buys_84 : decode cX5_buys 84 = .ok (.lmul, 1) := by decide +kernel
theorem dX5_buys_85 : decode cX5_buys 85 = .ok (.bipush 8, 2) := by decide +kernel
theorem dX5_buys_87 : decode cX5_buys 87 = .ok (.aload_n 0, 1) := by decide +kernel
theorem dX5_buys_88 : decode cX5_buys 88 = .ok (.getfield 46, 3) := by decide +kernel
theorem dX5_buys_91 : decode cX5_buys 91 = .ok (.iload_n 3, 1) := by decide +kernel
theorem dX5_buys_92 : decode cX5_buys 92 = .ok (.iaload, 1) := by decide +kernel
theorem dX5_buys_93 : decode cX5_buys 93 = .ok (.iadd, 1) := by decide +kernel
theorem dX5_buys_94 : decode cX5_buys 94 = .ok (.i2l, 1) := by decide +kernel
theorem dX5_buys_95 : decode cX5_buys 95 = .ok (.lmul, 1) := by decide +kernel
theorem dX5_buys_96 : decode cX5_buys 96 = .ok (.lstore 9, 2) := by decide +kernel
theorem dX5_buys_98 : decode cX5_buys 98 = .ok (.iload 4, 2) := by decide +kernel
theorem dX5_buys_100 : decode cX5_buys 100 = .ok (.iconst (-1), 1) := by decide +kernel
theorem dX5_buys_101 : decode cX5_buys 101 = .ok (.if_icmp .eq 35, 3) := by decide +kernel
theorem dX5_buys_104 : decode cX5_buys 104 = .ok (.iload 6, 2) := by decide +kernel
theorem dX5_buys_106 : decode cX5_buys 106 = .ok (.iload 4, 2) := by decide +kernel
theorem dX5_buys_108 : decode cX5_buys 108 = .ok (.ishr, 1) := by decide +kernel
theorem dX5_buys_109 : decode cX5_buys 109 = .ok (.iconst 1, 1) := by decide +kernel
theorem dX5_buys_110 : decode cX5_buys 110 = .ok (.iand, 1) := by decide +kernel
theorem dX5_buys_111 : decode cX5_buys 111 = .ok (.iconst 1, 1) := by decide +kernel
theorem dX5_buys_112 : decode cX5_buys 112 = .ok (.if_icmp .ne 24, 3) := by decide +kernel
theorem dX5_buys_115 : decode cX5_buys 115 = .ok (.aload_n 0, 1) := by decide +kernel
theorem dX5_buys_116 : decode cX5_buys 116 = .ok (.lload 9, 2) := by decide +kernel
theorem dX5_buys_118 : decode cX5_buys 118 = .ok (.ldc2_w 181, 3) := by decide +kernel
theorem dX5_buys_121 : decode cX5_buys 121 = .ok (.lmul, 1) := by decide +kernel
theorem dX5_buys_122 : decode cX5_buys 122 = .ok (.ldc2_w 183, 3) := by decide +kernel
theorem dX5_buys_125 : decode cX5_buys 125 = .ok (.lmul, 1) := by decide +kernel
theorem dX5_buys_126 : decode cX5_buys 126 = .ok (.iconst 1, 1) := by decide +kernel
theorem dX5_buys_127 : decode cX5_buys 127 = .ok (.iload 4, 2) := by decide +kernel
theorem dX5_buys_129 : decode cX5_buys 129 = .ok (.ishl, 1) := by decide +kernel
theorem dX5_buys_130 : decode cX5_buys 130 = .ok (.iload 5, 2) := by decide +kernel
theorem dX5_buys_132 : decode cX5_buys 132 = .ok (.invokevirtual 185, 3) := by decide +kernel
theorem dX5_buys_135 : decode cX5_buys 135 = .ok (.return_, 1) := by decide +kernel
theorem dX5_buys_136 : decode cX5_buys 136 = .ok (.iload 6, 2) := by decide +kernel
theorem dX5_buys_138 : decode cX5_buys 138 = .ok (.ifCond .eq 14, 3) := by decide +kernel
theorem dX5_buys_141 : decode cX5_buys 141 = .ok (.aload_n 0, 1) := by decide +kernel
theorem dX5_buys_142 : decode cX5_buys 142 = .ok (.getfield 31, 3) := by decide +kernel
theorem dX5_buys_145 : decode cX5_buys 145 = .ok (.iload_n 2, 1) := by decide +kernel
theorem dX5_buys_146 : decode cX5_buys 146 = .ok (.iconst 3, 1) := by decide +kernel
theorem dX5_buys_147 : decode cX5_buys 147 = .ok (.iadd, 1) := by decide +kernel
theorem dX5_buys_148 : decode cX5_buys 148 = .ok (.iaload, 1) := by decide +kernel
theorem dX5_buys_149 : decode cX5_buys 149 = .ok (.goto 4, 3) := by decide +kernel
theorem dX5_buys_152 : decode cX5_buys 152 = .ok (.iconst 0, 1) := by decide +kernel
theorem dX5_buys_153 : decode cX5_buys 153 = .ok (.istore 11, 2) := by decide +kernel
theorem dX5_buys_155 : decode cX5_buys 155 = .ok (.iload 11, 2) := by decide +kernel
theorem dX5_buys_157 : decode cX5_buys 157 = .ok (.ifCond .le 25, 3) := by decide +kernel
theorem dX5_buys_160 : decode cX5_buys 160 = .ok (.aload_n 0, 1) := by decide +kernel
theorem dX5_buys_161 : decode cX5_buys 161 = .ok (.lload 9, 2) := by decide +kernel
theorem dX5_buys_163 : decode cX5_buys 163 = .ok (.iload 11, 2) := by decide +kernel
theorem dX5_buys_165 : decode cX5_buys 165 = .ok (.i2l, 1) := by decide +kernel
theorem dX5_buys_166 : decode cX5_buys 166 = .ok (.lmul, 1) := by decide +kernel
theorem dX5_buys_167 : decode cX5_buys 167 = .ok (.ldc2_w 189, 3) := by decide +kernel
theorem dX5_buys_170 : decode cX5_buys 170 = .ok (.lmul, 1) := by decide +kernel
theorem dX5_buys_171 : decode cX5_buys 171 = .ok (.ldc2_w 183, 3) := by decide +kernel
theorem dX5_buys_174 : decode cX5_buys 174 = .ok (.lmul, 1) := by decide +kernel
theorem dX5_buys_175 : decode cX5_buys 175 = .ok (.iload 6, 2) := by decide +kernel
theorem dX5_buys_177 : decode cX5_buys 177 = .ok (.iload 5, 2) := by decide +kernel
theorem dX5_buys_179 : decode cX5_buys 179 = .ok (.invokevirtual 185, 3) := by decide +kernel
theorem dX5_buys_182 : decode cX5_buys 182 = .ok (.lload 9, 2) := by decide +kernel
theorem dX5_buys_184 : decode cX5_buys 184 = .ok (.bipush 16, 2) := by decide +kernel
theorem dX5_buys_186 : decode cX5_buys 186 = .ok (.iload 11, 2) := by decide +kernel
theorem dX5_buys_188 : decode cX5_buys 188 = .ok (.isub, 1) := by decide +kernel
theorem dX5_buys_189 : decode cX5_buys 189 = .ok (.i2l, 1) := by decide +kernel
theorem dX5_buys_190 : decode cX5_buys 190 = .ok (.lmul, 1) := by decide +kernel
theorem dX5_buys_191 : decode cX5_buys 191 = .ok (.aload_n 0, 1) := by decide +kernel
theorem dX5_buys_192 : decode cX5_buys 192 = .ok (.getfield 31, 3) := by decide +kernel
theorem dX5_buys_195 : decode cX5_buys 195 = .ok (.iload_n 2, 1) := by decide +kernel
theorem dX5_buys_196 : decode cX5_buys 196 = .ok (.iconst 4, 1) := by decide +kernel
theorem dX5_buys_197 : decode cX5_buys 197 = .ok (.iadd, 1) := by decide +kernel
theorem dX5_buys_198 : decode cX5_buys 198 = .ok (.iaload, 1) := by decide +kernel
theorem dX5_buys_199 : decode cX5_buys 199 = .ok (.i2l, 1) := by decide +kernel
theorem dX5_buys_200 : decode cX5_buys 200 = .ok (.lmul, 1) := by decide +kernel
theorem dX5_buys_201 : decode cX5_buys 201 = .ok (.ldc2_w 183, 3) := by decide +kernel
theorem dX5_buys_204 : decode cX5_buys 204 = .ok (.lmul, 1) := by decide +kernel
theorem dX5_buys_205 : decode cX5_buys 205 = .ok (.lstore 12, 2) := by decide +kernel
theorem dX5_buys_207 : decode cX5_buys 207 = .ok (.iload 4, 2) := by decide +kernel
theorem dX5_buys_209 : decode cX5_buys 209 = .ok (.iconst (-1), 1) := by decide +kernel
theorem dX5_buys_210 : decode cX5_buys 210 = .ok (.if_icmp .eq 10, 3) := by decide +kernel
theorem dX5_buys_213 : decode cX5_buys 213 = .ok (.iconst 1, 1) := by decide +kernel
theorem dX5_buys_214 : decode cX5_buys 214 = .ok (.iload 4, 2) := by decide +kernel
theorem dX5_buys_216 : decode cX5_buys 216 = .ok (.ishl, 1) := by decide +kernel
theorem dX5_buys_217 : decode cX5_buys 217 = .ok (.goto 11, 3) := by decide +kernel
theorem dX5_buys_220 : decode cX5_buys 220 = .ok (.iconst 1, 1) := by decide +kernel
theorem dX5_buys_221 : decode cX5_buys 221 = .ok (.aload_n 0, 1) := by decide +kernel
theorem dX5_buys_222 : decode cX5_buys 222 = .ok (.getfield 110, 3) := by decide +kernel
theorem dX5_buys_225 : decode cX5_buys 225 = .ok (.ishl, 1) := by decide +kernel
theorem dX5_buys_226 : decode cX5_buys 226 = .ok (.iconst 1, 1) := by decide +kernel
theorem dX5_buys_227 : decode cX5_buys 227 = .ok (.isub, 1) := by decide +kernel
theorem dX5_buys_228 : decode cX5_buys 228 = .ok (.istore 14, 2) := by decide +kernel
theorem dX5_buys_230 : decode cX5_buys 230 = .ok (.iload 14, 2) := by decide +kernel
theorem dX5_buys_232 : decode cX5_buys 232 = .ok (.ifCond .eq 13, 3) := by decide +kernel
theorem dX5_buys_235 : decode cX5_buys 235 = .ok (.aload_n 0, 1) := by decide +kernel
theorem dX5_buys_236 : decode cX5_buys 236 = .ok (.lload 12, 2) := by decide +kernel
theorem dX5_buys_238 : decode cX5_buys 238 = .ok (.iload 14, 2) := by decide +kernel
theorem dX5_buys_240 : decode cX5_buys 240 = .ok (.iload 5, 2) := by decide +kernel
theorem dX5_buys_242 : decode cX5_buys 242 = .ok (.invokevirtual 185, 3) := by decide +kernel
theorem dX5_buys_245 : decode cX5_buys 245 = .ok (.return_, 1) := by decide +kernel
theorem dX5_earnAll_0 : decode cX5_earnAll 0 = .ok (.aload_n 0, 1) := by decide +kernel
theorem dX5_earnAll_1 : decode cX5_earnAll 1 = .ok (.lconst 0, 1) := by decide +kernel
theorem dX5_earnAll_2 : decode cX5_earnAll 2 = .ok (.putfield 174, 3) := by decide +kernel
theorem dX5_earnAll_5 : decode cX5_earnAll 5 = .ok (.iconst 0, 1) := by decide +kernel
theorem dX5_earnAll_6 : decode cX5_earnAll 6 = .ok (.istore_n 1, 1) := by decide +kernel
theorem dX5_earnAll_7 : decode cX5_earnAll 7 = .ok (.iload_n 1, 1) := by decide +kernel
theorem dX5_earnAll_8 : decode cX5_earnAll 8 = .ok (.iconst 5, 1) := by decide +kernel
theorem dX5_earnAll_9 : decode cX5_earnAll 9 = .ok (.if_icmp .ge 16, 3) := by decide +kernel
theorem dX5_earnAll_12 : decode cX5_earnAll 12 = .ok (.aload_n 0, 1) := by decide +kernel
theorem dX5_earnAll_13 : decode cX5_earnAll 13 = .ok (.getfield 52, 3) := by decide +kernel
theorem dX5_earnAll_16 : decode cX5_earnAll 16 = .ok (.iload_n 1, 1) := by decide +kernel
theorem dX5_earnAll_17 : decode cX5_earnAll 17 = .ok (.lconst 0, 1) := by decide +kernel
theorem dX5_earnAll_18 : decode cX5_earnAll 18 = .ok (.lastore, 1) := by decide +kernel
theorem dX5_earnAll_19 : decode cX5_earnAll 19 = .ok (.iinc 1 1, 3) := by decide +kernel
theorem dX5_earnAll_22 : decode cX5_earnAll 22 = .ok (.goto (-15), 3) := by decide +kernel
theorem dX5_earnAll_25 : decode cX5_earnAll 25 = .ok (.iconst 0, 1) := by decide +kernel
theorem dX5_earnAll_26 : decode cX5_earnAll 26 = .ok (.istore_n 1, 1) := by decide +kernel
theorem dX5_earnAll_27 : decode cX5_earnAll 27 = .ok (.iload_n 1, 1) := by decide +kernel
theorem dX5_earnAll_28 : decode cX5_earnAll 28 = .ok (.aload_n 0, 1) := by decide +kernel
theorem dX5_earnAll_29 : decode cX5_earnAll 29 = .ok (.getfield 119, 3) := by decide +kernel
theorem dX5_earnAll_32 : decode cX5_earnAll 32 = .ok (.if_icmp .ge 14, 3) := by decide +kernel
theorem dX5_earnAll_35 : decode cX5_earnAll 35 = .ok (.aload_n 0, 1) := by decide +kernel
theorem dX5_earnAll_36 : decode cX5_earnAll 36 = .ok (.iload_n 1, 1) := by decide +kernel
theorem dX5_earnAll_37 : decode cX5_earnAll 37 = .ok (.invokevirtual 191, 3) := by decide +kernel
theorem dX5_earnAll_40 : decode cX5_earnAll 40 = .ok (.iinc 1 1, 3) := by decide +kernel
theorem dX5_earnAll_43 : decode cX5_earnAll 43 = .ok (.goto (-16), 3) := by decide +kernel
theorem dX5_earnAll_46 : decode cX5_earnAll 46 = .ok (.iconst 0, 1) := by decide +kernel
theorem dX5_earnAll_47 : decode cX5_earnAll 47 = .ok (.istore_n 1, 1) := by decide +kernel
theorem dX5_earnAll_48 : decode cX5_earnAll 48 = .ok (.iload_n 1, 1) := by decide +kernel
theorem dX5_earnAll_49 : decode cX5_earnAll 49 = .ok (.aload_n 0, 1) := by decide +kernel
theorem dX5_earnAll_50 : decode cX5_earnAll 50 = .ok (.getfield 110, 3) := by decide +kernel
theorem dX5_earnAll_53 : decode cX5_earnAll 53 = .ok (.if_icmp .ge 109, 3) := by decide +kernel
theorem dX5_earnAll_56 : decode cX5_earnAll 56 = .ok (.aload_n 0, 1) := by decide +kernel
theorem dX5_earnAll_57 : decode cX5_earnAll 57 = .ok (.getfield 52, 3) := by decide +kernel
theorem dX5_earnAll_60 : decode cX5_earnAll 60 = .ok (.iload_n 1, 1) := by decide +kernel
theorem dX5_earnAll_61 : decode cX5_earnAll 61 = .ok (.dup2, 1) := by decide +kernel
theorem dX5_earnAll_62 : decode cX5_earnAll 62 = .ok (.laload, 1) := by decide +kernel
theorem dX5_earnAll_63 : decode cX5_earnAll 63 = .ok (.ldc2_w 195, 3) := by decide +kernel
theorem dX5_earnAll_66 : decode cX5_earnAll 66 = .ok (.aload_n 0, 1) := by decide +kernel
theorem dX5_earnAll_67 : decode cX5_earnAll 67 = .ok (.getfield 49, 3) := by decide +kernel
theorem dX5_earnAll_70 : decode cX5_earnAll 70 = .ok (.iload_n 1, 1) := by decide +kernel
theorem dX5_earnAll_71 : decode cX5_earnAll 71 = .ok (.iaload, 1) := by decide +kernel
theorem dX5_earnAll_72 : decode cX5_earnAll 72 = .ok (.i2l, 1) := by decide +kernel
theorem dX5_earnAll_73 : decode cX5_earnAll 73 = .ok (.lmul, 1) := by decide +kernel
theorem dX5_earnAll_74 : decode cX5_earnAll 74 = .ok (.aload_n 0, 1) := by decide +kernel
theorem dX5_earnAll_75 : decode cX5_earnAll 75 = .ok (.getfield 43, 3) := by decide +kernel
theorem dX5_earnAll_78 : decode cX5_earnAll 78 = .ok (.iload_n 1, 1) := by decide +kernel
theorem dX5_earnAll_79 : decode cX5_earnAll 79 = .ok (.iaload, 1) := by decide +kernel
theorem dX5_earnAll_80 : decode cX5_earnAll 80 = .ok (.i2l, 1) := by decide +kernel
theorem dX5_earnAll_81 : decode cX5_earnAll 81 = .ok (.lmul, 1) := by decide +kernel
theorem dX5_earnAll_82 : decode cX5_earnAll 82 = .ok (.lsub, 1) := by decide +kernel
theorem dX5_earnAll_83 : decode cX5_earnAll 83 = .ok (.lastore, 1) := by decide +kernel
theorem dX5_earnAll_84 : decode cX5_earnAll 84 = .ok (.aload_n 0, 1) := by decide +kernel
theorem dX5_earnAll_85 : decode cX5_earnAll 85 = .ok (.getfield 155, 3) := by decide +kernel
theorem dX5_earnAll_88 : decode cX5_earnAll 88 = .ok (.ifCond .eq 30, 3) := by decide +kernel
theorem dX5_earnAll_91 : decode cX5_earnAll 91 = .ok (.aload_n 0, 1) := by decide +kernel
theorem dX5_earnAll_92 : decode cX5_earnAll 92 = .ok (.iload_n 1, 1) := by decide +kernel
theorem dX5_earnAll_93 : decode cX5_earnAll 93 = .ok (.invokevirtual 141, 3) := by decide +kernel
theorem dX5_earnAll_96 : decode cX5_earnAll 96 = .ok (.ifCond .eq 22, 3) := by decide +kernel
theorem dX5_earnAll_99 : decode cX5_earnAll 99 = .ok (.aload_n 0, 1) := by decide +kernel
theorem dX5_earnAll_100 : decode cX5_earnAll 100 = .ok (.getfield 43, 3) := by decide +kernel
theorem dX5_earnAll_103 : decode cX5_earnAll 103 = .ok (.iload_n 1, 1) := by decide +kernel
theorem dX5_earnAll_104 : decode cX5_earnAll 104 = .ok (.iaload, 1) := by decide +kernel
theorem dX5_earnAll_105 : decode cX5_earnAll 105 = .ok (.aload_n 0, 1) := by decide +kernel
theorem dX5_earnAll_106 : decode cX5_earnAll 106 = .ok (.getfield 34, 3) := by decide +kernel
theorem dX5_earnAll_109 : decode cX5_earnAll 109 = .ok (.iconst 1, 1) := by decide +kernel
theorem dX5_earnAll_110 : decode cX5_earnAll 110 = .ok (.iaload, 1) := by decide +kernel
theorem dX5_earnAll_111 : decode cX5_earnAll 111 = .ok (.if_icmp .le 7, 3) := by decide +kernel
theorem dX5_earnAll_114 : decode cX5_earnAll 114 = .ok (.iconst 1, 1) := by decide +kernel
theorem dX5_earnAll_115 : decode cX5_earnAll 115 = .ok (.goto 4, 3) := by decide +kernel
theorem dX5_earnAll_118 : decode cX5_earnAll 118 = .ok (.iconst 0, 1) := by decide +kernel
theorem dX5_earnAll_119 : decode cX5_earnAll 119 = .ok (.istore_n 2, 1) := by decide +kernel
theorem dX5_earnAll_120 : decode cX5_earnAll 120 = .ok (.aload_n 0, 1) := by decide +kernel
theorem dX5_earnAll_121 : decode cX5_earnAll 121 = .ok (.getfield 52, 3) := by decide +kernel
theorem dX5_earnAll_124 : decode cX5_earnAll 124 = .ok (.iload_n 1, 1) := by decide +kernel
theorem dX5_earnAll_125 : decode cX5_earnAll 125 = .ok (.dup2, 1) := by decide +kernel
theorem dX5_earnAll_126 : decode cX5_earnAll 126 = .ok (.laload, 1) := by decide +kernel
theorem dX5_earnAll_127 : decode cX5_earnAll 127 = .ok (.iload_n 2, 1) := by decide +kernel
theorem dX5_earnAll_128 : decode cX5_earnAll 128 = .ok (.ifCond .eq 25, 3) := by decide +kernel
theorem dX5_earnAll_131 : decode cX5_earnAll 131 = .ok (.ldc2_w 197, 3) := by decide +kernel
theorem dX5_earnAll_134 : decode cX5_earnAll 134 = .ok (.aload_n 0, 1) := by decide +kernel
theorem dX5_earnAll_135 : decode cX5_earnAll 135 = .ok (.getfield 34, 3) := by decide +kernel
theorem dX5_earnAll_138 : decode cX5_earnAll 138 = .ok (.iconst 3, 1) := by decide +kernel
theorem dX5_earnAll_139 : decode cX5_earnAll 139 = .ok (.iaload, 1) := by decide +kernel
theorem dX5_earnAll_140 : decode cX5_earnAll 140 = .ok (.i2l, 1) := by decide +kernel
theorem dX5_earnAll_141 : decode cX5_earnAll 141 = .ok (.lmul, 1) := by decide +kernel
theorem dX5_earnAll_142 : decode cX5_earnAll 142 = .ok (.aload_n 0, 1) := by decide +kernel
theorem dX5_earnAll_143 : decode cX5_earnAll 143 = .ok (.getfield 34, 3) := by decide +kernel
theorem dX5_earnAll_146 : decode cX5_earnAll 146 = .ok (.iconst 4, 1) := by decide +kernel
theorem dX5_earnAll_147 : decode cX5_earnAll 147 = .ok (.iaload, 1) := by decide +kernel
theorem dX5_earnAll_148 : decode cX5_earnAll 148 = .ok (.i2l, 1) := by decide +kernel
theorem dX5_earnAll_149 : decode cX5_earnAll 149 = .ok (.lmul, 1) := by decide +kernel
theorem dX5_earnAll_150 : decode cX5_earnAll 150 = .ok (.goto 4, 3) := by decide +kernel
theorem dX5_earnAll_153 : decode cX5_earnAll 153 = .ok (.lconst 0, 1) := by decide +kernel
theorem dX5_earnAll_154 : decode cX5_earnAll 154 = .ok (.lsub, 1) := by decide +kernel
theorem dX5_earnAll_155 : decode cX5_earnAll 155 = .ok (.lastore, 1) := by decide +kernel
theorem dX5_earnAll_156 : decode cX5_earnAll 156 = .ok (.iinc 1 1, 3) := by decide +kernel
theorem dX5_earnAll_159 : decode cX5_earnAll 159 = .ok (.goto (-111), 3) := by decide +kernel
theorem dX5_earnAll_162 : decode cX5_earnAll 162 = .ok (.return_, 1) := by decide +kernel
theorem dX5_earnsBy_0 : decode cX5_earnsBy 0 = .ok (.aload_n 0, 1) := by decide +kernel
theorem dX5_earnsBy_1 : decode cX5_earnsBy 1 = .ok (.getfield 43, 3) := by decide +kernel
theorem dX5_earnsBy_4 : decode cX5_earnsBy 4 = .ok (.iload_n 1, 1) := by decide +kernel
theorem dX5_earnsBy_5 : decode cX5_earnsBy 5 = .ok (.iaload, 1) := by decide +kernel
theorem dX5_earnsBy_6 : decode cX5_earnsBy 6 = .ok (.istore_n 3, 1) := by decide +kernel
theorem dX5_earnsBy_7 : decode cX5_earnsBy 7 = .ok (.aload_n 0, 1) := by decide +kernel
theorem dX5_earnsBy_8 : decode cX5_earnsBy 8 = .ok (.getfield 43, 3) := by decide +kernel
theorem dX5_earnsBy_11 : decode cX5_earnsBy 11 = .ok (.iload_n 1, 1) := by decide +kernel
theorem dX5_earnsBy_12 : decode cX5_earnsBy 12 = .ok (.iload_n 2, 1) := by decide +kernel
theorem dX5_earnsBy_13 : decode cX5_earnsBy 13 = .ok (.iastore, 1) := by decide +kernel
theorem dX5_earnsBy_14 : decode cX5_earnsBy 14 = .ok (.aload_n 0, 1) := by decide +kernel
theorem dX5_earnsBy_15 : decode cX5_earnsBy 15 = .ok (.invokevirtual 199, 3) := by decide +kernel
theorem dX5_earnsBy_18 : decode cX5_earnsBy 18 = .ok (.aload_n 0, 1) := by decide +kernel
theorem dX5_earnsBy_19 : decode cX5_earnsBy 19 = .ok (.getfield 43, 3) := by decide +kernel
theorem dX5_earnsBy_22 : decode cX5_earnsBy 22 = .ok (.iload_n 1, 1) := by decide +kernel
theorem dX5_earnsBy_23 : decode cX5_earnsBy 23 = .ok (.iload_n 3, 1) := by decide +kernel
theorem dX5_earnsBy_24 : decode cX5_earnsBy 24 = .ok (.iastore, 1) := by decide +kernel
theorem dX5_earnsBy_25 : decode cX5_earnsBy 25 = .ok (.aload_n 0, 1) := by decide +kernel
theorem dX5_earnsBy_26 : decode cX5_earnsBy 26 = .ok (.getfield 52, 3) := by decide +kernel
theorem dX5_earnsBy_29 : decode cX5_earnsBy 29 = .ok (.iload_n 1, 1) := by decide +kernel
theorem dX5_earnsBy_30 : decode cX5_earnsBy 30 = .ok (.laload, 1) := by decide +kernel
theorem dX5_earnsBy_31 : decode cX5_earnsBy 31 = .ok (.lreturn, 1) := by decide +kernel
theorem dX5_together_0 : decode cX5_together 0 = .ok (.aload_n 0, 1) := by decide +kernel
theorem dX5_together_1 : decode cX5_together 1 = .ok (.invokevirtual 199, 3) := by decide +kernel
theorem dX5_together_4 : decode cX5_together 4 = .ok (.lconst 0, 1) := by decide +kernel
theorem dX5_together_5 : decode cX5_together 5 = .ok (.lstore_n 1, 1) := by decide +kernel
theorem dX5_together_6 : decode cX5_together 6 = .ok (.iconst 0, 1) := by decide +kernel
theorem dX5_together_7 : decode cX5_together 7 = .ok (.istore_n 3, 1) := by decide +kernel
theorem dX5_together_8 : decode cX5_together 8 = .ok (.iload_n 3, 1) := by decide +kernel
theorem dX5_together_9 : decode cX5_together 9 = .ok (.aload_n 0, 1) := by decide +kernel
theorem dX5_together_10 : decode cX5_together 10 = .ok (.getfield 110, 3) := by decide +kernel
theorem dX5_together_13 : decode cX5_together 13 = .ok (.if_icmp .ge 18, 3) := by decide +kernel
theorem dX5_together_16 : decode cX5_together 16 = .ok (.lload_n 1, 1) := by decide +kernel
theorem dX5_together_17 : decode cX5_together 17 = .ok (.aload_n 0, 1) := by decide +kernel
theorem dX5_together_18 : decode cX5_together 18 = .ok (.getfield 52, 3) := by decide +kernel
theorem dX5_together_21 : decode cX5_together 21 = .ok (.iload_n 3, 1) := by decide +kernel
theorem dX5_together_22 : decode cX5_together 22 = .ok (.laload, 1) := by decide +kernel
theorem dX5_together_23 : decode cX5_together 23 = .ok (.ladd, 1) := by decide +kernel
theorem dX5_together_24 : decode cX5_together 24 = .ok (.lstore_n 1, 1) := by decide +kernel
theorem dX5_together_25 : decode cX5_together 25 = .ok (.iinc 3 1, 3) := by decide +kernel
theorem dX5_together_28 : decode cX5_together 28 = .ok (.goto (-20), 3) := by decide +kernel
theorem dX5_together_31 : decode cX5_together 31 = .ok (.lload_n 1, 1) := by decide +kernel
theorem dX5_together_32 : decode cX5_together 32 = .ok (.lreturn, 1) := by decide +kernel
theorem dX5_answerOf_0 : decode cX5_answerOf 0 = .ok (.aload_n 0, 1) := by decide +kernel
theorem dX5_answerOf_1 : decode cX5_answerOf 1 = .ok (.iload_n 1, 1) := by decide +kernel
theorem dX5_answerOf_2 : decode cX5_answerOf 2 = .ok (.invokevirtual 141, 3) := by decide +kernel
theorem dX5_answerOf_5 : decode cX5_answerOf 5 = .ok (.ifCond .eq 10, 3) := by decide +kernel
theorem dX5_answerOf_8 : decode cX5_answerOf 8 = .ok (.aload_n 0, 1) := by decide +kernel
theorem dX5_answerOf_9 : decode cX5_answerOf 9 = .ok (.getfield 159, 3) := by decide +kernel
theorem dX5_answerOf_12 : decode cX5_answerOf 12 = .ok (.goto 4, 3) := by decide +kernel
theorem dX5_answerOf_15 : decode cX5_answerOf 15 = .ok (.iconst 3, 1) := by decide +kernel
theorem dX5_answerOf_16 : decode cX5_answerOf 16 = .ok (.istore_n 2, 1) := by decide +kernel
theorem dX5_answerOf_17 : decode cX5_answerOf 17 = .ok (.iconst 0, 1) := by decide +kernel
theorem dX5_answerOf_18 : decode cX5_answerOf 18 = .ok (.istore_n 3, 1) := by decide +kernel
theorem dX5_answerOf_19 : decode cX5_answerOf 19 = .ok (.aload_n 0, 1) := by decide +kernel
theorem dX5_answerOf_20 : decode cX5_answerOf 20 = .ok (.iload_n 1, 1) := by decide +kernel
theorem dX5_answerOf_21 : decode cX5_answerOf 21 = .ok (.iconst 0, 1) := by decide +kernel
theorem dX5_answerOf_22 : decode cX5_answerOf 22 = .ok (.invokevirtual 202, 3) := by decide +kernel
theorem dX5_answerOf_25 : decode cX5_answerOf 25 = .ok (.lstore 4, 2) := by decide +kernel
theorem dX5_answerOf_27 : decode cX5_answerOf 27 = .ok (.iconst 1, 1) := by decide +kernel
theorem dX5_answerOf_28 : decode cX5_answerOf 28 = .ok (.istore 6, 2) := by decide +kernel
theorem dX5_answerOf_30 : decode cX5_answerOf 30 = .ok (.iload 6, 2) := by decide +kernel
theorem dX5_answerOf_32 : decode cX5_answerOf 32 = .ok (.iload_n 2, 1) := by decide +kernel
theorem dX5_answerOf_33 : decode cX5_answerOf 33 = .ok (.if_icmp .gt 50, 3) := by decide +kernel
theorem dX5_answerOf_36 : decode cX5_answerOf 36 = .ok (.aload_n 0, 1) := by decide +kernel
theorem dX5_answerOf_37 : decode cX5_answerOf 37 = .ok (.iload_n 1, 1) := by decide +kernel
theorem dX5_answerOf_38 : decode cX5_answerOf 38 = .ok (.iload 6, 2) := by decide +kernel
theorem dX5_answerOf_40 : decode cX5_answerOf 40 = .ok (.invokevirtual 202, 3) := by decide +kernel
theorem dX5_answerOf_43 : decode cX5_answerOf 43 = .ok (.lstore 7, 2) := by decide +kernel
theorem dX5_answerOf_45 : decode cX5_answerOf 45 = .ok (.lload 7, 2) := by decide +kernel
theorem dX5_answerOf_47 : decode cX5_answerOf 47 = .ok (.lload 4, 2) := by decide +kernel
theorem dX5_answerOf_49 : decode cX5_answerOf 49 = .ok (.lcmp, 1) := by decide +kernel
theorem dX5_answerOf_50 : decode cX5_answerOf 50 = .ok (.ifCond .le 8, 3) := by decide +kernel
theorem dX5_answerOf_53 : decode cX5_answerOf 53 = .ok (.iload 6, 2) := by decide +kernel
theorem dX5_answerOf_55 : decode cX5_answerOf 55 = .ok (.goto 4, 3) := by decide +kernel
theorem dX5_answerOf_58 : decode cX5_answerOf 58 = .ok (.iload_n 3, 1) := by decide +kernel
theorem dX5_answerOf_59 : decode cX5_answerOf 59 = .ok (.istore_n 3, 1) := by decide +kernel
theorem dX5_answerOf_60 : decode cX5_answerOf 60 = .ok (.lload 7, 2) := by decide +kernel
theorem dX5_answerOf_62 : decode cX5_answerOf 62 = .ok (.lload 4, 2) := by decide +kernel
theorem dX5_answerOf_64 : decode cX5_answerOf 64 = .ok (.lcmp, 1) := by decide +kernel
theorem dX5_answerOf_65 : decode cX5_answerOf 65 = .ok (.ifCond .le 8, 3) := by decide +kernel
theorem dX5_answerOf_68 : decode cX5_answerOf 68 = .ok (.lload 7, 2) := by decide +kernel
theorem dX5_answerOf_70 : decode cX5_answerOf 70 = .ok (.goto 5, 3) := by decide +kernel
theorem dX5_answerOf_73 : decode cX5_answerOf 73 = .ok (.lload 4, 2) := by decide +kernel
theorem dX5_answerOf_75 : decode cX5_answerOf 75 = .ok (.lstore 4, 2) := by decide +kernel
theorem dX5_answerOf_77 : decode cX5_answerOf 77 = .ok (.iinc 6 1, 3) := by decide +kernel
theorem dX5_answerOf_80 : decode cX5_answerOf 80 = .ok (.goto (-50), 3) := by decide +kernel
theorem dX5_answerOf_83 : decode cX5_answerOf 83 = .ok (.iload_n 3, 1) := by decide +kernel
theorem dX5_answerOf_84 : decode cX5_answerOf 84 = .ok (.ireturn, 1) := by decide +kernel
theorem dX5_earns_0 : decode cX5_earns 0 = .ok (.aload_n 0, 1) := by decide +kernel
theorem dX5_earns_1 : decode cX5_earns 1 = .ok (.iload_n 1, 1) := by decide +kernel
theorem dX5_earns_2 : decode cX5_earns 2 = .ok (.invokevirtual 138, 3) := by decide +kernel
theorem dX5_earns_5 : decode cX5_earns 5 = .ok (.ifCond .eq 19, 3) := by decide +kernel
theorem dX5_earns_8 : decode cX5_earns 8 = .ok (.iload_n 2, 1) := by decide +kernel
theorem dX5_earns_9 : decode cX5_earns 9 = .ok (.invokestatic 206, 3) := by decide +kernel
theorem dX5_earns_12 : decode cX5_earns 12 = .ok (.ifCond .eq 12, 3) := by decide +kernel
theorem dX5_earns_15 : decode cX5_earns 15 = .ok (.aload_n 0, 1) := by decide +kernel
theorem dX5_earns_16 : decode cX5_earns 16 = .ok (.iload_n 1, 1) := by decide +kernel
theorem dX5_earns_17 : decode cX5_earns 17 = .ok (.iload_n 2, 1) := by decide +kernel
theorem dX5_earns_18 : decode cX5_earns 18 = .ok (.invokevirtual 209, 3) := by decide +kernel
theorem dX5_earns_21 : decode cX5_earns 21 = .ok (.goto 8, 3) := by decide +kernel
theorem dX5_earns_24 : decode cX5_earns 24 = .ok (.bipush (-2), 2) := by decide +kernel
theorem dX5_earns_26 : decode cX5_earns 26 = .ok (.invokestatic 212, 3) := by decide +kernel
theorem dX5_earns_29 : decode cX5_earns 29 = .ok (.lreturn, 1) := by decide +kernel
theorem dX5_earnsOf_0 : decode cX5_earnsOf 0 = .ok (.aload_n 0, 1) := by decide +kernel
theorem dX5_earnsOf_1 : decode cX5_earnsOf 1 = .ok (.invokevirtual 165, 3) := by decide +kernel
theorem dX5_earnsOf_4 : decode cX5_earnsOf 4 = .ok (.aload_n 0, 1) := by decide +kernel
theorem dX5_earnsOf_5 : decode cX5_earnsOf 5 = .ok (.invokevirtual 199, 3) := by decide +kernel
theorem dX5_earnsOf_8 : decode cX5_earnsOf 8 = .ok (.aload_n 0, 1) := by decide +kernel
theorem dX5_earnsOf_9 : decode cX5_earnsOf 9 = .ok (.getfield 52, 3) := by decide +kernel
theorem dX5_earnsOf_12 : decode cX5_earnsOf 12 = .ok (.iload_n 1, 1) := by decide +kernel
theorem dX5_earnsOf_13 : decode cX5_earnsOf 13 = .ok (.laload, 1) := by decide +kernel
theorem dX5_earnsOf_14 : decode cX5_earnsOf 14 = .ok (.ldc2_w 195, 3) := by decide +kernel
theorem dX5_earnsOf_17 : decode cX5_earnsOf 17 = .ok (.iload_n 2, 1) := by decide +kernel
theorem dX5_earnsOf_18 : decode cX5_earnsOf 18 = .ok (.invokestatic 216, 3) := by decide +kernel
theorem dX5_earnsOf_21 : decode cX5_earnsOf 21 = .ok (.lreturn, 1) := by decide +kernel
theorem dX5_allOf_0 : decode cX5_allOf 0 = .ok (.aload_n 0, 1) := by decide +kernel
theorem dX5_allOf_1 : decode cX5_allOf 1 = .ok (.invokevirtual 165, 3) := by decide +kernel
theorem dX5_allOf_4 : decode cX5_allOf 4 = .ok (.aload_n 0, 1) := by decide +kernel
theorem dX5_allOf_5 : decode cX5_allOf 5 = .ok (.invokevirtual 220, 3) := by decide +kernel
theorem dX5_allOf_8 : decode cX5_allOf 8 = .ok (.lstore_n 3, 1) := by decide +kernel
theorem dX5_allOf_9 : decode cX5_allOf 9 = .ok (.iload_n 1, 1) := by decide +kernel
theorem dX5_allOf_10 : decode cX5_allOf 10 = .ok (.ifCond .ne 7, 3) := by decide +kernel
theorem dX5_allOf_13 : decode cX5_allOf 13 = .ok (.lload_n 3, 1) := by decide +kernel
theorem dX5_allOf_14 : decode cX5_allOf 14 = .ok (.goto 7, 3) := by decide +kernel
theorem dX5_allOf_17 : decode cX5_allOf 17 = .ok (.aload_n 0, 1) := by decide +kernel
theorem dX5_allOf_18 : decode cX5_allOf 18 = .ok (.getfield 174, 3) := by decide +kernel
theorem dX5_allOf_21 : decode cX5_allOf 21 = .ok (.ldc2_w 195, 3) := by decide +kernel
theorem dX5_allOf_24 : decode cX5_allOf 24 = .ok (.iload_n 2, 1) := by decide +kernel
theorem dX5_allOf_25 : decode cX5_allOf 25 = .ok (.invokestatic 216, 3) := by decide +kernel
theorem dX5_allOf_28 : decode cX5_allOf 28 = .ok (.lreturn, 1) := by decide +kernel
end
section
theorem dX5_all_0 : decode cX5_all 0 = .ok (.iload_n 1, 1) := by decide +kernel
theorem dX5_all_1 : decode cX5_all 1 = .ok (.invokestatic 206, 3) := by decide +kernel
theorem dX5_all_4 : decode cX5_all 4 = .ok (.ifCond .eq 19, 3) := by decide +kernel
theorem dX5_all_7 : decode cX5_all 7 = .ok (.iload_n 2, 1) := by decide +kernel
theorem dX5_all_8 : decode cX5_all 8 = .ok (.invokestatic 206, 3) := by decide +kernel
theorem dX5_all_11 : decode cX5_all 11 = .ok (.ifCond .eq 12, 3) := by decide +kernel
theorem dX5_all_14 : decode cX5_all 14 = .ok (.aload_n 0, 1) := by decide +kernel
theorem dX5_all_15 : decode cX5_all 15 = .ok (.iload_n 1, 1) := by decide +kernel
theorem dX5_all_16 : decode cX5_all 16 = .ok (.iload_n 2, 1) := by decide +kernel
theorem dX5_all_17 : decode cX5_all 17 = .ok (.invokevirtual 224, 3) := by decide +kernel
theorem dX5_all_20 : decode cX5_all 20 = .ok (.goto 8, 3) := by decide +kernel
theorem dX5_all_23 : decode cX5_all 23 = .ok (.bipush (-2), 2) := by decide +kernel
theorem dX5_all_25 : decode cX5_all 25 = .ok (.invokestatic 212, 3) := by decide +kernel
theorem dX5_all_28 : decode cX5_all 28 = .ok (.lreturn, 1) := by decide +kernel
theorem dX5_answerNow_0 : decode cX5_answerNow 0 = .ok (.aload_n 0, 1) := by decide +kernel
theorem dX5_answerNow_1 : decode cX5_answerNow 1 = .ok (.invokevirtual 165, 3) := by decide +kernel
theorem dX5_answerNow_4 : decode cX5_answerNow 4 = .ok (.aload_n 0, 1) := by decide +kernel
theorem dX5_answerNow_5 : decode cX5_answerNow 5 = .ok (.iload_n 1, 1) := by decide +kernel
theorem dX5_answerNow_6 : decode cX5_answerNow 6 = .ok (.invokevirtual 227, 3) := by decide +kernel
theorem dX5_answerNow_9 : decode cX5_answerNow 9 = .ok (.ireturn, 1) := by decide +kernel
theorem dX5_answer_0 : decode cX5_answer 0 = .ok (.aload_n 0, 1) := by decide +kernel
theorem dX5_answer_1 : decode cX5_answer 1 = .ok (.iload_n 1, 1) := by decide +kernel
theorem dX5_answer_2 : decode cX5_answer 2 = .ok (.invokevirtual 138, 3) := by decide +kernel
theorem dX5_answer_5 : decode cX5_answer 5 = .ok (.ifCond .eq 11, 3) := by decide +kernel
theorem dX5_answer_8 : decode cX5_answer 8 = .ok (.aload_n 0, 1) := by decide +kernel
theorem dX5_answer_9 : decode cX5_answer 9 = .ok (.iload_n 1, 1) := by decide +kernel
theorem dX5_answer_10 : decode cX5_answer 10 = .ok (.invokevirtual 230, 3) := by decide +kernel
theorem dX5_answer_13 : decode cX5_answer 13 = .ok (.goto 5, 3) := by decide +kernel
theorem dX5_answer_16 : decode cX5_answer 16 = .ok (.bipush (-2), 2) := by decide +kernel
theorem dX5_answer_18 : decode cX5_answer 18 = .ok (.ireturn, 1) := by decide +kernel
theorem dX5_roundGoes_0 : decode cX5_roundGoes 0 = .ok (.iconst 0, 1) := by decide +kernel
theorem dX5_roundGoes_1 : decode cX5_roundGoes 1 = .ok (.istore_n 1, 1) := by decide +kernel
theorem dX5_roundGoes_2 : decode cX5_roundGoes 2 = .ok (.iconst 0, 1) := by decide +kernel
theorem dX5_roundGoes_3 : decode cX5_roundGoes 3 = .ok (.istore_n 2, 1) := by decide +kernel
theorem dX5_roundGoes_4 : decode cX5_roundGoes 4 = .ok (.iload_n 2, 1) := by decide +kernel
theorem dX5_roundGoes_5 : decode cX5_roundGoes 5 = .ok (.aload_n 0, 1) := by decide +kernel
theorem dX5_roundGoes_6 : decode cX5_roundGoes 6 = .ok (.getfield 110, 3) := by decide +kernel
theorem dX5_roundGoes_9 : decode cX5_roundGoes 9 = .ok (.if_icmp .ge 87, 3) := by decide +kernel
theorem dX5_roundGoes_12 : decode cX5_roundGoes 12 = .ok (.iload_n 2, 1) := by decide +kernel
theorem dX5_roundGoes_13 : decode cX5_roundGoes 13 = .ok (.aload_n 0, 1) := by decide +kernel
theorem dX5_roundGoes_14 : decode cX5_roundGoes 14 = .ok (.getfield 162, 3) := by decide +kernel
theorem dX5_roundGoes_17 : decode cX5_roundGoes 17 = .ok (.if_icmp .eq 73, 3) := by decide +kernel
theorem dX5_roundGoes_20 : decode cX5_roundGoes 20 = .ok (.aload_n 0, 1) := by decide +kernel
theorem dX5_roundGoes_21 : decode cX5_roundGoes 21 = .ok (.iload_n 2, 1) := by decide +kernel
theorem dX5_roundGoes_22 : decode cX5_roundGoes 22 = .ok (.invokevirtual 227, 3) := by decide +kernel
theorem dX5_roundGoes_25 : decode cX5_roundGoes 25 = .ok (.istore_n 3, 1) := by decide +kernel
theorem dX5_roundGoes_26 : decode cX5_roundGoes 26 = .ok (.aload_n 0, 1) := by decide +kernel
theorem dX5_roundGoes_27 : decode cX5_roundGoes 27 = .ok (.iload_n 2, 1) := by decide +kernel
theorem dX5_roundGoes_28 : decode cX5_roundGoes 28 = .ok (.iload_n 3, 1) := by decide +kernel
theorem dX5_roundGoes_29 : decode cX5_roundGoes 29 = .ok (.invokevirtual 202, 3) := by decide +kernel
theorem dX5_roundGoes_32 : decode cX5_roundGoes 32 = .ok (.aload_n 0, 1) := by decide +kernel
theorem dX5_roundGoes_33 : decode cX5_roundGoes 33 = .ok (.iload_n 2, 1) := by decide +kernel
theorem dX5_roundGoes_34 : decode cX5_roundGoes 34 = .ok (.aload_n 0, 1) := by decide +kernel
theorem dX5_roundGoes_35 : decode cX5_roundGoes 35 = .ok (.getfield 43, 3) := by decide +kernel
theorem dX5_roundGoes_38 : decode cX5_roundGoes 38 = .ok (.iload_n 2, 1) := by decide +kernel
theorem dX5_roundGoes_39 : decode cX5_roundGoes 39 = .ok (.iaload, 1) := by decide +kernel
theorem dX5_roundGoes_40 : decode cX5_roundGoes 40 = .ok (.invokevirtual 202, 3) := by decide +kernel
theorem dX5_roundGoes_43 : decode cX5_roundGoes 43 = .ok (.lcmp, 1) := by decide +kernel
theorem dX5_roundGoes_44 : decode cX5_roundGoes 44 = .ok (.ifCond .le 7, 3) := by decide +kernel
theorem dX5_roundGoes_47 : decode cX5_roundGoes 47 = .ok (.iconst 1, 1) := by decide +kernel
theorem dX5_roundGoes_48 : decode cX5_roundGoes 48 = .ok (.goto 4, 3) := by decide +kernel
theorem dX5_roundGoes_51 : decode cX5_roundGoes 51 = .ok (.iconst 0, 1) := by decide +kernel
theorem dX5_roundGoes_52 : decode cX5_roundGoes 52 = .ok (.istore 4, 2) := by decide +kernel
theorem dX5_roundGoes_54 : decode cX5_roundGoes 54 = .ok (.aload_n 0, 1) := by decide +kernel
theorem dX5_roundGoes_55 : decode cX5_roundGoes 55 = .ok (.getfield 43, 3) := by decide +kernel
theorem dX5_roundGoes_58 : decode cX5_roundGoes 58 = .ok (.iload_n 2, 1) := by decide +kernel
theorem dX5_roundGoes_59 : decode cX5_roundGoes 59 = .ok (.iload 4, 2) := by decide +kernel
theorem dX5_roundGoes_61 : decode cX5_roundGoes 61 = .ok (.ifCond .eq 7, 3) := by decide +kernel
theorem dX5_roundGoes_64 : decode cX5_roundGoes 64 = .ok (.iload_n 3, 1) := by decide +kernel
theorem dX5_roundGoes_65 : decode cX5_roundGoes 65 = .ok (.goto 9, 3) := by decide +kernel
theorem dX5_roundGoes_68 : decode cX5_roundGoes 68 = .ok (.aload_n 0, 1) := by decide +kernel
theorem dX5_roundGoes_69 : decode cX5_roundGoes 69 = .ok (.getfield 43, 3) := by decide +kernel
theorem dX5_roundGoes_72 : decode cX5_roundGoes 72 = .ok (.iload_n 2, 1) := by decide +kernel
theorem dX5_roundGoes_73 : decode cX5_roundGoes 73 = .ok (.iaload, 1) := by decide +kernel
theorem dX5_roundGoes_74 : decode cX5_roundGoes 74 = .ok (.iastore, 1) := by decide +kernel
theorem dX5_roundGoes_75 : decode cX5_roundGoes 75 = .ok (.iload_n 1, 1) := by decide +kernel
theorem dX5_roundGoes_76 : decode cX5_roundGoes 76 = .ok (.ifCond .ne 8, 3) := by decide +kernel
theorem dX5_roundGoes_79 : decode cX5_roundGoes 79 = .ok (.iload 4, 2) := by decide +kernel
theorem dX5_roundGoes_81 : decode cX5_roundGoes 81 = .ok (.ifCond .eq 7, 3) := by decide +kernel
theorem dX5_roundGoes_84 : decode cX5_roundGoes 84 = .ok (.iconst 1, 1) := by decide +kernel
theorem dX5_roundGoes_85 : decode cX5_roundGoes 85 = .ok (.goto 4, 3) := by decide +kernel
theorem dX5_roundGoes_88 : decode cX5_roundGoes 88 = .ok (.iconst 0, 1) := by decide +kernel
theorem dX5_roundGoes_89 : decode cX5_roundGoes 89 = .ok (.istore_n 1, 1) := by decide +kernel
theorem dX5_roundGoes_90 : decode cX5_roundGoes 90 = .ok (.iinc 2 1, 3) := by decide +kernel
theorem dX5_roundGoes_93 : decode cX5_roundGoes 93 = .ok (.goto (-89), 3) := by decide +kernel
theorem dX5_roundGoes_96 : decode cX5_roundGoes 96 = .ok (.iload_n 1, 1) := by decide +kernel
theorem dX5_roundGoes_97 : decode cX5_roundGoes 97 = .ok (.ireturn, 1) := by decide +kernel
theorem dX5_runsDown_0 : decode cX5_runsDown 0 = .ok (.aload_n 0, 1) := by decide +kernel
theorem dX5_runsDown_1 : decode cX5_runsDown 1 = .ok (.iconst 0, 1) := by decide +kernel
theorem dX5_runsDown_2 : decode cX5_runsDown 2 = .ok (.putfield 233, 3) := by decide +kernel
theorem dX5_runsDown_5 : decode cX5_runsDown 5 = .ok (.aload_n 0, 1) := by decide +kernel
theorem dX5_runsDown_6 : decode cX5_runsDown 6 = .ok (.invokevirtual 236, 3) := by decide +kernel
theorem dX5_runsDown_9 : decode cX5_runsDown 9 = .ok (.ifCond .eq 24, 3) := by decide +kernel
theorem dX5_runsDown_12 : decode cX5_runsDown 12 = .ok (.aload_n 0, 1) := by decide +kernel
theorem dX5_runsDown_13 : decode cX5_runsDown 13 = .ok (.dup, 1) := by decide +kernel
theorem dX5_runsDown_14 : decode cX5_runsDown 14 = .ok (.getfield 233, 3) := by decide +kernel
theorem dX5_runsDown_17 : decode cX5_runsDown 17 = .ok (.iconst 1, 1) := by decide +kernel
theorem dX5_runsDown_18 : decode cX5_runsDown 18 = .ok (.iadd, 1) := by decide +kernel
theorem dX5_runsDown_19 : decode cX5_runsDown 19 = .ok (.putfield 233, 3) := by decide +kernel
theorem dX5_runsDown_22 : decode cX5_runsDown 22 = .ok (.aload_n 0, 1) := by decide +kernel
theorem dX5_runsDown_23 : decode cX5_runsDown 23 = .ok (.getfield 233, 3) := by decide +kernel
theorem dX5_runsDown_26 : decode cX5_runsDown 26 = .ok (.bipush 40, 2) := by decide +kernel
theorem dX5_runsDown_28 : decode cX5_runsDown 28 = .ok (.if_icmp .ne (-23), 3) := by decide +kernel
theorem dX5_runsDown_31 : decode cX5_runsDown 31 = .ok (.iconst 0, 1) := by decide +kernel
theorem dX5_runsDown_32 : decode cX5_runsDown 32 = .ok (.ireturn, 1) := by decide +kernel
theorem dX5_runsDown_33 : decode cX5_runsDown 33 = .ok (.iconst 1, 1) := by decide +kernel
theorem dX5_runsDown_34 : decode cX5_runsDown 34 = .ok (.ireturn, 1) := by decide +kernel
theorem dX5_restOf_0 : decode cX5_restOf 0 = .ok (.aload_n 0, 1) := by decide +kernel
theorem dX5_restOf_1 : decode cX5_restOf 1 = .ok (.invokevirtual 165, 3) := by decide +kernel
theorem dX5_restOf_4 : decode cX5_restOf 4 = .ok (.aload_n 0, 1) := by decide +kernel
theorem dX5_restOf_5 : decode cX5_restOf 5 = .ok (.invokevirtual 239, 3) := by decide +kernel
theorem dX5_restOf_8 : decode cX5_restOf 8 = .ok (.ifCond .ne 8, 3) := by decide +kernel
theorem dX5_restOf_11 : decode cX5_restOf 11 = .ok (.bipush (-3), 2) := by decide +kernel
theorem dX5_restOf_13 : decode cX5_restOf 13 = .ok (.goto 21, 3) := by decide +kernel
theorem dX5_restOf_16 : decode cX5_restOf 16 = .ok (.iload_n 1, 1) := by decide +kernel
theorem dX5_restOf_17 : decode cX5_restOf 17 = .ok (.iconst (-1), 1) := by decide +kernel
theorem dX5_restOf_18 : decode cX5_restOf 18 = .ok (.if_icmp .ne 10, 3) := by decide +kernel
theorem dX5_restOf_21 : decode cX5_restOf 21 = .ok (.aload_n 0, 1) := by decide +kernel
theorem dX5_restOf_22 : decode cX5_restOf 22 = .ok (.getfield 233, 3) := by decide +kernel
theorem dX5_restOf_25 : decode cX5_restOf 25 = .ok (.goto 9, 3) := by decide +kernel
theorem dX5_restOf_28 : decode cX5_restOf 28 = .ok (.aload_n 0, 1) := by decide +kernel
theorem dX5_restOf_29 : decode cX5_restOf 29 = .ok (.getfield 43, 3) := by decide +kernel
theorem dX5_restOf_32 : decode cX5_restOf 32 = .ok (.iload_n 1, 1) := by decide +kernel
theorem dX5_restOf_33 : decode cX5_restOf 33 = .ok (.iaload, 1) := by decide +kernel
theorem dX5_restOf_34 : decode cX5_restOf 34 = .ok (.ireturn, 1) := by decide +kernel
theorem dX5_rest_0 : decode cX5_rest 0 = .ok (.iload_n 1, 1) := by decide +kernel
theorem dX5_rest_1 : decode cX5_rest 1 = .ok (.iconst (-1), 1) := by decide +kernel
theorem dX5_rest_2 : decode cX5_rest 2 = .ok (.if_icmp .eq 11, 3) := by decide +kernel
theorem dX5_rest_5 : decode cX5_rest 5 = .ok (.aload_n 0, 1) := by decide +kernel
theorem dX5_rest_6 : decode cX5_rest 6 = .ok (.iload_n 1, 1) := by decide +kernel
theorem dX5_rest_7 : decode cX5_rest 7 = .ok (.invokevirtual 138, 3) := by decide +kernel
theorem dX5_rest_10 : decode cX5_rest 10 = .ok (.ifCond .eq 11, 3) := by decide +kernel
theorem dX5_rest_13 : decode cX5_rest 13 = .ok (.aload_n 0, 1) := by decide +kernel
theorem dX5_rest_14 : decode cX5_rest 14 = .ok (.iload_n 1, 1) := by decide +kernel
theorem dX5_rest_15 : decode cX5_rest 15 = .ok (.invokevirtual 242, 3) := by decide +kernel
theorem dX5_rest_18 : decode cX5_rest 18 = .ok (.goto 5, 3) := by decide +kernel
theorem dX5_rest_21 : decode cX5_rest 21 = .ok (.bipush (-2), 2) := by decide +kernel
theorem dX5_rest_23 : decode cX5_rest 23 = .ok (.ireturn, 1) := by decide +kernel
theorem dX5_isStill_0 : decode cX5_isStill 0 = .ok (.iconst 0, 1) := by decide +kernel
theorem dX5_isStill_1 : decode cX5_isStill 1 = .ok (.istore_n 1, 1) := by decide +kernel
theorem dX5_isStill_2 : decode cX5_isStill 2 = .ok (.iload_n 1, 1) := by decide +kernel
theorem dX5_isStill_3 : decode cX5_isStill 3 = .ok (.aload_n 0, 1) := by decide +kernel
theorem dX5_isStill_4 : decode cX5_isStill 4 = .ok (.getfield 110, 3) := by decide +kernel
theorem dX5_isStill_7 : decode cX5_isStill 7 = .ok (.if_icmp .ge 50, 3) := by decide +kernel
theorem dX5_isStill_10 : decode cX5_isStill 10 = .ok (.aload_n 0, 1) := by decide +kernel
theorem dX5_isStill_11 : decode cX5_isStill 11 = .ok (.iload_n 1, 1) := by decide +kernel
theorem dX5_isStill_12 : decode cX5_isStill 12 = .ok (.aload_n 0, 1) := by decide +kernel
theorem dX5_isStill_13 : decode cX5_isStill 13 = .ok (.getfield 43, 3) := by decide +kernel
theorem dX5_isStill_16 : decode cX5_isStill 16 = .ok (.iload_n 1, 1) := by decide +kernel
theorem dX5_isStill_17 : decode cX5_isStill 17 = .ok (.iaload, 1) := by decide +kernel
theorem dX5_isStill_18 : decode cX5_isStill 18 = .ok (.invokevirtual 202, 3) := by decide +kernel
theorem dX5_isStill_21 : decode cX5_isStill 21 = .ok (.lstore_n 2, 1) := by decide +kernel
theorem dX5_isStill_22 : decode cX5_isStill 22 = .ok (.iconst 0, 1) := by decide +kernel
theorem dX5_isStill_23 : decode cX5_isStill 23 = .ok (.istore 4, 2) := by decide +kernel
theorem dX5_isStill_25 : decode cX5_isStill 25 = .ok (.iload 4, 2) := by decide +kernel
theorem dX5_isStill_27 : decode cX5_isStill 27 = .ok (.iconst 4, 1) := by decide +kernel
theorem dX5_isStill_28 : decode cX5_isStill 28 = .ok (.if_icmp .ge 23, 3) := by decide +kernel
theorem dX5_isStill_31 : decode cX5_isStill 31 = .ok (.aload_n 0, 1) := by decide +kernel
theorem dX5_isStill_32 : decode cX5_isStill 32 = .ok (.iload_n 1, 1) := by decide +kernel
theorem dX5_isStill_33 : decode cX5_isStill 33 = .ok (.iload 4, 2) := by decide +kernel
theorem dX5_isStill_35 : decode cX5_isStill 35 = .ok (.invokevirtual 202, 3) := by decide +kernel
theorem dX5_isStill_38 : decode cX5_isStill 38 = .ok (.lload_n 2, 1) := by decide +kernel
theorem dX5_isStill_39 : decode cX5_isStill 39 = .ok (.lcmp, 1) := by decide +kernel
theorem dX5_isStill_40 : decode cX5_isStill 40 = .ok (.ifCond .le 5, 3) := by decide +kernel
theorem dX5_isStill_43 : decode cX5_isStill 43 = .ok (.iconst 0, 1) := by decide +kernel
theorem dX5_isStill_44 : decode cX5_isStill 44 = .ok (.ireturn, 1) := by decide +kernel
theorem dX5_isStill_45 : decode cX5_isStill 45 = .ok (.iinc 4 1, 3) := by decide +kernel
theorem dX5_isStill_48 : decode cX5_isStill 48 = .ok (.goto (-23), 3) := by decide +kernel
theorem dX5_isStill_51 : decode cX5_isStill 51 = .ok (.iinc 1 1, 3) := by decide +kernel
theorem dX5_isStill_54 : decode cX5_isStill 54 = .ok (.goto (-52), 3) := by decide +kernel
theorem dX5_isStill_57 : decode cX5_isStill 57 = .ok (.iconst 1, 1) := by decide +kernel
theorem dX5_isStill_58 : decode cX5_isStill 58 = .ok (.ireturn, 1) := by decide +kernel
theorem dX5_lays_0 : decode cX5_lays 0 = .ok (.iload_n 1, 1) := by decide +kernel
theorem dX5_lays_1 : decode cX5_lays 1 = .ok (.istore_n 2, 1) := by decide +kernel
theorem dX5_lays_2 : decode cX5_lays 2 = .ok (.aload_n 0, 1) := by decide +kernel
theorem dX5_lays_3 : decode cX5_lays 3 = .ok (.getfield 110, 3) := by decide +kernel
theorem dX5_lays_6 : decode cX5_lays 6 = .ok (.iconst 1, 1) := by decide +kernel
theorem dX5_lays_7 : decode cX5_lays 7 = .ok (.isub, 1) := by decide +kernel
theorem dX5_lays_8 : decode cX5_lays 8 = .ok (.istore_n 3, 1) := by decide +kernel
theorem dX5_lays_9 : decode cX5_lays 9 = .ok (.iload_n 3, 1) := by decide +kernel
theorem dX5_lays_10 : decode cX5_lays 10 = .ok (.ifCond .lt 22, 3) := by decide +kernel
theorem dX5_lays_13 : decode cX5_lays 13 = .ok (.aload_n 0, 1) := by decide +kernel
theorem dX5_lays_14 : decode cX5_lays 14 = .ok (.getfield 43, 3) := by decide +kernel
theorem dX5_lays_17 : decode cX5_lays 17 = .ok (.iload_n 3, 1) := by decide +kernel
theorem dX5_lays_18 : decode cX5_lays 18 = .ok (.iload_n 2, 1) := by decide +kernel
theorem dX5_lays_19 : decode cX5_lays 19 = .ok (.iconst 4, 1) := by decide +kernel
theorem dX5_lays_20 : decode cX5_lays 20 = .ok (.irem, 1) := by decide +kernel
theorem dX5_lays_21 : decode cX5_lays 21 = .ok (.iastore, 1) := by decide +kernel
theorem dX5_lays_22 : decode cX5_lays 22 = .ok (.iload_n 2, 1) := by decide +kernel
theorem dX5_lays_23 : decode cX5_lays 23 = .ok (.iconst 4, 1) := by decide +kernel
theorem dX5_lays_24 : decode cX5_lays 24 = .ok (.idiv, 1) := by decide +kernel
theorem dX5_lays_25 : decode cX5_lays 25 = .ok (.istore_n 2, 1) := by decide +kernel
theorem dX5_lays_26 : decode cX5_lays 26 = .ok (.iinc 3 (-1), 3) := by decide +kernel
theorem dX5_lays_29 : decode cX5_lays 29 = .ok (.goto (-20), 3) := by decide +kernel
theorem dX5_lays_32 : decode cX5_lays 32 = .ok (.return_, 1) := by decide +kernel
theorem dX5_stillOf_0 : decode cX5_stillOf 0 = .ok (.aload_n 0, 1) := by decide +kernel
theorem dX5_stillOf_1 : decode cX5_stillOf 1 = .ok (.invokevirtual 165, 3) := by decide +kernel
theorem dX5_stillOf_4 : decode cX5_stillOf 4 = .ok (.iconst 0, 1) := by decide +kernel
theorem dX5_stillOf_5 : decode cX5_stillOf 5 = .ok (.istore_n 3, 1) := by decide +kernel
theorem dX5_stillOf_6 : decode cX5_stillOf 6 = .ok (.iconst 0, 1) := by decide +kernel
theorem dX5_stillOf_7 : decode cX5_stillOf 7 = .ok (.istore 4, 2) := by decide +kernel
theorem dX5_stillOf_9 : decode cX5_stillOf 9 = .ok (.iload 4, 2) := by decide +kernel
theorem dX5_stillOf_11 : decode cX5_stillOf 11 = .ok (.iconst 1, 1) := by decide +kernel
theorem dX5_stillOf_12 : decode cX5_stillOf 12 = .ok (.iconst 2, 1) := by decide +kernel
theorem dX5_stillOf_13 : decode cX5_stillOf 13 = .ok (.aload_n 0, 1) := by decide +kernel
theorem dX5_stillOf_14 : decode cX5_stillOf 14 = .ok (.getfield 110, 3) := by decide +kernel
theorem dX5_stillOf_17 : decode cX5_stillOf 17 = .ok (.imul, 1) := by decide +kernel
theorem dX5_stillOf_18 : decode cX5_stillOf 18 = .ok (.ishl, 1) := by decide +kernel
theorem dX5_stillOf_19 : decode cX5_stillOf 19 = .ok (.if_icmp .ge 37, 3) := by decide +kernel
theorem dX5_stillOf_22 : decode cX5_stillOf 22 = .ok (.aload_n 0, 1) := by decide +kernel
theorem dX5_stillOf_23 : decode cX5_stillOf 23 = .ok (.iload 4, 2) := by decide +kernel
theorem dX5_stillOf_25 : decode cX5_stillOf 25 = .ok (.invokevirtual 245, 3) := by decide +kernel
theorem dX5_stillOf_28 : decode cX5_stillOf 28 = .ok (.aload_n 0, 1) := by decide +kernel
theorem dX5_stillOf_29 : decode cX5_stillOf 29 = .ok (.invokevirtual 248, 3) := by decide +kernel
theorem dX5_stillOf_32 : decode cX5_stillOf 32 = .ok (.ifCond .eq 18, 3) := by decide +kernel
theorem dX5_stillOf_35 : decode cX5_stillOf 35 = .ok (.iload_n 3, 1) := by decide +kernel
theorem dX5_stillOf_36 : decode cX5_stillOf 36 = .ok (.iload_n 1, 1) := by decide +kernel
theorem dX5_stillOf_37 : decode cX5_stillOf 37 = .ok (.if_icmp .ne 10, 3) := by decide +kernel
theorem dX5_stillOf_40 : decode cX5_stillOf 40 = .ok (.aload_n 0, 1) := by decide +kernel
theorem dX5_stillOf_41 : decode cX5_stillOf 41 = .ok (.getfield 43, 3) := by decide +kernel
theorem dX5_stillOf_44 : decode cX5_stillOf 44 = .ok (.iload_n 2, 1) := by decide +kernel
theorem dX5_stillOf_45 : decode cX5_stillOf 45 = .ok (.iaload, 1) := by decide +kernel
theorem dX5_stillOf_46 : decode cX5_stillOf 46 = .ok (.ireturn, 1) := by decide +kernel
theorem dX5_stillOf_47 : decode cX5_stillOf 47 = .ok (.iinc 3 1, 3) := by decide +kernel
theorem dX5_stillOf_50 : decode cX5_stillOf 50 = .ok (.iinc 4 1, 3) := by decide +kernel
theorem dX5_stillOf_53 : decode cX5_stillOf 53 = .ok (.goto (-44), 3) := by decide +kernel
theorem dX5_stillOf_56 : decode cX5_stillOf 56 = .ok (.iload_n 1, 1) := by decide +kernel
theorem dX5_stillOf_57 : decode cX5_stillOf 57 = .ok (.iconst (-1), 1) := by decide +kernel
theorem dX5_stillOf_58 : decode cX5_stillOf 58 = .ok (.if_icmp .ne 7, 3) := by decide +kernel
theorem dX5_stillOf_61 : decode cX5_stillOf 61 = .ok (.iload_n 3, 1) := by decide +kernel
theorem dX5_stillOf_62 : decode cX5_stillOf 62 = .ok (.goto 4, 3) := by decide +kernel
theorem dX5_stillOf_65 : decode cX5_stillOf 65 = .ok (.iconst (-1), 1) := by decide +kernel
theorem dX5_stillOf_66 : decode cX5_stillOf 66 = .ok (.ireturn, 1) := by decide +kernel
theorem dX5_still_0 : decode cX5_still 0 = .ok (.iload_n 1, 1) := by decide +kernel
theorem dX5_still_1 : decode cX5_still 1 = .ok (.iconst (-1), 1) := by decide +kernel
theorem dX5_still_2 : decode cX5_still 2 = .ok (.if_icmp .ne 16, 3) := by decide +kernel
theorem dX5_still_5 : decode cX5_still 5 = .ok (.iload_n 2, 1) := by decide +kernel
theorem dX5_still_6 : decode cX5_still 6 = .ok (.iconst (-1), 1) := by decide +kernel
theorem dX5_still_7 : decode cX5_still 7 = .ok (.if_icmp .ne 7, 3) := by decide +kernel
theorem dX5_still_10 : decode cX5_still 10 = .ok (.iconst 1, 1) := by decide +kernel
theorem dX5_still_11 : decode cX5_still 11 = .ok (.goto 24, 3) := by decide +kernel
theorem dX5_still_14 : decode cX5_still 14 = .ok (.iconst 0, 1) := by decide +kernel
theorem dX5_still_15 : decode cX5_still 15 = .ok (.goto 20, 3) := by decide +kernel
theorem dX5_still_18 : decode cX5_still 18 = .ok (.iload_n 1, 1) := by decide +kernel
theorem dX5_still_19 : decode cX5_still 19 = .ok (.ifCond .lt 15, 3) := by decide +kernel
theorem dX5_still_22 : decode cX5_still 22 = .ok (.aload_n 0, 1) := by decide +kernel
theorem dX5_still_23 : decode cX5_still 23 = .ok (.iload_n 2, 1) := by decide +kernel
theorem dX5_still_24 : decode cX5_still 24 = .ok (.invokevirtual 138, 3) := by decide +kernel
theorem dX5_still_27 : decode cX5_still 27 = .ok (.ifCond .eq 7, 3) := by decide +kernel
theorem dX5_still_30 : decode cX5_still 30 = .ok (.iconst 1, 1) := by decide +kernel
theorem dX5_still_31 : decode cX5_still 31 = .ok (.goto 4, 3) := by decide +kernel
theorem dX5_still_34 : decode cX5_still 34 = .ok (.iconst 0, 1) := by decide +kernel
theorem dX5_still_35 : decode cX5_still 35 = .ok (.istore_n 3, 1) := by decide +kernel
theorem dX5_still_36 : decode cX5_still 36 = .ok (.iload_n 3, 1) := by decide +kernel
theorem dX5_still_37 : decode cX5_still 37 = .ok (.ifCond .eq 12, 3) := by decide +kernel
theorem dX5_still_40 : decode cX5_still 40 = .ok (.aload_n 0, 1) := by decide +kernel
theorem dX5_still_41 : decode cX5_still 41 = .ok (.iload_n 1, 1) := by decide +kernel
theorem dX5_still_42 : decode cX5_still 42 = .ok (.iload_n 2, 1) := by decide +kernel
theorem dX5_still_43 : decode cX5_still 43 = .ok (.invokevirtual 251, 3) := by decide +kernel
theorem dX5_still_46 : decode cX5_still 46 = .ok (.goto 5, 3) := by decide +kernel
theorem dX5_still_49 : decode cX5_still 49 = .ok (.bipush (-2), 2) := by decide +kernel
theorem dX5_still_51 : decode cX5_still 51 = .ok (.ireturn, 1) := by decide +kernel
theorem dX5_findBest_0 : decode cX5_findBest 0 = .ok (.aload_n 0, 1) := by decide +kernel
theorem dX5_findBest_1 : decode cX5_findBest 1 = .ok (.invokevirtual 165, 3) := by decide +kernel
theorem dX5_findBest_4 : decode cX5_findBest 4 = .ok (.iconst 0, 1) := by decide +kernel
theorem dX5_findBest_5 : decode cX5_findBest 5 = .ok (.istore_n 2, 1) := by decide +kernel
theorem dX5_findBest_6 : decode cX5_findBest 6 = .ok (.aload_n 0, 1) := by decide +kernel
theorem dX5_findBest_7 : decode cX5_findBest 7 = .ok (.ldc2_w 59, 3) := by decide +kernel
theorem dX5_findBest_10 : decode cX5_findBest 10 = .ok (.putfield 254, 3) := by decide +kernel
theorem dX5_findBest_13 : decode cX5_findBest 13 = .ok (.iconst 0, 1) := by decide +kernel
theorem dX5_findBest_14 : decode cX5_findBest 14 = .ok (.istore_n 3, 1) := by decide +kernel
theorem dX5_findBest_15 : decode cX5_findBest 15 = .ok (.iload_n 3, 1) := by decide +kernel
theorem dX5_findBest_16 : decode cX5_findBest 16 = .ok (.iconst 1, 1) := by decide +kernel
theorem dX5_findBest_17 : decode cX5_findBest 17 = .ok (.iconst 2, 1) := by decide +kernel
theorem dX5_findBest_18 : decode cX5_findBest 18 = .ok (.aload_n 0, 1) := by decide +kernel
theorem dX5_findBest_19 : decode cX5_findBest 19 = .ok (.getfield 110, 3) := by decide +kernel
theorem dX5_findBest_22 : decode cX5_findBest 22 = .ok (.imul, 1) := by decide +kernel
theorem dX5_findBest_23 : decode cX5_findBest 23 = .ok (.ishl, 1) := by decide +kernel
theorem dX5_findBest_24 : decode cX5_findBest 24 = .ok (.if_icmp .ge 74, 3) := by decide +kernel
theorem dX5_findBest_27 : decode cX5_findBest 27 = .ok (.aload_n 0, 1) := by decide +kernel
theorem dX5_findBest_28 : decode cX5_findBest 28 = .ok (.iload_n 3, 1) := by decide +kernel
theorem dX5_findBest_29 : decode cX5_findBest 29 = .ok (.invokevirtual 245, 3) := by decide +kernel
theorem dX5_findBest_32 : decode cX5_findBest 32 = .ok (.aload_n 0, 1) := by decide +kernel
theorem dX5_findBest_33 : decode cX5_findBest 33 = .ok (.invokevirtual 220, 3) := by decide +kernel
theorem dX5_findBest_36 : decode cX5_findBest 36 = .ok (.lstore 4, 2) := by decide +kernel
theorem dX5_findBest_38 : decode cX5_findBest 38 = .ok (.iload_n 1, 1) := by decide +kernel
theorem dX5_findBest_39 : decode cX5_findBest 39 = .ok (.ifCond .ne 8, 3) := by decide +kernel
theorem dX5_findBest_42 : decode cX5_findBest 42 = .ok (.lload 4, 2) := by decide +kernel
theorem dX5_findBest_44 : decode cX5_findBest 44 = .ok (.goto 7, 3) := by decide +kernel
theorem dX5_findBest_47 : decode cX5_findBest 47 = .ok (.aload_n 0, 1) := by decide +kernel
theorem dX5_findBest_48 : decode cX5_findBest 48 = .ok (.getfield 174, 3) := by decide +kernel
theorem dX5_findBest_51 : decode cX5_findBest 51 = .ok (.lstore 6, 2) := by decide +kernel
theorem dX5_findBest_53 : decode cX5_findBest 53 = .ok (.lload 6, 2) := by decide +kernel
theorem dX5_findBest_55 : decode cX5_findBest 55 = .ok (.aload_n 0, 1) := by decide +kernel
theorem dX5_findBest_56 : decode cX5_findBest 56 = .ok (.getfield 254, 3) := by decide +kernel
theorem dX5_findBest_59 : decode cX5_findBest 59 = .ok (.lcmp, 1) := by decide +kernel
theorem dX5_findBest_60 : decode cX5_findBest 60 = .ok (.ifCond .le 7, 3) := by decide +kernel
theorem dX5_findBest_63 : decode cX5_findBest 63 = .ok (.iload_n 3, 1) := by decide +kernel
theorem dX5_findBest_64 : decode cX5_findBest 64 = .ok (.goto 4, 3) := by decide +kernel
theorem dX5_findBest_67 : decode cX5_findBest 67 = .ok (.iload_n 2, 1) := by decide +kernel
theorem dX5_findBest_68 : decode cX5_findBest 68 = .ok (.istore_n 2, 1) := by decide +kernel
theorem dX5_findBest_69 : decode cX5_findBest 69 = .ok (.aload_n 0, 1) := by decide +kernel
theorem dX5_findBest_70 : decode cX5_findBest 70 = .ok (.lload 6, 2) := by decide +kernel
theorem dX5_findBest_72 : decode cX5_findBest 72 = .ok (.aload_n 0, 1) := by decide +kernel
theorem dX5_findBest_73 : decode cX5_findBest 73 = .ok (.getfield 254, 3) := by decide +kernel
theorem dX5_findBest_76 : decode cX5_findBest 76 = .ok (.lcmp, 1) := by decide +kernel
theorem dX5_findBest_77 : decode cX5_findBest 77 = .ok (.ifCond .le 8, 3) := by decide +kernel
theorem dX5_findBest_80 : decode cX5_findBest 80 = .ok (.lload 6, 2) := by decide +kernel
theorem dX5_findBest_82 : decode cX5_findBest 82 = .ok (.goto 7, 3) := by decide +kernel
theorem dX5_findBest_85 : decode cX5_findBest 85 = .ok (.aload_n 0, 1) := by decide +kernel
theorem dX5_findBest_86 : decode cX5_findBest 86 = .ok (.getfield 254, 3) := by decide +kernel
theorem dX5_findBest_89 : decode cX5_findBest 89 = .ok (.putfield 254, 3) := by decide +kernel
theorem dX5_findBest_92 : decode cX5_findBest 92 = .ok (.iinc 3 1, 3) := by decide +kernel
theorem dX5_findBest_95 : decode cX5_findBest 95 = .ok (.goto (-80), 3) := by decide +kernel
theorem dX5_findBest_98 : decode cX5_findBest 98 = .ok (.iload_n 2, 1) := by decide +kernel
theorem dX5_findBest_99 : decode cX5_findBest 99 = .ok (.ireturn, 1) := by decide +kernel
theorem dX5_bestOf_0 : decode cX5_bestOf 0 = .ok (.aload_n 0, 1) := by decide +kernel
theorem dX5_bestOf_1 : decode cX5_bestOf 1 = .ok (.aload_n 0, 1) := by decide +kernel
theorem dX5_bestOf_2 : decode cX5_bestOf 2 = .ok (.iload_n 1, 1) := by decide +kernel
theorem dX5_bestOf_3 : decode cX5_bestOf 3 = .ok (.invokevirtual 257, 3) := by decide +kernel
theorem dX5_bestOf_6 : decode cX5_bestOf 6 = .ok (.invokevirtual 245, 3) := by decide +kernel
theorem dX5_bestOf_9 : decode cX5_bestOf 9 = .ok (.aload_n 0, 1) := by decide +kernel
theorem dX5_bestOf_10 : decode cX5_bestOf 10 = .ok (.getfield 43, 3) := by decide +kernel
theorem dX5_bestOf_13 : decode cX5_bestOf 13 = .ok (.iload_n 2, 1) := by decide +kernel
theorem dX5_bestOf_14 : decode cX5_bestOf 14 = .ok (.iaload, 1) := by decide +kernel
theorem dX5_bestOf_15 : decode cX5_bestOf 15 = .ok (.ireturn, 1) := by decide +kernel
theorem dX5_best_0 : decode cX5_best 0 = .ok (.iload_n 1, 1) := by decide +kernel
theorem dX5_best_1 : decode cX5_best 1 = .ok (.invokestatic 206, 3) := by decide +kernel
theorem dX5_best_4 : decode cX5_best 4 = .ok (.ifCond .eq 20, 3) := by decide +kernel
theorem dX5_best_7 : decode cX5_best 7 = .ok (.aload_n 0, 1) := by decide +kernel
theorem dX5_best_8 : decode cX5_best 8 = .ok (.iload_n 2, 1) := by decide +kernel
theorem dX5_best_9 : decode cX5_best 9 = .ok (.invokevirtual 138, 3) := by decide +kernel
theorem dX5_best_12 : decode cX5_best 12 = .ok (.ifCond .eq 12, 3) := by decide +kernel
theorem dX5_best_15 : decode cX5_best 15 = .ok (.aload_n 0, 1) := by decide +kernel
theorem dX5_best_16 : decode cX5_best 16 = .ok (.iload_n 1, 1) := by decide +kernel
theorem dX5_best_17 : decode cX5_best 17 = .ok (.iload_n 2, 1) := by decide +kernel
theorem dX5_best_18 : decode cX5_best 18 = .ok (.invokevirtual 260, 3) := by decide +kernel
theorem dX5_best_21 : decode cX5_best 21 = .ok (.goto 5, 3) := by decide +kernel
theorem dX5_best_24 : decode cX5_best 24 = .ok (.bipush (-2), 2) := by decide +kernel
theorem dX5_best_26 : decode cX5_best 26 = .ok (.ireturn, 1) := by decide +kernel
theorem dX5_loss_0 : decode cX5_loss 0 = .ok (.iload_n 1, 1) := by decide +kernel
theorem dX5_loss_1 : decode cX5_loss 1 = .ok (.invokestatic 206, 3) := by decide +kernel
theorem dX5_loss_4 : decode cX5_loss 4 = .ok (.ifCond .ne 9, 3) := by decide +kernel
theorem dX5_loss_7 : decode cX5_loss 7 = .ok (.bipush (-2), 2) := by decide +kernel
theorem dX5_loss_9 : decode cX5_loss 9 = .ok (.invokestatic 212, 3) := by decide +kernel
theorem dX5_loss_12 : decode cX5_loss 12 = .ok (.lreturn, 1) := by decide +kernel
theorem dX5_loss_13 : decode cX5_loss 13 = .ok (.aload_n 0, 1) := by decide +kernel
theorem dX5_loss_14 : decode cX5_loss 14 = .ok (.iconst 0, 1) := by decide +kernel
theorem dX5_loss_15 : decode cX5_loss 15 = .ok (.invokevirtual 257, 3) := by decide +kernel
theorem dX5_loss_18 : decode cX5_loss 18 = .ok (.pop, 1) := by decide +kernel
theorem dX5_loss_19 : decode cX5_loss 19 = .ok (.aload_n 0, 1) := by decide +kernel
theorem dX5_loss_20 : decode cX5_loss 20 = .ok (.getfield 254, 3) := by decide +kernel
theorem dX5_loss_23 : decode cX5_loss 23 = .ok (.lstore_n 2, 1) := by decide +kernel
theorem dX5_loss_24 : decode cX5_loss 24 = .ok (.aload_n 0, 1) := by decide +kernel
theorem dX5_loss_25 : decode cX5_loss 25 = .ok (.invokevirtual 165, 3) := by decide +kernel
theorem dX5_loss_28 : decode cX5_loss 28 = .ok (.lload_n 2, 1) := by decide +kernel
theorem dX5_loss_29 : decode cX5_loss 29 = .ok (.aload_n 0, 1) := by decide +kernel
theorem dX5_loss_30 : decode cX5_loss 30 = .ok (.invokevirtual 220, 3) := by decide +kernel
theorem dX5_loss_33 : decode cX5_loss 33 = .ok (.lsub, 1) := by decide +kernel
theorem dX5_loss_34 : decode cX5_loss 34 = .ok (.ldc2_w 195, 3) := by decide +kernel
theorem dX5_loss_37 : decode cX5_loss 37 = .ok (.iload_n 1, 1) := by decide +kernel
theorem dX5_loss_38 : decode cX5_loss 38 = .ok (.invokestatic 216, 3) := by decide +kernel
theorem dX5_loss_41 : decode cX5_loss 41 = .ok (.lreturn, 1) := by decide +kernel
theorem dX5_leastNow_0 : decode cX5_leastNow 0 = .ok (.aload_n 0, 1) := by decide +kernel
theorem dX5_leastNow_1 : decode cX5_leastNow 1 = .ok (.invokevirtual 165, 3) := by decide +kernel
theorem dX5_leastNow_4 : decode cX5_leastNow 4 = .ok (.aload_n 0, 1) := by decide +kernel
theorem dX5_leastNow_5 : decode cX5_leastNow 5 = .ok (.getfield 34, 3) := by decide +kernel
theorem dX5_leastNow_8 : decode cX5_leastNow 8 = .ok (.iconst 1, 1) := by decide +kernel
theorem dX5_leastNow_9 : decode cX5_leastNow 9 = .ok (.iaload, 1) := by decide +kernel
theorem dX5_leastNow_10 : decode cX5_leastNow 10 = .ok (.istore_n 1, 1) := by decide +kernel
theorem dX5_leastNow_11 : decode cX5_leastNow 11 = .ok (.iconst 0, 1) := by decide +kernel
theorem dX5_leastNow_12 : decode cX5_leastNow 12 = .ok (.istore_n 2, 1) := by decide +kernel
theorem dX5_leastNow_13 : decode cX5_leastNow 13 = .ok (.iload_n 2, 1) := by decide +kernel
theorem dX5_leastNow_14 : decode cX5_leastNow 14 = .ok (.aload_n 0, 1) := by decide +kernel
theorem dX5_leastNow_15 : decode cX5_leastNow 15 = .ok (.getfield 110, 3) := by decide +kernel
theorem dX5_leastNow_18 : decode cX5_leastNow 18 = .ok (.if_icmp .ge 43, 3) := by decide +kernel
theorem dX5_leastNow_21 : decode cX5_leastNow 21 = .ok (.aload_n 0, 1) := by decide +kernel
theorem dX5_leastNow_22 : decode cX5_leastNow 22 = .ok (.getfield 43, 3) := by decide +kernel
theorem dX5_leastNow_25 : decode cX5_leastNow 25 = .ok (.iload_n 2, 1) := by decide +kernel
theorem dX5_leastNow_26 : decode cX5_leastNow 26 = .ok (.aload_n 0, 1) := by decide +kernel
theorem dX5_leastNow_27 : decode cX5_leastNow 27 = .ok (.iload_n 2, 1) := by decide +kernel
theorem dX5_leastNow_28 : decode cX5_leastNow 28 = .ok (.invokevirtual 141, 3) := by decide +kernel
theorem dX5_leastNow_31 : decode cX5_leastNow 31 = .ok (.ifCond .eq 17, 3) := by decide +kernel
theorem dX5_leastNow_34 : decode cX5_leastNow 34 = .ok (.aload_n 0, 1) := by decide +kernel
theorem dX5_leastNow_35 : decode cX5_leastNow 35 = .ok (.getfield 43, 3) := by decide +kernel
theorem dX5_leastNow_38 : decode cX5_leastNow 38 = .ok (.iload_n 2, 1) := by decide +kernel
theorem dX5_leastNow_39 : decode cX5_leastNow 39 = .ok (.iaload, 1) := by decide +kernel
theorem dX5_leastNow_40 : decode cX5_leastNow 40 = .ok (.iload_n 1, 1) := by decide +kernel
theorem dX5_leastNow_41 : decode cX5_leastNow 41 = .ok (.if_icmp .le 7, 3) := by decide +kernel
theorem dX5_leastNow_44 : decode cX5_leastNow 44 = .ok (.iload_n 1, 1) := by decide +kernel
theorem dX5_leastNow_45 : decode cX5_leastNow 45 = .ok (.goto 9, 3) := by decide +kernel
theorem dX5_leastNow_48 : decode cX5_leastNow 48 = .ok (.aload_n 0, 1) := by decide +kernel
theorem dX5_leastNow_49 : decode cX5_leastNow 49 = .ok (.getfield 43, 3) := by decide +kernel
theorem dX5_leastNow_52 : decode cX5_leastNow 52 = .ok (.iload_n 2, 1) := by decide +kernel
theorem dX5_leastNow_53 : decode cX5_leastNow 53 = .ok (.iaload, 1) := by decide +kernel
theorem dX5_leastNow_54 : decode cX5_leastNow 54 = .ok (.iastore, 1) := by decide +kernel
theorem dX5_leastNow_55 : decode cX5_leastNow 55 = .ok (.iinc 2 1, 3) := by decide +kernel
theorem dX5_leastNow_58 : decode cX5_leastNow 58 = .ok (.goto (-45), 3) := by decide +kernel
theorem dX5_leastNow_61 : decode cX5_leastNow 61 = .ok (.aload_n 0, 1) := by decide +kernel
theorem dX5_leastNow_62 : decode cX5_leastNow 62 = .ok (.iconst 0, 1) := by decide +kernel
theorem dX5_leastNow_63 : decode cX5_leastNow 63 = .ok (.putfield 155, 3) := by decide +kernel
theorem dX5_leastNow_66 : decode cX5_leastNow 66 = .ok (.lconst 0, 1) := by decide +kernel
theorem dX5_leastNow_67 : decode cX5_leastNow 67 = .ok (.lstore_n 2, 1) := by decide +kernel
theorem dX5_leastNow_68 : decode cX5_leastNow 68 = .ok (.iconst 0, 1) := by decide +kernel
theorem dX5_leastNow_69 : decode cX5_leastNow 69 = .ok (.istore 4, 2) := by decide +kernel
theorem dX5_leastNow_71 : decode cX5_leastNow 71 = .ok (.iload 4, 2) := by decide +kernel
theorem dX5_leastNow_73 : decode cX5_leastNow 73 = .ok (.aload_n 0, 1) := by decide +kernel
theorem dX5_leastNow_74 : decode cX5_leastNow 74 = .ok (.getfield 110, 3) := by decide +kernel
theorem dX5_leastNow_77 : decode cX5_leastNow 77 = .ok (.if_icmp .ge 73, 3) := by decide +kernel
theorem dX5_leastNow_80 : decode cX5_leastNow 80 = .ok (.iload_n 1, 1) := by decide +kernel
theorem dX5_leastNow_81 : decode cX5_leastNow 81 = .ok (.iconst 1, 1) := by decide +kernel
theorem dX5_leastNow_82 : decode cX5_leastNow 82 = .ok (.iadd, 1) := by decide +kernel
theorem dX5_leastNow_83 : decode cX5_leastNow 83 = .ok (.istore 5, 2) := by decide +kernel
theorem dX5_leastNow_85 : decode cX5_leastNow 85 = .ok (.iload 5, 2) := by decide +kernel
theorem dX5_leastNow_87 : decode cX5_leastNow 87 = .ok (.iconst 4, 1) := by decide +kernel
theorem dX5_leastNow_88 : decode cX5_leastNow 88 = .ok (.if_icmp .ge 56, 3) := by decide +kernel
theorem dX5_leastNow_91 : decode cX5_leastNow 91 = .ok (.aload_n 0, 1) := by decide +kernel
theorem dX5_leastNow_92 : decode cX5_leastNow 92 = .ok (.iload 4, 2) := by decide +kernel
theorem dX5_leastNow_94 : decode cX5_leastNow 94 = .ok (.invokevirtual 141, 3) := by decide +kernel
theorem dX5_leastNow_97 : decode cX5_leastNow 97 = .ok (.ifCond .eq 47, 3) := by decide +kernel
theorem dX5_leastNow_100 : decode cX5_leastNow 100 = .ok (.aload_n 0, 1) := by decide +kernel
theorem dX5_leastNow_101 : decode cX5_leastNow 101 = .ok (.iload 4, 2) := by decide +kernel
theorem dX5_leastNow_103 : decode cX5_leastNow 103 = .ok (.iload 5, 2) := by decide +kernel
theorem dX5_leastNow_105 : decode cX5_leastNow 105 = .ok (.invokevirtual 202, 3) := by decide +kernel
theorem dX5_leastNow_108 : decode cX5_leastNow 108 = .ok (.aload_n 0, 1) := by decide +kernel
theorem dX5_leastNow_109 : decode cX5_leastNow 109 = .ok (.iload 4, 2) := by decide +kernel
theorem dX5_leastNow_111 : decode cX5_leastNow 111 = .ok (.aload_n 0, 1) := by decide +kernel
theorem dX5_leastNow_112 : decode cX5_leastNow 112 = .ok (.getfield 43, 3) := by decide +kernel
theorem dX5_leastNow_115 : decode cX5_leastNow 115 = .ok (.iload 4, 2) := by decide +kernel
theorem dX5_leastNow_117 : decode cX5_leastNow 117 = .ok (.iaload, 1) := by decide +kernel
theorem dX5_leastNow_118 : decode cX5_leastNow 118 = .ok (.invokevirtual 202, 3) := by decide +kernel
theorem dX5_leastNow_121 : decode cX5_leastNow 121 = .ok (.lsub, 1) := by decide +kernel
theorem dX5_leastNow_122 : decode cX5_leastNow 122 = .ok (.lstore 6, 2) := by decide +kernel
theorem dX5_leastNow_124 : decode cX5_leastNow 124 = .ok (.lload 6, 2) := by decide +kernel
theorem dX5_leastNow_126 : decode cX5_leastNow 126 = .ok (.lload_n 2, 1) := by decide +kernel
theorem dX5_leastNow_127 : decode cX5_leastNow 127 = .ok (.lcmp, 1) := by decide +kernel
theorem dX5_leastNow_128 : decode cX5_leastNow 128 = .ok (.ifCond .le 8, 3) := by decide +kernel
theorem dX5_leastNow_131 : decode cX5_leastNow 131 = .ok (.lload 6, 2) := by decide +kernel
theorem dX5_leastNow_133 : decode cX5_leastNow 133 = .ok (.goto 4, 3) := by decide +kernel
theorem dX5_leastNow_136 : decode cX5_leastNow 136 = .ok (.lload_n 2, 1) := by decide +kernel
theorem dX5_leastNow_137 : decode cX5_leastNow 137 = .ok (.lstore_n 2, 1) := by decide +kernel
theorem dX5_leastNow_138 : decode cX5_leastNow 138 = .ok (.iinc 5 1, 3) := by decide +kernel
theorem dX5_leastNow_141 : decode cX5_leastNow 141 = .ok (.goto (-56), 3) := by decide +kernel
theorem dX5_leastNow_144 : decode cX5_leastNow 144 = .ok (.iinc 4 1, 3) := by decide +kernel
theorem dX5_leastNow_147 : decode cX5_leastNow 147 = .ok (.goto (-76), 3) := by decide +kernel
theorem dX5_leastNow_150 : decode cX5_leastNow 150 = .ok (.iconst 0, 1) := by decide +kernel
theorem dX5_leastNow_151 : decode cX5_leastNow 151 = .ok (.istore 4, 2) := by decide +kernel
theorem dX5_leastNow_153 : decode cX5_leastNow 153 = .ok (.iload 4, 2) := by decide +kernel
theorem dX5_leastNow_155 : decode cX5_leastNow 155 = .ok (.sipush 1000, 3) := by decide +kernel
theorem dX5_leastNow_158 : decode cX5_leastNow 158 = .ok (.if_icmp .ge 32, 3) := by decide +kernel
theorem dX5_leastNow_161 : decode cX5_leastNow 161 = .ok (.ldc2_w 197, 3) := by decide +kernel
theorem dX5_leastNow_164 : decode cX5_leastNow 164 = .ok (.iload 4, 2) := by decide +kernel
theorem dX5_leastNow_166 : decode cX5_leastNow 166 = .ok (.i2l, 1) := by decide +kernel
theorem dX5_leastNow_167 : decode cX5_leastNow 167 = .ok (.lmul, 1) := by decide +kernel
theorem dX5_leastNow_168 : decode cX5_leastNow 168 = .ok (.aload_n 0, 1) := by decide +kernel
theorem dX5_leastNow_169 : decode cX5_leastNow 169 = .ok (.getfield 34, 3) := by decide +kernel
theorem dX5_leastNow_172 : decode cX5_leastNow 172 = .ok (.iconst 4, 1) := by decide +kernel
theorem dX5_leastNow_173 : decode cX5_leastNow 173 = .ok (.iaload, 1) := by decide +kernel
theorem dX5_leastNow_174 : decode cX5_leastNow 174 = .ok (.i2l, 1) := by decide +kernel
theorem dX5_leastNow_175 : decode cX5_leastNow 175 = .ok (.lmul, 1) := by decide +kernel
theorem dX5_leastNow_176 : decode cX5_leastNow 176 = .ok (.lload_n 2, 1) := by decide +kernel
theorem dX5_leastNow_177 : decode cX5_leastNow 177 = .ok (.lcmp, 1) := by decide +kernel
theorem dX5_leastNow_178 : decode cX5_leastNow 178 = .ok (.ifCond .lt 6, 3) := by decide +kernel
theorem dX5_leastNow_181 : decode cX5_leastNow 181 = .ok (.iload 4, 2) := by decide +kernel
theorem dX5_leastNow_183 : decode cX5_leastNow 183 = .ok (.ireturn, 1) := by decide +kernel
theorem dX5_leastNow_184 : decode cX5_leastNow 184 = .ok (.iinc 4 1, 3) := by decide +kernel
theorem dX5_leastNow_187 : decode cX5_leastNow 187 = .ok (.goto (-34), 3) := by decide +kernel
theorem dX5_leastNow_190 : decode cX5_leastNow 190 = .ok (.iconst (-1), 1) := by decide +kernel
theorem dX5_leastNow_191 : decode cX5_leastNow 191 = .ok (.ireturn, 1) := by decide +kernel
theorem dX5_leastFine_0 : decode cX5_leastFine 0 = .ok (.aload_n 0, 1) := by decide +kernel
theorem dX5_leastFine_1 : decode cX5_leastFine 1 = .ok (.invokevirtual 263, 3) := by decide +kernel
theorem dX5_leastFine_4 : decode cX5_leastFine 4 = .ok (.ireturn, 1) := by decide +kernel
theorem dX5_bestCap_0 : decode cX5_bestCap 0 = .ok (.iload_n 1, 1) := by decide +kernel
theorem dX5_bestCap_1 : decode cX5_bestCap 1 = .ok (.i2l, 1) := by decide +kernel
theorem dX5_bestCap_2 : decode cX5_bestCap 2 = .ok (.lconst 0, 1) := by decide +kernel
theorem dX5_bestCap_3 : decode cX5_bestCap 3 = .ok (.ldc2_w 75, 3) := by decide +kernel
theorem dX5_bestCap_6 : decode cX5_bestCap 6 = .ok (.invokestatic 61, 3) := by decide +kernel
theorem dX5_bestCap_9 : decode cX5_bestCap 9 = .ok (.ifCond .ne 9, 3) := by decide +kernel
theorem dX5_bestCap_12 : decode cX5_bestCap 12 = .ok (.bipush (-2), 2) := by decide +kernel
theorem dX5_bestCap_14 : decode cX5_bestCap 14 = .ok (.invokestatic 212, 3) := by decide +kernel
theorem dX5_bestCap_17 : decode cX5_bestCap 17 = .ok (.lreturn, 1) := by decide +kernel
theorem dX5_bestCap_18 : decode cX5_bestCap 18 = .ok (.iconst (-1), 1) := by decide +kernel
theorem dX5_bestCap_19 : decode cX5_bestCap 19 = .ok (.istore_n 2, 1) := by decide +kernel
theorem dX5_bestCap_20 : decode cX5_bestCap 20 = .ok (.lconst 0, 1) := by decide +kernel
theorem dX5_bestCap_21 : decode cX5_bestCap 21 = .ok (.lstore_n 3, 1) := by decide +kernel
theorem dX5_bestCap_22 : decode cX5_bestCap 22 = .ok (.iconst 0, 1) := by decide +kernel
theorem dX5_bestCap_23 : decode cX5_bestCap 23 = .ok (.istore 5, 2) := by decide +kernel
theorem dX5_bestCap_25 : decode cX5_bestCap 25 = .ok (.iload 5, 2) := by decide +kernel
theorem dX5_bestCap_27 : decode cX5_bestCap 27 = .ok (.iconst 4, 1) := by decide +kernel
theorem dX5_bestCap_28 : decode cX5_bestCap 28 = .ok (.if_icmp .ge 60, 3) := by decide +kernel
theorem dX5_bestCap_31 : decode cX5_bestCap 31 = .ok (.aload_n 0, 1) := by decide +kernel
theorem dX5_bestCap_32 : decode cX5_bestCap 32 = .ok (.invokevirtual 165, 3) := by decide +kernel
theorem dX5_bestCap_35 : decode cX5_bestCap 35 = .ok (.aload_n 0, 1) := by decide +kernel
theorem dX5_bestCap_36 : decode cX5_bestCap 36 = .ok (.iconst 0, 1) := by decide +kernel
theorem dX5_bestCap_37 : decode cX5_bestCap 37 = .ok (.putfield 155, 3) := by decide +kernel
theorem dX5_bestCap_40 : decode cX5_bestCap 40 = .ok (.aload_n 0, 1) := by decide +kernel
theorem dX5_bestCap_41 : decode cX5_bestCap 41 = .ok (.iload 5, 2) := by decide +kernel
theorem dX5_bestCap_43 : decode cX5_bestCap 43 = .ok (.putfield 159, 3) := by decide +kernel
theorem dX5_bestCap_46 : decode cX5_bestCap 46 = .ok (.aload_n 0, 1) := by decide +kernel
theorem dX5_bestCap_47 : decode cX5_bestCap 47 = .ok (.iconst 0, 1) := by decide +kernel
theorem dX5_bestCap_48 : decode cX5_bestCap 48 = .ok (.invokevirtual 245, 3) := by decide +kernel
theorem dX5_bestCap_51 : decode cX5_bestCap 51 = .ok (.aload_n 0, 1) := by decide +kernel
theorem dX5_bestCap_52 : decode cX5_bestCap 52 = .ok (.invokevirtual 239, 3) := by decide +kernel
theorem dX5_bestCap_55 : decode cX5_bestCap 55 = .ok (.ifCond .eq 27, 3) := by decide +kernel
theorem dX5_bestCap_58 : decode cX5_bestCap 58 = .ok (.aload_n 0, 1) := by decide +kernel
theorem dX5_bestCap_59 : decode cX5_bestCap 59 = .ok (.invokevirtual 220, 3) := by decide +kernel
theorem dX5_bestCap_62 : decode cX5_bestCap 62 = .ok (.lstore 6, 2) := by decide +kernel
theorem dX5_bestCap_64 : decode cX5_bestCap 64 = .ok (.iload_n 2, 1) := by decide +kernel
theorem dX5_bestCap_65 : decode cX5_bestCap 65 = .ok (.iconst (-1), 1) := by decide +kernel
theorem dX5_bestCap_66 : decode cX5_bestCap 66 = .ok (.if_icmp .eq 10, 3) := by decide +kernel
theorem dX5_bestCap_69 : decode cX5_bestCap 69 = .ok (.lload 6, 2) := by decide +kernel
theorem dX5_bestCap_71 : decode cX5_bestCap 71 = .ok (.lload_n 3, 1) := by decide +kernel
theorem dX5_bestCap_72 : decode cX5_bestCap 72 = .ok (.lcmp, 1) := by decide +kernel
theorem dX5_bestCap_73 : decode cX5_bestCap 73 = .ok (.ifCond .le 9, 3) := by decide +kernel
theorem dX5_bestCap_76 : decode cX5_bestCap 76 = .ok (.iload 5, 2) := by decide +kernel
theorem dX5_bestCap_78 : decode cX5_bestCap 78 = .ok (.istore_n 2, 1) := by decide +kernel
theorem dX5_bestCap_79 : decode cX5_bestCap 79 = .ok (.lload 6, 2) := by decide +kernel
theorem dX5_bestCap_81 : decode cX5_bestCap 81 = .ok (.lstore_n 3, 1) := by decide +kernel
theorem dX5_bestCap_82 : decode cX5_bestCap 82 = .ok (.iinc 5 1, 3) := by decide +kernel
theorem dX5_bestCap_85 : decode cX5_bestCap 85 = .ok (.goto (-60), 3) := by decide +kernel
theorem dX5_bestCap_88 : decode cX5_bestCap 88 = .ok (.iload_n 1, 1) := by decide +kernel
theorem dX5_bestCap_89 : decode cX5_bestCap 89 = .ok (.iconst 2, 1) := by decide +kernel
theorem dX5_bestCap_90 : decode cX5_bestCap 90 = .ok (.if_icmp .ne 8, 3) := by decide +kernel
theorem dX5_bestCap_93 : decode cX5_bestCap 93 = .ok (.iload_n 2, 1) := by decide +kernel
theorem dX5_bestCap_94 : decode cX5_bestCap 94 = .ok (.i2l, 1) := by decide +kernel
theorem dX5_bestCap_95 : decode cX5_bestCap 95 = .ok (.goto 24, 3) := by decide +kernel
theorem dX5_bestCap_98 : decode cX5_bestCap 98 = .ok (.iload_n 2, 1) := by decide +kernel
theorem dX5_bestCap_99 : decode cX5_bestCap 99 = .ok (.iconst (-1), 1) := by decide +kernel
theorem dX5_bestCap_100 : decode cX5_bestCap 100 = .ok (.if_icmp .ne 11, 3) := by decide +kernel
theorem dX5_bestCap_103 : decode cX5_bestCap 103 = .ok (.bipush (-3), 2) := by decide +kernel
theorem dX5_bestCap_105 : decode cX5_bestCap 105 = .ok (.invokestatic 212, 3) := by decide +kernel
theorem dX5_bestCap_108 : decode cX5_bestCap 108 = .ok (.goto 11, 3) := by decide +kernel
theorem dX5_bestCap_111 : decode cX5_bestCap 111 = .ok (.lload_n 3, 1) := by decide +kernel
theorem dX5_bestCap_112 : decode cX5_bestCap 112 = .ok (.ldc2_w 195, 3) := by decide +kernel
theorem dX5_bestCap_115 : decode cX5_bestCap 115 = .ok (.iload_n 1, 1) := by decide +kernel
theorem dX5_bestCap_116 : decode cX5_bestCap 116 = .ok (.invokestatic 216, 3) := by decide +kernel
theorem dX5_bestCap_119 : decode cX5_bestCap 119 = .ok (.lreturn, 1) := by decide +kernel
theorem dX5_edge_0 : decode cX5_edge 0 = .ok (.aload_n 0, 1) := by decide +kernel
theorem dX5_edge_1 : decode cX5_edge 1 = .ok (.iload_n 1, 1) := by decide +kernel
theorem dX5_edge_2 : decode cX5_edge 2 = .ok (.invokevirtual 138, 3) := by decide +kernel
theorem dX5_edge_5 : decode cX5_edge 5 = .ok (.ifCond .ne 6, 3) := by decide +kernel
theorem dX5_edge_8 : decode cX5_edge 8 = .ok (.bipush (-2), 2) := by decide +kernel
theorem dX5_edge_10 : decode cX5_edge 10 = .ok (.ireturn, 1) := by decide +kernel
theorem dX5_edge_11 : decode cX5_edge 11 = .ok (.aload_n 0, 1) := by decide +kernel
theorem dX5_edge_12 : decode cX5_edge 12 = .ok (.invokevirtual 165, 3) := by decide +kernel
theorem dX5_edge_15 : decode cX5_edge 15 = .ok (.iconst 0, 1) := by decide +kernel
theorem dX5_edge_16 : decode cX5_edge 16 = .ok (.istore_n 2, 1) := by decide +kernel
theorem dX5_edge_17 : decode cX5_edge 17 = .ok (.iload_n 2, 1) := by decide +kernel
theorem dX5_edge_18 : decode cX5_edge 18 = .ok (.bipush 100, 2) := by decide +kernel
theorem dX5_edge_20 : decode cX5_edge 20 = .ok (.if_icmp .ge 26, 3) := by decide +kernel
theorem dX5_edge_23 : decode cX5_edge 23 = .ok (.aload_n 0, 1) := by decide +kernel
theorem dX5_edge_24 : decode cX5_edge 24 = .ok (.getfield 49, 3) := by decide +kernel
theorem dX5_edge_27 : decode cX5_edge 27 = .ok (.iload_n 1, 1) := by decide +kernel
theorem dX5_edge_28 : decode cX5_edge 28 = .ok (.iload_n 2, 1) := by decide +kernel
theorem dX5_edge_29 : decode cX5_edge 29 = .ok (.iastore, 1) := by decide +kernel
theorem dX5_edge_30 : decode cX5_edge 30 = .ok (.aload_n 0, 1) := by decide +kernel
theorem dX5_edge_31 : decode cX5_edge 31 = .ok (.iload_n 1, 1) := by decide +kernel
theorem dX5_edge_32 : decode cX5_edge 32 = .ok (.invokevirtual 227, 3) := by decide +kernel
theorem dX5_edge_35 : decode cX5_edge 35 = .ok (.ifCond .ne 5, 3) := by decide +kernel
theorem dX5_edge_38 : decode cX5_edge 38 = .ok (.iload_n 2, 1) := by decide +kernel
theorem dX5_edge_39 : decode cX5_edge 39 = .ok (.ireturn, 1) := by decide +kernel
theorem dX5_edge_40 : decode cX5_edge 40 = .ok (.iinc 2 1, 3) := by decide +kernel
theorem dX5_edge_43 : decode cX5_edge 43 = .ok (.goto (-26), 3) := by decide +kernel
theorem dX5_edge_46 : decode cX5_edge 46 = .ok (.iconst (-1), 1) := by decide +kernel
theorem dX5_edge_47 : decode cX5_edge 47 = .ok (.ireturn, 1) := by decide +kernel
theorem dX5_always_0 : decode cX5_always 0 = .ok (.aload_n 0, 1) := by decide +kernel
theorem dX5_always_1 : decode cX5_always 1 = .ok (.iload_n 1, 1) := by decide +kernel
theorem dX5_always_2 : decode cX5_always 2 = .ok (.invokevirtual 138, 3) := by decide +kernel
theorem dX5_always_5 : decode cX5_always 5 = .ok (.ifCond .eq 10, 3) := by decide +kernel
theorem dX5_always_8 : decode cX5_always 8 = .ok (.iload_n 2, 1) := by decide +kernel
theorem dX5_always_9 : decode cX5_always 9 = .ok (.invokestatic 206, 3) := by decide +kernel
theorem dX5_always_12 : decode cX5_always 12 = .ok (.ifCond .ne 9, 3) := by decide +kernel
theorem dX5_always_15 : decode cX5_always 15 = .ok (.bipush (-2), 2) := by decide +kernel
theorem dX5_always_17 : decode cX5_always 17 = .ok (.invokestatic 212, 3) := by decide +kernel
theorem dX5_always_20 : decode cX5_always 20 = .ok (.lreturn, 1) := by decide +kernel
theorem dX5_always_21 : decode cX5_always 21 = .ok (.aload_n 0, 1) := by decide +kernel
theorem dX5_always_22 : decode cX5_always 22 = .ok (.invokevirtual 165, 3) := by decide +kernel
theorem dX5_always_25 : decode cX5_always 25 = .ok (.aload_n 0, 1) := by decide +kernel
theorem dX5_always_26 : decode cX5_always 26 = .ok (.getfield 43, 3) := by decide +kernel
theorem dX5_always_29 : decode cX5_always 29 = .ok (.iload_n 1, 1) := by decide +kernel
theorem dX5_always_30 : decode cX5_always 30 = .ok (.iconst 3, 1) := by decide +kernel
theorem dX5_always_31 : decode cX5_always 31 = .ok (.iastore, 1) := by decide +kernel
theorem dX5_always_32 : decode cX5_always 32 = .ok (.aload_n 0, 1) := by decide +kernel
theorem dX5_always_33 : decode cX5_always 33 = .ok (.iload_n 1, 1) := by decide +kernel
theorem dX5_always_34 : decode cX5_always 34 = .ok (.putfield 162, 3) := by decide +kernel
theorem dX5_always_37 : decode cX5_always 37 = .ok (.aload_n 0, 1) := by decide +kernel
theorem dX5_always_38 : decode cX5_always 38 = .ok (.invokevirtual 239, 3) := by decide +kernel
theorem dX5_always_41 : decode cX5_always 41 = .ok (.ifCond .ne 9, 3) := by decide +kernel
theorem dX5_always_44 : decode cX5_always 44 = .ok (.bipush (-3), 2) := by decide +kernel
theorem dX5_always_46 : decode cX5_always 46 = .ok (.invokestatic 212, 3) := by decide +kernel
theorem dX5_always_49 : decode cX5_always 49 = .ok (.lreturn, 1) := by decide +kernel
theorem dX5_always_50 : decode cX5_always 50 = .ok (.aload_n 0, 1) := by decide +kernel
theorem dX5_always_51 : decode cX5_always 51 = .ok (.invokevirtual 199, 3) := by decide +kernel
theorem dX5_always_54 : decode cX5_always 54 = .ok (.aload_n 0, 1) := by decide +kernel
theorem dX5_always_55 : decode cX5_always 55 = .ok (.getfield 52, 3) := by decide +kernel
theorem dX5_always_58 : decode cX5_always 58 = .ok (.iload_n 1, 1) := by decide +kernel
theorem dX5_always_59 : decode cX5_always 59 = .ok (.laload, 1) := by decide +kernel
theorem dX5_always_60 : decode cX5_always 60 = .ok (.lstore_n 3, 1) := by decide +kernel
theorem dX5_always_61 : decode cX5_always 61 = .ok (.aload_n 0, 1) := by decide +kernel
theorem dX5_always_62 : decode cX5_always 62 = .ok (.invokevirtual 165, 3) := by decide +kernel
theorem dX5_always_65 : decode cX5_always 65 = .ok (.aload_n 0, 1) := by decide +kernel
theorem dX5_always_66 : decode cX5_always 66 = .ok (.invokevirtual 239, 3) := by decide +kernel
theorem dX5_always_69 : decode cX5_always 69 = .ok (.ifCond .ne 9, 3) := by decide +kernel
theorem dX5_always_72 : decode cX5_always 72 = .ok (.bipush (-3), 2) := by decide +kernel
theorem dX5_always_74 : decode cX5_always 74 = .ok (.invokestatic 212, 3) := by decide +kernel
theorem dX5_always_77 : decode cX5_always 77 = .ok (.lreturn, 1) := by decide +kernel
theorem dX5_always_78 : decode cX5_always 78 = .ok (.aload_n 0, 1) := by decide +kernel
theorem dX5_always_79 : decode cX5_always 79 = .ok (.invokevirtual 199, 3) := by decide +kernel
theorem dX5_always_82 : decode cX5_always 82 = .ok (.lload_n 3, 1) := by decide +kernel
theorem dX5_always_83 : decode cX5_always 83 = .ok (.aload_n 0, 1) := by decide +kernel
theorem dX5_always_84 : decode cX5_always 84 = .ok (.getfield 52, 3) := by decide +kernel
theorem dX5_always_87 : decode cX5_always 87 = .ok (.iload_n 1, 1) := by decide +kernel
theorem dX5_always_88 : decode cX5_always 88 = .ok (.laload, 1) := by decide +kernel
theorem dX5_always_89 : decode cX5_always 89 = .ok (.lsub, 1) := by decide +kernel
theorem dX5_always_90 : decode cX5_always 90 = .ok (.ldc2_w 195, 3) := by decide +kernel
theorem dX5_always_93 : decode cX5_always 93 = .ok (.iload_n 2, 1) := by decide +kernel
theorem dX5_always_94 : decode cX5_always 94 = .ok (.invokestatic 216, 3) := by decide +kernel
theorem dX5_always_97 : decode cX5_always 97 = .ok (.lreturn, 1) := by decide +kernel
theorem dX5_turn_0 : decode cX5_turn 0 = .ok (.iload_n 1, 1) := by decide +kernel
theorem dX5_turn_1 : decode cX5_turn 1 = .ok (.i2l, 1) := by decide +kernel
theorem dX5_turn_2 : decode cX5_turn 2 = .ok (.lconst 0, 1) := by decide +kernel
theorem dX5_turn_3 : decode cX5_turn 3 = .ok (.ldc2_w 144, 3) := by decide +kernel
theorem dX5_turn_6 : decode cX5_turn 6 = .ok (.invokestatic 61, 3) := by decide +kernel
theorem dX5_turn_9 : decode cX5_turn 9 = .ok (.ifCond .eq 15, 3) := by decide +kernel
theorem dX5_turn_12 : decode cX5_turn 12 = .ok (.iload_n 2, 1) := by decide +kernel
theorem dX5_turn_13 : decode cX5_turn 13 = .ok (.i2l, 1) := by decide +kernel
theorem dX5_turn_14 : decode cX5_turn 14 = .ok (.lconst 0, 1) := by decide +kernel
theorem dX5_turn_15 : decode cX5_turn 15 = .ok (.ldc2_w 266, 3) := by decide +kernel
theorem dX5_turn_18 : decode cX5_turn 18 = .ok (.invokestatic 61, 3) := by decide +kernel
theorem dX5_turn_21 : decode cX5_turn 21 = .ok (.ifCond .ne 6, 3) := by decide +kernel
theorem dX5_turn_24 : decode cX5_turn 24 = .ok (.bipush (-2), 2) := by decide +kernel
theorem dX5_turn_26 : decode cX5_turn 26 = .ok (.ireturn, 1) := by decide +kernel
theorem dX5_turn_27 : decode cX5_turn 27 = .ok (.aload_n 0, 1) := by decide +kernel
theorem dX5_turn_28 : decode cX5_turn 28 = .ok (.getfield 40, 3) := by decide +kernel
theorem dX5_turn_31 : decode cX5_turn 31 = .ok (.iload_n 1, 1) := by decide +kernel
theorem dX5_turn_32 : decode cX5_turn 32 = .ok (.iaload, 1) := by decide +kernel
theorem dX5_turn_33 : decode cX5_turn 33 = .ok (.istore_n 3, 1) := by decide +kernel
theorem dX5_turn_34 : decode cX5_turn 34 = .ok (.aload_n 0, 1) := by decide +kernel
theorem dX5_turn_35 : decode cX5_turn 35 = .ok (.getfield 40, 3) := by decide +kernel
theorem dX5_turn_38 : decode cX5_turn 38 = .ok (.iload_n 1, 1) := by decide +kernel
theorem dX5_turn_39 : decode cX5_turn 39 = .ok (.iload_n 2, 1) := by decide +kernel
theorem dX5_turn_40 : decode cX5_turn 40 = .ok (.iastore, 1) := by decide +kernel
theorem dX5_turn_41 : decode cX5_turn 41 = .ok (.iload_n 3, 1) := by decide +kernel
theorem dX5_turn_42 : decode cX5_turn 42 = .ok (.ireturn, 1) := by decide +kernel
theorem dX5_layTurn_0 : decode cX5_layTurn 0 = .ok (.aload_n 0, 1) := by decide +kernel
theorem dX5_layTurn_1 : decode cX5_layTurn 1 = .ok (.invokevirtual 165, 3) := by decide +kernel
theorem dX5_layTurn_4 : decode cX5_layTurn 4 = .ok (.iconst 0, 1) := by decide +kernel
theorem dX5_layTurn_5 : decode cX5_layTurn 5 = .ok (.istore_n 2, 1) := by decide +kernel
theorem dX5_layTurn_6 : decode cX5_layTurn 6 = .ok (.iload_n 2, 1) := by decide +kernel
theorem dX5_layTurn_7 : decode cX5_layTurn 7 = .ok (.aload_n 0, 1) := by decide +kernel
theorem dX5_layTurn_8 : decode cX5_layTurn 8 = .ok (.getfield 110, 3) := by decide +kernel
theorem dX5_layTurn_11 : decode cX5_layTurn 11 = .ok (.if_icmp .ge 34, 3) := by decide +kernel
theorem dX5_layTurn_14 : decode cX5_layTurn 14 = .ok (.aload_n 0, 1) := by decide +kernel
theorem dX5_layTurn_15 : decode cX5_layTurn 15 = .ok (.getfield 43, 3) := by decide +kernel
theorem dX5_layTurn_18 : decode cX5_layTurn 18 = .ok (.iload_n 2, 1) := by decide +kernel
theorem dX5_layTurn_19 : decode cX5_layTurn 19 = .ok (.aload_n 0, 1) := by decide +kernel
theorem dX5_layTurn_20 : decode cX5_layTurn 20 = .ok (.getfield 40, 3) := by decide +kernel
theorem dX5_layTurn_23 : decode cX5_layTurn 23 = .ok (.iload_n 1, 1) := by decide +kernel
theorem dX5_layTurn_24 : decode cX5_layTurn 24 = .ok (.iaload, 1) := by decide +kernel
theorem dX5_layTurn_25 : decode cX5_layTurn 25 = .ok (.iload_n 2, 1) := by decide +kernel
theorem dX5_layTurn_26 : decode cX5_layTurn 26 = .ok (.ishr, 1) := by decide +kernel
theorem dX5_layTurn_27 : decode cX5_layTurn 27 = .ok (.iconst 1, 1) := by decide +kernel
theorem dX5_layTurn_28 : decode cX5_layTurn 28 = .ok (.iand, 1) := by decide +kernel
theorem dX5_layTurn_29 : decode cX5_layTurn 29 = .ok (.iconst 1, 1) := by decide +kernel
theorem dX5_layTurn_30 : decode cX5_layTurn 30 = .ok (.if_icmp .ne 7, 3) := by decide +kernel
theorem dX5_layTurn_33 : decode cX5_layTurn 33 = .ok (.iconst 3, 1) := by decide +kernel
theorem dX5_layTurn_34 : decode cX5_layTurn 34 = .ok (.goto 4, 3) := by decide +kernel
theorem dX5_layTurn_37 : decode cX5_layTurn 37 = .ok (.iconst 0, 1) := by decide +kernel
theorem dX5_layTurn_38 : decode cX5_layTurn 38 = .ok (.iastore, 1) := by decide +kernel
theorem dX5_layTurn_39 : decode cX5_layTurn 39 = .ok (.iinc 2 1, 3) := by decide +kernel
theorem dX5_layTurn_42 : decode cX5_layTurn 42 = .ok (.goto (-36), 3) := by decide +kernel
theorem dX5_layTurn_45 : decode cX5_layTurn 45 = .ok (.return_, 1) := by decide +kernel
theorem dX5_keepsOf_0 : decode cX5_keepsOf 0 = .ok (.iconst 0, 1) := by decide +kernel
theorem dX5_keepsOf_1 : decode cX5_keepsOf 1 = .ok (.istore_n 2, 1) := by decide +kernel
theorem dX5_keepsOf_2 : decode cX5_keepsOf 2 = .ok (.iload_n 2, 1) := by decide +kernel
theorem dX5_keepsOf_3 : decode cX5_keepsOf 3 = .ok (.bipush 6, 2) := by decide +kernel
theorem dX5_keepsOf_5 : decode cX5_keepsOf 5 = .ok (.if_icmp .ge 65, 3) := by decide +kernel
theorem dX5_keepsOf_8 : decode cX5_keepsOf 8 = .ok (.aload_n 0, 1) := by decide +kernel
theorem dX5_keepsOf_9 : decode cX5_keepsOf 9 = .ok (.iload_n 2, 1) := by decide +kernel
theorem dX5_keepsOf_10 : decode cX5_keepsOf 10 = .ok (.invokevirtual 268, 3) := by decide +kernel
theorem dX5_keepsOf_13 : decode cX5_keepsOf 13 = .ok (.iconst 0, 1) := by decide +kernel
theorem dX5_keepsOf_14 : decode cX5_keepsOf 14 = .ok (.istore_n 3, 1) := by decide +kernel
theorem dX5_keepsOf_15 : decode cX5_keepsOf 15 = .ok (.iload_n 3, 1) := by decide +kernel
theorem dX5_keepsOf_16 : decode cX5_keepsOf 16 = .ok (.aload_n 0, 1) := by decide +kernel
theorem dX5_keepsOf_17 : decode cX5_keepsOf 17 = .ok (.getfield 110, 3) := by decide +kernel
theorem dX5_keepsOf_20 : decode cX5_keepsOf 20 = .ok (.if_icmp .ge 44, 3) := by decide +kernel
theorem dX5_keepsOf_23 : decode cX5_keepsOf 23 = .ok (.aload_n 0, 1) := by decide +kernel
theorem dX5_keepsOf_24 : decode cX5_keepsOf 24 = .ok (.iload_n 3, 1) := by decide +kernel
theorem dX5_keepsOf_25 : decode cX5_keepsOf 25 = .ok (.aload_n 0, 1) := by decide +kernel
theorem dX5_keepsOf_26 : decode cX5_keepsOf 26 = .ok (.iload_n 3, 1) := by decide +kernel
theorem dX5_keepsOf_27 : decode cX5_keepsOf 27 = .ok (.invokevirtual 227, 3) := by decide +kernel
theorem dX5_keepsOf_30 : decode cX5_keepsOf 30 = .ok (.invokevirtual 202, 3) := by decide +kernel
theorem dX5_keepsOf_33 : decode cX5_keepsOf 33 = .ok (.aload_n 0, 1) := by decide +kernel
theorem dX5_keepsOf_34 : decode cX5_keepsOf 34 = .ok (.iload_n 3, 1) := by decide +kernel
theorem dX5_keepsOf_35 : decode cX5_keepsOf 35 = .ok (.aload_n 0, 1) := by decide +kernel
theorem dX5_keepsOf_36 : decode cX5_keepsOf 36 = .ok (.getfield 43, 3) := by decide +kernel
theorem dX5_keepsOf_39 : decode cX5_keepsOf 39 = .ok (.iload_n 3, 1) := by decide +kernel
theorem dX5_keepsOf_40 : decode cX5_keepsOf 40 = .ok (.iaload, 1) := by decide +kernel
theorem dX5_keepsOf_41 : decode cX5_keepsOf 41 = .ok (.invokevirtual 202, 3) := by decide +kernel
theorem dX5_keepsOf_44 : decode cX5_keepsOf 44 = .ok (.lcmp, 1) := by decide +kernel
theorem dX5_keepsOf_45 : decode cX5_keepsOf 45 = .ok (.ifCond .le 13, 3) := by decide +kernel
theorem dX5_keepsOf_48 : decode cX5_keepsOf 48 = .ok (.iload_n 1, 1) := by decide +kernel
theorem dX5_keepsOf_49 : decode cX5_keepsOf 49 = .ok (.ifCond .ne 7, 3) := by decide +kernel
theorem dX5_keepsOf_52 : decode cX5_keepsOf 52 = .ok (.iload_n 2, 1) := by decide +kernel
theorem dX5_keepsOf_53 : decode cX5_keepsOf 53 = .ok (.goto 4, 3) := by decide +kernel
theorem dX5_keepsOf_56 : decode cX5_keepsOf 56 = .ok (.iload_n 3, 1) := by decide +kernel
theorem dX5_keepsOf_57 : decode cX5_keepsOf 57 = .ok (.ireturn, 1) := by decide +kernel
theorem dX5_keepsOf_58 : decode cX5_keepsOf 58 = .ok (.iinc 3 1, 3) := by decide +kernel
theorem dX5_keepsOf_61 : decode cX5_keepsOf 61 = .ok (.goto (-46), 3) := by decide +kernel
theorem dX5_keepsOf_64 : decode cX5_keepsOf 64 = .ok (.iinc 2 1, 3) := by decide +kernel
theorem dX5_keepsOf_67 : decode cX5_keepsOf 67 = .ok (.goto (-65), 3) := by decide +kernel
theorem dX5_keepsOf_70 : decode cX5_keepsOf 70 = .ok (.iconst (-1), 1) := by decide +kernel
theorem dX5_keepsOf_71 : decode cX5_keepsOf 71 = .ok (.ireturn, 1) := by decide +kernel
theorem dX5_keeps_0 : decode cX5_keeps 0 = .ok (.iload_n 1, 1) := by decide +kernel
theorem dX5_keeps_1 : decode cX5_keeps 1 = .ok (.invokestatic 206, 3) := by decide +kernel
theorem dX5_keeps_4 : decode cX5_keeps 4 = .ok (.ifCond .eq 11, 3) := by decide +kernel
theorem dX5_keeps_7 : decode cX5_keeps 7 = .ok (.aload_n 0, 1) := by decide +kernel
theorem dX5_keeps_8 : decode cX5_keeps 8 = .ok (.iload_n 1, 1) := by decide +kernel
theorem dX5_keeps_9 : decode cX5_keeps 9 = .ok (.invokevirtual 271, 3) := by decide +kernel
theorem dX5_keeps_12 : decode cX5_keeps 12 = .ok (.goto 5, 3) := by decide +kernel
theorem dX5_keeps_15 : decode cX5_keeps 15 = .ok (.bipush (-2), 2) := by decide +kernel
theorem dX5_keeps_17 : decode cX5_keeps 17 = .ok (.ireturn, 1) := by decide +kernel
theorem dX5_week_0 : decode cX5_week 0 = .ok (.aload_n 0, 1) := by decide +kernel
theorem dX5_week_1 : decode cX5_week 1 = .ok (.iload_n 1, 1) := by decide +kernel
theorem dX5_week_2 : decode cX5_week 2 = .ok (.invokevirtual 138, 3) := by decide +kernel
theorem dX5_week_5 : decode cX5_week 5 = .ok (.ifCond .eq 10, 3) := by decide +kernel
theorem dX5_week_8 : decode cX5_week 8 = .ok (.iload_n 2, 1) := by decide +kernel
theorem dX5_week_9 : decode cX5_week 9 = .ok (.invokestatic 206, 3) := by decide +kernel
theorem dX5_week_12 : decode cX5_week 12 = .ok (.ifCond .ne 9, 3) := by decide +kernel
theorem dX5_week_15 : decode cX5_week 15 = .ok (.bipush (-2), 2) := by decide +kernel
theorem dX5_week_17 : decode cX5_week 17 = .ok (.invokestatic 212, 3) := by decide +kernel
theorem dX5_week_20 : decode cX5_week 20 = .ok (.lreturn, 1) := by decide +kernel
theorem dX5_week_21 : decode cX5_week 21 = .ok (.lconst 0, 1) := by decide +kernel
theorem dX5_week_22 : decode cX5_week 22 = .ok (.lstore_n 3, 1) := by decide +kernel
theorem dX5_week_23 : decode cX5_week 23 = .ok (.iconst 0, 1) := by decide +kernel
theorem dX5_week_24 : decode cX5_week 24 = .ok (.istore 5, 2) := by decide +kernel
theorem dX5_week_26 : decode cX5_week 26 = .ok (.iload 5, 2) := by decide +kernel
theorem dX5_week_28 : decode cX5_week 28 = .ok (.bipush 6, 2) := by decide +kernel
theorem dX5_week_30 : decode cX5_week 30 = .ok (.if_icmp .ge 28, 3) := by decide +kernel
theorem dX5_week_33 : decode cX5_week 33 = .ok (.aload_n 0, 1) := by decide +kernel
theorem dX5_week_34 : decode cX5_week 34 = .ok (.iload 5, 2) := by decide +kernel
theorem dX5_week_36 : decode cX5_week 36 = .ok (.invokevirtual 268, 3) := by decide +kernel
theorem dX5_week_39 : decode cX5_week 39 = .ok (.aload_n 0, 1) := by decide +kernel
theorem dX5_week_40 : decode cX5_week 40 = .ok (.invokevirtual 199, 3) := by decide +kernel
theorem dX5_week_43 : decode cX5_week 43 = .ok (.lload_n 3, 1) := by decide +kernel
theorem dX5_week_44 : decode cX5_week 44 = .ok (.aload_n 0, 1) := by decide +kernel
theorem dX5_week_45 : decode cX5_week 45 = .ok (.getfield 52, 3) := by decide +kernel
theorem dX5_week_48 : decode cX5_week 48 = .ok (.iload_n 1, 1) := by decide +kernel
theorem dX5_week_49 : decode cX5_week 49 = .ok (.laload, 1) := by decide +kernel
theorem dX5_week_50 : decode cX5_week 50 = .ok (.ladd, 1) := by decide +kernel
theorem dX5_week_51 : decode cX5_week 51 = .ok (.lstore_n 3, 1) := by decide +kernel
theorem dX5_week_52 : decode cX5_week 52 = .ok (.iinc 5 1, 3) := by decide +kernel
theorem dX5_week_55 : decode cX5_week 55 = .ok (.goto (-29), 3) := by decide +kernel
theorem dX5_week_58 : decode cX5_week 58 = .ok (.lload_n 3, 1) := by decide +kernel
theorem dX5_week_59 : decode cX5_week 59 = .ok (.ldc2_w 195, 3) := by decide +kernel
theorem dX5_week_62 : decode cX5_week 62 = .ok (.iload_n 2, 1) := by decide +kernel
theorem dX5_week_63 : decode cX5_week 63 = .ok (.invokestatic 216, 3) := by decide +kernel
theorem dX5_week_66 : decode cX5_week 66 = .ok (.lreturn, 1) := by decide +kernel
theorem dX5_weekGoes_0 : decode cX5_weekGoes 0 = .ok (.iconst 0, 1) := by decide +kernel
theorem dX5_weekGoes_1 : decode cX5_weekGoes 1 = .ok (.istore_n 1, 1) := by decide +kernel
theorem dX5_weekGoes_2 : decode cX5_weekGoes 2 = .ok (.iload_n 1, 1) := by decide +kernel
theorem dX5_weekGoes_3 : decode cX5_weekGoes 3 = .ok (.iconst 5, 1) := by decide +kernel
theorem dX5_weekGoes_4 : decode cX5_weekGoes 4 = .ok (.if_icmp .ge 21, 3) := by decide +kernel
theorem dX5_weekGoes_7 : decode cX5_weekGoes 7 = .ok (.aload_n 0, 1) := by decide +kernel
theorem dX5_weekGoes_8 : decode cX5_weekGoes 8 = .ok (.getfield 56, 3) := by decide +kernel
theorem dX5_weekGoes_11 : decode cX5_weekGoes 11 = .ok (.iload_n 1, 1) := by decide +kernel
theorem dX5_weekGoes_12 : decode cX5_weekGoes 12 = .ok (.aload_n 0, 1) := by decide +kernel
theorem dX5_weekGoes_13 : decode cX5_weekGoes 13 = .ok (.getfield 43, 3) := by decide +kernel
theorem dX5_weekGoes_16 : decode cX5_weekGoes 16 = .ok (.iload_n 1, 1) := by decide +kernel
theorem dX5_weekGoes_17 : decode cX5_weekGoes 17 = .ok (.iaload, 1) := by decide +kernel
theorem dX5_weekGoes_18 : decode cX5_weekGoes 18 = .ok (.iastore, 1) := by decide +kernel
theorem dX5_weekGoes_19 : decode cX5_weekGoes 19 = .ok (.iinc 1 1, 3) := by decide +kernel
theorem dX5_weekGoes_22 : decode cX5_weekGoes 22 = .ok (.goto (-20), 3) := by decide +kernel
theorem dX5_weekGoes_25 : decode cX5_weekGoes 25 = .ok (.aload_n 0, 1) := by decide +kernel
theorem dX5_weekGoes_26 : decode cX5_weekGoes 26 = .ok (.invokevirtual 239, 3) := by decide +kernel
theorem dX5_weekGoes_29 : decode cX5_weekGoes 29 = .ok (.ifCond .ne 28, 3) := by decide +kernel
theorem dX5_weekGoes_32 : decode cX5_weekGoes 32 = .ok (.iconst 0, 1) := by decide +kernel
theorem dX5_weekGoes_33 : decode cX5_weekGoes 33 = .ok (.istore_n 1, 1) := by decide +kernel
theorem dX5_weekGoes_34 : decode cX5_weekGoes 34 = .ok (.iload_n 1, 1) := by decide +kernel
theorem dX5_weekGoes_35 : decode cX5_weekGoes 35 = .ok (.iconst 5, 1) := by decide +kernel
theorem dX5_weekGoes_36 : decode cX5_weekGoes 36 = .ok (.if_icmp .ge 21, 3) := by decide +kernel
theorem dX5_weekGoes_39 : decode cX5_weekGoes 39 = .ok (.aload_n 0, 1) := by decide +kernel
theorem dX5_weekGoes_40 : decode cX5_weekGoes 40 = .ok (.getfield 43, 3) := by decide +kernel
theorem dX5_weekGoes_43 : decode cX5_weekGoes 43 = .ok (.iload_n 1, 1) := by decide +kernel
theorem dX5_weekGoes_44 : decode cX5_weekGoes 44 = .ok (.aload_n 0, 1) := by decide +kernel
theorem dX5_weekGoes_45 : decode cX5_weekGoes 45 = .ok (.getfield 56, 3) := by decide +kernel
theorem dX5_weekGoes_48 : decode cX5_weekGoes 48 = .ok (.iload_n 1, 1) := by decide +kernel
theorem dX5_weekGoes_49 : decode cX5_weekGoes 49 = .ok (.iaload, 1) := by decide +kernel
theorem dX5_weekGoes_50 : decode cX5_weekGoes 50 = .ok (.iastore, 1) := by decide +kernel
theorem dX5_weekGoes_51 : decode cX5_weekGoes 51 = .ok (.iinc 1 1, 3) := by decide +kernel
theorem dX5_weekGoes_54 : decode cX5_weekGoes 54 = .ok (.goto (-20), 3) := by decide +kernel
theorem dX5_weekGoes_57 : decode cX5_weekGoes 57 = .ok (.iconst 1, 1) := by decide +kernel
theorem dX5_weekGoes_58 : decode cX5_weekGoes 58 = .ok (.istore_n 1, 1) := by decide +kernel
theorem dX5_weekGoes_59 : decode cX5_weekGoes 59 = .ok (.iload_n 1, 1) := by decide +kernel
theorem dX5_weekGoes_60 : decode cX5_weekGoes 60 = .ok (.iconst 4, 1) := by decide +kernel
theorem dX5_weekGoes_61 : decode cX5_weekGoes 61 = .ok (.if_icmp .ge 56, 3) := by decide +kernel
theorem dX5_weekGoes_64 : decode cX5_weekGoes 64 = .ok (.aload_n 0, 1) := by decide +kernel
theorem dX5_weekGoes_65 : decode cX5_weekGoes 65 = .ok (.getfield 46, 3) := by decide +kernel
theorem dX5_weekGoes_68 : decode cX5_weekGoes 68 = .ok (.iload_n 1, 1) := by decide +kernel
theorem dX5_weekGoes_69 : decode cX5_weekGoes 69 = .ok (.iaload, 1) := by decide +kernel
theorem dX5_weekGoes_70 : decode cX5_weekGoes 70 = .ok (.aload_n 0, 1) := by decide +kernel
theorem dX5_weekGoes_71 : decode cX5_weekGoes 71 = .ok (.iload_n 1, 1) := by decide +kernel
theorem dX5_weekGoes_72 : decode cX5_weekGoes 72 = .ok (.invokevirtual 168, 3) := by decide +kernel
theorem dX5_weekGoes_75 : decode cX5_weekGoes 75 = .ok (.ifCond .eq 7, 3) := by decide +kernel
theorem dX5_weekGoes_78 : decode cX5_weekGoes 78 = .ok (.iconst 1, 1) := by decide +kernel
theorem dX5_weekGoes_79 : decode cX5_weekGoes 79 = .ok (.goto 4, 3) := by decide +kernel
theorem dX5_weekGoes_82 : decode cX5_weekGoes 82 = .ok (.iconst (-1), 1) := by decide +kernel
theorem dX5_weekGoes_83 : decode cX5_weekGoes 83 = .ok (.iadd, 1) := by decide +kernel
theorem dX5_weekGoes_84 : decode cX5_weekGoes 84 = .ok (.istore_n 2, 1) := by decide +kernel
theorem dX5_weekGoes_85 : decode cX5_weekGoes 85 = .ok (.aload_n 0, 1) := by decide +kernel
theorem dX5_weekGoes_86 : decode cX5_weekGoes 86 = .ok (.getfield 46, 3) := by decide +kernel
theorem dX5_weekGoes_89 : decode cX5_weekGoes 89 = .ok (.iload_n 1, 1) := by decide +kernel
theorem dX5_weekGoes_90 : decode cX5_weekGoes 90 = .ok (.iload_n 2, 1) := by decide +kernel
theorem dX5_weekGoes_91 : decode cX5_weekGoes 91 = .ok (.ifCond .ge 7, 3) := by decide +kernel
theorem dX5_weekGoes_94 : decode cX5_weekGoes 94 = .ok (.iconst 0, 1) := by decide +kernel
theorem dX5_weekGoes_95 : decode cX5_weekGoes 95 = .ok (.goto 15, 3) := by decide +kernel
theorem dX5_weekGoes_98 : decode cX5_weekGoes 98 = .ok (.iload_n 2, 1) := by decide +kernel
theorem dX5_weekGoes_99 : decode cX5_weekGoes 99 = .ok (.bipush 8, 2) := by decide +kernel
theorem dX5_weekGoes_101 : decode cX5_weekGoes 101 = .ok (.if_icmp .le 8, 3) := by decide +kernel
theorem dX5_weekGoes_104 : decode cX5_weekGoes 104 = .ok (.bipush 8, 2) := by decide +kernel
theorem dX5_weekGoes_106 : decode cX5_weekGoes 106 = .ok (.goto 4, 3) := by decide +kernel
theorem dX5_weekGoes_109 : decode cX5_weekGoes 109 = .ok (.iload_n 2, 1) := by decide +kernel
theorem dX5_weekGoes_110 : decode cX5_weekGoes 110 = .ok (.iastore, 1) := by decide +kernel
theorem dX5_weekGoes_111 : decode cX5_weekGoes 111 = .ok (.iinc 1 1, 3) := by decide +kernel
theorem dX5_weekGoes_114 : decode cX5_weekGoes 114 = .ok (.goto (-55), 3) := by decide +kernel
theorem dX5_weekGoes_117 : decode cX5_weekGoes 117 = .ok (.return_, 1) := by decide +kernel
theorem dX5_weeksOf_0 : decode cX5_weeksOf 0 = .ok (.aload_n 0, 1) := by decide +kernel
theorem dX5_weeksOf_1 : decode cX5_weeksOf 1 = .ok (.invokevirtual 165, 3) := by decide +kernel
theorem dX5_weeksOf_4 : decode cX5_weeksOf 4 = .ok (.iconst 0, 1) := by decide +kernel
theorem dX5_weeksOf_5 : decode cX5_weeksOf 5 = .ok (.istore_n 3, 1) := by decide +kernel
theorem dX5_weeksOf_6 : decode cX5_weeksOf 6 = .ok (.iload_n 3, 1) := by decide +kernel
theorem dX5_weeksOf_7 : decode cX5_weeksOf 7 = .ok (.iload_n 1, 1) := by decide +kernel
theorem dX5_weeksOf_8 : decode cX5_weeksOf 8 = .ok (.if_icmp .ge 13, 3) := by decide +kernel
theorem dX5_weeksOf_11 : decode cX5_weeksOf 11 = .ok (.aload_n 0, 1) := by decide +kernel
theorem dX5_weeksOf_12 : decode cX5_weeksOf 12 = .ok (.invokevirtual 274, 3) := by decide +kernel
theorem dX5_weeksOf_15 : decode cX5_weeksOf 15 = .ok (.iinc 3 1, 3) := by decide +kernel
theorem dX5_weeksOf_18 : decode cX5_weeksOf 18 = .ok (.goto (-12), 3) := by decide +kernel
theorem dX5_weeksOf_21 : decode cX5_weeksOf 21 = .ok (.iload_n 2, 1) := by decide +kernel
theorem dX5_weeksOf_22 : decode cX5_weeksOf 22 = .ok (.iconst 5, 1) := by decide +kernel
theorem dX5_weeksOf_23 : decode cX5_weeksOf 23 = .ok (.if_icmp .ge 12, 3) := by decide +kernel
theorem dX5_weeksOf_26 : decode cX5_weeksOf 26 = .ok (.aload_n 0, 1) := by decide +kernel
theorem dX5_weeksOf_27 : decode cX5_weeksOf 27 = .ok (.getfield 43, 3) := by decide +kernel
theorem dX5_weeksOf_30 : decode cX5_weeksOf 30 = .ok (.iload_n 2, 1) := by decide +kernel
theorem dX5_weeksOf_31 : decode cX5_weeksOf 31 = .ok (.iaload, 1) := by decide +kernel
theorem dX5_weeksOf_32 : decode cX5_weeksOf 32 = .ok (.goto 11, 3) := by decide +kernel
theorem dX5_weeksOf_35 : decode cX5_weeksOf 35 = .ok (.aload_n 0, 1) := by decide +kernel
theorem dX5_weeksOf_36 : decode cX5_weeksOf 36 = .ok (.getfield 46, 3) := by decide +kernel
theorem dX5_weeksOf_39 : decode cX5_weeksOf 39 = .ok (.iload_n 2, 1) := by decide +kernel
theorem dX5_weeksOf_40 : decode cX5_weeksOf 40 = .ok (.iconst 4, 1) := by decide +kernel
theorem dX5_weeksOf_41 : decode cX5_weeksOf 41 = .ok (.isub, 1) := by decide +kernel
theorem dX5_weeksOf_42 : decode cX5_weeksOf 42 = .ok (.iaload, 1) := by decide +kernel
theorem dX5_weeksOf_43 : decode cX5_weeksOf 43 = .ok (.ireturn, 1) := by decide +kernel
theorem dX5_weeks_0 : decode cX5_weeks 0 = .ok (.iload_n 1, 1) := by decide +kernel
theorem dX5_weeks_1 : decode cX5_weeks 1 = .ok (.i2l, 1) := by decide +kernel
theorem dX5_weeks_2 : decode cX5_weeks 2 = .ok (.lconst 0, 1) := by decide +kernel
theorem dX5_weeks_3 : decode cX5_weeks 3 = .ok (.ldc2_w 277, 3) := by decide +kernel
theorem dX5_weeks_6 : decode cX5_weeks 6 = .ok (.invokestatic 61, 3) := by decide +kernel
theorem dX5_weeks_9 : decode cX5_weeks 9 = .ok (.ifCond .eq 24, 3) := by decide +kernel
theorem dX5_weeks_12 : decode cX5_weeks 12 = .ok (.iload_n 2, 1) := by decide +kernel
theorem dX5_weeks_13 : decode cX5_weeks 13 = .ok (.i2l, 1) := by decide +kernel
theorem dX5_weeks_14 : decode cX5_weeks 14 = .ok (.lconst 0, 1) := by decide +kernel
theorem dX5_weeks_15 : decode cX5_weeks 15 = .ok (.ldc2_w 146, 3) := by decide +kernel
theorem dX5_weeks_18 : decode cX5_weeks 18 = .ok (.invokestatic 61, 3) := by decide +kernel
theorem dX5_weeks_21 : decode cX5_weeks 21 = .ok (.ifCond .eq 12, 3) := by decide +kernel
theorem dX5_weeks_24 : decode cX5_weeks 24 = .ok (.aload_n 0, 1) := by decide +kernel
theorem dX5_weeks_25 : decode cX5_weeks 25 = .ok (.iload_n 1, 1) := by decide +kernel
theorem dX5_weeks_26 : decode cX5_weeks 26 = .ok (.iload_n 2, 1) := by decide +kernel
theorem dX5_weeks_27 : decode cX5_weeks 27 = .ok (.invokevirtual 279, 3) := by decide +kernel
theorem dX5_weeks_30 : decode cX5_weeks 30 = .ok (.goto 5, 3) := by decide +kernel
theorem dX5_weeks_33 : decode cX5_weeks 33 = .ok (.bipush (-2), 2) := by decide +kernel
theorem dX5_weeks_35 : decode cX5_weeks 35 = .ok (.ireturn, 1) := by decide +kernel
theorem dX5_isNoWayBack_0 : decode cX5_isNoWayBack 0 = .ok (.iconst 0, 1) := by decide +kernel
theorem dX5_isNoWayBack_1 : decode cX5_isNoWayBack 1 = .ok (.istore_n 1, 1) := by decide +kernel
theorem dX5_isNoWayBack_2 : decode cX5_isNoWayBack 2 = .ok (.iload_n 1, 1) := by decide +kernel
theorem dX5_isNoWayBack_3 : decode cX5_isNoWayBack 3 = .ok (.iconst 5, 1) := by decide +kernel
theorem dX5_isNoWayBack_4 : decode cX5_isNoWayBack 4 = .ok (.if_icmp .ge 21, 3) := by decide +kernel
theorem dX5_isNoWayBack_7 : decode cX5_isNoWayBack 7 = .ok (.aload_n 0, 1) := by decide +kernel
theorem dX5_isNoWayBack_8 : decode cX5_isNoWayBack 8 = .ok (.getfield 56, 3) := by decide +kernel
theorem dX5_isNoWayBack_11 : decode cX5_isNoWayBack 11 = .ok (.iload_n 1, 1) := by decide +kernel
theorem dX5_isNoWayBack_12 : decode cX5_isNoWayBack 12 = .ok (.aload_n 0, 1) := by decide +kernel
theorem dX5_isNoWayBack_13 : decode cX5_isNoWayBack 13 = .ok (.getfield 43, 3) := by decide +kernel
theorem dX5_isNoWayBack_16 : decode cX5_isNoWayBack 16 = .ok (.iload_n 1, 1) := by decide +kernel
theorem dX5_isNoWayBack_17 : decode cX5_isNoWayBack 17 = .ok (.iaload, 1) := by decide +kernel
theorem dX5_isNoWayBack_18 : decode cX5_isNoWayBack 18 = .ok (.iastore, 1) := by decide +kernel
theorem dX5_isNoWayBack_19 : decode cX5_isNoWayBack 19 = .ok (.iinc 1 1, 3) := by decide +kernel
theorem dX5_isNoWayBack_22 : decode cX5_isNoWayBack 22 = .ok (.goto (-20), 3) := by decide +kernel
theorem dX5_isNoWayBack_25 : decode cX5_isNoWayBack 25 = .ok (.aload_n 0, 1) := by decide +kernel
theorem dX5_isNoWayBack_26 : decode cX5_isNoWayBack 26 = .ok (.iconst 0, 1) := by decide +kernel
theorem dX5_isNoWayBack_27 : decode cX5_isNoWayBack 27 = .ok (.invokevirtual 245, 3) := by decide +kernel
theorem dX5_isNoWayBack_30 : decode cX5_isNoWayBack 30 = .ok (.aload_n 0, 1) := by decide +kernel
theorem dX5_isNoWayBack_31 : decode cX5_isNoWayBack 31 = .ok (.invokevirtual 248, 3) := by decide +kernel
theorem dX5_isNoWayBack_34 : decode cX5_isNoWayBack 34 = .ok (.istore_n 1, 1) := by decide +kernel
theorem dX5_isNoWayBack_35 : decode cX5_isNoWayBack 35 = .ok (.iconst 0, 1) := by decide +kernel
theorem dX5_isNoWayBack_36 : decode cX5_isNoWayBack 36 = .ok (.istore_n 2, 1) := by decide +kernel
theorem dX5_isNoWayBack_37 : decode cX5_isNoWayBack 37 = .ok (.iload_n 2, 1) := by decide +kernel
theorem dX5_isNoWayBack_38 : decode cX5_isNoWayBack 38 = .ok (.iconst 5, 1) := by decide +kernel
theorem dX5_isNoWayBack_39 : decode cX5_isNoWayBack 39 = .ok (.if_icmp .ge 21, 3) := by decide +kernel
theorem dX5_isNoWayBack_42 : decode cX5_isNoWayBack 42 = .ok (.aload_n 0, 1) := by decide +kernel
theorem dX5_isNoWayBack_43 : decode cX5_isNoWayBack 43 = .ok (.getfield 43, 3) := by decide +kernel
theorem dX5_isNoWayBack_46 : decode cX5_isNoWayBack 46 = .ok (.iload_n 2, 1) := by decide +kernel
theorem dX5_isNoWayBack_47 : decode cX5_isNoWayBack 47 = .ok (.aload_n 0, 1) := by decide +kernel
theorem dX5_isNoWayBack_48 : decode cX5_isNoWayBack 48 = .ok (.getfield 56, 3) := by decide +kernel
theorem dX5_isNoWayBack_51 : decode cX5_isNoWayBack 51 = .ok (.iload_n 2, 1) := by decide +kernel
theorem dX5_isNoWayBack_52 : decode cX5_isNoWayBack 52 = .ok (.iaload, 1) := by decide +kernel
theorem dX5_isNoWayBack_53 : decode cX5_isNoWayBack 53 = .ok (.iastore, 1) := by decide +kernel
theorem dX5_isNoWayBack_54 : decode cX5_isNoWayBack 54 = .ok (.iinc 2 1, 3) := by decide +kernel
theorem dX5_isNoWayBack_57 : decode cX5_isNoWayBack 57 = .ok (.goto (-20), 3) := by decide +kernel
theorem dX5_isNoWayBack_60 : decode cX5_isNoWayBack 60 = .ok (.iload_n 1, 1) := by decide +kernel
theorem dX5_isNoWayBack_61 : decode cX5_isNoWayBack 61 = .ok (.ifCond .ne 7, 3) := by decide +kernel
theorem dX5_isNoWayBack_64 : decode cX5_isNoWayBack 64 = .ok (.iconst 1, 1) := by decide +kernel
theorem dX5_isNoWayBack_65 : decode cX5_isNoWayBack 65 = .ok (.goto 4, 3) := by decide +kernel
theorem dX5_isNoWayBack_68 : decode cX5_isNoWayBack 68 = .ok (.iconst 0, 1) := by decide +kernel
theorem dX5_isNoWayBack_69 : decode cX5_isNoWayBack 69 = .ok (.ireturn, 1) := by decide +kernel
theorem dX5_backNow_0 : decode cX5_backNow 0 = .ok (.aload_n 0, 1) := by decide +kernel
theorem dX5_backNow_1 : decode cX5_backNow 1 = .ok (.invokevirtual 165, 3) := by decide +kernel
theorem dX5_backNow_4 : decode cX5_backNow 4 = .ok (.iconst 0, 1) := by decide +kernel
theorem dX5_backNow_5 : decode cX5_backNow 5 = .ok (.istore_n 1, 1) := by decide +kernel
theorem dX5_backNow_6 : decode cX5_backNow 6 = .ok (.iload_n 1, 1) := by decide +kernel
theorem dX5_backNow_7 : decode cX5_backNow 7 = .ok (.bipush 50, 2) := by decide +kernel
theorem dX5_backNow_9 : decode cX5_backNow 9 = .ok (.if_icmp .gt 22, 3) := by decide +kernel
theorem dX5_backNow_12 : decode cX5_backNow 12 = .ok (.aload_n 0, 1) := by decide +kernel
theorem dX5_backNow_13 : decode cX5_backNow 13 = .ok (.invokevirtual 282, 3) := by decide +kernel
theorem dX5_backNow_16 : decode cX5_backNow 16 = .ok (.ifCond .eq 5, 3) := by decide +kernel
theorem dX5_backNow_19 : decode cX5_backNow 19 = .ok (.iload_n 1, 1) := by decide +kernel
theorem dX5_backNow_20 : decode cX5_backNow 20 = .ok (.ireturn, 1) := by decide +kernel
theorem dX5_backNow_21 : decode cX5_backNow 21 = .ok (.aload_n 0, 1) := by decide +kernel
theorem dX5_backNow_22 : decode cX5_backNow 22 = .ok (.invokevirtual 274, 3) := by decide +kernel
theorem dX5_backNow_25 : decode cX5_backNow 25 = .ok (.iinc 1 1, 3) := by decide +kernel
theorem dX5_backNow_28 : decode cX5_backNow 28 = .ok (.goto (-22), 3) := by decide +kernel
theorem dX5_backNow_31 : decode cX5_backNow 31 = .ok (.iconst (-1), 1) := by decide +kernel
theorem dX5_backNow_32 : decode cX5_backNow 32 = .ok (.ireturn, 1) := by decide +kernel
theorem dX5_back_0 : decode cX5_back 0 = .ok (.aload_n 0, 1) := by decide +kernel
theorem dX5_back_1 : decode cX5_back 1 = .ok (.invokevirtual 285, 3) := by decide +kernel
theorem dX5_back_4 : decode cX5_back 4 = .ok (.ireturn, 1) := by decide +kernel
theorem dX5_write_0 : decode cX5_write 0 = .ok (.iload_n 1, 1) := by decide +kernel
theorem dX5_write_1 : decode cX5_write 1 = .ok (.invokestatic 71, 3) := by decide +kernel
theorem dX5_write_4 : decode cX5_write 4 = .ok (.ifCond .ne 6, 3) := by decide +kernel
theorem dX5_write_7 : decode cX5_write 7 = .ok (.bipush (-2), 2) := by decide +kernel
theorem dX5_write_9 : decode cX5_write 9 = .ok (.ireturn, 1) := by decide +kernel
theorem dX5_write_10 : decode cX5_write 10 = .ok (.aload_n 0, 1) := by decide +kernel
theorem dX5_write_11 : decode cX5_write 11 = .ok (.getfield 7, 3) := by decide +kernel
theorem dX5_write_14 : decode cX5_write 14 = .ok (.iload_n 1, 1) := by decide +kernel
theorem dX5_write_15 : decode cX5_write 15 = .ok (.iaload, 1) := by decide +kernel
theorem dX5_write_16 : decode cX5_write 16 = .ok (.ifCond .ge 9, 3) := by decide +kernel
theorem dX5_write_19 : decode cX5_write 19 = .ok (.aload_n 0, 1) := by decide +kernel
theorem dX5_write_20 : decode cX5_write 20 = .ok (.iconst 1, 1) := by decide +kernel
theorem dX5_write_21 : decode cX5_write 21 = .ok (.invokevirtual 77, 3) := by decide +kernel
theorem dX5_write_24 : decode cX5_write 24 = .ok (.ireturn, 1) := by decide +kernel
theorem dX5_write_25 : decode cX5_write 25 = .ok (.aload_n 0, 1) := by decide +kernel
theorem dX5_write_26 : decode cX5_write 26 = .ok (.invokevirtual 165, 3) := by decide +kernel
theorem dX5_write_29 : decode cX5_write 29 = .ok (.aload_n 0, 1) := by decide +kernel
theorem dX5_write_30 : decode cX5_write 30 = .ok (.getfield 13, 3) := by decide +kernel
theorem dX5_write_33 : decode cX5_write 33 = .ok (.iload_n 1, 1) := by decide +kernel
theorem dX5_write_34 : decode cX5_write 34 = .ok (.iaload, 1) := by decide +kernel
theorem dX5_write_35 : decode cX5_write 35 = .ok (.aload_n 0, 1) := by decide +kernel
theorem dX5_write_36 : decode cX5_write 36 = .ok (.getfield 110, 3) := by decide +kernel
theorem dX5_write_39 : decode cX5_write 39 = .ok (.if_icmp .ge 12, 3) := by decide +kernel
theorem dX5_write_42 : decode cX5_write 42 = .ok (.aload_n 0, 1) := by decide +kernel
theorem dX5_write_43 : decode cX5_write 43 = .ok (.getfield 13, 3) := by decide +kernel
theorem dX5_write_46 : decode cX5_write 46 = .ok (.iload_n 1, 1) := by decide +kernel
theorem dX5_write_47 : decode cX5_write 47 = .ok (.iaload, 1) := by decide +kernel
theorem dX5_write_48 : decode cX5_write 48 = .ok (.goto 7, 3) := by decide +kernel
theorem dX5_write_51 : decode cX5_write 51 = .ok (.aload_n 0, 1) := by decide +kernel
theorem dX5_write_52 : decode cX5_write 52 = .ok (.getfield 110, 3) := by decide +kernel
theorem dX5_write_55 : decode cX5_write 55 = .ok (.istore_n 2, 1) := by decide +kernel
theorem dX5_write_56 : decode cX5_write 56 = .ok (.iconst 0, 1) := by decide +kernel
theorem dX5_write_57 : decode cX5_write 57 = .ok (.istore_n 3, 1) := by decide +kernel
theorem dX5_write_58 : decode cX5_write 58 = .ok (.iload_n 3, 1) := by decide +kernel
theorem dX5_write_59 : decode cX5_write 59 = .ok (.iload_n 2, 1) := by decide +kernel
theorem dX5_write_60 : decode cX5_write 60 = .ok (.if_icmp .ge 34, 3) := by decide +kernel
theorem dX5_write_63 : decode cX5_write 63 = .ok (.aload_n 0, 1) := by decide +kernel
theorem dX5_write_64 : decode cX5_write 64 = .ok (.getfield 16, 3) := by decide +kernel
theorem dX5_write_67 : decode cX5_write 67 = .ok (.bipush 60, 2) := by decide +kernel
theorem dX5_write_69 : decode cX5_write 69 = .ok (.iload_n 1, 1) := by decide +kernel
theorem dX5_write_70 : decode cX5_write 70 = .ok (.imul, 1) := by decide +kernel
theorem dX5_write_71 : decode cX5_write 71 = .ok (.iload_n 3, 1) := by decide +kernel
theorem dX5_write_72 : decode cX5_write 72 = .ok (.iadd, 1) := by decide +kernel
theorem dX5_write_73 : decode cX5_write 73 = .ok (.aload_n 0, 1) := by decide +kernel
theorem dX5_write_74 : decode cX5_write 74 = .ok (.getfield 7, 3) := by decide +kernel
theorem dX5_write_77 : decode cX5_write 77 = .ok (.iload_n 1, 1) := by decide +kernel
theorem dX5_write_78 : decode cX5_write 78 = .ok (.iaload, 1) := by decide +kernel
theorem dX5_write_79 : decode cX5_write 79 = .ok (.aload_n 0, 1) := by decide +kernel
theorem dX5_write_80 : decode cX5_write 80 = .ok (.iload_n 3, 1) := by decide +kernel
theorem dX5_write_81 : decode cX5_write 81 = .ok (.invokevirtual 227, 3) := by decide +kernel
theorem dX5_write_84 : decode cX5_write 84 = .ok (.invokestatic 85, 3) := by decide +kernel
theorem dX5_write_87 : decode cX5_write 87 = .ok (.iastore, 1) := by decide +kernel
theorem dX5_write_88 : decode cX5_write 88 = .ok (.iinc 3 1, 3) := by decide +kernel
theorem dX5_write_91 : decode cX5_write 91 = .ok (.goto (-33), 3) := by decide +kernel
theorem dX5_write_94 : decode cX5_write 94 = .ok (.iload_n 2, 1) := by decide +kernel
theorem dX5_write_95 : decode cX5_write 95 = .ok (.ireturn, 1) := by decide +kernel
theorem dX5_count_0 : decode cX5_count 0 = .ok (.iconst 0, 1) := by decide +kernel
theorem dX5_count_1 : decode cX5_count 1 = .ok (.istore_n 2, 1) := by decide +kernel
theorem dX5_count_2 : decode cX5_count 2 = .ok (.aload_n 0, 1) := by decide +kernel
theorem dX5_count_3 : decode cX5_count 3 = .ok (.invokevirtual 135, 3) := by decide +kernel
theorem dX5_count_6 : decode cX5_count 6 = .ok (.pop, 1) := by decide +kernel
theorem dX5_count_7 : decode cX5_count 7 = .ok (.iload_n 1, 1) := by decide +kernel
theorem dX5_count_8 : decode cX5_count 8 = .ok (.tableswitch 186 0 8 #[52, 57, 62, 67, 94, 119, 142, 149, 181], 52) := by decide +kernel
theorem dX5_count_60 : decode cX5_count 60 = .ok (.aload_n 0, 1) := by decide +kernel
theorem dX5_count_61 : decode cX5_count 61 = .ok (.getfield 110, 3) := by decide +kernel
theorem dX5_count_64 : decode cX5_count 64 = .ok (.ireturn, 1) := by decide +kernel
theorem dX5_count_65 : decode cX5_count 65 = .ok (.aload_n 0, 1) := by decide +kernel
theorem dX5_count_66 : decode cX5_count 66 = .ok (.getfield 119, 3) := by decide +kernel
theorem dX5_count_69 : decode cX5_count 69 = .ok (.ireturn, 1) := by decide +kernel
theorem dX5_count_70 : decode cX5_count 70 = .ok (.aload_n 0, 1) := by decide +kernel
theorem dX5_count_71 : decode cX5_count 71 = .ok (.getfield 96, 3) := by decide +kernel
theorem dX5_count_74 : decode cX5_count 74 = .ok (.ireturn, 1) := by decide +kernel
theorem dX5_count_75 : decode cX5_count 75 = .ok (.iconst 0, 1) := by decide +kernel
theorem dX5_count_76 : decode cX5_count 76 = .ok (.istore_n 3, 1) := by decide +kernel
theorem dX5_count_77 : decode cX5_count 77 = .ok (.iload_n 3, 1) := by decide +kernel
theorem dX5_count_78 : decode cX5_count 78 = .ok (.aload_n 0, 1) := by decide +kernel
theorem dX5_count_79 : decode cX5_count 79 = .ok (.getfield 110, 3) := by decide +kernel
theorem dX5_count_82 : decode cX5_count 82 = .ok (.if_icmp .ge 18, 3) := by decide +kernel
theorem dX5_count_85 : decode cX5_count 85 = .ok (.iload_n 2, 1) := by decide +kernel
theorem dX5_count_86 : decode cX5_count 86 = .ok (.aload_n 0, 1) := by decide +kernel
theorem dX5_count_87 : decode cX5_count 87 = .ok (.getfield 37, 3) := by decide +kernel
theorem dX5_count_90 : decode cX5_count 90 = .ok (.iload_n 3, 1) := by decide +kernel
theorem dX5_count_91 : decode cX5_count 91 = .ok (.iaload, 1) := by decide +kernel
theorem dX5_count_92 : decode cX5_count 92 = .ok (.iadd, 1) := by decide +kernel
theorem dX5_count_93 : decode cX5_count 93 = .ok (.istore_n 2, 1) := by decide +kernel
theorem dX5_count_94 : decode cX5_count 94 = .ok (.iinc 3 1, 3) := by decide +kernel
theorem dX5_count_97 : decode cX5_count 97 = .ok (.goto (-20), 3) := by decide +kernel
theorem dX5_count_100 : decode cX5_count 100 = .ok (.iload_n 2, 1) := by decide +kernel
theorem dX5_count_101 : decode cX5_count 101 = .ok (.ireturn, 1) := by decide +kernel
theorem dX5_count_102 : decode cX5_count 102 = .ok (.iconst 0, 1) := by decide +kernel
theorem dX5_count_103 : decode cX5_count 103 = .ok (.istore_n 3, 1) := by decide +kernel
theorem dX5_count_104 : decode cX5_count 104 = .ok (.iload_n 3, 1) := by decide +kernel
theorem dX5_count_105 : decode cX5_count 105 = .ok (.bipush 6, 2) := by decide +kernel
theorem dX5_count_107 : decode cX5_count 107 = .ok (.if_icmp .ge 18, 3) := by decide +kernel
theorem dX5_count_110 : decode cX5_count 110 = .ok (.iload_n 2, 1) := by decide +kernel
theorem dX5_count_111 : decode cX5_count 111 = .ok (.aload_n 0, 1) := by decide +kernel
theorem dX5_count_112 : decode cX5_count 112 = .ok (.getfield 40, 3) := by decide +kernel
theorem dX5_count_115 : decode cX5_count 115 = .ok (.iload_n 3, 1) := by decide +kernel
theorem dX5_count_116 : decode cX5_count 116 = .ok (.iaload, 1) := by decide +kernel
theorem dX5_count_117 : decode cX5_count 117 = .ok (.iadd, 1) := by decide +kernel
theorem dX5_count_118 : decode cX5_count 118 = .ok (.istore_n 2, 1) := by decide +kernel
theorem dX5_count_119 : decode cX5_count 119 = .ok (.iinc 3 1, 3) := by decide +kernel
theorem dX5_count_122 : decode cX5_count 122 = .ok (.goto (-18), 3) := by decide +kernel
theorem dX5_count_125 : decode cX5_count 125 = .ok (.iload_n 2, 1) := by decide +kernel
theorem dX5_count_126 : decode cX5_count 126 = .ok (.ireturn, 1) := by decide +kernel
theorem dX5_count_127 : decode cX5_count 127 = .ok (.aload_n 0, 1) := by decide +kernel
theorem dX5_count_128 : decode cX5_count 128 = .ok (.getfield 34, 3) := by decide +kernel
theorem dX5_count_131 : decode cX5_count 131 = .ok (.iconst 5, 1) := by decide +kernel
theorem dX5_count_132 : decode cX5_count 132 = .ok (.iaload, 1) := by decide +kernel
theorem dX5_count_133 : decode cX5_count 133 = .ok (.aload_n 0, 1) := by decide +kernel
theorem dX5_count_134 : decode cX5_count 134 = .ok (.getfield 34, 3) := by decide +kernel
theorem dX5_count_137 : decode cX5_count 137 = .ok (.bipush 6, 2) := by decide +kernel
theorem dX5_count_139 : decode cX5_count 139 = .ok (.iaload, 1) := by decide +kernel
theorem dX5_count_140 : decode cX5_count 140 = .ok (.iadd, 1) := by decide +kernel
theorem dX5_count_141 : decode cX5_count 141 = .ok (.aload_n 0, 1) := by decide +kernel
theorem dX5_count_142 : decode cX5_count 142 = .ok (.getfield 34, 3) := by decide +kernel
theorem dX5_count_145 : decode cX5_count 145 = .ok (.bipush 7, 2) := by decide +kernel
theorem dX5_count_147 : decode cX5_count 147 = .ok (.iaload, 1) := by decide +kernel
theorem dX5_count_148 : decode cX5_count 148 = .ok (.iadd, 1) := by decide +kernel
theorem dX5_count_149 : decode cX5_count 149 = .ok (.ireturn, 1) := by decide +kernel
theorem dX5_count_150 : decode cX5_count 150 = .ok (.aload_n 0, 1) := by decide +kernel
theorem dX5_count_151 : decode cX5_count 151 = .ok (.getfield 34, 3) := by decide +kernel
theorem dX5_count_154 : decode cX5_count 154 = .ok (.iconst 1, 1) := by decide +kernel
theorem dX5_count_155 : decode cX5_count 155 = .ok (.iaload, 1) := by decide +kernel
theorem dX5_count_156 : decode cX5_count 156 = .ok (.ireturn, 1) := by decide +kernel
theorem dX5_count_157 : decode cX5_count 157 = .ok (.iconst 0, 1) := by decide +kernel
theorem dX5_count_158 : decode cX5_count 158 = .ok (.istore_n 3, 1) := by decide +kernel
theorem dX5_count_159 : decode cX5_count 159 = .ok (.iload_n 3, 1) := by decide +kernel
theorem dX5_count_160 : decode cX5_count 160 = .ok (.aload_n 0, 1) := by decide +kernel
theorem dX5_count_161 : decode cX5_count 161 = .ok (.getfield 119, 3) := by decide +kernel
theorem dX5_count_164 : decode cX5_count 164 = .ok (.if_icmp .ge 23, 3) := by decide +kernel
theorem dX5_count_167 : decode cX5_count 167 = .ok (.iload_n 2, 1) := by decide +kernel
theorem dX5_count_168 : decode cX5_count 168 = .ok (.aload_n 0, 1) := by decide +kernel
theorem dX5_count_169 : decode cX5_count 169 = .ok (.getfield 31, 3) := by decide +kernel
theorem dX5_count_172 : decode cX5_count 172 = .ok (.bipush 6, 2) := by decide +kernel
theorem dX5_count_174 : decode cX5_count 174 = .ok (.iload_n 3, 1) := by decide +kernel
theorem dX5_count_175 : decode cX5_count 175 = .ok (.imul, 1) := by decide +kernel
theorem dX5_count_176 : decode cX5_count 176 = .ok (.iconst 1, 1) := by decide +kernel
theorem dX5_count_177 : decode cX5_count 177 = .ok (.iadd, 1) := by decide +kernel
theorem dX5_count_178 : decode cX5_count 178 = .ok (.iaload, 1) := by decide +kernel
theorem dX5_count_179 : decode cX5_count 179 = .ok (.iadd, 1) := by decide +kernel
theorem dX5_count_180 : decode cX5_count 180 = .ok (.istore_n 2, 1) := by decide +kernel
theorem dX5_count_181 : decode cX5_count 181 = .ok (.iinc 3 1, 3) := by decide +kernel
theorem dX5_count_184 : decode cX5_count 184 = .ok (.goto (-25), 3) := by decide +kernel
theorem dX5_count_187 : decode cX5_count 187 = .ok (.iload_n 2, 1) := by decide +kernel
theorem dX5_count_188 : decode cX5_count 188 = .ok (.ireturn, 1) := by decide +kernel
theorem dX5_count_189 : decode cX5_count 189 = .ok (.aload_n 0, 1) := by decide +kernel
theorem dX5_count_190 : decode cX5_count 190 = .ok (.getfield 65, 3) := by decide +kernel
theorem dX5_count_193 : decode cX5_count 193 = .ok (.ireturn, 1) := by decide +kernel
theorem dX5_count_194 : decode cX5_count 194 = .ok (.bipush (-2), 2) := by decide +kernel
theorem dX5_count_196 : decode cX5_count 196 = .ok (.ireturn, 1) := by decide +kernel
theorem dX5_digest_0 : decode cX5_digest 0 = .ok (.ldc2_w 288, 3) := by decide +kernel
theorem dX5_digest_3 : decode cX5_digest 3 = .ok (.lstore_n 1, 1) := by decide +kernel
theorem dX5_digest_4 : decode cX5_digest 4 = .ok (.iconst 0, 1) := by decide +kernel
theorem dX5_digest_5 : decode cX5_digest 5 = .ok (.istore_n 3, 1) := by decide +kernel
theorem dX5_digest_6 : decode cX5_digest 6 = .ok (.iload_n 3, 1) := by decide +kernel
theorem dX5_digest_7 : decode cX5_digest 7 = .ok (.bipush 8, 2) := by decide +kernel
theorem dX5_digest_9 : decode cX5_digest 9 = .ok (.if_icmp .ge 22, 3) := by decide +kernel
theorem dX5_digest_12 : decode cX5_digest 12 = .ok (.ldc2_w 266, 3) := by decide +kernel
theorem dX5_digest_15 : decode cX5_digest 15 = .ok (.lload_n 1, 1) := by decide +kernel
theorem dX5_digest_16 : decode cX5_digest 16 = .ok (.lmul, 1) := by decide +kernel
theorem dX5_digest_17 : decode cX5_digest 17 = .ok (.aload_n 0, 1) := by decide +kernel
theorem dX5_digest_18 : decode cX5_digest 18 = .ok (.iload_n 3, 1) := by decide +kernel
theorem dX5_digest_19 : decode cX5_digest 19 = .ok (.invokevirtual 290, 3) := by decide +kernel
theorem dX5_digest_22 : decode cX5_digest 22 = .ok (.i2l, 1) := by decide +kernel
theorem dX5_digest_23 : decode cX5_digest 23 = .ok (.ladd, 1) := by decide +kernel
theorem dX5_digest_24 : decode cX5_digest 24 = .ok (.lstore_n 1, 1) := by decide +kernel
theorem dX5_digest_25 : decode cX5_digest 25 = .ok (.iinc 3 1, 3) := by decide +kernel
theorem dX5_digest_28 : decode cX5_digest 28 = .ok (.goto (-22), 3) := by decide +kernel
theorem dX5_digest_31 : decode cX5_digest 31 = .ok (.ldc2_w 266, 3) := by decide +kernel
theorem dX5_digest_34 : decode cX5_digest 34 = .ok (.lload_n 1, 1) := by decide +kernel
theorem dX5_digest_35 : decode cX5_digest 35 = .ok (.lmul, 1) := by decide +kernel
theorem dX5_digest_36 : decode cX5_digest 36 = .ok (.aload_n 0, 1) := by decide +kernel
theorem dX5_digest_37 : decode cX5_digest 37 = .ok (.invokevirtual 135, 3) := by decide +kernel
theorem dX5_digest_40 : decode cX5_digest 40 = .ok (.i2l, 1) := by decide +kernel
theorem dX5_digest_41 : decode cX5_digest 41 = .ok (.ladd, 1) := by decide +kernel
theorem dX5_digest_42 : decode cX5_digest 42 = .ok (.lstore_n 1, 1) := by decide +kernel
theorem dX5_digest_43 : decode cX5_digest 43 = .ok (.iconst 0, 1) := by decide +kernel
theorem dX5_digest_44 : decode cX5_digest 44 = .ok (.istore_n 3, 1) := by decide +kernel
theorem dX5_digest_45 : decode cX5_digest 45 = .ok (.iload_n 3, 1) := by decide +kernel
theorem dX5_digest_46 : decode cX5_digest 46 = .ok (.aload_n 0, 1) := by decide +kernel
theorem dX5_digest_47 : decode cX5_digest 47 = .ok (.getfield 110, 3) := by decide +kernel
theorem dX5_digest_50 : decode cX5_digest 50 = .ok (.if_icmp .ge 89, 3) := by decide +kernel
theorem dX5_digest_53 : decode cX5_digest 53 = .ok (.ldc2_w 266, 3) := by decide +kernel
theorem dX5_digest_56 : decode cX5_digest 56 = .ok (.lload_n 1, 1) := by decide +kernel
theorem dX5_digest_57 : decode cX5_digest 57 = .ok (.lmul, 1) := by decide +kernel
theorem dX5_digest_58 : decode cX5_digest 58 = .ok (.aload_n 0, 1) := by decide +kernel
theorem dX5_digest_59 : decode cX5_digest 59 = .ok (.iload_n 3, 1) := by decide +kernel
theorem dX5_digest_60 : decode cX5_digest 60 = .ok (.iconst 0, 1) := by decide +kernel
theorem dX5_digest_61 : decode cX5_digest 61 = .ok (.invokevirtual 209, 3) := by decide +kernel
theorem dX5_digest_64 : decode cX5_digest 64 = .ok (.ladd, 1) := by decide +kernel
theorem dX5_digest_65 : decode cX5_digest 65 = .ok (.lstore_n 1, 1) := by decide +kernel
theorem dX5_digest_66 : decode cX5_digest 66 = .ok (.ldc2_w 266, 3) := by decide +kernel
theorem dX5_digest_69 : decode cX5_digest 69 = .ok (.lload_n 1, 1) := by decide +kernel
theorem dX5_digest_70 : decode cX5_digest 70 = .ok (.lmul, 1) := by decide +kernel
theorem dX5_digest_71 : decode cX5_digest 71 = .ok (.aload_n 0, 1) := by decide +kernel
theorem dX5_digest_72 : decode cX5_digest 72 = .ok (.iload_n 3, 1) := by decide +kernel
theorem dX5_digest_73 : decode cX5_digest 73 = .ok (.iconst 1, 1) := by decide +kernel
theorem dX5_digest_74 : decode cX5_digest 74 = .ok (.invokevirtual 209, 3) := by decide +kernel
theorem dX5_digest_77 : decode cX5_digest 77 = .ok (.ladd, 1) := by decide +kernel
theorem dX5_digest_78 : decode cX5_digest 78 = .ok (.lstore_n 1, 1) := by decide +kernel
theorem dX5_digest_79 : decode cX5_digest 79 = .ok (.ldc2_w 266, 3) := by decide +kernel
theorem dX5_digest_82 : decode cX5_digest 82 = .ok (.lload_n 1, 1) := by decide +kernel
theorem dX5_digest_83 : decode cX5_digest 83 = .ok (.lmul, 1) := by decide +kernel
theorem dX5_digest_84 : decode cX5_digest 84 = .ok (.aload_n 0, 1) := by decide +kernel
theorem dX5_digest_85 : decode cX5_digest 85 = .ok (.iload_n 3, 1) := by decide +kernel
theorem dX5_digest_86 : decode cX5_digest 86 = .ok (.invokevirtual 230, 3) := by decide +kernel
theorem dX5_digest_89 : decode cX5_digest 89 = .ok (.i2l, 1) := by decide +kernel
theorem dX5_digest_90 : decode cX5_digest 90 = .ok (.ladd, 1) := by decide +kernel
theorem dX5_digest_91 : decode cX5_digest 91 = .ok (.lstore_n 1, 1) := by decide +kernel
theorem dX5_digest_92 : decode cX5_digest 92 = .ok (.ldc2_w 266, 3) := by decide +kernel
theorem dX5_digest_95 : decode cX5_digest 95 = .ok (.lload_n 1, 1) := by decide +kernel
theorem dX5_digest_96 : decode cX5_digest 96 = .ok (.lmul, 1) := by decide +kernel
theorem dX5_digest_97 : decode cX5_digest 97 = .ok (.aload_n 0, 1) := by decide +kernel
theorem dX5_digest_98 : decode cX5_digest 98 = .ok (.iload_n 3, 1) := by decide +kernel
theorem dX5_digest_99 : decode cX5_digest 99 = .ok (.invokevirtual 242, 3) := by decide +kernel
theorem dX5_digest_102 : decode cX5_digest 102 = .ok (.i2l, 1) := by decide +kernel
theorem dX5_digest_103 : decode cX5_digest 103 = .ok (.ladd, 1) := by decide +kernel
theorem dX5_digest_104 : decode cX5_digest 104 = .ok (.lstore_n 1, 1) := by decide +kernel
theorem dX5_digest_105 : decode cX5_digest 105 = .ok (.ldc2_w 266, 3) := by decide +kernel
theorem dX5_digest_108 : decode cX5_digest 108 = .ok (.lload_n 1, 1) := by decide +kernel
theorem dX5_digest_109 : decode cX5_digest 109 = .ok (.lmul, 1) := by decide +kernel
theorem dX5_digest_110 : decode cX5_digest 110 = .ok (.aload_n 0, 1) := by decide +kernel
theorem dX5_digest_111 : decode cX5_digest 111 = .ok (.iconst 0, 1) := by decide +kernel
theorem dX5_digest_112 : decode cX5_digest 112 = .ok (.iload_n 3, 1) := by decide +kernel
theorem dX5_digest_113 : decode cX5_digest 113 = .ok (.invokevirtual 260, 3) := by decide +kernel
theorem dX5_digest_116 : decode cX5_digest 116 = .ok (.i2l, 1) := by decide +kernel
theorem dX5_digest_117 : decode cX5_digest 117 = .ok (.ladd, 1) := by decide +kernel
theorem dX5_digest_118 : decode cX5_digest 118 = .ok (.lstore_n 1, 1) := by decide +kernel
theorem dX5_digest_119 : decode cX5_digest 119 = .ok (.ldc2_w 266, 3) := by decide +kernel
theorem dX5_digest_122 : decode cX5_digest 122 = .ok (.lload_n 1, 1) := by decide +kernel
theorem dX5_digest_123 : decode cX5_digest 123 = .ok (.lmul, 1) := by decide +kernel
theorem dX5_digest_124 : decode cX5_digest 124 = .ok (.aload_n 0, 1) := by decide +kernel
theorem dX5_digest_125 : decode cX5_digest 125 = .ok (.iconst 1, 1) := by decide +kernel
theorem dX5_digest_126 : decode cX5_digest 126 = .ok (.iload_n 3, 1) := by decide +kernel
theorem dX5_digest_127 : decode cX5_digest 127 = .ok (.invokevirtual 260, 3) := by decide +kernel
theorem dX5_digest_130 : decode cX5_digest 130 = .ok (.i2l, 1) := by decide +kernel
theorem dX5_digest_131 : decode cX5_digest 131 = .ok (.ladd, 1) := by decide +kernel
theorem dX5_digest_132 : decode cX5_digest 132 = .ok (.lstore_n 1, 1) := by decide +kernel
theorem dX5_digest_133 : decode cX5_digest 133 = .ok (.iinc 3 1, 3) := by decide +kernel
theorem dX5_digest_136 : decode cX5_digest 136 = .ok (.goto (-91), 3) := by decide +kernel
theorem dX5_digest_139 : decode cX5_digest 139 = .ok (.iconst 0, 1) := by decide +kernel
theorem dX5_digest_140 : decode cX5_digest 140 = .ok (.istore_n 3, 1) := by decide +kernel
theorem dX5_digest_141 : decode cX5_digest 141 = .ok (.iload_n 3, 1) := by decide +kernel
theorem dX5_digest_142 : decode cX5_digest 142 = .ok (.iconst 4, 1) := by decide +kernel
theorem dX5_digest_143 : decode cX5_digest 143 = .ok (.if_icmp .ge 26, 3) := by decide +kernel
theorem dX5_digest_146 : decode cX5_digest 146 = .ok (.ldc2_w 266, 3) := by decide +kernel
theorem dX5_digest_149 : decode cX5_digest 149 = .ok (.lload_n 1, 1) := by decide +kernel
theorem dX5_digest_150 : decode cX5_digest 150 = .ok (.lmul, 1) := by decide +kernel
theorem dX5_digest_151 : decode cX5_digest 151 = .ok (.aload_n 0, 1) := by decide +kernel
theorem dX5_digest_152 : decode cX5_digest 152 = .ok (.iload_n 3, 1) := by decide +kernel
theorem dX5_digest_153 : decode cX5_digest 153 = .ok (.iconst 2, 1) := by decide +kernel
theorem dX5_digest_154 : decode cX5_digest 154 = .ok (.idiv, 1) := by decide +kernel
theorem dX5_digest_155 : decode cX5_digest 155 = .ok (.iload_n 3, 1) := by decide +kernel
theorem dX5_digest_156 : decode cX5_digest 156 = .ok (.iconst 2, 1) := by decide +kernel
theorem dX5_digest_157 : decode cX5_digest 157 = .ok (.irem, 1) := by decide +kernel
theorem dX5_digest_158 : decode cX5_digest 158 = .ok (.invokevirtual 224, 3) := by decide +kernel
theorem dX5_digest_161 : decode cX5_digest 161 = .ok (.ladd, 1) := by decide +kernel
theorem dX5_digest_162 : decode cX5_digest 162 = .ok (.lstore_n 1, 1) := by decide +kernel
theorem dX5_digest_163 : decode cX5_digest 163 = .ok (.iinc 3 1, 3) := by decide +kernel
theorem dX5_digest_166 : decode cX5_digest 166 = .ok (.goto (-25), 3) := by decide +kernel
theorem dX5_digest_169 : decode cX5_digest 169 = .ok (.ldc2_w 266, 3) := by decide +kernel
theorem dX5_digest_172 : decode cX5_digest 172 = .ok (.lload_n 1, 1) := by decide +kernel
theorem dX5_digest_173 : decode cX5_digest 173 = .ok (.lmul, 1) := by decide +kernel
theorem dX5_digest_174 : decode cX5_digest 174 = .ok (.aload_n 0, 1) := by decide +kernel
theorem dX5_digest_175 : decode cX5_digest 175 = .ok (.iconst (-1), 1) := by decide +kernel
theorem dX5_digest_176 : decode cX5_digest 176 = .ok (.invokevirtual 242, 3) := by decide +kernel
theorem dX5_digest_179 : decode cX5_digest 179 = .ok (.i2l, 1) := by decide +kernel
theorem dX5_digest_180 : decode cX5_digest 180 = .ok (.ladd, 1) := by decide +kernel
theorem dX5_digest_181 : decode cX5_digest 181 = .ok (.lstore_n 1, 1) := by decide +kernel
theorem dX5_digest_182 : decode cX5_digest 182 = .ok (.ldc2_w 266, 3) := by decide +kernel
theorem dX5_digest_185 : decode cX5_digest 185 = .ok (.lload_n 1, 1) := by decide +kernel
theorem dX5_digest_186 : decode cX5_digest 186 = .ok (.lmul, 1) := by decide +kernel
theorem dX5_digest_187 : decode cX5_digest 187 = .ok (.aload_n 0, 1) := by decide +kernel
theorem dX5_digest_188 : decode cX5_digest 188 = .ok (.iconst (-1), 1) := by decide +kernel
theorem dX5_digest_189 : decode cX5_digest 189 = .ok (.iconst (-1), 1) := by decide +kernel
theorem dX5_digest_190 : decode cX5_digest 190 = .ok (.invokevirtual 251, 3) := by decide +kernel
theorem dX5_digest_193 : decode cX5_digest 193 = .ok (.i2l, 1) := by decide +kernel
theorem dX5_digest_194 : decode cX5_digest 194 = .ok (.ladd, 1) := by decide +kernel
theorem dX5_digest_195 : decode cX5_digest 195 = .ok (.lstore_n 1, 1) := by decide +kernel
theorem dX5_digest_196 : decode cX5_digest 196 = .ok (.ldc2_w 266, 3) := by decide +kernel
theorem dX5_digest_199 : decode cX5_digest 199 = .ok (.lload_n 1, 1) := by decide +kernel
theorem dX5_digest_200 : decode cX5_digest 200 = .ok (.lmul, 1) := by decide +kernel
theorem dX5_digest_201 : decode cX5_digest 201 = .ok (.aload_n 0, 1) := by decide +kernel
theorem dX5_digest_202 : decode cX5_digest 202 = .ok (.invokevirtual 263, 3) := by decide +kernel
theorem dX5_digest_205 : decode cX5_digest 205 = .ok (.i2l, 1) := by decide +kernel
theorem dX5_digest_206 : decode cX5_digest 206 = .ok (.ladd, 1) := by decide +kernel
theorem dX5_digest_207 : decode cX5_digest 207 = .ok (.lstore_n 1, 1) := by decide +kernel
theorem dX5_digest_208 : decode cX5_digest 208 = .ok (.ldc2_w 266, 3) := by decide +kernel
theorem dX5_digest_211 : decode cX5_digest 211 = .ok (.lload_n 1, 1) := by decide +kernel
theorem dX5_digest_212 : decode cX5_digest 212 = .ok (.lmul, 1) := by decide +kernel
theorem dX5_digest_213 : decode cX5_digest 213 = .ok (.aload_n 0, 1) := by decide +kernel
theorem dX5_digest_214 : decode cX5_digest 214 = .ok (.iconst 0, 1) := by decide +kernel
theorem dX5_digest_215 : decode cX5_digest 215 = .ok (.invokevirtual 271, 3) := by decide +kernel
theorem dX5_digest_218 : decode cX5_digest 218 = .ok (.i2l, 1) := by decide +kernel
theorem dX5_digest_219 : decode cX5_digest 219 = .ok (.ladd, 1) := by decide +kernel
theorem dX5_digest_220 : decode cX5_digest 220 = .ok (.lstore_n 1, 1) := by decide +kernel
theorem dX5_digest_221 : decode cX5_digest 221 = .ok (.ldc2_w 266, 3) := by decide +kernel
theorem dX5_digest_224 : decode cX5_digest 224 = .ok (.lload_n 1, 1) := by decide +kernel
theorem dX5_digest_225 : decode cX5_digest 225 = .ok (.lmul, 1) := by decide +kernel
theorem dX5_digest_226 : decode cX5_digest 226 = .ok (.aload_n 0, 1) := by decide +kernel
theorem dX5_digest_227 : decode cX5_digest 227 = .ok (.iconst 1, 1) := by decide +kernel
theorem dX5_digest_228 : decode cX5_digest 228 = .ok (.invokevirtual 271, 3) := by decide +kernel
theorem dX5_digest_231 : decode cX5_digest 231 = .ok (.i2l, 1) := by decide +kernel
theorem dX5_digest_232 : decode cX5_digest 232 = .ok (.ladd, 1) := by decide +kernel
theorem dX5_digest_233 : decode cX5_digest 233 = .ok (.lstore_n 1, 1) := by decide +kernel
theorem dX5_digest_234 : decode cX5_digest 234 = .ok (.iconst 0, 1) := by decide +kernel
theorem dX5_digest_235 : decode cX5_digest 235 = .ok (.istore_n 3, 1) := by decide +kernel
theorem dX5_digest_236 : decode cX5_digest 236 = .ok (.iload_n 3, 1) := by decide +kernel
theorem dX5_digest_237 : decode cX5_digest 237 = .ok (.bipush 8, 2) := by decide +kernel
theorem dX5_digest_239 : decode cX5_digest 239 = .ok (.if_icmp .ge 23, 3) := by decide +kernel
theorem dX5_digest_242 : decode cX5_digest 242 = .ok (.ldc2_w 266, 3) := by decide +kernel
theorem dX5_digest_245 : decode cX5_digest 245 = .ok (.lload_n 1, 1) := by decide +kernel
theorem dX5_digest_246 : decode cX5_digest 246 = .ok (.lmul, 1) := by decide +kernel
theorem dX5_digest_247 : decode cX5_digest 247 = .ok (.aload_n 0, 1) := by decide +kernel
theorem dX5_digest_248 : decode cX5_digest 248 = .ok (.iconst 5, 1) := by decide +kernel
theorem dX5_digest_249 : decode cX5_digest 249 = .ok (.iload_n 3, 1) := by decide +kernel
theorem dX5_digest_250 : decode cX5_digest 250 = .ok (.invokevirtual 279, 3) := by decide +kernel
theorem dX5_digest_253 : decode cX5_digest 253 = .ok (.i2l, 1) := by decide +kernel
theorem dX5_digest_254 : decode cX5_digest 254 = .ok (.ladd, 1) := by decide +kernel
theorem dX5_digest_255 : decode cX5_digest 255 = .ok (.lstore_n 1, 1) := by decide +kernel
theorem dX5_digest_256 : decode cX5_digest 256 = .ok (.iinc 3 1, 3) := by decide +kernel
theorem dX5_digest_259 : decode cX5_digest 259 = .ok (.goto (-23), 3) := by decide +kernel
theorem dX5_digest_262 : decode cX5_digest 262 = .ok (.ldc2_w 266, 3) := by decide +kernel
theorem dX5_digest_265 : decode cX5_digest 265 = .ok (.lload_n 1, 1) := by decide +kernel
theorem dX5_digest_266 : decode cX5_digest 266 = .ok (.lmul, 1) := by decide +kernel
theorem dX5_digest_267 : decode cX5_digest 267 = .ok (.aload_n 0, 1) := by decide +kernel
theorem dX5_digest_268 : decode cX5_digest 268 = .ok (.invokevirtual 285, 3) := by decide +kernel
theorem dX5_digest_271 : decode cX5_digest 271 = .ok (.i2l, 1) := by decide +kernel
theorem dX5_digest_272 : decode cX5_digest 272 = .ok (.ladd, 1) := by decide +kernel
theorem dX5_digest_273 : decode cX5_digest 273 = .ok (.lreturn, 1) := by decide +kernel
end
section
theorem dJ6_bitCount_0f7a4_0 : decode cJ6_bitCount_0f7a4 0 = .ok (.iload_n 0, 1) := by decide +kernel
theorem dJ6_bitCount_0f7a4_1 : decode cJ6_bitCount_0f7a4 1 = .ok (.iload_n 0, 1) := by decide +kernel
theorem dJ6_bitCount_0f7a4_2 : decode cJ6_bitCount_0f7a4 2 = .ok (.iconst 1, 1) := by decide +kernel
theorem dJ6_bitCount_0f7a4_3 : decode cJ6_bitCount_0f7a4 3 = .ok (.iushr, 1) := by decide +kernel
theorem dJ6_bitCount_0f7a4_4 : decode cJ6_bitCount_0f7a4 4 = .ok (.ldc_w 265, 3) := by decide +kernel
theorem dJ6_bitCount_0f7a4_7 : decode cJ6_bitCount_0f7a4 7 = .ok (.iand, 1) := by decide +kernel
theorem dJ6_bitCount_0f7a4_8 : decode cJ6_bitCount_0f7a4 8 = .ok (.isub, 1) := by decide +kernel
theorem dJ6_bitCount_0f7a4_9 : decode cJ6_bitCount_0f7a4 9 = .ok (.istore_n 0, 1) := by decide +kernel
theorem dJ6_bitCount_0f7a4_10 : decode cJ6_bitCount_0f7a4 10 = .ok (.iload_n 0, 1) := by decide +kernel
theorem dJ6_bitCount_0f7a4_11 : decode cJ6_bitCount_0f7a4 11 = .ok (.ldc_w 266, 3) := by decide +kernel
theorem dJ6_bitCount_0f7a4_14 : decode cJ6_bitCount_0f7a4 14 = .ok (.iand, 1) := by decide +kernel
theorem dJ6_bitCount_0f7a4_15 : decode cJ6_bitCount_0f7a4 15 = .ok (.iload_n 0, 1) := by decide +kernel
theorem dJ6_bitCount_0f7a4_16 : decode cJ6_bitCount_0f7a4 16 = .ok (.iconst 2, 1) := by decide +kernel
theorem dJ6_bitCount_0f7a4_17 : decode cJ6_bitCount_0f7a4 17 = .ok (.iushr, 1) := by decide +kernel
theorem dJ6_bitCount_0f7a4_18 : decode cJ6_bitCount_0f7a4 18 = .ok (.ldc_w 266, 3) := by decide +kernel
theorem dJ6_bitCount_0f7a4_21 : decode cJ6_bitCount_0f7a4 21 = .ok (.iand, 1) := by decide +kernel
theorem dJ6_bitCount_0f7a4_22 : decode cJ6_bitCount_0f7a4 22 = .ok (.iadd, 1) := by decide +kernel
theorem dJ6_bitCount_0f7a4_23 : decode cJ6_bitCount_0f7a4 23 = .ok (.istore_n 0, 1) := by decide +kernel
theorem dJ6_bitCount_0f7a4_24 : decode cJ6_bitCount_0f7a4 24 = .ok (.iload_n 0, 1) := by decide +kernel
theorem dJ6_bitCount_0f7a4_25 : decode cJ6_bitCount_0f7a4 25 = .ok (.iload_n 0, 1) := by decide +kernel
theorem dJ6_bitCount_0f7a4_26 : decode cJ6_bitCount_0f7a4 26 = .ok (.iconst 4, 1) := by decide +kernel
theorem dJ6_bitCount_0f7a4_27 : decode cJ6_bitCount_0f7a4 27 = .ok (.iushr, 1) := by decide +kernel
theorem dJ6_bitCount_0f7a4_28 : decode cJ6_bitCount_0f7a4 28 = .ok (.iadd, 1) := by decide +kernel
theorem dJ6_bitCount_0f7a4_29 : decode cJ6_bitCount_0f7a4 29 = .ok (.ldc_w 267, 3) := by decide +kernel
theorem dJ6_bitCount_0f7a4_32 : decode cJ6_bitCount_0f7a4 32 = .ok (.iand, 1) := by decide +kernel
theorem dJ6_bitCount_0f7a4_33 : decode cJ6_bitCount_0f7a4 33 = .ok (.istore_n 0, 1) := by decide +kernel
theorem dJ6_bitCount_0f7a4_34 : decode cJ6_bitCount_0f7a4 34 = .ok (.iload_n 0, 1) := by decide +kernel
theorem dJ6_bitCount_0f7a4_35 : decode cJ6_bitCount_0f7a4 35 = .ok (.iload_n 0, 1) := by decide +kernel
theorem dJ6_bitCount_0f7a4_36 : decode cJ6_bitCount_0f7a4 36 = .ok (.bipush 8, 2) := by decide +kernel
theorem dJ6_bitCount_0f7a4_38 : decode cJ6_bitCount_0f7a4 38 = .ok (.iushr, 1) := by decide +kernel
theorem dJ6_bitCount_0f7a4_39 : decode cJ6_bitCount_0f7a4 39 = .ok (.iadd, 1) := by decide +kernel
theorem dJ6_bitCount_0f7a4_40 : decode cJ6_bitCount_0f7a4 40 = .ok (.istore_n 0, 1) := by decide +kernel
theorem dJ6_bitCount_0f7a4_41 : decode cJ6_bitCount_0f7a4 41 = .ok (.iload_n 0, 1) := by decide +kernel
theorem dJ6_bitCount_0f7a4_42 : decode cJ6_bitCount_0f7a4 42 = .ok (.iload_n 0, 1) := by decide +kernel
theorem dJ6_bitCount_0f7a4_43 : decode cJ6_bitCount_0f7a4 43 = .ok (.bipush 16, 2) := by decide +kernel
theorem dJ6_bitCount_0f7a4_45 : decode cJ6_bitCount_0f7a4 45 = .ok (.iushr, 1) := by decide +kernel
theorem dJ6_bitCount_0f7a4_46 : decode cJ6_bitCount_0f7a4 46 = .ok (.iadd, 1) := by decide +kernel
theorem dJ6_bitCount_0f7a4_47 : decode cJ6_bitCount_0f7a4 47 = .ok (.istore_n 0, 1) := by decide +kernel
theorem dJ6_bitCount_0f7a4_48 : decode cJ6_bitCount_0f7a4 48 = .ok (.iload_n 0, 1) := by decide +kernel
theorem dJ6_bitCount_0f7a4_49 : decode cJ6_bitCount_0f7a4 49 = .ok (.bipush 63, 2) := by decide +kernel
theorem dJ6_bitCount_0f7a4_51 : decode cJ6_bitCount_0f7a4 51 = .ok (.iand, 1) := by decide +kernel
theorem dJ6_bitCount_0f7a4_52 : decode cJ6_bitCount_0f7a4 52 = .ok (.ireturn, 1) := by decide +kernel
theorem dJ9_abs_067f4_0 : decode cJ9_abs_067f4 0 = .ok (.lload_n 0, 1) := by decide +kernel
theorem dJ9_abs_067f4_1 : decode cJ9_abs_067f4 1 = .ok (.lconst 0, 1) := by decide +kernel
theorem dJ9_abs_067f4_2 : decode cJ9_abs_067f4 2 = .ok (.lcmp, 1) := by decide +kernel
theorem dJ9_abs_067f4_3 : decode cJ9_abs_067f4 3 = .ok (.ifCond .ge 8, 3) := by decide +kernel
theorem dJ9_abs_067f4_6 : decode cJ9_abs_067f4 6 = .ok (.lload_n 0, 1) := by decide +kernel
theorem dJ9_abs_067f4_7 : decode cJ9_abs_067f4 7 = .ok (.lneg, 1) := by decide +kernel
theorem dJ9_abs_067f4_8 : decode cJ9_abs_067f4 8 = .ok (.goto 4, 3) := by decide +kernel
theorem dJ9_abs_067f4_11 : decode cJ9_abs_067f4 11 = .ok (.lload_n 0, 1) := by decide +kernel
theorem dJ9_abs_067f4_12 : decode cJ9_abs_067f4 12 = .ok (.lreturn, 1) := by decide +kernel
theorem dJ9_max_7cf53_0 : decode cJ9_max_7cf53 0 = .ok (.iload_n 0, 1) := by decide +kernel
theorem dJ9_max_7cf53_1 : decode cJ9_max_7cf53 1 = .ok (.iload_n 1, 1) := by decide +kernel
theorem dJ9_max_7cf53_2 : decode cJ9_max_7cf53 2 = .ok (.if_icmp .lt 7, 3) := by decide +kernel
theorem dJ9_max_7cf53_5 : decode cJ9_max_7cf53 5 = .ok (.iload_n 0, 1) := by decide +kernel
theorem dJ9_max_7cf53_6 : decode cJ9_max_7cf53 6 = .ok (.goto 4, 3) := by decide +kernel
theorem dJ9_max_7cf53_9 : decode cJ9_max_7cf53 9 = .ok (.iload_n 1, 1) := by decide +kernel
theorem dJ9_max_7cf53_10 : decode cJ9_max_7cf53 10 = .ok (.ireturn, 1) := by decide +kernel
theorem dJ9_max_f86c9_0 : decode cJ9_max_f86c9 0 = .ok (.lload_n 0, 1) := by decide +kernel
theorem dJ9_max_f86c9_1 : decode cJ9_max_f86c9 1 = .ok (.lload_n 2, 1) := by decide +kernel
theorem dJ9_max_f86c9_2 : decode cJ9_max_f86c9 2 = .ok (.lcmp, 1) := by decide +kernel
theorem dJ9_max_f86c9_3 : decode cJ9_max_f86c9 3 = .ok (.ifCond .lt 7, 3) := by decide +kernel
theorem dJ9_max_f86c9_6 : decode cJ9_max_f86c9 6 = .ok (.lload_n 0, 1) := by decide +kernel
theorem dJ9_max_f86c9_7 : decode cJ9_max_f86c9 7 = .ok (.goto 4, 3) := by decide +kernel
theorem dJ9_max_f86c9_10 : decode cJ9_max_f86c9 10 = .ok (.lload_n 2, 1) := by decide +kernel
theorem dJ9_max_f86c9_11 : decode cJ9_max_f86c9 11 = .ok (.lreturn, 1) := by decide +kernel
theorem dJ9_min_7cf53_0 : decode cJ9_min_7cf53 0 = .ok (.iload_n 0, 1) := by decide +kernel
theorem dJ9_min_7cf53_1 : decode cJ9_min_7cf53 1 = .ok (.iload_n 1, 1) := by decide +kernel
theorem dJ9_min_7cf53_2 : decode cJ9_min_7cf53 2 = .ok (.if_icmp .gt 7, 3) := by decide +kernel
theorem dJ9_min_7cf53_5 : decode cJ9_min_7cf53 5 = .ok (.iload_n 0, 1) := by decide +kernel
theorem dJ9_min_7cf53_6 : decode cJ9_min_7cf53 6 = .ok (.goto 4, 3) := by decide +kernel
theorem dJ9_min_7cf53_9 : decode cJ9_min_7cf53 9 = .ok (.iload_n 1, 1) := by decide +kernel
theorem dJ9_min_7cf53_10 : decode cJ9_min_7cf53 10 = .ok (.ireturn, 1) := by decide +kernel
theorem dJ7_fill_d0a16_0 : decode cJ7_fill_d0a16 0 = .ok (.iconst 0, 1) := by decide +kernel
theorem dJ7_fill_d0a16_1 : decode cJ7_fill_d0a16 1 = .ok (.istore_n 3, 1) := by decide +kernel
theorem dJ7_fill_d0a16_2 : decode cJ7_fill_d0a16 2 = .ok (.aload_n 0, 1) := by decide +kernel
theorem dJ7_fill_d0a16_3 : decode cJ7_fill_d0a16 3 = .ok (.arraylength, 1) := by decide +kernel
theorem dJ7_fill_d0a16_4 : decode cJ7_fill_d0a16 4 = .ok (.istore 4, 2) := by decide +kernel
theorem dJ7_fill_d0a16_6 : decode cJ7_fill_d0a16 6 = .ok (.iload_n 3, 1) := by decide +kernel
theorem dJ7_fill_d0a16_7 : decode cJ7_fill_d0a16 7 = .ok (.iload 4, 2) := by decide +kernel
theorem dJ7_fill_d0a16_9 : decode cJ7_fill_d0a16 9 = .ok (.if_icmp .ge 13, 3) := by decide +kernel
theorem dJ7_fill_d0a16_12 : decode cJ7_fill_d0a16 12 = .ok (.aload_n 0, 1) := by decide +kernel
theorem dJ7_fill_d0a16_13 : decode cJ7_fill_d0a16 13 = .ok (.iload_n 3, 1) := by decide +kernel
theorem dJ7_fill_d0a16_14 : decode cJ7_fill_d0a16 14 = .ok (.lload_n 1, 1) := by decide +kernel
theorem dJ7_fill_d0a16_15 : decode cJ7_fill_d0a16 15 = .ok (.lastore, 1) := by decide +kernel
theorem dJ7_fill_d0a16_16 : decode cJ7_fill_d0a16 16 = .ok (.iinc 3 1, 3) := by decide +kernel
theorem dJ7_fill_d0a16_19 : decode cJ7_fill_d0a16 19 = .ok (.goto (-13), 3) := by decide +kernel
theorem dJ7_fill_d0a16_22 : decode cJ7_fill_d0a16 22 = .ok (.return_, 1) := by decide +kernel
theorem dJ7_fill_53178_0 : decode cJ7_fill_53178 0 = .ok (.iconst 0, 1) := by decide +kernel
theorem dJ7_fill_53178_1 : decode cJ7_fill_53178 1 = .ok (.istore_n 2, 1) := by decide +kernel
theorem dJ7_fill_53178_2 : decode cJ7_fill_53178 2 = .ok (.aload_n 0, 1) := by decide +kernel
theorem dJ7_fill_53178_3 : decode cJ7_fill_53178 3 = .ok (.arraylength, 1) := by decide +kernel
theorem dJ7_fill_53178_4 : decode cJ7_fill_53178 4 = .ok (.istore_n 3, 1) := by decide +kernel
theorem dJ7_fill_53178_5 : decode cJ7_fill_53178 5 = .ok (.iload_n 2, 1) := by decide +kernel
theorem dJ7_fill_53178_6 : decode cJ7_fill_53178 6 = .ok (.iload_n 3, 1) := by decide +kernel
theorem dJ7_fill_53178_7 : decode cJ7_fill_53178 7 = .ok (.if_icmp .ge 13, 3) := by decide +kernel
theorem dJ7_fill_53178_10 : decode cJ7_fill_53178 10 = .ok (.aload_n 0, 1) := by decide +kernel
theorem dJ7_fill_53178_11 : decode cJ7_fill_53178 11 = .ok (.iload_n 2, 1) := by decide +kernel
theorem dJ7_fill_53178_12 : decode cJ7_fill_53178 12 = .ok (.iload_n 1, 1) := by decide +kernel
theorem dJ7_fill_53178_13 : decode cJ7_fill_53178 13 = .ok (.iastore, 1) := by decide +kernel
theorem dJ7_fill_53178_14 : decode cJ7_fill_53178 14 = .ok (.iinc 2 1, 3) := by decide +kernel
theorem dJ7_fill_53178_17 : decode cJ7_fill_53178 17 = .ok (.goto (-12), 3) := by decide +kernel
theorem dJ7_fill_53178_20 : decode cJ7_fill_53178 20 = .ok (.return_, 1) := by decide +kernel
theorem dL_law_0 : decode cL_law 0 = .ok (.new 7, 3) := by decide +kernel
theorem dL_law_3 : decode cL_law 3 = .ok (.dup, 1) := by decide +kernel
theorem dL_law_4 : decode cL_law 4 = .ok (.invokespecial 9, 3) := by decide +kernel
theorem dL_law_7 : decode cL_law 7 = .ok (.astore_n 1, 1) := by decide +kernel
theorem dL_law_8 : decode cL_law 8 = .ok (.new 10, 3) := by decide +kernel
theorem dL_law_11 : decode cL_law 11 = .ok (.dup, 1) := by decide +kernel
theorem dL_law_12 : decode cL_law 12 = .ok (.invokespecial 12, 3) := by decide +kernel
theorem dL_law_15 : decode cL_law 15 = .ok (.astore_n 2, 1) := by decide +kernel
theorem dL_law_16 : decode cL_law 16 = .ok (.iconst 0, 1) := by decide +kernel
theorem dL_law_17 : decode cL_law 17 = .ok (.istore_n 3, 1) := by decide +kernel
theorem dL_law_18 : decode cL_law 18 = .ok (.iload_n 3, 1) := by decide +kernel
theorem dL_law_19 : decode cL_law 19 = .ok (.aload_n 0, 1) := by decide +kernel
theorem dL_law_20 : decode cL_law 20 = .ok (.arraylength, 1) := by decide +kernel
theorem dL_law_21 : decode cL_law 21 = .ok (.bipush 6, 2) := by decide +kernel
theorem dL_law_23 : decode cL_law 23 = .ok (.isub, 1) := by decide +kernel
theorem dL_law_24 : decode cL_law 24 = .ok (.if_icmp .gt 1108, 3) := by decide +kernel
theorem dL_law_27 : decode cL_law 27 = .ok (.aload_n 0, 1) := by decide +kernel
theorem dL_law_28 : decode cL_law 28 = .ok (.iload_n 3, 1) := by decide +kernel
theorem dL_law_29 : decode cL_law 29 = .ok (.iaload, 1) := by decide +kernel
theorem dL_law_30 : decode cL_law 30 = .ok (.bipush 63, 2) := by decide +kernel
theorem dL_law_32 : decode cL_law 32 = .ok (.iand, 1) := by decide +kernel
theorem dL_law_33 : decode cL_law 33 = .ok (.tableswitch 1093 0 32 #[147, 170, 183, 196, 229, 262, 295, 328, 351, 374, 408, 442, 465, 488, 521, 554, 578, 591, 615, 638, 672, 705, 728, 762, 795, 808, 851, 874, 927, 970, 1033, 1056, 1079], 147) := by decide +kernel
theorem dL_law_180 : decode cL_law 180 = .ok (.aload_n 1, 1) := by decide +kernel
theorem dL_law_181 : decode cL_law 181 = .ok (.aload_n 0, 1) := by decide +kernel
theorem dL_law_182 : decode cL_law 182 = .ok (.iload_n 3, 1) := by decide +kernel
theorem dL_law_183 : decode cL_law 183 = .ok (.iconst 1, 1) := by decide +kernel
theorem dL_law_184 : decode cL_law 184 = .ok (.iadd, 1) := by decide +kernel
theorem dL_law_185 : decode cL_law 185 = .ok (.iaload, 1) := by decide +kernel
theorem dL_law_186 : decode cL_law 186 = .ok (.invokevirtual 13, 3) := by decide +kernel
theorem dL_law_189 : decode cL_law 189 = .ok (.aload_n 2, 1) := by decide +kernel
theorem dL_law_190 : decode cL_law 190 = .ok (.aload_n 0, 1) := by decide +kernel
theorem dL_law_191 : decode cL_law 191 = .ok (.iload_n 3, 1) := by decide +kernel
theorem dL_law_192 : decode cL_law 192 = .ok (.iconst 1, 1) := by decide +kernel
theorem dL_law_193 : decode cL_law 193 = .ok (.iadd, 1) := by decide +kernel
theorem dL_law_194 : decode cL_law 194 = .ok (.iaload, 1) := by decide +kernel
theorem dL_law_195 : decode cL_law 195 = .ok (.invokevirtual 17, 3) := by decide +kernel
theorem dL_law_198 : decode cL_law 198 = .ok (.if_icmp .eq 928, 3) := by decide +kernel
theorem dL_law_201 : decode cL_law 201 = .ok (.iconst 0, 1) := by decide +kernel
theorem dL_law_202 : decode cL_law 202 = .ok (.ireturn, 1) := by decide +kernel
theorem dL_law_203 : decode cL_law 203 = .ok (.aload_n 1, 1) := by decide +kernel
theorem dL_law_204 : decode cL_law 204 = .ok (.invokevirtual 18, 3) := by decide +kernel
theorem dL_law_207 : decode cL_law 207 = .ok (.aload_n 2, 1) := by decide +kernel
theorem dL_law_208 : decode cL_law 208 = .ok (.invokevirtual 22, 3) := by decide +kernel
theorem dL_law_211 : decode cL_law 211 = .ok (.if_icmp .eq 915, 3) := by decide +kernel
theorem dL_law_214 : decode cL_law 214 = .ok (.iconst 0, 1) := by decide +kernel
theorem dL_law_215 : decode cL_law 215 = .ok (.ireturn, 1) := by decide +kernel
theorem dL_law_216 : decode cL_law 216 = .ok (.aload_n 1, 1) := by decide +kernel
theorem dL_law_217 : decode cL_law 217 = .ok (.invokevirtual 23, 3) := by decide +kernel
theorem dL_law_220 : decode cL_law 220 = .ok (.aload_n 2, 1) := by decide +kernel
theorem dL_law_221 : decode cL_law 221 = .ok (.invokevirtual 26, 3) := by decide +kernel
theorem dL_law_224 : decode cL_law 224 = .ok (.if_icmp .eq 902, 3) := by decide +kernel
theorem dL_law_227 : decode cL_law 227 = .ok (.iconst 0, 1) := by decide +kernel
theorem dL_law_228 : decode cL_law 228 = .ok (.ireturn, 1) := by decide +kernel
theorem dL_law_229 : decode cL_law 229 = .ok (.aload_n 1, 1) := by decide +kernel
theorem dL_law_230 : decode cL_law 230 = .ok (.aload_n 0, 1) := by decide +kernel
theorem dL_law_231 : decode cL_law 231 = .ok (.iload_n 3, 1) := by decide +kernel
theorem dL_law_232 : decode cL_law 232 = .ok (.iconst 1, 1) := by decide +kernel
theorem dL_law_233 : decode cL_law 233 = .ok (.iadd, 1) := by decide +kernel
theorem dL_law_234 : decode cL_law 234 = .ok (.iaload, 1) := by decide +kernel
theorem dL_law_235 : decode cL_law 235 = .ok (.aload_n 0, 1) := by decide +kernel
theorem dL_law_236 : decode cL_law 236 = .ok (.iload_n 3, 1) := by decide +kernel
theorem dL_law_237 : decode cL_law 237 = .ok (.iconst 2, 1) := by decide +kernel
theorem dL_law_238 : decode cL_law 238 = .ok (.iadd, 1) := by decide +kernel
theorem dL_law_239 : decode cL_law 239 = .ok (.iaload, 1) := by decide +kernel
theorem dL_law_240 : decode cL_law 240 = .ok (.invokevirtual 27, 3) := by decide +kernel
theorem dL_law_243 : decode cL_law 243 = .ok (.aload_n 2, 1) := by decide +kernel
theorem dL_law_244 : decode cL_law 244 = .ok (.aload_n 0, 1) := by decide +kernel
theorem dL_law_245 : decode cL_law 245 = .ok (.iload_n 3, 1) := by decide +kernel
theorem dL_law_246 : decode cL_law 246 = .ok (.iconst 1, 1) := by decide +kernel
theorem dL_law_247 : decode cL_law 247 = .ok (.iadd, 1) := by decide +kernel
theorem dL_law_248 : decode cL_law 248 = .ok (.iaload, 1) := by decide +kernel
theorem dL_law_249 : decode cL_law 249 = .ok (.aload_n 0, 1) := by decide +kernel
theorem dL_law_250 : decode cL_law 250 = .ok (.iload_n 3, 1) := by decide +kernel
theorem dL_law_251 : decode cL_law 251 = .ok (.iconst 2, 1) := by decide +kernel
theorem dL_law_252 : decode cL_law 252 = .ok (.iadd, 1) := by decide +kernel
theorem dL_law_253 : decode cL_law 253 = .ok (.iaload, 1) := by decide +kernel
theorem dL_law_254 : decode cL_law 254 = .ok (.invokevirtual 31, 3) := by decide +kernel
theorem dL_law_257 : decode cL_law 257 = .ok (.if_icmp .eq 869, 3) := by decide +kernel
theorem dL_law_260 : decode cL_law 260 = .ok (.iconst 0, 1) := by decide +kernel
theorem dL_law_261 : decode cL_law 261 = .ok (.ireturn, 1) := by decide +kernel
theorem dL_law_262 : decode cL_law 262 = .ok (.aload_n 1, 1) := by decide +kernel
theorem dL_law_263 : decode cL_law 263 = .ok (.aload_n 0, 1) := by decide +kernel
theorem dL_law_264 : decode cL_law 264 = .ok (.iload_n 3, 1) := by decide +kernel
theorem dL_law_265 : decode cL_law 265 = .ok (.iconst 1, 1) := by decide +kernel
theorem dL_law_266 : decode cL_law 266 = .ok (.iadd, 1) := by decide +kernel
theorem dL_law_267 : decode cL_law 267 = .ok (.iaload, 1) := by decide +kernel
theorem dL_law_268 : decode cL_law 268 = .ok (.aload_n 0, 1) := by decide +kernel
theorem dL_law_269 : decode cL_law 269 = .ok (.iload_n 3, 1) := by decide +kernel
theorem dL_law_270 : decode cL_law 270 = .ok (.iconst 2, 1) := by decide +kernel
theorem dL_law_271 : decode cL_law 271 = .ok (.iadd, 1) := by decide +kernel
theorem dL_law_272 : decode cL_law 272 = .ok (.iaload, 1) := by decide +kernel
theorem dL_law_273 : decode cL_law 273 = .ok (.invokevirtual 32, 3) := by decide +kernel
theorem dL_law_276 : decode cL_law 276 = .ok (.aload_n 2, 1) := by decide +kernel
theorem dL_law_277 : decode cL_law 277 = .ok (.aload_n 0, 1) := by decide +kernel
theorem dL_law_278 : decode cL_law 278 = .ok (.iload_n 3, 1) := by decide +kernel
theorem dL_law_279 : decode cL_law 279 = .ok (.iconst 1, 1) := by decide +kernel
theorem dL_law_280 : decode cL_law 280 = .ok (.iadd, 1) := by decide +kernel
theorem dL_law_281 : decode cL_law 281 = .ok (.iaload, 1) := by decide +kernel
theorem dL_law_282 : decode cL_law 282 = .ok (.aload_n 0, 1) := by decide +kernel
theorem dL_law_283 : decode cL_law 283 = .ok (.iload_n 3, 1) := by decide +kernel
theorem dL_law_284 : decode cL_law 284 = .ok (.iconst 2, 1) := by decide +kernel
theorem dL_law_285 : decode cL_law 285 = .ok (.iadd, 1) := by decide +kernel
theorem dL_law_286 : decode cL_law 286 = .ok (.iaload, 1) := by decide +kernel
theorem dL_law_287 : decode cL_law 287 = .ok (.invokevirtual 35, 3) := by decide +kernel
theorem dL_law_290 : decode cL_law 290 = .ok (.if_icmp .eq 836, 3) := by decide +kernel
theorem dL_law_293 : decode cL_law 293 = .ok (.iconst 0, 1) := by decide +kernel
theorem dL_law_294 : decode cL_law 294 = .ok (.ireturn, 1) := by decide +kernel
theorem dL_law_295 : decode cL_law 295 = .ok (.aload_n 1, 1) := by decide +kernel
theorem dL_law_296 : decode cL_law 296 = .ok (.aload_n 0, 1) := by decide +kernel
theorem dL_law_297 : decode cL_law 297 = .ok (.iload_n 3, 1) := by decide +kernel
theorem dL_law_298 : decode cL_law 298 = .ok (.iconst 1, 1) := by decide +kernel
theorem dL_law_299 : decode cL_law 299 = .ok (.iadd, 1) := by decide +kernel
theorem dL_law_300 : decode cL_law 300 = .ok (.iaload, 1) := by decide +kernel
theorem dL_law_301 : decode cL_law 301 = .ok (.aload_n 0, 1) := by decide +kernel
theorem dL_law_302 : decode cL_law 302 = .ok (.iload_n 3, 1) := by decide +kernel
theorem dL_law_303 : decode cL_law 303 = .ok (.iconst 2, 1) := by decide +kernel
theorem dL_law_304 : decode cL_law 304 = .ok (.iadd, 1) := by decide +kernel
theorem dL_law_305 : decode cL_law 305 = .ok (.iaload, 1) := by decide +kernel
theorem dL_law_306 : decode cL_law 306 = .ok (.invokevirtual 36, 3) := by decide +kernel
theorem dL_law_309 : decode cL_law 309 = .ok (.aload_n 2, 1) := by decide +kernel
theorem dL_law_310 : decode cL_law 310 = .ok (.aload_n 0, 1) := by decide +kernel
theorem dL_law_311 : decode cL_law 311 = .ok (.iload_n 3, 1) := by decide +kernel
theorem dL_law_312 : decode cL_law 312 = .ok (.iconst 1, 1) := by decide +kernel
theorem dL_law_313 : decode cL_law 313 = .ok (.iadd, 1) := by decide +kernel
theorem dL_law_314 : decode cL_law 314 = .ok (.iaload, 1) := by decide +kernel
theorem dL_law_315 : decode cL_law 315 = .ok (.aload_n 0, 1) := by decide +kernel
theorem dL_law_316 : decode cL_law 316 = .ok (.iload_n 3, 1) := by decide +kernel
theorem dL_law_317 : decode cL_law 317 = .ok (.iconst 2, 1) := by decide +kernel
theorem dL_law_318 : decode cL_law 318 = .ok (.iadd, 1) := by decide +kernel
theorem dL_law_319 : decode cL_law 319 = .ok (.iaload, 1) := by decide +kernel
theorem dL_law_320 : decode cL_law 320 = .ok (.invokevirtual 39, 3) := by decide +kernel
theorem dL_law_323 : decode cL_law 323 = .ok (.if_icmp .eq 803, 3) := by decide +kernel
theorem dL_law_326 : decode cL_law 326 = .ok (.iconst 0, 1) := by decide +kernel
theorem dL_law_327 : decode cL_law 327 = .ok (.ireturn, 1) := by decide +kernel
theorem dL_law_328 : decode cL_law 328 = .ok (.aload_n 1, 1) := by decide +kernel
theorem dL_law_329 : decode cL_law 329 = .ok (.aload_n 0, 1) := by decide +kernel
theorem dL_law_330 : decode cL_law 330 = .ok (.iload_n 3, 1) := by decide +kernel
theorem dL_law_331 : decode cL_law 331 = .ok (.iconst 1, 1) := by decide +kernel
theorem dL_law_332 : decode cL_law 332 = .ok (.iadd, 1) := by decide +kernel
theorem dL_law_333 : decode cL_law 333 = .ok (.iaload, 1) := by decide +kernel
theorem dL_law_334 : decode cL_law 334 = .ok (.aload_n 0, 1) := by decide +kernel
theorem dL_law_335 : decode cL_law 335 = .ok (.iload_n 3, 1) := by decide +kernel
theorem dL_law_336 : decode cL_law 336 = .ok (.iconst 2, 1) := by decide +kernel
theorem dL_law_337 : decode cL_law 337 = .ok (.iadd, 1) := by decide +kernel
theorem dL_law_338 : decode cL_law 338 = .ok (.iaload, 1) := by decide +kernel
theorem dL_law_339 : decode cL_law 339 = .ok (.invokevirtual 40, 3) := by decide +kernel
theorem dL_law_342 : decode cL_law 342 = .ok (.aload_n 2, 1) := by decide +kernel
theorem dL_law_343 : decode cL_law 343 = .ok (.aload_n 0, 1) := by decide +kernel
theorem dL_law_344 : decode cL_law 344 = .ok (.iload_n 3, 1) := by decide +kernel
theorem dL_law_345 : decode cL_law 345 = .ok (.iconst 1, 1) := by decide +kernel
theorem dL_law_346 : decode cL_law 346 = .ok (.iadd, 1) := by decide +kernel
theorem dL_law_347 : decode cL_law 347 = .ok (.iaload, 1) := by decide +kernel
theorem dL_law_348 : decode cL_law 348 = .ok (.aload_n 0, 1) := by decide +kernel
theorem dL_law_349 : decode cL_law 349 = .ok (.iload_n 3, 1) := by decide +kernel
theorem dL_law_350 : decode cL_law 350 = .ok (.iconst 2, 1) := by decide +kernel
theorem dL_law_351 : decode cL_law 351 = .ok (.iadd, 1) := by decide +kernel
theorem dL_law_352 : decode cL_law 352 = .ok (.iaload, 1) := by decide +kernel
theorem dL_law_353 : decode cL_law 353 = .ok (.invokevirtual 43, 3) := by decide +kernel
theorem dL_law_356 : decode cL_law 356 = .ok (.if_icmp .eq 770, 3) := by decide +kernel
theorem dL_law_359 : decode cL_law 359 = .ok (.iconst 0, 1) := by decide +kernel
theorem dL_law_360 : decode cL_law 360 = .ok (.ireturn, 1) := by decide +kernel
theorem dL_law_361 : decode cL_law 361 = .ok (.aload_n 1, 1) := by decide +kernel
theorem dL_law_362 : decode cL_law 362 = .ok (.aload_n 0, 1) := by decide +kernel
theorem dL_law_363 : decode cL_law 363 = .ok (.iload_n 3, 1) := by decide +kernel
theorem dL_law_364 : decode cL_law 364 = .ok (.iconst 1, 1) := by decide +kernel
theorem dL_law_365 : decode cL_law 365 = .ok (.iadd, 1) := by decide +kernel
theorem dL_law_366 : decode cL_law 366 = .ok (.iaload, 1) := by decide +kernel
theorem dL_law_367 : decode cL_law 367 = .ok (.invokevirtual 44, 3) := by decide +kernel
theorem dL_law_370 : decode cL_law 370 = .ok (.aload_n 2, 1) := by decide +kernel
theorem dL_law_371 : decode cL_law 371 = .ok (.aload_n 0, 1) := by decide +kernel
theorem dL_law_372 : decode cL_law 372 = .ok (.iload_n 3, 1) := by decide +kernel
theorem dL_law_373 : decode cL_law 373 = .ok (.iconst 1, 1) := by decide +kernel
theorem dL_law_374 : decode cL_law 374 = .ok (.iadd, 1) := by decide +kernel
theorem dL_law_375 : decode cL_law 375 = .ok (.iaload, 1) := by decide +kernel
theorem dL_law_376 : decode cL_law 376 = .ok (.invokevirtual 47, 3) := by decide +kernel
theorem dL_law_379 : decode cL_law 379 = .ok (.if_icmp .eq 747, 3) := by decide +kernel
theorem dL_law_382 : decode cL_law 382 = .ok (.iconst 0, 1) := by decide +kernel
theorem dL_law_383 : decode cL_law 383 = .ok (.ireturn, 1) := by decide +kernel
theorem dL_law_384 : decode cL_law 384 = .ok (.aload_n 1, 1) := by decide +kernel
theorem dL_law_385 : decode cL_law 385 = .ok (.aload_n 0, 1) := by decide +kernel
theorem dL_law_386 : decode cL_law 386 = .ok (.iload_n 3, 1) := by decide +kernel
theorem dL_law_387 : decode cL_law 387 = .ok (.iconst 1, 1) := by decide +kernel
theorem dL_law_388 : decode cL_law 388 = .ok (.iadd, 1) := by decide +kernel
theorem dL_law_389 : decode cL_law 389 = .ok (.iaload, 1) := by decide +kernel
theorem dL_law_390 : decode cL_law 390 = .ok (.invokevirtual 48, 3) := by decide +kernel
theorem dL_law_393 : decode cL_law 393 = .ok (.aload_n 2, 1) := by decide +kernel
theorem dL_law_394 : decode cL_law 394 = .ok (.aload_n 0, 1) := by decide +kernel
theorem dL_law_395 : decode cL_law 395 = .ok (.iload_n 3, 1) := by decide +kernel
theorem dL_law_396 : decode cL_law 396 = .ok (.iconst 1, 1) := by decide +kernel
theorem dL_law_397 : decode cL_law 397 = .ok (.iadd, 1) := by decide +kernel
theorem dL_law_398 : decode cL_law 398 = .ok (.iaload, 1) := by decide +kernel
theorem dL_law_399 : decode cL_law 399 = .ok (.invokevirtual 51, 3) := by decide +kernel
theorem dL_law_402 : decode cL_law 402 = .ok (.if_icmp .eq 724, 3) := by decide +kernel
theorem dL_law_405 : decode cL_law 405 = .ok (.iconst 0, 1) := by decide +kernel
theorem dL_law_406 : decode cL_law 406 = .ok (.ireturn, 1) := by decide +kernel
theorem dL_law_407 : decode cL_law 407 = .ok (.aload_n 1, 1) := by decide +kernel
theorem dL_law_408 : decode cL_law 408 = .ok (.aload_n 0, 1) := by decide +kernel
theorem dL_law_409 : decode cL_law 409 = .ok (.iload_n 3, 1) := by decide +kernel
theorem dL_law_410 : decode cL_law 410 = .ok (.iconst 1, 1) := by decide +kernel
theorem dL_law_411 : decode cL_law 411 = .ok (.iadd, 1) := by decide +kernel
theorem dL_law_412 : decode cL_law 412 = .ok (.iaload, 1) := by decide +kernel
theorem dL_law_413 : decode cL_law 413 = .ok (.aload_n 0, 1) := by decide +kernel
theorem dL_law_414 : decode cL_law 414 = .ok (.iload_n 3, 1) := by decide +kernel
theorem dL_law_415 : decode cL_law 415 = .ok (.iconst 2, 1) := by decide +kernel
theorem dL_law_416 : decode cL_law 416 = .ok (.iadd, 1) := by decide +kernel
theorem dL_law_417 : decode cL_law 417 = .ok (.iaload, 1) := by decide +kernel
theorem dL_law_418 : decode cL_law 418 = .ok (.invokevirtual 52, 3) := by decide +kernel
theorem dL_law_421 : decode cL_law 421 = .ok (.aload_n 2, 1) := by decide +kernel
theorem dL_law_422 : decode cL_law 422 = .ok (.aload_n 0, 1) := by decide +kernel
theorem dL_law_423 : decode cL_law 423 = .ok (.iload_n 3, 1) := by decide +kernel
theorem dL_law_424 : decode cL_law 424 = .ok (.iconst 1, 1) := by decide +kernel
theorem dL_law_425 : decode cL_law 425 = .ok (.iadd, 1) := by decide +kernel
theorem dL_law_426 : decode cL_law 426 = .ok (.iaload, 1) := by decide +kernel
theorem dL_law_427 : decode cL_law 427 = .ok (.aload_n 0, 1) := by decide +kernel
theorem dL_law_428 : decode cL_law 428 = .ok (.iload_n 3, 1) := by decide +kernel
theorem dL_law_429 : decode cL_law 429 = .ok (.iconst 2, 1) := by decide +kernel
theorem dL_law_430 : decode cL_law 430 = .ok (.iadd, 1) := by decide +kernel
theorem dL_law_431 : decode cL_law 431 = .ok (.iaload, 1) := by decide +kernel
theorem dL_law_432 : decode cL_law 432 = .ok (.invokevirtual 56, 3) := by decide +kernel
theorem dL_law_435 : decode cL_law 435 = .ok (.lcmp, 1) := by decide +kernel
theorem dL_law_436 : decode cL_law 436 = .ok (.ifCond .eq 690, 3) := by decide +kernel
theorem dL_law_439 : decode cL_law 439 = .ok (.iconst 0, 1) := by decide +kernel
theorem dL_law_440 : decode cL_law 440 = .ok (.ireturn, 1) := by decide +kernel
theorem dL_law_441 : decode cL_law 441 = .ok (.aload_n 1, 1) := by decide +kernel
theorem dL_law_442 : decode cL_law 442 = .ok (.aload_n 0, 1) := by decide +kernel
theorem dL_law_443 : decode cL_law 443 = .ok (.iload_n 3, 1) := by decide +kernel
theorem dL_law_444 : decode cL_law 444 = .ok (.iconst 1, 1) := by decide +kernel
theorem dL_law_445 : decode cL_law 445 = .ok (.iadd, 1) := by decide +kernel
theorem dL_law_446 : decode cL_law 446 = .ok (.iaload, 1) := by decide +kernel
theorem dL_law_447 : decode cL_law 447 = .ok (.aload_n 0, 1) := by decide +kernel
theorem dL_law_448 : decode cL_law 448 = .ok (.iload_n 3, 1) := by decide +kernel
theorem dL_law_449 : decode cL_law 449 = .ok (.iconst 2, 1) := by decide +kernel
theorem dL_law_450 : decode cL_law 450 = .ok (.iadd, 1) := by decide +kernel
theorem dL_law_451 : decode cL_law 451 = .ok (.iaload, 1) := by decide +kernel
theorem dL_law_452 : decode cL_law 452 = .ok (.invokevirtual 57, 3) := by decide +kernel
theorem dL_law_455 : decode cL_law 455 = .ok (.aload_n 2, 1) := by decide +kernel
theorem dL_law_456 : decode cL_law 456 = .ok (.aload_n 0, 1) := by decide +kernel
theorem dL_law_457 : decode cL_law 457 = .ok (.iload_n 3, 1) := by decide +kernel
theorem dL_law_458 : decode cL_law 458 = .ok (.iconst 1, 1) := by decide +kernel
theorem dL_law_459 : decode cL_law 459 = .ok (.iadd, 1) := by decide +kernel
theorem dL_law_460 : decode cL_law 460 = .ok (.iaload, 1) := by decide +kernel
theorem dL_law_461 : decode cL_law 461 = .ok (.aload_n 0, 1) := by decide +kernel
theorem dL_law_462 : decode cL_law 462 = .ok (.iload_n 3, 1) := by decide +kernel
theorem dL_law_463 : decode cL_law 463 = .ok (.iconst 2, 1) := by decide +kernel
theorem dL_law_464 : decode cL_law 464 = .ok (.iadd, 1) := by decide +kernel
theorem dL_law_465 : decode cL_law 465 = .ok (.iaload, 1) := by decide +kernel
theorem dL_law_466 : decode cL_law 466 = .ok (.invokevirtual 60, 3) := by decide +kernel
theorem dL_law_469 : decode cL_law 469 = .ok (.lcmp, 1) := by decide +kernel
theorem dL_law_470 : decode cL_law 470 = .ok (.ifCond .eq 656, 3) := by decide +kernel
theorem dL_law_473 : decode cL_law 473 = .ok (.iconst 0, 1) := by decide +kernel
theorem dL_law_474 : decode cL_law 474 = .ok (.ireturn, 1) := by decide +kernel
theorem dL_law_475 : decode cL_law 475 = .ok (.aload_n 1, 1) := by decide +kernel
theorem dL_law_476 : decode cL_law 476 = .ok (.aload_n 0, 1) := by decide +kernel
theorem dL_law_477 : decode cL_law 477 = .ok (.iload_n 3, 1) := by decide +kernel
theorem dL_law_478 : decode cL_law 478 = .ok (.iconst 1, 1) := by decide +kernel
theorem dL_law_479 : decode cL_law 479 = .ok (.iadd, 1) := by decide +kernel
theorem dL_law_480 : decode cL_law 480 = .ok (.iaload, 1) := by decide +kernel
theorem dL_law_481 : decode cL_law 481 = .ok (.invokevirtual 61, 3) := by decide +kernel
theorem dL_law_484 : decode cL_law 484 = .ok (.aload_n 2, 1) := by decide +kernel
theorem dL_law_485 : decode cL_law 485 = .ok (.aload_n 0, 1) := by decide +kernel
theorem dL_law_486 : decode cL_law 486 = .ok (.iload_n 3, 1) := by decide +kernel
theorem dL_law_487 : decode cL_law 487 = .ok (.iconst 1, 1) := by decide +kernel
theorem dL_law_488 : decode cL_law 488 = .ok (.iadd, 1) := by decide +kernel
theorem dL_law_489 : decode cL_law 489 = .ok (.iaload, 1) := by decide +kernel
theorem dL_law_490 : decode cL_law 490 = .ok (.invokevirtual 64, 3) := by decide +kernel
theorem dL_law_493 : decode cL_law 493 = .ok (.if_icmp .eq 633, 3) := by decide +kernel
theorem dL_law_496 : decode cL_law 496 = .ok (.iconst 0, 1) := by decide +kernel
theorem dL_law_497 : decode cL_law 497 = .ok (.ireturn, 1) := by decide +kernel
theorem dL_law_498 : decode cL_law 498 = .ok (.aload_n 1, 1) := by decide +kernel
theorem dL_law_499 : decode cL_law 499 = .ok (.aload_n 0, 1) := by decide +kernel
theorem dL_law_500 : decode cL_law 500 = .ok (.iload_n 3, 1) := by decide +kernel
theorem dL_law_501 : decode cL_law 501 = .ok (.iconst 1, 1) := by decide +kernel
theorem dL_law_502 : decode cL_law 502 = .ok (.iadd, 1) := by decide +kernel
theorem dL_law_503 : decode cL_law 503 = .ok (.iaload, 1) := by decide +kernel
theorem dL_law_504 : decode cL_law 504 = .ok (.invokevirtual 65, 3) := by decide +kernel
theorem dL_law_507 : decode cL_law 507 = .ok (.aload_n 2, 1) := by decide +kernel
theorem dL_law_508 : decode cL_law 508 = .ok (.aload_n 0, 1) := by decide +kernel
theorem dL_law_509 : decode cL_law 509 = .ok (.iload_n 3, 1) := by decide +kernel
theorem dL_law_510 : decode cL_law 510 = .ok (.iconst 1, 1) := by decide +kernel
theorem dL_law_511 : decode cL_law 511 = .ok (.iadd, 1) := by decide +kernel
theorem dL_law_512 : decode cL_law 512 = .ok (.iaload, 1) := by decide +kernel
theorem dL_law_513 : decode cL_law 513 = .ok (.invokevirtual 68, 3) := by decide +kernel
theorem dL_law_516 : decode cL_law 516 = .ok (.if_icmp .eq 610, 3) := by decide +kernel
theorem dL_law_519 : decode cL_law 519 = .ok (.iconst 0, 1) := by decide +kernel
theorem dL_law_520 : decode cL_law 520 = .ok (.ireturn, 1) := by decide +kernel
theorem dL_law_521 : decode cL_law 521 = .ok (.aload_n 1, 1) := by decide +kernel
theorem dL_law_522 : decode cL_law 522 = .ok (.aload_n 0, 1) := by decide +kernel
theorem dL_law_523 : decode cL_law 523 = .ok (.iload_n 3, 1) := by decide +kernel
theorem dL_law_524 : decode cL_law 524 = .ok (.iconst 1, 1) := by decide +kernel
theorem dL_law_525 : decode cL_law 525 = .ok (.iadd, 1) := by decide +kernel
theorem dL_law_526 : decode cL_law 526 = .ok (.iaload, 1) := by decide +kernel
theorem dL_law_527 : decode cL_law 527 = .ok (.aload_n 0, 1) := by decide +kernel
theorem dL_law_528 : decode cL_law 528 = .ok (.iload_n 3, 1) := by decide +kernel
theorem dL_law_529 : decode cL_law 529 = .ok (.iconst 2, 1) := by decide +kernel
theorem dL_law_530 : decode cL_law 530 = .ok (.iadd, 1) := by decide +kernel
theorem dL_law_531 : decode cL_law 531 = .ok (.iaload, 1) := by decide +kernel
theorem dL_law_532 : decode cL_law 532 = .ok (.invokevirtual 69, 3) := by decide +kernel
theorem dL_law_535 : decode cL_law 535 = .ok (.aload_n 2, 1) := by decide +kernel
theorem dL_law_536 : decode cL_law 536 = .ok (.aload_n 0, 1) := by decide +kernel
theorem dL_law_537 : decode cL_law 537 = .ok (.iload_n 3, 1) := by decide +kernel
theorem dL_law_538 : decode cL_law 538 = .ok (.iconst 1, 1) := by decide +kernel
theorem dL_law_539 : decode cL_law 539 = .ok (.iadd, 1) := by decide +kernel
theorem dL_law_540 : decode cL_law 540 = .ok (.iaload, 1) := by decide +kernel
theorem dL_law_541 : decode cL_law 541 = .ok (.aload_n 0, 1) := by decide +kernel
theorem dL_law_542 : decode cL_law 542 = .ok (.iload_n 3, 1) := by decide +kernel
theorem dL_law_543 : decode cL_law 543 = .ok (.iconst 2, 1) := by decide +kernel
theorem dL_law_544 : decode cL_law 544 = .ok (.iadd, 1) := by decide +kernel
theorem dL_law_545 : decode cL_law 545 = .ok (.iaload, 1) := by decide +kernel
theorem dL_law_546 : decode cL_law 546 = .ok (.invokevirtual 72, 3) := by decide +kernel
theorem dL_law_549 : decode cL_law 549 = .ok (.if_icmp .eq 577, 3) := by decide +kernel
theorem dL_law_552 : decode cL_law 552 = .ok (.iconst 0, 1) := by decide +kernel
theorem dL_law_553 : decode cL_law 553 = .ok (.ireturn, 1) := by decide +kernel
theorem dL_law_554 : decode cL_law 554 = .ok (.aload_n 1, 1) := by decide +kernel
theorem dL_law_555 : decode cL_law 555 = .ok (.aload_n 0, 1) := by decide +kernel
theorem dL_law_556 : decode cL_law 556 = .ok (.iload_n 3, 1) := by decide +kernel
theorem dL_law_557 : decode cL_law 557 = .ok (.iconst 1, 1) := by decide +kernel
theorem dL_law_558 : decode cL_law 558 = .ok (.iadd, 1) := by decide +kernel
theorem dL_law_559 : decode cL_law 559 = .ok (.iaload, 1) := by decide +kernel
theorem dL_law_560 : decode cL_law 560 = .ok (.aload_n 0, 1) := by decide +kernel
theorem dL_law_561 : decode cL_law 561 = .ok (.iload_n 3, 1) := by decide +kernel
theorem dL_law_562 : decode cL_law 562 = .ok (.iconst 2, 1) := by decide +kernel
theorem dL_law_563 : decode cL_law 563 = .ok (.iadd, 1) := by decide +kernel
theorem dL_law_564 : decode cL_law 564 = .ok (.iaload, 1) := by decide +kernel
theorem dL_law_565 : decode cL_law 565 = .ok (.invokevirtual 73, 3) := by decide +kernel
theorem dL_law_568 : decode cL_law 568 = .ok (.aload_n 2, 1) := by decide +kernel
theorem dL_law_569 : decode cL_law 569 = .ok (.aload_n 0, 1) := by decide +kernel
theorem dL_law_570 : decode cL_law 570 = .ok (.iload_n 3, 1) := by decide +kernel
theorem dL_law_571 : decode cL_law 571 = .ok (.iconst 1, 1) := by decide +kernel
theorem dL_law_572 : decode cL_law 572 = .ok (.iadd, 1) := by decide +kernel
theorem dL_law_573 : decode cL_law 573 = .ok (.iaload, 1) := by decide +kernel
theorem dL_law_574 : decode cL_law 574 = .ok (.aload_n 0, 1) := by decide +kernel
theorem dL_law_575 : decode cL_law 575 = .ok (.iload_n 3, 1) := by decide +kernel
theorem dL_law_576 : decode cL_law 576 = .ok (.iconst 2, 1) := by decide +kernel
theorem dL_law_577 : decode cL_law 577 = .ok (.iadd, 1) := by decide +kernel
theorem dL_law_578 : decode cL_law 578 = .ok (.iaload, 1) := by decide +kernel
theorem dL_law_579 : decode cL_law 579 = .ok (.invokevirtual 76, 3) := by decide +kernel
theorem dL_law_582 : decode cL_law 582 = .ok (.if_icmp .eq 544, 3) := by decide +kernel
theorem dL_law_585 : decode cL_law 585 = .ok (.iconst 0, 1) := by decide +kernel
theorem dL_law_586 : decode cL_law 586 = .ok (.ireturn, 1) := by decide +kernel
theorem dL_law_587 : decode cL_law 587 = .ok (.aload_n 1, 1) := by decide +kernel
theorem dL_law_588 : decode cL_law 588 = .ok (.aload_n 0, 1) := by decide +kernel
theorem dL_law_589 : decode cL_law 589 = .ok (.iload_n 3, 1) := by decide +kernel
theorem dL_law_590 : decode cL_law 590 = .ok (.iconst 1, 1) := by decide +kernel
theorem dL_law_591 : decode cL_law 591 = .ok (.iadd, 1) := by decide +kernel
theorem dL_law_592 : decode cL_law 592 = .ok (.iaload, 1) := by decide +kernel
theorem dL_law_593 : decode cL_law 593 = .ok (.invokevirtual 77, 3) := by decide +kernel
theorem dL_law_596 : decode cL_law 596 = .ok (.aload_n 2, 1) := by decide +kernel
theorem dL_law_597 : decode cL_law 597 = .ok (.aload_n 0, 1) := by decide +kernel
theorem dL_law_598 : decode cL_law 598 = .ok (.iload_n 3, 1) := by decide +kernel
theorem dL_law_599 : decode cL_law 599 = .ok (.iconst 1, 1) := by decide +kernel
theorem dL_law_600 : decode cL_law 600 = .ok (.iadd, 1) := by decide +kernel
theorem dL_law_601 : decode cL_law 601 = .ok (.iaload, 1) := by decide +kernel
theorem dL_law_602 : decode cL_law 602 = .ok (.invokevirtual 81, 3) := by decide +kernel
theorem dL_law_605 : decode cL_law 605 = .ok (.lcmp, 1) := by decide +kernel
theorem dL_law_606 : decode cL_law 606 = .ok (.ifCond .eq 520, 3) := by decide +kernel
theorem dL_law_609 : decode cL_law 609 = .ok (.iconst 0, 1) := by decide +kernel
theorem dL_law_610 : decode cL_law 610 = .ok (.ireturn, 1) := by decide +kernel
theorem dL_law_611 : decode cL_law 611 = .ok (.aload_n 1, 1) := by decide +kernel
theorem dL_law_612 : decode cL_law 612 = .ok (.invokevirtual 82, 3) := by decide +kernel
theorem dL_law_615 : decode cL_law 615 = .ok (.aload_n 2, 1) := by decide +kernel
theorem dL_law_616 : decode cL_law 616 = .ok (.invokevirtual 85, 3) := by decide +kernel
theorem dL_law_619 : decode cL_law 619 = .ok (.if_icmp .eq 507, 3) := by decide +kernel
theorem dL_law_622 : decode cL_law 622 = .ok (.iconst 0, 1) := by decide +kernel
theorem dL_law_623 : decode cL_law 623 = .ok (.ireturn, 1) := by decide +kernel
theorem dL_law_624 : decode cL_law 624 = .ok (.aload_n 1, 1) := by decide +kernel
theorem dL_law_625 : decode cL_law 625 = .ok (.aload_n 0, 1) := by decide +kernel
theorem dL_law_626 : decode cL_law 626 = .ok (.iload_n 3, 1) := by decide +kernel
theorem dL_law_627 : decode cL_law 627 = .ok (.iconst 1, 1) := by decide +kernel
theorem dL_law_628 : decode cL_law 628 = .ok (.iadd, 1) := by decide +kernel
theorem dL_law_629 : decode cL_law 629 = .ok (.iaload, 1) := by decide +kernel
theorem dL_law_630 : decode cL_law 630 = .ok (.invokevirtual 86, 3) := by decide +kernel
theorem dL_law_633 : decode cL_law 633 = .ok (.aload_n 2, 1) := by decide +kernel
theorem dL_law_634 : decode cL_law 634 = .ok (.aload_n 0, 1) := by decide +kernel
theorem dL_law_635 : decode cL_law 635 = .ok (.iload_n 3, 1) := by decide +kernel
theorem dL_law_636 : decode cL_law 636 = .ok (.iconst 1, 1) := by decide +kernel
theorem dL_law_637 : decode cL_law 637 = .ok (.iadd, 1) := by decide +kernel
theorem dL_law_638 : decode cL_law 638 = .ok (.iaload, 1) := by decide +kernel
theorem dL_law_639 : decode cL_law 639 = .ok (.invokevirtual 89, 3) := by decide +kernel
theorem dL_law_642 : decode cL_law 642 = .ok (.lcmp, 1) := by decide +kernel
theorem dL_law_643 : decode cL_law 643 = .ok (.ifCond .eq 483, 3) := by decide +kernel
theorem dL_law_646 : decode cL_law 646 = .ok (.iconst 0, 1) := by decide +kernel
theorem dL_law_647 : decode cL_law 647 = .ok (.ireturn, 1) := by decide +kernel
theorem dL_law_648 : decode cL_law 648 = .ok (.aload_n 1, 1) := by decide +kernel
theorem dL_law_649 : decode cL_law 649 = .ok (.aload_n 0, 1) := by decide +kernel
theorem dL_law_650 : decode cL_law 650 = .ok (.iload_n 3, 1) := by decide +kernel
theorem dL_law_651 : decode cL_law 651 = .ok (.iconst 1, 1) := by decide +kernel
theorem dL_law_652 : decode cL_law 652 = .ok (.iadd, 1) := by decide +kernel
theorem dL_law_653 : decode cL_law 653 = .ok (.iaload, 1) := by decide +kernel
theorem dL_law_654 : decode cL_law 654 = .ok (.invokevirtual 90, 3) := by decide +kernel
theorem dL_law_657 : decode cL_law 657 = .ok (.aload_n 2, 1) := by decide +kernel
theorem dL_law_658 : decode cL_law 658 = .ok (.aload_n 0, 1) := by decide +kernel
theorem dL_law_659 : decode cL_law 659 = .ok (.iload_n 3, 1) := by decide +kernel
theorem dL_law_660 : decode cL_law 660 = .ok (.iconst 1, 1) := by decide +kernel
theorem dL_law_661 : decode cL_law 661 = .ok (.iadd, 1) := by decide +kernel
theorem dL_law_662 : decode cL_law 662 = .ok (.iaload, 1) := by decide +kernel
theorem dL_law_663 : decode cL_law 663 = .ok (.invokevirtual 93, 3) := by decide +kernel
theorem dL_law_666 : decode cL_law 666 = .ok (.if_icmp .eq 460, 3) := by decide +kernel
theorem dL_law_669 : decode cL_law 669 = .ok (.iconst 0, 1) := by decide +kernel
theorem dL_law_670 : decode cL_law 670 = .ok (.ireturn, 1) := by decide +kernel
theorem dL_law_671 : decode cL_law 671 = .ok (.aload_n 1, 1) := by decide +kernel
theorem dL_law_672 : decode cL_law 672 = .ok (.aload_n 0, 1) := by decide +kernel
theorem dL_law_673 : decode cL_law 673 = .ok (.iload_n 3, 1) := by decide +kernel
theorem dL_law_674 : decode cL_law 674 = .ok (.iconst 1, 1) := by decide +kernel
theorem dL_law_675 : decode cL_law 675 = .ok (.iadd, 1) := by decide +kernel
theorem dL_law_676 : decode cL_law 676 = .ok (.iaload, 1) := by decide +kernel
theorem dL_law_677 : decode cL_law 677 = .ok (.aload_n 0, 1) := by decide +kernel
theorem dL_law_678 : decode cL_law 678 = .ok (.iload_n 3, 1) := by decide +kernel
theorem dL_law_679 : decode cL_law 679 = .ok (.iconst 2, 1) := by decide +kernel
theorem dL_law_680 : decode cL_law 680 = .ok (.iadd, 1) := by decide +kernel
theorem dL_law_681 : decode cL_law 681 = .ok (.iaload, 1) := by decide +kernel
theorem dL_law_682 : decode cL_law 682 = .ok (.invokevirtual 94, 3) := by decide +kernel
theorem dL_law_685 : decode cL_law 685 = .ok (.aload_n 2, 1) := by decide +kernel
theorem dL_law_686 : decode cL_law 686 = .ok (.aload_n 0, 1) := by decide +kernel
theorem dL_law_687 : decode cL_law 687 = .ok (.iload_n 3, 1) := by decide +kernel
theorem dL_law_688 : decode cL_law 688 = .ok (.iconst 1, 1) := by decide +kernel
theorem dL_law_689 : decode cL_law 689 = .ok (.iadd, 1) := by decide +kernel
theorem dL_law_690 : decode cL_law 690 = .ok (.iaload, 1) := by decide +kernel
theorem dL_law_691 : decode cL_law 691 = .ok (.aload_n 0, 1) := by decide +kernel
theorem dL_law_692 : decode cL_law 692 = .ok (.iload_n 3, 1) := by decide +kernel
theorem dL_law_693 : decode cL_law 693 = .ok (.iconst 2, 1) := by decide +kernel
theorem dL_law_694 : decode cL_law 694 = .ok (.iadd, 1) := by decide +kernel
theorem dL_law_695 : decode cL_law 695 = .ok (.iaload, 1) := by decide +kernel
theorem dL_law_696 : decode cL_law 696 = .ok (.invokevirtual 97, 3) := by decide +kernel
theorem dL_law_699 : decode cL_law 699 = .ok (.lcmp, 1) := by decide +kernel
theorem dL_law_700 : decode cL_law 700 = .ok (.ifCond .eq 426, 3) := by decide +kernel
theorem dL_law_703 : decode cL_law 703 = .ok (.iconst 0, 1) := by decide +kernel
theorem dL_law_704 : decode cL_law 704 = .ok (.ireturn, 1) := by decide +kernel
theorem dL_law_705 : decode cL_law 705 = .ok (.aload_n 1, 1) := by decide +kernel
theorem dL_law_706 : decode cL_law 706 = .ok (.aload_n 0, 1) := by decide +kernel
theorem dL_law_707 : decode cL_law 707 = .ok (.iload_n 3, 1) := by decide +kernel
theorem dL_law_708 : decode cL_law 708 = .ok (.iconst 1, 1) := by decide +kernel
theorem dL_law_709 : decode cL_law 709 = .ok (.iadd, 1) := by decide +kernel
theorem dL_law_710 : decode cL_law 710 = .ok (.iaload, 1) := by decide +kernel
theorem dL_law_711 : decode cL_law 711 = .ok (.aload_n 0, 1) := by decide +kernel
theorem dL_law_712 : decode cL_law 712 = .ok (.iload_n 3, 1) := by decide +kernel
theorem dL_law_713 : decode cL_law 713 = .ok (.iconst 2, 1) := by decide +kernel
theorem dL_law_714 : decode cL_law 714 = .ok (.iadd, 1) := by decide +kernel
theorem dL_law_715 : decode cL_law 715 = .ok (.iaload, 1) := by decide +kernel
theorem dL_law_716 : decode cL_law 716 = .ok (.invokevirtual 98, 3) := by decide +kernel
theorem dL_law_719 : decode cL_law 719 = .ok (.aload_n 2, 1) := by decide +kernel
theorem dL_law_720 : decode cL_law 720 = .ok (.aload_n 0, 1) := by decide +kernel
theorem dL_law_721 : decode cL_law 721 = .ok (.iload_n 3, 1) := by decide +kernel
theorem dL_law_722 : decode cL_law 722 = .ok (.iconst 1, 1) := by decide +kernel
theorem dL_law_723 : decode cL_law 723 = .ok (.iadd, 1) := by decide +kernel
theorem dL_law_724 : decode cL_law 724 = .ok (.iaload, 1) := by decide +kernel
theorem dL_law_725 : decode cL_law 725 = .ok (.aload_n 0, 1) := by decide +kernel
theorem dL_law_726 : decode cL_law 726 = .ok (.iload_n 3, 1) := by decide +kernel
theorem dL_law_727 : decode cL_law 727 = .ok (.iconst 2, 1) := by decide +kernel
theorem dL_law_728 : decode cL_law 728 = .ok (.iadd, 1) := by decide +kernel
theorem dL_law_729 : decode cL_law 729 = .ok (.iaload, 1) := by decide +kernel
theorem dL_law_730 : decode cL_law 730 = .ok (.invokevirtual 101, 3) := by decide +kernel
theorem dL_law_733 : decode cL_law 733 = .ok (.if_icmp .eq 393, 3) := by decide +kernel
theorem dL_law_736 : decode cL_law 736 = .ok (.iconst 0, 1) := by decide +kernel
theorem dL_law_737 : decode cL_law 737 = .ok (.ireturn, 1) := by decide +kernel
theorem dL_law_738 : decode cL_law 738 = .ok (.aload_n 1, 1) := by decide +kernel
theorem dL_law_739 : decode cL_law 739 = .ok (.aload_n 0, 1) := by decide +kernel
theorem dL_law_740 : decode cL_law 740 = .ok (.iload_n 3, 1) := by decide +kernel
theorem dL_law_741 : decode cL_law 741 = .ok (.iconst 1, 1) := by decide +kernel
theorem dL_law_742 : decode cL_law 742 = .ok (.iadd, 1) := by decide +kernel
theorem dL_law_743 : decode cL_law 743 = .ok (.iaload, 1) := by decide +kernel
theorem dL_law_744 : decode cL_law 744 = .ok (.invokevirtual 102, 3) := by decide +kernel
theorem dL_law_747 : decode cL_law 747 = .ok (.aload_n 2, 1) := by decide +kernel
theorem dL_law_748 : decode cL_law 748 = .ok (.aload_n 0, 1) := by decide +kernel
theorem dL_law_749 : decode cL_law 749 = .ok (.iload_n 3, 1) := by decide +kernel
theorem dL_law_750 : decode cL_law 750 = .ok (.iconst 1, 1) := by decide +kernel
theorem dL_law_751 : decode cL_law 751 = .ok (.iadd, 1) := by decide +kernel
theorem dL_law_752 : decode cL_law 752 = .ok (.iaload, 1) := by decide +kernel
theorem dL_law_753 : decode cL_law 753 = .ok (.invokevirtual 105, 3) := by decide +kernel
theorem dL_law_756 : decode cL_law 756 = .ok (.if_icmp .eq 370, 3) := by decide +kernel
theorem dL_law_759 : decode cL_law 759 = .ok (.iconst 0, 1) := by decide +kernel
theorem dL_law_760 : decode cL_law 760 = .ok (.ireturn, 1) := by decide +kernel
theorem dL_law_761 : decode cL_law 761 = .ok (.aload_n 1, 1) := by decide +kernel
theorem dL_law_762 : decode cL_law 762 = .ok (.aload_n 0, 1) := by decide +kernel
theorem dL_law_763 : decode cL_law 763 = .ok (.iload_n 3, 1) := by decide +kernel
theorem dL_law_764 : decode cL_law 764 = .ok (.iconst 1, 1) := by decide +kernel
theorem dL_law_765 : decode cL_law 765 = .ok (.iadd, 1) := by decide +kernel
theorem dL_law_766 : decode cL_law 766 = .ok (.iaload, 1) := by decide +kernel
theorem dL_law_767 : decode cL_law 767 = .ok (.aload_n 0, 1) := by decide +kernel
theorem dL_law_768 : decode cL_law 768 = .ok (.iload_n 3, 1) := by decide +kernel
theorem dL_law_769 : decode cL_law 769 = .ok (.iconst 2, 1) := by decide +kernel
theorem dL_law_770 : decode cL_law 770 = .ok (.iadd, 1) := by decide +kernel
theorem dL_law_771 : decode cL_law 771 = .ok (.iaload, 1) := by decide +kernel
theorem dL_law_772 : decode cL_law 772 = .ok (.invokevirtual 106, 3) := by decide +kernel
theorem dL_law_775 : decode cL_law 775 = .ok (.aload_n 2, 1) := by decide +kernel
theorem dL_law_776 : decode cL_law 776 = .ok (.aload_n 0, 1) := by decide +kernel
theorem dL_law_777 : decode cL_law 777 = .ok (.iload_n 3, 1) := by decide +kernel
theorem dL_law_778 : decode cL_law 778 = .ok (.iconst 1, 1) := by decide +kernel
theorem dL_law_779 : decode cL_law 779 = .ok (.iadd, 1) := by decide +kernel
theorem dL_law_780 : decode cL_law 780 = .ok (.iaload, 1) := by decide +kernel
theorem dL_law_781 : decode cL_law 781 = .ok (.aload_n 0, 1) := by decide +kernel
theorem dL_law_782 : decode cL_law 782 = .ok (.iload_n 3, 1) := by decide +kernel
theorem dL_law_783 : decode cL_law 783 = .ok (.iconst 2, 1) := by decide +kernel
theorem dL_law_784 : decode cL_law 784 = .ok (.iadd, 1) := by decide +kernel
theorem dL_law_785 : decode cL_law 785 = .ok (.iaload, 1) := by decide +kernel
theorem dL_law_786 : decode cL_law 786 = .ok (.invokevirtual 109, 3) := by decide +kernel
theorem dL_law_789 : decode cL_law 789 = .ok (.lcmp, 1) := by decide +kernel
theorem dL_law_790 : decode cL_law 790 = .ok (.ifCond .eq 336, 3) := by decide +kernel
theorem dL_law_793 : decode cL_law 793 = .ok (.iconst 0, 1) := by decide +kernel
theorem dL_law_794 : decode cL_law 794 = .ok (.ireturn, 1) := by decide +kernel
theorem dL_law_795 : decode cL_law 795 = .ok (.aload_n 1, 1) := by decide +kernel
theorem dL_law_796 : decode cL_law 796 = .ok (.aload_n 0, 1) := by decide +kernel
theorem dL_law_797 : decode cL_law 797 = .ok (.iload_n 3, 1) := by decide +kernel
theorem dL_law_798 : decode cL_law 798 = .ok (.iconst 1, 1) := by decide +kernel
theorem dL_law_799 : decode cL_law 799 = .ok (.iadd, 1) := by decide +kernel
theorem dL_law_800 : decode cL_law 800 = .ok (.iaload, 1) := by decide +kernel
theorem dL_law_801 : decode cL_law 801 = .ok (.aload_n 0, 1) := by decide +kernel
theorem dL_law_802 : decode cL_law 802 = .ok (.iload_n 3, 1) := by decide +kernel
theorem dL_law_803 : decode cL_law 803 = .ok (.iconst 2, 1) := by decide +kernel
theorem dL_law_804 : decode cL_law 804 = .ok (.iadd, 1) := by decide +kernel
theorem dL_law_805 : decode cL_law 805 = .ok (.iaload, 1) := by decide +kernel
theorem dL_law_806 : decode cL_law 806 = .ok (.invokevirtual 110, 3) := by decide +kernel
theorem dL_law_809 : decode cL_law 809 = .ok (.aload_n 2, 1) := by decide +kernel
theorem dL_law_810 : decode cL_law 810 = .ok (.aload_n 0, 1) := by decide +kernel
theorem dL_law_811 : decode cL_law 811 = .ok (.iload_n 3, 1) := by decide +kernel
theorem dL_law_812 : decode cL_law 812 = .ok (.iconst 1, 1) := by decide +kernel
theorem dL_law_813 : decode cL_law 813 = .ok (.iadd, 1) := by decide +kernel
theorem dL_law_814 : decode cL_law 814 = .ok (.iaload, 1) := by decide +kernel
theorem dL_law_815 : decode cL_law 815 = .ok (.aload_n 0, 1) := by decide +kernel
theorem dL_law_816 : decode cL_law 816 = .ok (.iload_n 3, 1) := by decide +kernel
theorem dL_law_817 : decode cL_law 817 = .ok (.iconst 2, 1) := by decide +kernel
theorem dL_law_818 : decode cL_law 818 = .ok (.iadd, 1) := by decide +kernel
theorem dL_law_819 : decode cL_law 819 = .ok (.iaload, 1) := by decide +kernel
theorem dL_law_820 : decode cL_law 820 = .ok (.invokevirtual 113, 3) := by decide +kernel
theorem dL_law_823 : decode cL_law 823 = .ok (.if_icmp .eq 303, 3) := by decide +kernel
theorem dL_law_826 : decode cL_law 826 = .ok (.iconst 0, 1) := by decide +kernel
theorem dL_law_827 : decode cL_law 827 = .ok (.ireturn, 1) := by decide +kernel
theorem dL_law_828 : decode cL_law 828 = .ok (.aload_n 1, 1) := by decide +kernel
theorem dL_law_829 : decode cL_law 829 = .ok (.invokevirtual 114, 3) := by decide +kernel
theorem dL_law_832 : decode cL_law 832 = .ok (.aload_n 2, 1) := by decide +kernel
theorem dL_law_833 : decode cL_law 833 = .ok (.invokevirtual 117, 3) := by decide +kernel
theorem dL_law_836 : decode cL_law 836 = .ok (.if_icmp .eq 290, 3) := by decide +kernel
theorem dL_law_839 : decode cL_law 839 = .ok (.iconst 0, 1) := by decide +kernel
theorem dL_law_840 : decode cL_law 840 = .ok (.ireturn, 1) := by decide +kernel
theorem dL_law_841 : decode cL_law 841 = .ok (.aload_n 1, 1) := by decide +kernel
theorem dL_law_842 : decode cL_law 842 = .ok (.aload_n 0, 1) := by decide +kernel
theorem dL_law_843 : decode cL_law 843 = .ok (.iload_n 3, 1) := by decide +kernel
theorem dL_law_844 : decode cL_law 844 = .ok (.iconst 1, 1) := by decide +kernel
theorem dL_law_845 : decode cL_law 845 = .ok (.iadd, 1) := by decide +kernel
theorem dL_law_846 : decode cL_law 846 = .ok (.iaload, 1) := by decide +kernel
theorem dL_law_847 : decode cL_law 847 = .ok (.aload_n 0, 1) := by decide +kernel
theorem dL_law_848 : decode cL_law 848 = .ok (.iload_n 3, 1) := by decide +kernel
theorem dL_law_849 : decode cL_law 849 = .ok (.iconst 2, 1) := by decide +kernel
theorem dL_law_850 : decode cL_law 850 = .ok (.iadd, 1) := by decide +kernel
theorem dL_law_851 : decode cL_law 851 = .ok (.iaload, 1) := by decide +kernel
theorem dL_law_852 : decode cL_law 852 = .ok (.aload_n 0, 1) := by decide +kernel
theorem dL_law_853 : decode cL_law 853 = .ok (.iload_n 3, 1) := by decide +kernel
theorem dL_law_854 : decode cL_law 854 = .ok (.iconst 3, 1) := by decide +kernel
theorem dL_law_855 : decode cL_law 855 = .ok (.iadd, 1) := by decide +kernel
theorem dL_law_856 : decode cL_law 856 = .ok (.iaload, 1) := by decide +kernel
theorem dL_law_857 : decode cL_law 857 = .ok (.invokevirtual 118, 3) := by decide +kernel
theorem dL_law_860 : decode cL_law 860 = .ok (.aload_n 2, 1) := by decide +kernel
theorem dL_law_861 : decode cL_law 861 = .ok (.aload_n 0, 1) := by decide +kernel
theorem dL_law_862 : decode cL_law 862 = .ok (.iload_n 3, 1) := by decide +kernel
theorem dL_law_863 : decode cL_law 863 = .ok (.iconst 1, 1) := by decide +kernel
theorem dL_law_864 : decode cL_law 864 = .ok (.iadd, 1) := by decide +kernel
theorem dL_law_865 : decode cL_law 865 = .ok (.iaload, 1) := by decide +kernel
theorem dL_law_866 : decode cL_law 866 = .ok (.aload_n 0, 1) := by decide +kernel
theorem dL_law_867 : decode cL_law 867 = .ok (.iload_n 3, 1) := by decide +kernel
theorem dL_law_868 : decode cL_law 868 = .ok (.iconst 2, 1) := by decide +kernel
theorem dL_law_869 : decode cL_law 869 = .ok (.iadd, 1) := by decide +kernel
theorem dL_law_870 : decode cL_law 870 = .ok (.iaload, 1) := by decide +kernel
theorem dL_law_871 : decode cL_law 871 = .ok (.aload_n 0, 1) := by decide +kernel
theorem dL_law_872 : decode cL_law 872 = .ok (.iload_n 3, 1) := by decide +kernel
theorem dL_law_873 : decode cL_law 873 = .ok (.iconst 3, 1) := by decide +kernel
theorem dL_law_874 : decode cL_law 874 = .ok (.iadd, 1) := by decide +kernel
theorem dL_law_875 : decode cL_law 875 = .ok (.iaload, 1) := by decide +kernel
theorem dL_law_876 : decode cL_law 876 = .ok (.invokevirtual 122, 3) := by decide +kernel
theorem dL_law_879 : decode cL_law 879 = .ok (.if_icmp .eq 247, 3) := by decide +kernel
theorem dL_law_882 : decode cL_law 882 = .ok (.iconst 0, 1) := by decide +kernel
theorem dL_law_883 : decode cL_law 883 = .ok (.ireturn, 1) := by decide +kernel
theorem dL_law_884 : decode cL_law 884 = .ok (.aload_n 1, 1) := by decide +kernel
theorem dL_law_885 : decode cL_law 885 = .ok (.aload_n 0, 1) := by decide +kernel
theorem dL_law_886 : decode cL_law 886 = .ok (.iload_n 3, 1) := by decide +kernel
theorem dL_law_887 : decode cL_law 887 = .ok (.iconst 1, 1) := by decide +kernel
theorem dL_law_888 : decode cL_law 888 = .ok (.iadd, 1) := by decide +kernel
theorem dL_law_889 : decode cL_law 889 = .ok (.iaload, 1) := by decide +kernel
theorem dL_law_890 : decode cL_law 890 = .ok (.invokevirtual 123, 3) := by decide +kernel
theorem dL_law_893 : decode cL_law 893 = .ok (.aload_n 2, 1) := by decide +kernel
theorem dL_law_894 : decode cL_law 894 = .ok (.aload_n 0, 1) := by decide +kernel
theorem dL_law_895 : decode cL_law 895 = .ok (.iload_n 3, 1) := by decide +kernel
theorem dL_law_896 : decode cL_law 896 = .ok (.iconst 1, 1) := by decide +kernel
theorem dL_law_897 : decode cL_law 897 = .ok (.iadd, 1) := by decide +kernel
theorem dL_law_898 : decode cL_law 898 = .ok (.iaload, 1) := by decide +kernel
theorem dL_law_899 : decode cL_law 899 = .ok (.invokevirtual 126, 3) := by decide +kernel
theorem dL_law_902 : decode cL_law 902 = .ok (.if_icmp .eq 224, 3) := by decide +kernel
theorem dL_law_905 : decode cL_law 905 = .ok (.iconst 0, 1) := by decide +kernel
theorem dL_law_906 : decode cL_law 906 = .ok (.ireturn, 1) := by decide +kernel
theorem dL_law_907 : decode cL_law 907 = .ok (.aload_n 1, 1) := by decide +kernel
theorem dL_law_908 : decode cL_law 908 = .ok (.aload_n 0, 1) := by decide +kernel
theorem dL_law_909 : decode cL_law 909 = .ok (.iload_n 3, 1) := by decide +kernel
theorem dL_law_910 : decode cL_law 910 = .ok (.iconst 1, 1) := by decide +kernel
theorem dL_law_911 : decode cL_law 911 = .ok (.iadd, 1) := by decide +kernel
theorem dL_law_912 : decode cL_law 912 = .ok (.iaload, 1) := by decide +kernel
theorem dL_law_913 : decode cL_law 913 = .ok (.aload_n 0, 1) := by decide +kernel
theorem dL_law_914 : decode cL_law 914 = .ok (.iload_n 3, 1) := by decide +kernel
theorem dL_law_915 : decode cL_law 915 = .ok (.iconst 2, 1) := by decide +kernel
theorem dL_law_916 : decode cL_law 916 = .ok (.iadd, 1) := by decide +kernel
theorem dL_law_917 : decode cL_law 917 = .ok (.iaload, 1) := by decide +kernel
theorem dL_law_918 : decode cL_law 918 = .ok (.aload_n 0, 1) := by decide +kernel
theorem dL_law_919 : decode cL_law 919 = .ok (.iload_n 3, 1) := by decide +kernel
theorem dL_law_920 : decode cL_law 920 = .ok (.iconst 3, 1) := by decide +kernel
theorem dL_law_921 : decode cL_law 921 = .ok (.iadd, 1) := by decide +kernel
theorem dL_law_922 : decode cL_law 922 = .ok (.iaload, 1) := by decide +kernel
theorem dL_law_923 : decode cL_law 923 = .ok (.aload_n 0, 1) := by decide +kernel
theorem dL_law_924 : decode cL_law 924 = .ok (.iload_n 3, 1) := by decide +kernel
theorem dL_law_925 : decode cL_law 925 = .ok (.iconst 4, 1) := by decide +kernel
theorem dL_law_926 : decode cL_law 926 = .ok (.iadd, 1) := by decide +kernel
theorem dL_law_927 : decode cL_law 927 = .ok (.iaload, 1) := by decide +kernel
theorem dL_law_928 : decode cL_law 928 = .ok (.invokevirtual 127, 3) := by decide +kernel
theorem dL_law_931 : decode cL_law 931 = .ok (.aload_n 2, 1) := by decide +kernel
theorem dL_law_932 : decode cL_law 932 = .ok (.aload_n 0, 1) := by decide +kernel
theorem dL_law_933 : decode cL_law 933 = .ok (.iload_n 3, 1) := by decide +kernel
theorem dL_law_934 : decode cL_law 934 = .ok (.iconst 1, 1) := by decide +kernel
theorem dL_law_935 : decode cL_law 935 = .ok (.iadd, 1) := by decide +kernel
theorem dL_law_936 : decode cL_law 936 = .ok (.iaload, 1) := by decide +kernel
theorem dL_law_937 : decode cL_law 937 = .ok (.aload_n 0, 1) := by decide +kernel
theorem dL_law_938 : decode cL_law 938 = .ok (.iload_n 3, 1) := by decide +kernel
theorem dL_law_939 : decode cL_law 939 = .ok (.iconst 2, 1) := by decide +kernel
theorem dL_law_940 : decode cL_law 940 = .ok (.iadd, 1) := by decide +kernel
theorem dL_law_941 : decode cL_law 941 = .ok (.iaload, 1) := by decide +kernel
theorem dL_law_942 : decode cL_law 942 = .ok (.aload_n 0, 1) := by decide +kernel
theorem dL_law_943 : decode cL_law 943 = .ok (.iload_n 3, 1) := by decide +kernel
theorem dL_law_944 : decode cL_law 944 = .ok (.iconst 3, 1) := by decide +kernel
theorem dL_law_945 : decode cL_law 945 = .ok (.iadd, 1) := by decide +kernel
theorem dL_law_946 : decode cL_law 946 = .ok (.iaload, 1) := by decide +kernel
theorem dL_law_947 : decode cL_law 947 = .ok (.aload_n 0, 1) := by decide +kernel
theorem dL_law_948 : decode cL_law 948 = .ok (.iload_n 3, 1) := by decide +kernel
theorem dL_law_949 : decode cL_law 949 = .ok (.iconst 4, 1) := by decide +kernel
theorem dL_law_950 : decode cL_law 950 = .ok (.iadd, 1) := by decide +kernel
theorem dL_law_951 : decode cL_law 951 = .ok (.iaload, 1) := by decide +kernel
theorem dL_law_952 : decode cL_law 952 = .ok (.invokevirtual 131, 3) := by decide +kernel
theorem dL_law_955 : decode cL_law 955 = .ok (.if_icmp .eq 171, 3) := by decide +kernel
theorem dL_law_958 : decode cL_law 958 = .ok (.iconst 0, 1) := by decide +kernel
theorem dL_law_959 : decode cL_law 959 = .ok (.ireturn, 1) := by decide +kernel
theorem dL_law_960 : decode cL_law 960 = .ok (.aload_n 1, 1) := by decide +kernel
theorem dL_law_961 : decode cL_law 961 = .ok (.aload_n 0, 1) := by decide +kernel
theorem dL_law_962 : decode cL_law 962 = .ok (.iload_n 3, 1) := by decide +kernel
theorem dL_law_963 : decode cL_law 963 = .ok (.iconst 1, 1) := by decide +kernel
theorem dL_law_964 : decode cL_law 964 = .ok (.iadd, 1) := by decide +kernel
theorem dL_law_965 : decode cL_law 965 = .ok (.iaload, 1) := by decide +kernel
theorem dL_law_966 : decode cL_law 966 = .ok (.aload_n 0, 1) := by decide +kernel
theorem dL_law_967 : decode cL_law 967 = .ok (.iload_n 3, 1) := by decide +kernel
theorem dL_law_968 : decode cL_law 968 = .ok (.iconst 2, 1) := by decide +kernel
theorem dL_law_969 : decode cL_law 969 = .ok (.iadd, 1) := by decide +kernel
theorem dL_law_970 : decode cL_law 970 = .ok (.iaload, 1) := by decide +kernel
theorem dL_law_971 : decode cL_law 971 = .ok (.aload_n 0, 1) := by decide +kernel
theorem dL_law_972 : decode cL_law 972 = .ok (.iload_n 3, 1) := by decide +kernel
theorem dL_law_973 : decode cL_law 973 = .ok (.iconst 3, 1) := by decide +kernel
theorem dL_law_974 : decode cL_law 974 = .ok (.iadd, 1) := by decide +kernel
theorem dL_law_975 : decode cL_law 975 = .ok (.iaload, 1) := by decide +kernel
theorem dL_law_976 : decode cL_law 976 = .ok (.invokevirtual 132, 3) := by decide +kernel
theorem dL_law_979 : decode cL_law 979 = .ok (.aload_n 2, 1) := by decide +kernel
theorem dL_law_980 : decode cL_law 980 = .ok (.aload_n 0, 1) := by decide +kernel
theorem dL_law_981 : decode cL_law 981 = .ok (.iload_n 3, 1) := by decide +kernel
theorem dL_law_982 : decode cL_law 982 = .ok (.iconst 1, 1) := by decide +kernel
theorem dL_law_983 : decode cL_law 983 = .ok (.iadd, 1) := by decide +kernel
theorem dL_law_984 : decode cL_law 984 = .ok (.iaload, 1) := by decide +kernel
theorem dL_law_985 : decode cL_law 985 = .ok (.aload_n 0, 1) := by decide +kernel
theorem dL_law_986 : decode cL_law 986 = .ok (.iload_n 3, 1) := by decide +kernel
theorem dL_law_987 : decode cL_law 987 = .ok (.iconst 2, 1) := by decide +kernel
theorem dL_law_988 : decode cL_law 988 = .ok (.iadd, 1) := by decide +kernel
theorem dL_law_989 : decode cL_law 989 = .ok (.iaload, 1) := by decide +kernel
theorem dL_law_990 : decode cL_law 990 = .ok (.aload_n 0, 1) := by decide +kernel
theorem dL_law_991 : decode cL_law 991 = .ok (.iload_n 3, 1) := by decide +kernel
theorem dL_law_992 : decode cL_law 992 = .ok (.iconst 3, 1) := by decide +kernel
theorem dL_law_993 : decode cL_law 993 = .ok (.iadd, 1) := by decide +kernel
theorem dL_law_994 : decode cL_law 994 = .ok (.iaload, 1) := by decide +kernel
theorem dL_law_995 : decode cL_law 995 = .ok (.invokevirtual 135, 3) := by decide +kernel
theorem dL_law_998 : decode cL_law 998 = .ok (.if_icmp .eq 128, 3) := by decide +kernel
theorem dL_law_1001 : decode cL_law 1001 = .ok (.iconst 0, 1) := by decide +kernel
theorem dL_law_1002 : decode cL_law 1002 = .ok (.ireturn, 1) := by decide +kernel
theorem dL_law_1003 : decode cL_law 1003 = .ok (.aload_n 1, 1) := by decide +kernel
theorem dL_law_1004 : decode cL_law 1004 = .ok (.aload_n 0, 1) := by decide +kernel
theorem dL_law_1005 : decode cL_law 1005 = .ok (.iload_n 3, 1) := by decide +kernel
theorem dL_law_1006 : decode cL_law 1006 = .ok (.iconst 1, 1) := by decide +kernel
theorem dL_law_1007 : decode cL_law 1007 = .ok (.iadd, 1) := by decide +kernel
theorem dL_law_1008 : decode cL_law 1008 = .ok (.iaload, 1) := by decide +kernel
theorem dL_law_1009 : decode cL_law 1009 = .ok (.aload_n 0, 1) := by decide +kernel
theorem dL_law_1010 : decode cL_law 1010 = .ok (.iload_n 3, 1) := by decide +kernel
theorem dL_law_1011 : decode cL_law 1011 = .ok (.iconst 2, 1) := by decide +kernel
theorem dL_law_1012 : decode cL_law 1012 = .ok (.iadd, 1) := by decide +kernel
theorem dL_law_1013 : decode cL_law 1013 = .ok (.iaload, 1) := by decide +kernel
theorem dL_law_1014 : decode cL_law 1014 = .ok (.aload_n 0, 1) := by decide +kernel
theorem dL_law_1015 : decode cL_law 1015 = .ok (.iload_n 3, 1) := by decide +kernel
theorem dL_law_1016 : decode cL_law 1016 = .ok (.iconst 3, 1) := by decide +kernel
theorem dL_law_1017 : decode cL_law 1017 = .ok (.iadd, 1) := by decide +kernel
theorem dL_law_1018 : decode cL_law 1018 = .ok (.iaload, 1) := by decide +kernel
theorem dL_law_1019 : decode cL_law 1019 = .ok (.aload_n 0, 1) := by decide +kernel
theorem dL_law_1020 : decode cL_law 1020 = .ok (.iload_n 3, 1) := by decide +kernel
theorem dL_law_1021 : decode cL_law 1021 = .ok (.iconst 4, 1) := by decide +kernel
theorem dL_law_1022 : decode cL_law 1022 = .ok (.iadd, 1) := by decide +kernel
theorem dL_law_1023 : decode cL_law 1023 = .ok (.iaload, 1) := by decide +kernel
theorem dL_law_1024 : decode cL_law 1024 = .ok (.aload_n 0, 1) := by decide +kernel
theorem dL_law_1025 : decode cL_law 1025 = .ok (.iload_n 3, 1) := by decide +kernel
theorem dL_law_1026 : decode cL_law 1026 = .ok (.iconst 5, 1) := by decide +kernel
theorem dL_law_1027 : decode cL_law 1027 = .ok (.iadd, 1) := by decide +kernel
theorem dL_law_1028 : decode cL_law 1028 = .ok (.iaload, 1) := by decide +kernel
theorem dL_law_1029 : decode cL_law 1029 = .ok (.invokevirtual 136, 3) := by decide +kernel
theorem dL_law_1032 : decode cL_law 1032 = .ok (.aload_n 2, 1) := by decide +kernel
theorem dL_law_1033 : decode cL_law 1033 = .ok (.aload_n 0, 1) := by decide +kernel
theorem dL_law_1034 : decode cL_law 1034 = .ok (.iload_n 3, 1) := by decide +kernel
theorem dL_law_1035 : decode cL_law 1035 = .ok (.iconst 1, 1) := by decide +kernel
theorem dL_law_1036 : decode cL_law 1036 = .ok (.iadd, 1) := by decide +kernel
theorem dL_law_1037 : decode cL_law 1037 = .ok (.iaload, 1) := by decide +kernel
theorem dL_law_1038 : decode cL_law 1038 = .ok (.aload_n 0, 1) := by decide +kernel
theorem dL_law_1039 : decode cL_law 1039 = .ok (.iload_n 3, 1) := by decide +kernel
theorem dL_law_1040 : decode cL_law 1040 = .ok (.iconst 2, 1) := by decide +kernel
theorem dL_law_1041 : decode cL_law 1041 = .ok (.iadd, 1) := by decide +kernel
theorem dL_law_1042 : decode cL_law 1042 = .ok (.iaload, 1) := by decide +kernel
theorem dL_law_1043 : decode cL_law 1043 = .ok (.aload_n 0, 1) := by decide +kernel
theorem dL_law_1044 : decode cL_law 1044 = .ok (.iload_n 3, 1) := by decide +kernel
theorem dL_law_1045 : decode cL_law 1045 = .ok (.iconst 3, 1) := by decide +kernel
theorem dL_law_1046 : decode cL_law 1046 = .ok (.iadd, 1) := by decide +kernel
theorem dL_law_1047 : decode cL_law 1047 = .ok (.iaload, 1) := by decide +kernel
theorem dL_law_1048 : decode cL_law 1048 = .ok (.aload_n 0, 1) := by decide +kernel
theorem dL_law_1049 : decode cL_law 1049 = .ok (.iload_n 3, 1) := by decide +kernel
theorem dL_law_1050 : decode cL_law 1050 = .ok (.iconst 4, 1) := by decide +kernel
theorem dL_law_1051 : decode cL_law 1051 = .ok (.iadd, 1) := by decide +kernel
theorem dL_law_1052 : decode cL_law 1052 = .ok (.iaload, 1) := by decide +kernel
theorem dL_law_1053 : decode cL_law 1053 = .ok (.aload_n 0, 1) := by decide +kernel
theorem dL_law_1054 : decode cL_law 1054 = .ok (.iload_n 3, 1) := by decide +kernel
theorem dL_law_1055 : decode cL_law 1055 = .ok (.iconst 5, 1) := by decide +kernel
theorem dL_law_1056 : decode cL_law 1056 = .ok (.iadd, 1) := by decide +kernel
theorem dL_law_1057 : decode cL_law 1057 = .ok (.iaload, 1) := by decide +kernel
theorem dL_law_1058 : decode cL_law 1058 = .ok (.invokevirtual 140, 3) := by decide +kernel
theorem dL_law_1061 : decode cL_law 1061 = .ok (.if_icmp .eq 65, 3) := by decide +kernel
theorem dL_law_1064 : decode cL_law 1064 = .ok (.iconst 0, 1) := by decide +kernel
theorem dL_law_1065 : decode cL_law 1065 = .ok (.ireturn, 1) := by decide +kernel
theorem dL_law_1066 : decode cL_law 1066 = .ok (.aload_n 1, 1) := by decide +kernel
theorem dL_law_1067 : decode cL_law 1067 = .ok (.aload_n 0, 1) := by decide +kernel
theorem dL_law_1068 : decode cL_law 1068 = .ok (.iload_n 3, 1) := by decide +kernel
theorem dL_law_1069 : decode cL_law 1069 = .ok (.iconst 1, 1) := by decide +kernel
theorem dL_law_1070 : decode cL_law 1070 = .ok (.iadd, 1) := by decide +kernel
theorem dL_law_1071 : decode cL_law 1071 = .ok (.iaload, 1) := by decide +kernel
theorem dL_law_1072 : decode cL_law 1072 = .ok (.invokevirtual 141, 3) := by decide +kernel
theorem dL_law_1075 : decode cL_law 1075 = .ok (.aload_n 2, 1) := by decide +kernel
theorem dL_law_1076 : decode cL_law 1076 = .ok (.aload_n 0, 1) := by decide +kernel
theorem dL_law_1077 : decode cL_law 1077 = .ok (.iload_n 3, 1) := by decide +kernel
theorem dL_law_1078 : decode cL_law 1078 = .ok (.iconst 1, 1) := by decide +kernel
theorem dL_law_1079 : decode cL_law 1079 = .ok (.iadd, 1) := by decide +kernel
theorem dL_law_1080 : decode cL_law 1080 = .ok (.iaload, 1) := by decide +kernel
theorem dL_law_1081 : decode cL_law 1081 = .ok (.invokevirtual 144, 3) := by decide +kernel
theorem dL_law_1084 : decode cL_law 1084 = .ok (.if_icmp .eq 42, 3) := by decide +kernel
theorem dL_law_1087 : decode cL_law 1087 = .ok (.iconst 0, 1) := by decide +kernel
theorem dL_law_1088 : decode cL_law 1088 = .ok (.ireturn, 1) := by decide +kernel
theorem dL_law_1089 : decode cL_law 1089 = .ok (.aload_n 1, 1) := by decide +kernel
theorem dL_law_1090 : decode cL_law 1090 = .ok (.aload_n 0, 1) := by decide +kernel
theorem dL_law_1091 : decode cL_law 1091 = .ok (.iload_n 3, 1) := by decide +kernel
theorem dL_law_1092 : decode cL_law 1092 = .ok (.iconst 1, 1) := by decide +kernel
theorem dL_law_1093 : decode cL_law 1093 = .ok (.iadd, 1) := by decide +kernel
theorem dL_law_1094 : decode cL_law 1094 = .ok (.iaload, 1) := by decide +kernel
theorem dL_law_1095 : decode cL_law 1095 = .ok (.invokevirtual 145, 3) := by decide +kernel
theorem dL_law_1098 : decode cL_law 1098 = .ok (.aload_n 2, 1) := by decide +kernel
theorem dL_law_1099 : decode cL_law 1099 = .ok (.aload_n 0, 1) := by decide +kernel
theorem dL_law_1100 : decode cL_law 1100 = .ok (.iload_n 3, 1) := by decide +kernel
theorem dL_law_1101 : decode cL_law 1101 = .ok (.iconst 1, 1) := by decide +kernel
theorem dL_law_1102 : decode cL_law 1102 = .ok (.iadd, 1) := by decide +kernel
theorem dL_law_1103 : decode cL_law 1103 = .ok (.iaload, 1) := by decide +kernel
theorem dL_law_1104 : decode cL_law 1104 = .ok (.invokevirtual 148, 3) := by decide +kernel
theorem dL_law_1107 : decode cL_law 1107 = .ok (.if_icmp .eq 19, 3) := by decide +kernel
theorem dL_law_1110 : decode cL_law 1110 = .ok (.iconst 0, 1) := by decide +kernel
theorem dL_law_1111 : decode cL_law 1111 = .ok (.ireturn, 1) := by decide +kernel
theorem dL_law_1112 : decode cL_law 1112 = .ok (.aload_n 1, 1) := by decide +kernel
theorem dL_law_1113 : decode cL_law 1113 = .ok (.invokevirtual 149, 3) := by decide +kernel
theorem dL_law_1116 : decode cL_law 1116 = .ok (.aload_n 2, 1) := by decide +kernel
theorem dL_law_1117 : decode cL_law 1117 = .ok (.invokevirtual 153, 3) := by decide +kernel
theorem dL_law_1120 : decode cL_law 1120 = .ok (.lcmp, 1) := by decide +kernel
theorem dL_law_1121 : decode cL_law 1121 = .ok (.ifCond .eq 5, 3) := by decide +kernel
theorem dL_law_1124 : decode cL_law 1124 = .ok (.iconst 0, 1) := by decide +kernel
theorem dL_law_1125 : decode cL_law 1125 = .ok (.ireturn, 1) := by decide +kernel
theorem dL_law_1126 : decode cL_law 1126 = .ok (.iinc 3 6, 3) := by decide +kernel
theorem dL_law_1129 : decode cL_law 1129 = .ok (.goto (-1111), 3) := by decide +kernel
theorem dL_law_1132 : decode cL_law 1132 = .ok (.iconst 1, 1) := by decide +kernel
theorem dL_law_1133 : decode cL_law 1133 = .ok (.ireturn, 1) := by decide +kernel
end
section
/-! The world of both objects: 49 cells of a fixed shape. What changes is their ints and longs: a memory σ. -/
/-- the words that hold in every frame -/
def tn_T : List Cond := lw_tbl.filter goodWord
theorem tn_in (i : Nat) {w : Cond} (h : lw_tbl[i]? = some w) (hg : goodWord w = true) : w ∈ tn_T := List.mem_filter.mpr ⟨List.mem_of_getElem? h, hg⟩
abbrev tn_M : Type := (Nat → Nat → Int32) × (Nat → Nat → Int64)
def tn_si (σ : tn_M) (k j : Nat) (v : Int32) : tn_M := (fun a => if a = k then upd (σ.1 k) j v else σ.1 a, σ.2)
def tn_sl (σ : tn_M) (k j : Nat) (v : Int64) : tn_M := (σ.1, fun a => if a = k then vp_updL (σ.2 k) j v else σ.2 a)
def tn_cp (σ : tn_M) (ks kd sp dp n : Nat) : tn_M := (fun a => if a = kd then va_cpy (σ.1 ks) (σ.1 kd) sp dp n else σ.1 a, σ.2)
def tn_x (i : Int32) : Nat := i.toNatClampNeg
/-- addresses, classes, the classes of int[], long[], int[][], the address of HIGHEST -/
abbrev tn_E : Type := (Nat → Nat) × va_G × ClassId × ClassId × ClassId × Nat
def tn_ad (E : tn_E) (k : Nat) : Nat := E.1 k
abbrev classes : List vw_C := [(RX0, TX0, 13), (RX1, TX1, 4), (RX2, TX2, 9), (RX3, TX3, 2), (RX4, TX4, 7), (RX5, TX5, 27)]
def tn_kds : List Nat := [0,0,0,0,0,0, 1,1,1, 1,1,1,3,1,1,1,1,1,1, 2, 1,1,1,1,1,2, 1,1,3,1,1,1,1, 1,1,1,1,1,1,1,1,1,1,1,1,1,1,2,1]
def tn_lens : List Nat := [0,0,0,0,0,0, 8,5,6, 150,5,5,6,6,6,6,6,6,6, 672, 5,5,4,5,4,4, 4,4,4,60,60,60,60, 4,4,240,60,150,5,5,36,8,5,6,5,4,5,5,5]
def tn_kd (k : Nat) : Nat := tn_kds.getD k 0
def tn_len (k : Nat) : Nat := tn_lens.getD k 0
def tn_fs (E : tn_E) (σ : tn_M) : Nat → Nat × List Value
  | 0 => (4, [.ref (tn_ad E 1), .ref (tn_ad E 2), .ref (tn_ad E 3), .ref (tn_ad E 4), .ref (tn_ad E 6), .ref (tn_ad E 7), .ref (tn_ad E 8)])
  | 1 => (2, [.ref (tn_ad E 9), .ref (tn_ad E 10), .ref (tn_ad E 11), .ref (tn_ad E 12), .int (σ.1 1 4), .int (σ.1 1 5), .int (σ.1 1 6), .int (σ.1 1 7), .int (σ.1 1 8)])
  | 2 => (3, [.ref (tn_ad E 19), .int (σ.1 2 1)])
  | 3 => (0, [.ref (tn_ad E 1), .ref (tn_ad E 2), .ref (tn_ad E 20), .ref (tn_ad E 21), .ref (tn_ad E 22), .ref (tn_ad E 23), .ref (tn_ad E 24), .ref (tn_ad E 25), .int (σ.1 3 8), .int (σ.1 3 9), .long (σ.2 3 10), .int (σ.1 3 11), .int (σ.1 3 12)])
  | 4 => (1, [.ref (tn_ad E 26), .ref (tn_ad E 27), .ref (tn_ad E 28), .int (σ.1 4 3)])
  | a => (5, [.ref (tn_ad E 33), .ref (tn_ad E 34), .ref (tn_ad E 35), .ref (tn_ad E 36), .int (σ.1 a 4), .ref (tn_ad E 37), .int (σ.1 a 6), .int (σ.1 a 7), .int (σ.1 a 8), .ref (tn_ad E 38), .ref (tn_ad E 39), .int (σ.1 a 11), .ref (tn_ad E 40), .ref (tn_ad E 41), .ref (tn_ad E 42), .ref (tn_ad E 43), .ref (tn_ad E 44), .ref (tn_ad E 45), .int (σ.1 a 18), .int (σ.1 a 19), .int (σ.1 a 20), .ref (tn_ad E 46), .ref (tn_ad E 47), .long (σ.2 a 23), .int (σ.1 a 24), .long (σ.2 a 25), .ref (tn_ad E 48)])
def tn_cell (E : tn_E) (σ : tn_M) (k : Nat) : va_E := match tn_kd k with
  | 0 => .inr (tn_fs E σ k)
  | 1 => .inl (E.2.2.1, tn_len k, .inl (σ.1 k))
  | 2 => .inl (E.2.2.2.1, tn_len k, .inr (.inl (σ.2 k)))
  | _ => .inl (E.2.2.2.2.1, tn_len k, .inr (.inr (.inr (.inr (fun i => some (tn_ad E (k + 1 + i)))))))
def tn_ws (E : tn_E) (σ : tn_M) : va_W := (List.range 49).map fun k => (tn_ad E k, tn_cell E σ k)
def tn_tys (E : tn_E) : List (ClassId × FieldType) := [(E.2.2.1, .int), (E.2.2.2.1, .long), (E.2.2.2.2.1, .array .int)]
def tn_A (E : tn_E) : Nat → Prop := fun q => ∃ k, k < 49 ∧ q = tn_ad E k
def tn_hi (j : Nat) : Int32 := ([16, 3, 3, 999, 16, 8, 8, 8] : List Int32).getD j 0
def tn_Z (E : tn_E) (A : Nat → Prop) (U : State) (H : Heap) : Prop := va_Z RX4 "HIGHEST" "[I" (.ref E.2.2.2.2.2) A U H ∧ va_T .int E.2.2.2.2.2 8 (fun j => .int (tn_hi j)) A U H ∧ va_Nw (.methodLinkNest RX0 132 yX4_ceiling RX4) U
/-- a state in which the world holds σ -/
def tn_St (E : tn_E) (σ : tn_M) (U : State) : Prop := va_P E.2.1 classes (tn_ws E σ) U.heap ∧ va_K E.2.1 classes (tn_tys E) U ∧ (∀ i j, i < 49 → j < 49 → tn_ad E i = tn_ad E j → i = j) ∧ tn_Z E (tn_A E) U U.heap
theorem tn_ws_at {E : tn_E} {σ : tn_M} {k : Nat} (hk : k < 49) : (tn_ws E σ)[k]? = some (tn_ad E k, tn_cell E σ k) := by
  simp [tn_ws, hk]
theorem tn_fs_same {E : tn_E} {σ σ' : tn_M} {a : Nat} (h1 : σ'.1 a = σ.1 a) (h2 : σ'.2 a = σ.2 a) : tn_fs E σ' a = tn_fs E σ a := by
  unfold tn_fs
  split <;> simp [h1, h2]
theorem tn_cell_same {E : tn_E} {σ σ' : tn_M} {a : Nat} (h1 : σ'.1 a = σ.1 a) (h2 : σ'.2 a = σ.2 a) : tn_cell E σ' a = tn_cell E σ a := by
  unfold tn_cell
  rw [tn_fs_same h1 h2, h1, h2]
theorem tn_ws_set {E : tn_E} {σ σ' : tn_M} {k : Nat} {c : va_E} (hc : tn_cell E σ' k = c) (ho : ∀ a, a ≠ k → σ'.1 a = σ.1 a ∧ σ'.2 a = σ.2 a) : (tn_ws E σ).set k (tn_ad E k, c) = tn_ws E σ' := by
  apply List.ext_getElem?
  intro j
  by_cases hj : j < 49
  · rw [tn_ws_at hj]
    by_cases e : j = k
    · subst e
      rw [List.getElem?_set_self (by simp [tn_ws, hj]), hc]
    · rw [List.getElem?_set_ne (Ne.symm e), tn_ws_at hj, tn_cell_same (ho j e).1 (ho j e).2]
  · have h1 : ((tn_ws E σ).set k (tn_ad E k, c)).length ≤ j := by simp [tn_ws]; omega
    have h2 : (tn_ws E σ').length ≤ j := by simp [tn_ws]; omega
    rw [List.getElem?_eq_none h1, List.getElem?_eq_none h2]
theorem tn_cell_o {E : tn_E} {σ : tn_M} {k : Nat} (hk : tn_kd k = 0) : tn_cell E σ k = .inr (tn_fs E σ k) := by unfold tn_cell; rw [hk]; rfl
theorem tn_cell_i {E : tn_E} {σ : tn_M} {k : Nat} (hk : tn_kd k = 1) : tn_cell E σ k = .inl (E.2.2.1, tn_len k, .inl (σ.1 k)) := by unfold tn_cell; rw [hk]; rfl
theorem tn_cell_l {E : tn_E} {σ : tn_M} {k : Nat} (hk : tn_kd k = 2) : tn_cell E σ k = .inl (E.2.2.2.1, tn_len k, .inr (.inl (σ.2 k))) := by unfold tn_cell; rw [hk]; rfl
theorem tn_cell_r {E : tn_E} {σ : tn_M} {k : Nat} (hk : tn_kd k = 3) : tn_cell E σ k = .inl (E.2.2.2.2.1, tn_len k, .inr (.inr (.inr (.inr (fun i => some (tn_ad E (k + 1 + i))))))) := by unfold tn_cell; rw [hk]; rfl
theorem tn_kd_lt {k c : Nat} (h : tn_kd k = c + 1) : k < 49 := by
  apply Decidable.byContradiction
  intro hk
  have : tn_kd k = 0 := by unfold tn_kd; rw [List.getD_eq_getElem?_getD, List.getElem?_eq_none (by simp [tn_kds]; omega)]; rfl
  omega
theorem tn_ws_i {E : tn_E} {σ : tn_M} {k : Nat} (h : tn_kd k = 1) : (tn_ws E σ)[k]? = some (tn_ad E k, .inl (E.2.2.1, tn_len k, .inl (σ.1 k))) := by rw [tn_ws_at (tn_kd_lt h), tn_cell_i h]
theorem tn_ws_l {E : tn_E} {σ : tn_M} {k : Nat} (h : tn_kd k = 2) : (tn_ws E σ)[k]? = some (tn_ad E k, .inl (E.2.2.2.1, tn_len k, .inr (.inl (σ.2 k)))) := by rw [tn_ws_at (tn_kd_lt h), tn_cell_l h]
theorem tn_ws_r {E : tn_E} {σ : tn_M} {k : Nat} (h : tn_kd k = 3) : (tn_ws E σ)[k]? = some (tn_ad E k, .inl (E.2.2.2.2.1, tn_len k, .inr (.inr (.inr (.inr (fun i => some (tn_ad E (k + 1 + i)))))))) := by rw [tn_ws_at (tn_kd_lt h), tn_cell_r h]
theorem tn_ws_o {E : tn_E} {σ : tn_M} {k : Nat} (hk : k < 6) : (tn_ws E σ)[k]? = some (tn_ad E k, .inr (tn_fs E σ k)) := by
  have h : tn_kd k = 0 := by
    rcases (by omega : k = 0 ∨ k = 1 ∨ k = 2 ∨ k = 3 ∨ k = 4 ∨ k = 5) with rfl | rfl | rfl | rfl | rfl | rfl <;> rfl
  rw [tn_ws_at (by omega), tn_cell_o h]
theorem tn_ws_D {E : tn_E} {σ : tn_M} {A : Nat → Prop} (hi : ∀ i j, i < 49 → j < 49 → tn_ad E i = tn_ad E j → i = j) (hA : ∀ k, k < 49 → A (tn_ad E k)) : va_D A (tn_ws E σ) := by
  have key : ∀ (k : Nat) (q : Nat × va_E), (tn_ws E σ)[k]? = some q → k < 49 ∧ q.1 = tn_ad E k := by
    intro k q hq
    have hk : k < 49 := by
      have := (List.getElem?_eq_some_iff.mp hq).1
      simpa [tn_ws] using this
    rw [tn_ws_at hk] at hq
    cases hq
    exact ⟨hk, rfl⟩
  refine ⟨fun i j x y hx hy e => ?_, fun k q hq => ?_⟩
  · obtain ⟨a1, a2⟩ := key i x hx
    obtain ⟨b1, b2⟩ := key j y hy
    exact hi i j a1 b1 (by rw [← a2, ← b2, e])
  · obtain ⟨a1, a2⟩ := key k q hq
    rw [a2]
    exact hA k a1
theorem tn_si_ne {σ : tn_M} {k j : Nat} {v : Int32} : ∀ a, a ≠ k → (tn_si σ k j v).1 a = σ.1 a ∧ (tn_si σ k j v).2 a = σ.2 a := fun a h => ⟨if_neg h, rfl⟩
theorem tn_sl_ne {σ : tn_M} {k j : Nat} {v : Int64} : ∀ a, a ≠ k → (tn_sl σ k j v).1 a = σ.1 a ∧ (tn_sl σ k j v).2 a = σ.2 a := fun a h => ⟨rfl, if_neg h⟩
theorem tn_cp_ne {σ : tn_M} {ks k sp dp n : Nat} : ∀ a, a ≠ k → (tn_cp σ ks k sp dp n).1 a = σ.1 a ∧ (tn_cp σ ks k sp dp n).2 a = σ.2 a := fun a h => ⟨if_neg h, rfl⟩
theorem tn_si_1 (σ : tn_M) (k j : Nat) (v : Int32) (a b : Nat) : (tn_si σ k j v).1 a b = if a = k ∧ b = j then v else σ.1 a b := by
  unfold tn_si upd
  by_cases h : a = k
  · subst h
    by_cases h2 : b = j <;> simp [h2]
  · simp [h]
theorem tn_sl_2 (σ : tn_M) (k j : Nat) (v : Int64) (a b : Nat) : (tn_sl σ k j v).2 a b = if a = k ∧ b = j then v else σ.2 a b := by
  unfold tn_sl vp_updL
  by_cases h : a = k
  · subst h
    by_cases h2 : b = j <;> simp [h2]
  · simp [h]
theorem tn_si_2 (σ : tn_M) (k j : Nat) (v : Int32) : (tn_si σ k j v).2 = σ.2 := rfl
theorem tn_sl_1 (σ : tn_M) (k j : Nat) (v : Int64) : (tn_sl σ k j v).1 = σ.1 := rfl
theorem tn_cp_1 (σ : tn_M) (ks kd sp dp n a b : Nat) : (tn_cp σ ks kd sp dp n).1 a b = if a = kd ∧ dp ≤ b ∧ b < dp + n then σ.1 ks (sp + (b - dp)) else σ.1 a b := by
  unfold tn_cp va_cpy
  by_cases h : a = kd
  · subst h
    by_cases h2 : dp ≤ b ∧ b < dp + n <;> simp [h2]
  · simp [h]
theorem tn_cp_2 (σ : tn_M) (ks kd sp dp n : Nat) : (tn_cp σ ks kd sp dp n).2 = σ.2 := rfl
theorem tn_rowB {i : Int32} (h : i < 0 ∨ 6 ≤ i.toNatClampNeg → False) : tn_kd (12 + 1 + tn_x i) = 1 ∧ tn_len (12 + 1 + tn_x i) = 6 := by
  have hl : tn_x i < 6 := Nat.not_le.mp fun q => h (Or.inr q)
  generalize tn_x i = j at hl
  rcases (by omega : j = 0 ∨ j = 1 ∨ j = 2 ∨ j = 3 ∨ j = 4 ∨ j = 5) with rfl | rfl | rfl | rfl | rfl | rfl <;> exact ⟨rfl, rfl⟩
theorem tn_rowI {i : Int32} (h : i < 0 ∨ 4 ≤ i.toNatClampNeg → False) : tn_kd (28 + 1 + tn_x i) = 1 ∧ tn_len (28 + 1 + tn_x i) = 60 := by
  have hl : tn_x i < 4 := Nat.not_le.mp fun q => h (Or.inr q)
  generalize tn_x i = j at hl
  rcases (by omega : j = 0 ∨ j = 1 ∨ j = 2 ∨ j = 3) with rfl | rfl | rfl | rfl <;> exact ⟨rfl, rfl⟩
/-! a run of a method, as the rows see it: G holds what the machine's judgement W has -/
abbrev tn_G : Type := Program × Launch × Env × Room × State × MethodId × Array Value × List Frame × Method × Code × Nat × Nat × Nat × (Nat → Prop) × (Option Value → tn_M → State → Prop)
abbrev tg_p (G : tn_G) : Program := G.1
abbrev tg_l (G : tn_G) : Launch := G.2.1
abbrev tg_e (G : tn_G) : Env := G.2.2.1
abbrev tg_R (G : tn_G) : Room := G.2.2.2.1
abbrev tg_s (G : tn_G) : State := G.2.2.2.2.1
abbrev tg_m (G : tn_G) : MethodId := G.2.2.2.2.2.1
abbrev tg_a (G : tn_G) : Array Value := G.2.2.2.2.2.2.1
abbrev tg_b (G : tn_G) : List Frame := G.2.2.2.2.2.2.2.1
abbrev tg_h (G : tn_G) : Method := G.2.2.2.2.2.2.2.2.1
abbrev tg_c (G : tn_G) : Code := G.2.2.2.2.2.2.2.2.2.1
abbrev tg_k (G : tn_G) : Nat := G.2.2.2.2.2.2.2.2.2.2.1
abbrev tg_z (G : tn_G) : Nat := G.2.2.2.2.2.2.2.2.2.2.2.1
abbrev tg_n (G : tn_G) : Nat := G.2.2.2.2.2.2.2.2.2.2.2.2.1
abbrev tg_A (G : tn_G) : Nat → Prop := G.2.2.2.2.2.2.2.2.2.2.2.2.2.1
abbrev tg_Q (G : tn_G) : Option Value → tn_M → State → Prop := G.2.2.2.2.2.2.2.2.2.2.2.2.2.2
def tg_W (G : tn_G) (H : Heap) (locs : List Loc) (Q : State → Prop) (g : JFrame) : Prop := W (tg_p G) (tg_l G) (tg_e G) (tg_R G) (tg_s G) (tg_m G) (tg_a G) (tg_b G) (tg_h G) (tg_c G) H locs (tg_k G) (tg_z G) Q g
def tn_Ok (E : tn_E) (G : tn_G) (cc : ByteArray) (own : String) (nL : Nat) (R : Room) : Prop :=
  (tg_p G).tables.exec = Jvm.exec ∧ (tg_c G).code = cc ∧ (tg_c G).maxLocals = nL ∧ tg_n G = nL ∧ (tg_s G).vm.findClass own = some (tg_m G).cls ∧ (∀ w ∈ tn_T, w.before (tg_a G) (tg_s G) = true) ∧ va_K E.2.1 classes (tn_tys E) (tg_s G) ∧ (∀ i j, i < 49 → j < 49 → tn_ad E i = tn_ad E j → i = j) ∧ (∀ k, k < 49 → tg_A G (tn_ad E k)) ∧ tn_Z E (tg_A G) (tg_s G) (tg_s G).heap ∧ tg_R G = R ∧ (tg_k G ≤ R.cells ∧ tg_z G ≤ R.slots)
section TNO
variable {E : tn_E} {G : tn_G} {cc : ByteArray} {own : String} {nL : Nat} {R : Room}
theorem tn_Ok.ex (g : tn_Ok E G cc own nL R) : (tg_p G).tables.exec = Jvm.exec := g.1
theorem tn_Ok.by (g : tn_Ok E G cc own nL R) : (tg_c G).code = cc := g.2.1
theorem tn_Ok.ml (g : tn_Ok E G cc own nL R) : (tg_c G).maxLocals = nL := g.2.2.1
theorem tn_Ok.nl (g : tn_Ok E G cc own nL R) : tg_n G = nL := g.2.2.2.1
theorem tn_Ok.ow (g : tn_Ok E G cc own nL R) : (tg_s G).vm.findClass own = some (tg_m G).cls := g.2.2.2.2.1
theorem tn_Ok.ts (g : tn_Ok E G cc own nL R) : ∀ w ∈ tn_T, w.before (tg_a G) (tg_s G) = true := g.2.2.2.2.2.1
theorem tn_Ok.K (g : tn_Ok E G cc own nL R) : va_K E.2.1 classes (tn_tys E) (tg_s G) := g.2.2.2.2.2.2.1
theorem tn_Ok.inj (g : tn_Ok E G cc own nL R) : ∀ i j, i < 49 → j < 49 → tn_ad E i = tn_ad E j → i = j := g.2.2.2.2.2.2.2.1
theorem tn_Ok.A (g : tn_Ok E G cc own nL R) : ∀ k, k < 49 → tg_A G (tn_ad E k) := g.2.2.2.2.2.2.2.2.1
theorem tn_Ok.Z (g : tn_Ok E G cc own nL R) : tn_Z E (tg_A G) (tg_s G) (tg_s G).heap := g.2.2.2.2.2.2.2.2.2.1
theorem tn_Ok.rm (g : tn_Ok E G cc own nL R) : tg_R G = R := g.2.2.2.2.2.2.2.2.2.2.1
theorem tn_Ok.D (g : tn_Ok E G cc own nL R) (σ : tn_M) : va_D (tg_A G) (tn_ws E σ) := tn_ws_D g.inj g.A
end TNO
/-- from here on, if the pure run ends with r and σ', the machine comes to where the method's end with them is -/
def tn_V (E : tn_E) (G : tn_G) {ρ : Type} (enc : ρ → Option Value) (pc : Nat) (lv : List (Nat × Value)) (st : List Value) (σ : tn_M) (res : Option (ρ × tn_M)) : Prop :=
  ∀ (H : Heap) (locs : List Loc) (ls : Array Slot), va_P E.2.1 classes (tn_ws E σ) H → va_S (tg_A G) (tg_s G).heap H locs → lv_has ls (tg_n G) lv → ∀ (r : ρ) (σ' : tn_M), res = some (r, σ') → tg_W G H locs (tg_Q G (enc r) σ') (F0 (tg_m G) pc ls st)
def tn_ck {α : Type} (i : Int32) (n : Nat) (r : Option α) : Option α := if i < 0 ∨ n ≤ i.toNatClampNeg then none else r
def tn_dz {α : Type} (y : Int32) (r : Option α) : Option α := if y = 0 then none else r
def tn_dzl {α : Type} (y : Int64) (r : Option α) : Option α := if y = 0 then none else r
def tn_bd {α β : Type} (o : Option (α × tn_M)) (k : α → tn_M → Option β) : Option β := match o with
  | none => none
  | some q => k q.1 q.2
def tn_lt {α β : Type} (v : α) (k : α → β) : β := k v
def tn_zr (v : Int32) (σ : tn_M) : Option (Int32 × tn_M) := if v = 0 ∨ v = 1 then some (v, σ) else none
def tn_ie (r : Int32) : Option Value := some (.int r)
def tn_le (r : Int64) : Option Value := some (.long r)
def tn_ve (_ : Unit) : Option Value := none
def tn_re (a : Nat) (_ : Unit) : Option Value := some (.ref a)
section TNR
variable {E : tn_E} {G : tn_G} {cc : ByteArray} {own : String} {nL : Nat} {R : Room} {ρ : Type} {enc : ρ → Option Value} {pc : Nat} {lv : List (Nat × Value)} {st : List Value} {σ : tn_M} {res : Option (ρ × tn_M)}
theorem tr_none : tn_V E G enc pc lv st σ none := fun _ _ _ _ _ _ _ _ h => by cases h
theorem tr_sub (ks : List Nat) {lv' : List (Nat × Value)} (hl : lv_pick lv ks = lv') (k : tn_V E G enc pc lv' st σ res) : tn_V E G enc pc lv st σ res := fun H locs ls hP hS h r σ' hr => k H locs ls hP hS (lv_sub h ks hl) r σ' hr
theorem tr_to {lv' : List (Nat × Value)} {st' : List Value} {σ' : tn_M} {res' : Option (ρ × tn_M)} (k : tn_V E G enc pc lv' st' σ' res') (h1 : lv' = lv) (h2 : st' = st) (h3 : σ' = σ) (h4 : res' = res) : tn_V E G enc pc lv st σ res := by subst h1; subst h2; subst h3; subst h4; exact k
theorem tr_lti {v : Int32} {kk : Int32 → Option (ρ × tn_M)} (k : ∀ x, tn_V E G enc pc lv (.int x :: st) σ (kk x)) : tn_V E G enc pc lv (.int v :: st) σ (tn_lt v kk) := k v
theorem tr_ltl {v : Int64} {kk : Int64 → Option (ρ × tn_M)} (k : ∀ x, tn_V E G enc pc lv (.long x :: st) σ (kk x)) : tn_V E G enc pc lv (.long v :: st) σ (tn_lt v kk) := k v

theorem tr_iconst (g : tn_Ok E G cc own nL R) {i : Int} {v : Int32} (n : Nat) (hd : decode cc pc = .ok (.iconst i, 1)) (hn : pc + 1 = n) (hv : Int32.ofInt i = v) (k : tn_V E G enc n lv (.int v :: st) σ res) : tn_V E G enc pc lv (st) σ res := by
  subst hn
  exact fun H locs ls hP hS hl r σ' hr => lv_iconst g.ex g.by hd hv (k H locs ls hP hS hl r σ' hr)
theorem tr_bipush (g : tn_Ok E G cc own nL R) {i : Int} {v : Int32} (n : Nat) (hd : decode cc pc = .ok (.bipush i, 2)) (hn : pc + 2 = n) (hv : (Int8.ofInt i).toInt32 = v) (k : tn_V E G enc n lv (.int v :: st) σ res) : tn_V E G enc pc lv (st) σ res := by
  subst hn
  exact fun H locs ls hP hS hl r σ' hr => lv_bipush g.ex g.by hd hv (k H locs ls hP hS hl r σ' hr)
theorem tr_sipush (g : tn_Ok E G cc own nL R) {i : Int} {v : Int32} (n : Nat) (hd : decode cc pc = .ok (.sipush i, 3)) (hn : pc + 3 = n) (hv : (Int16.ofInt i).toInt32 = v) (k : tn_V E G enc n lv (.int v :: st) σ res) : tn_V E G enc pc lv (st) σ res := by
  subst hn
  exact fun H locs ls hP hS hl r σ' hr => lv_sipush g.ex g.by hd hv (k H locs ls hP hS hl r σ' hr)
theorem tr_lconst (g : tn_Ok E G cc own nL R) {i : Fin 2} {v : Int64} (n : Nat) (hd : decode cc pc = .ok (.lconst i, 1)) (hn : pc + 1 = n) (hv : Int64.ofNat (i : Nat) = v) (k : tn_V E G enc n lv (.long v :: st) σ res) : tn_V E G enc pc lv (st) σ res := by
  subst hn
  exact fun H locs ls hP hS hl r σ' hr => lv_lconst g.ex g.by hd hv (k H locs ls hP hS hl r σ' hr)
theorem tr_iload_n (g : tn_Ok E G cc own nL R) {i : Fin 4} {j : Nat} {x : Int32} (q : Nat) (n : Nat) (hd : decode cc pc = .ok (.iload_n i, 1)) (hn : pc + 1 = n) (hi : (i : Nat) = j) (hq : lv[q]? = some (j, .int x)) (k : tn_V E G enc n lv (.int x :: st) σ res) : tn_V E G enc pc lv (st) σ res := by
  subst hn
  exact fun H locs ls hP hS hl r σ' hr => lv_iload_n g.ex g.by hd hi (lv_at hl q hq) (k H locs ls hP hS hl r σ' hr)
theorem tr_iload (g : tn_Ok E G cc own nL R) {j : Nat} {x : Int32} (q : Nat) (n : Nat) (hd : decode cc pc = .ok (.iload j, 2)) (hn : pc + 2 = n) (hq : lv[q]? = some (j, .int x)) (k : tn_V E G enc n lv (.int x :: st) σ res) : tn_V E G enc pc lv (st) σ res := by
  subst hn
  exact fun H locs ls hP hS hl r σ' hr => lv_iload g.ex g.by hd (lv_at hl q hq) (k H locs ls hP hS hl r σ' hr)
theorem tr_lload_n (g : tn_Ok E G cc own nL R) {i : Fin 4} {j : Nat} {x : Int64} (q : Nat) (n : Nat) (hd : decode cc pc = .ok (.lload_n i, 1)) (hn : pc + 1 = n) (hi : (i : Nat) = j) (hq : lv[q]? = some (j, .long x)) (k : tn_V E G enc n lv (.long x :: st) σ res) : tn_V E G enc pc lv (st) σ res := by
  subst hn
  exact fun H locs ls hP hS hl r σ' hr => lv_lload_n g.ex g.by hd hi (lv_at hl q hq) (k H locs ls hP hS hl r σ' hr)
theorem tr_lload (g : tn_Ok E G cc own nL R) {j : Nat} {x : Int64} (q : Nat) (n : Nat) (hd : decode cc pc = .ok (.lload j, 2)) (hn : pc + 2 = n) (hq : lv[q]? = some (j, .long x)) (k : tn_V E G enc n lv (.long x :: st) σ res) : tn_V E G enc pc lv (st) σ res := by
  subst hn
  exact fun H locs ls hP hS hl r σ' hr => lv_lload g.ex g.by hd (lv_at hl q hq) (k H locs ls hP hS hl r σ' hr)
theorem tr_aload_n (g : tn_Ok E G cc own nL R) {i : Fin 4} {j : Nat} {x : Nat} (q : Nat) (n : Nat) (hd : decode cc pc = .ok (.aload_n i, 1)) (hn : pc + 1 = n) (hi : (i : Nat) = j) (hq : lv[q]? = some (j, .ref x)) (k : tn_V E G enc n lv (.ref x :: st) σ res) : tn_V E G enc pc lv (st) σ res := by
  subst hn
  exact fun H locs ls hP hS hl r σ' hr => lv_aload_n g.ex g.by hd hi (lv_at hl q hq) (k H locs ls hP hS hl r σ' hr)
theorem tr_aload (g : tn_Ok E G cc own nL R) {j : Nat} {x : Nat} (q : Nat) (n : Nat) (hd : decode cc pc = .ok (.aload j, 2)) (hn : pc + 2 = n) (hq : lv[q]? = some (j, .ref x)) (k : tn_V E G enc n lv (.ref x :: st) σ res) : tn_V E G enc pc lv (st) σ res := by
  subst hn
  exact fun H locs ls hP hS hl r σ' hr => lv_aload g.ex g.by hd (lv_at hl q hq) (k H locs ls hP hS hl r σ' hr)
theorem tr_istore_n (g : tn_Ok E G cc own nL R) {j : Fin 4} {i : Nat} {x : Int32} {lv' : List (Nat × Value)} (n : Nat) (hd : decode cc pc = .ok (.istore_n j, 1)) (hn : pc + 1 = n) (hi : (j : Nat) = i) (hu : i < nL) (hl0 : (i, Value.int x) :: lv.filter (fun q => !(q.1 == i) && !(q.1 + 1 == i && q.2.category == 2)) = lv') (k : tn_V E G enc n lv' st σ res) : tn_V E G enc pc lv (.int x :: st) σ res := by
  subst hn
  exact fun H locs ls hP hS hl r σ' hr => lv_istore_n g.ex g.by hd hi hl (by rw [g.nl]; exact hu) hl0 (fun ls2 hl2 => k H locs ls2 hP hS hl2 r σ' hr)
theorem tr_istore (g : tn_Ok E G cc own nL R) {i : Nat} {x : Int32} {lv' : List (Nat × Value)} (n : Nat) (hd : decode cc pc = .ok (.istore i, 2)) (hn : pc + 2 = n) (hu : i < nL) (hl0 : (i, Value.int x) :: lv.filter (fun q => !(q.1 == i) && !(q.1 + 1 == i && q.2.category == 2)) = lv') (k : tn_V E G enc n lv' st σ res) : tn_V E G enc pc lv (.int x :: st) σ res := by
  subst hn
  exact fun H locs ls hP hS hl r σ' hr => lv_istore g.ex g.by hd hl (by rw [g.nl]; exact hu) hl0 (fun ls2 hl2 => k H locs ls2 hP hS hl2 r σ' hr)
theorem tr_lstore_n (g : tn_Ok E G cc own nL R) {j : Fin 4} {i : Nat} {x : Int64} {lv' : List (Nat × Value)} (n : Nat) (hd : decode cc pc = .ok (.lstore_n j, 1)) (hn : pc + 1 = n) (hi : (j : Nat) = i) (hu : i + 1 < nL) (hl0 : (i, Value.long x) :: lv.filter (fun q => !(q.1 == i) && (!(q.1 == i + 1) && !(q.1 + 1 == i && q.2.category == 2))) = lv') (k : tn_V E G enc n lv' st σ res) : tn_V E G enc pc lv (.long x :: st) σ res := by
  subst hn
  exact fun H locs ls hP hS hl r σ' hr => lv_lstore_n g.ex g.by hd hi hl (by rw [g.nl]; exact hu) hl0 (fun ls2 hl2 => k H locs ls2 hP hS hl2 r σ' hr)
theorem tr_lstore (g : tn_Ok E G cc own nL R) {i : Nat} {x : Int64} {lv' : List (Nat × Value)} (n : Nat) (hd : decode cc pc = .ok (.lstore i, 2)) (hn : pc + 2 = n) (hu : i + 1 < nL) (hl0 : (i, Value.long x) :: lv.filter (fun q => !(q.1 == i) && (!(q.1 == i + 1) && !(q.1 + 1 == i && q.2.category == 2))) = lv') (k : tn_V E G enc n lv' st σ res) : tn_V E G enc pc lv (.long x :: st) σ res := by
  subst hn
  exact fun H locs ls hP hS hl r σ' hr => lv_lstore g.ex g.by hd hl (by rw [g.nl]; exact hu) hl0 (fun ls2 hl2 => k H locs ls2 hP hS hl2 r σ' hr)
theorem tr_astore_n (g : tn_Ok E G cc own nL R) {j : Fin 4} {i : Nat} {x : Nat} {lv' : List (Nat × Value)} (n : Nat) (hd : decode cc pc = .ok (.astore_n j, 1)) (hn : pc + 1 = n) (hi : (j : Nat) = i) (hu : i < nL) (hl0 : (i, Value.ref x) :: lv.filter (fun q => !(q.1 == i) && !(q.1 + 1 == i && q.2.category == 2)) = lv') (k : tn_V E G enc n lv' st σ res) : tn_V E G enc pc lv (.ref x :: st) σ res := by
  subst hn
  exact fun H locs ls hP hS hl r σ' hr => lv_astore_n g.ex g.by hd hi hl (by rw [g.nl]; exact hu) hl0 (fun ls2 hl2 => k H locs ls2 hP hS hl2 r σ' hr)
theorem tr_astore (g : tn_Ok E G cc own nL R) {i : Nat} {x : Nat} {lv' : List (Nat × Value)} (n : Nat) (hd : decode cc pc = .ok (.astore i, 2)) (hn : pc + 2 = n) (hu : i < nL) (hl0 : (i, Value.ref x) :: lv.filter (fun q => !(q.1 == i) && !(q.1 + 1 == i && q.2.category == 2)) = lv') (k : tn_V E G enc n lv' st σ res) : tn_V E G enc pc lv (.ref x :: st) σ res := by
  subst hn
  exact fun H locs ls hP hS hl r σ' hr => lv_astore g.ex g.by hd hl (by rw [g.nl]; exact hu) hl0 (fun ls2 hl2 => k H locs ls2 hP hS hl2 r σ' hr)
theorem tr_iinc (g : tn_Ok E G cc own nL R) {i : Nat} {d : Int} {y x : Int32} {lv' : List (Nat × Value)} (q n : Nat) (hd : decode cc pc = .ok (.iinc i d, 3)) (hn : pc + 3 = n) (hq : lv[q]? = some (i, .int y)) (hv : y + Int32.ofInt d = x) (hu : i < nL) (hl0 : (i, Value.int x) :: lv.filter (fun q => !(q.1 == i) && !(q.1 + 1 == i && q.2.category == 2)) = lv') (k : tn_V E G enc n lv' st σ res) : tn_V E G enc pc lv st σ res := by
  subst hn
  exact fun H locs ls hP hS hl r σ' hr => lv_iinc g.ex g.by hd hl hq hv (by rw [g.nl]; exact hu) hl0 (fun ls2 hl2 => k H locs ls2 hP hS hl2 r σ' hr)
theorem tr_iadd (g : tn_Ok E G cc own nL R) {x y : Int32} (n : Nat) (hd : decode cc pc = .ok (.iadd, 1)) (hn : pc + 1 = n)  (k : tn_V E G enc n lv (.int (x + y) :: st) σ res) : tn_V E G enc pc lv (.int y :: .int x :: st) σ res := by
  subst hn
  exact fun H locs ls hP hS hl r σ' hr => lv_iadd g.ex g.by hd  (k H locs ls hP hS hl r σ' hr)
theorem tr_isub (g : tn_Ok E G cc own nL R) {x y : Int32} (n : Nat) (hd : decode cc pc = .ok (.isub, 1)) (hn : pc + 1 = n)  (k : tn_V E G enc n lv (.int (x - y) :: st) σ res) : tn_V E G enc pc lv (.int y :: .int x :: st) σ res := by
  subst hn
  exact fun H locs ls hP hS hl r σ' hr => lv_isub g.ex g.by hd  (k H locs ls hP hS hl r σ' hr)
theorem tr_imul (g : tn_Ok E G cc own nL R) {x y : Int32} (n : Nat) (hd : decode cc pc = .ok (.imul, 1)) (hn : pc + 1 = n)  (k : tn_V E G enc n lv (.int (x * y) :: st) σ res) : tn_V E G enc pc lv (.int y :: .int x :: st) σ res := by
  subst hn
  exact fun H locs ls hP hS hl r σ' hr => lv_imul g.ex g.by hd  (k H locs ls hP hS hl r σ' hr)
theorem tr_iand (g : tn_Ok E G cc own nL R) {x y : Int32} (n : Nat) (hd : decode cc pc = .ok (.iand, 1)) (hn : pc + 1 = n)  (k : tn_V E G enc n lv (.int (x &&& y) :: st) σ res) : tn_V E G enc pc lv (.int y :: .int x :: st) σ res := by
  subst hn
  exact fun H locs ls hP hS hl r σ' hr => lv_iand g.ex g.by hd  (k H locs ls hP hS hl r σ' hr)
theorem tr_ior (g : tn_Ok E G cc own nL R) {x y : Int32} (n : Nat) (hd : decode cc pc = .ok (.ior, 1)) (hn : pc + 1 = n)  (k : tn_V E G enc n lv (.int (x ||| y) :: st) σ res) : tn_V E G enc pc lv (.int y :: .int x :: st) σ res := by
  subst hn
  exact fun H locs ls hP hS hl r σ' hr => lv_ior g.ex g.by hd  (k H locs ls hP hS hl r σ' hr)
theorem tr_ixor (g : tn_Ok E G cc own nL R) {x y : Int32} (n : Nat) (hd : decode cc pc = .ok (.ixor, 1)) (hn : pc + 1 = n)  (k : tn_V E G enc n lv (.int (x ^^^ y) :: st) σ res) : tn_V E G enc pc lv (.int y :: .int x :: st) σ res := by
  subst hn
  exact fun H locs ls hP hS hl r σ' hr => lv_ixor g.ex g.by hd  (k H locs ls hP hS hl r σ' hr)
theorem tr_ishl (g : tn_Ok E G cc own nL R) {x y : Int32} (n : Nat) (hd : decode cc pc = .ok (.ishl, 1)) (hn : pc + 1 = n)  (k : tn_V E G enc n lv (.int (x <<< (y &&& 31)) :: st) σ res) : tn_V E G enc pc lv (.int y :: .int x :: st) σ res := by
  subst hn
  exact fun H locs ls hP hS hl r σ' hr => lv_ishl g.ex g.by hd  (k H locs ls hP hS hl r σ' hr)
theorem tr_ishr (g : tn_Ok E G cc own nL R) {x y : Int32} (n : Nat) (hd : decode cc pc = .ok (.ishr, 1)) (hn : pc + 1 = n)  (k : tn_V E G enc n lv (.int (x >>> (y &&& 31)) :: st) σ res) : tn_V E G enc pc lv (.int y :: .int x :: st) σ res := by
  subst hn
  exact fun H locs ls hP hS hl r σ' hr => lv_ishr g.ex g.by hd  (k H locs ls hP hS hl r σ' hr)
theorem tr_ladd (g : tn_Ok E G cc own nL R) {x y : Int64} (n : Nat) (hd : decode cc pc = .ok (.ladd, 1)) (hn : pc + 1 = n)  (k : tn_V E G enc n lv (.long (x + y) :: st) σ res) : tn_V E G enc pc lv (.long y :: .long x :: st) σ res := by
  subst hn
  exact fun H locs ls hP hS hl r σ' hr => lv_ladd g.ex g.by hd  (k H locs ls hP hS hl r σ' hr)
theorem tr_lsub (g : tn_Ok E G cc own nL R) {x y : Int64} (n : Nat) (hd : decode cc pc = .ok (.lsub, 1)) (hn : pc + 1 = n)  (k : tn_V E G enc n lv (.long (x - y) :: st) σ res) : tn_V E G enc pc lv (.long y :: .long x :: st) σ res := by
  subst hn
  exact fun H locs ls hP hS hl r σ' hr => lv_lsub g.ex g.by hd  (k H locs ls hP hS hl r σ' hr)
theorem tr_lmul (g : tn_Ok E G cc own nL R) {x y : Int64} (n : Nat) (hd : decode cc pc = .ok (.lmul, 1)) (hn : pc + 1 = n)  (k : tn_V E G enc n lv (.long (x * y) :: st) σ res) : tn_V E G enc pc lv (.long y :: .long x :: st) σ res := by
  subst hn
  exact fun H locs ls hP hS hl r σ' hr => lv_lmul g.ex g.by hd  (k H locs ls hP hS hl r σ' hr)
theorem tr_lneg (g : tn_Ok E G cc own nL R) {x : Int64} (n : Nat) (hd : decode cc pc = .ok (.lneg, 1)) (hn : pc + 1 = n)  (k : tn_V E G enc n lv (.long (-x) :: st) σ res) : tn_V E G enc pc lv (.long x :: st) σ res := by
  subst hn
  exact fun H locs ls hP hS hl r σ' hr => lv_lneg g.ex g.by hd  (k H locs ls hP hS hl r σ' hr)
theorem tr_iushr (g : tn_Ok E G cc own nL R) {x y : Int32} (n : Nat) (hd : decode cc pc = .ok (.iushr, 1)) (hn : pc + 1 = n) (k : tn_V E G enc n lv (.int (x.toUInt32 >>> (y.toUInt32 &&& Int32.toUInt32 31)).toInt32 :: st) σ res) : tn_V E G enc pc lv (.int y :: .int x :: st) σ res := by
  subst hn
  exact fun H locs ls hP hS hl r σ' hr => lv_iushr g.ex g.by hd rfl (k H locs ls hP hS hl r σ' hr)
theorem tr_idiv (g : tn_Ok E G cc own nL R) {x y : Int32} (n : Nat) (hd : decode cc pc = .ok (.idiv, 1)) (hn : pc + 1 = n) (k : tn_V E G enc n lv (.int (x / y) :: st) σ res) : tn_V E G enc pc lv (.int y :: .int x :: st) σ (tn_dz y res) := by
  subst hn
  intro H locs ls hP hS hl r σ' hr
  unfold tn_dz at hr
  by_cases h : y = 0
  · rw [if_pos h] at hr; cases hr
  · rw [if_neg h] at hr
    exact lv_idiv g.ex g.by hd h (k H locs ls hP hS hl r σ' hr)
theorem tr_idivK (g : tn_Ok E G cc own nL R) {x y : Int32} (n : Nat) (hd : decode cc pc = .ok (.idiv, 1)) (hn : pc + 1 = n) (h : ¬ y = 0) (k : tn_V E G enc n lv (.int (x / y) :: st) σ res) : tn_V E G enc pc lv (.int y :: .int x :: st) σ res := by
  subst hn
  exact fun H locs ls hP hS hl r σ' hr => lv_idiv g.ex g.by hd h (k H locs ls hP hS hl r σ' hr)
theorem tr_irem (g : tn_Ok E G cc own nL R) {x y : Int32} (n : Nat) (hd : decode cc pc = .ok (.irem, 1)) (hn : pc + 1 = n) (k : tn_V E G enc n lv (.int (x - x / y * y) :: st) σ res) : tn_V E G enc pc lv (.int y :: .int x :: st) σ (tn_dz y res) := by
  subst hn
  intro H locs ls hP hS hl r σ' hr
  unfold tn_dz at hr
  by_cases h : y = 0
  · rw [if_pos h] at hr; cases hr
  · rw [if_neg h] at hr
    exact lv_irem g.ex g.by hd h (k H locs ls hP hS hl r σ' hr)
theorem tr_iremK (g : tn_Ok E G cc own nL R) {x y : Int32} (n : Nat) (hd : decode cc pc = .ok (.irem, 1)) (hn : pc + 1 = n) (h : ¬ y = 0) (k : tn_V E G enc n lv (.int (x - x / y * y) :: st) σ res) : tn_V E G enc pc lv (.int y :: .int x :: st) σ res := by
  subst hn
  exact fun H locs ls hP hS hl r σ' hr => lv_irem g.ex g.by hd h (k H locs ls hP hS hl r σ' hr)
theorem tr_ldiv (g : tn_Ok E G cc own nL R) {x y : Int64} (n : Nat) (hd : decode cc pc = .ok (.ldiv, 1)) (hn : pc + 1 = n) (k : tn_V E G enc n lv (.long (x / y) :: st) σ res) : tn_V E G enc pc lv (.long y :: .long x :: st) σ (tn_dzl y res) := by
  subst hn
  intro H locs ls hP hS hl r σ' hr
  unfold tn_dzl at hr
  by_cases h : y = 0
  · rw [if_pos h] at hr; cases hr
  · rw [if_neg h] at hr
    exact lv_ldiv g.ex g.by hd h (k H locs ls hP hS hl r σ' hr)
theorem tr_ldivK (g : tn_Ok E G cc own nL R) {x y : Int64} (n : Nat) (hd : decode cc pc = .ok (.ldiv, 1)) (hn : pc + 1 = n) (h : ¬ y = 0) (k : tn_V E G enc n lv (.long (x / y) :: st) σ res) : tn_V E G enc pc lv (.long y :: .long x :: st) σ res := by
  subst hn
  exact fun H locs ls hP hS hl r σ' hr => lv_ldiv g.ex g.by hd h (k H locs ls hP hS hl r σ' hr)
theorem tr_lrem (g : tn_Ok E G cc own nL R) {x y : Int64} (n : Nat) (hd : decode cc pc = .ok (.lrem, 1)) (hn : pc + 1 = n) (k : tn_V E G enc n lv (.long (x - x / y * y) :: st) σ res) : tn_V E G enc pc lv (.long y :: .long x :: st) σ (tn_dzl y res) := by
  subst hn
  intro H locs ls hP hS hl r σ' hr
  unfold tn_dzl at hr
  by_cases h : y = 0
  · rw [if_pos h] at hr; cases hr
  · rw [if_neg h] at hr
    exact lv_lrem g.ex g.by hd h (k H locs ls hP hS hl r σ' hr)
theorem tr_lremK (g : tn_Ok E G cc own nL R) {x y : Int64} (n : Nat) (hd : decode cc pc = .ok (.lrem, 1)) (hn : pc + 1 = n) (h : ¬ y = 0) (k : tn_V E G enc n lv (.long (x - x / y * y) :: st) σ res) : tn_V E G enc pc lv (.long y :: .long x :: st) σ res := by
  subst hn
  exact fun H locs ls hP hS hl r σ' hr => lv_lrem g.ex g.by hd h (k H locs ls hP hS hl r σ' hr)
theorem tr_i2l (g : tn_Ok E G cc own nL R) {x : Int32} (n : Nat) (hd : decode cc pc = .ok (.i2l, 1)) (hn : pc + 1 = n)  (k : tn_V E G enc n lv (.long x.toInt64 :: st) σ res) : tn_V E G enc pc lv (.int x :: st) σ res := by
  subst hn
  exact fun H locs ls hP hS hl r σ' hr => lv_i2l g.ex g.by hd rfl (k H locs ls hP hS hl r σ' hr)
theorem tr_l2i (g : tn_Ok E G cc own nL R) {x : Int64} (n : Nat) (hd : decode cc pc = .ok (.l2i, 1)) (hn : pc + 1 = n)  (k : tn_V E G enc n lv (.int x.toInt32 :: st) σ res) : tn_V E G enc pc lv (.long x :: st) σ res := by
  subst hn
  exact fun H locs ls hP hS hl r σ' hr => lv_l2i g.ex g.by hd rfl (k H locs ls hP hS hl r σ' hr)
theorem tr_i2b (g : tn_Ok E G cc own nL R) {x : Int32} (n : Nat) (hd : decode cc pc = .ok (.i2b, 1)) (hn : pc + 1 = n)  (k : tn_V E G enc n lv (.int x.toInt8.toInt32 :: st) σ res) : tn_V E G enc pc lv (.int x :: st) σ res := by
  subst hn
  exact fun H locs ls hP hS hl r σ' hr => lv_i2b g.ex g.by hd rfl (k H locs ls hP hS hl r σ' hr)
theorem tr_i2s (g : tn_Ok E G cc own nL R) {x : Int32} (n : Nat) (hd : decode cc pc = .ok (.i2s, 1)) (hn : pc + 1 = n)  (k : tn_V E G enc n lv (.int x.toInt16.toInt32 :: st) σ res) : tn_V E G enc pc lv (.int x :: st) σ res := by
  subst hn
  exact fun H locs ls hP hS hl r σ' hr => lv_i2s g.ex g.by hd rfl (k H locs ls hP hS hl r σ' hr)
theorem tr_dup (g : tn_Ok E G cc own nL R) {v : Value} (n : Nat) (hd : decode cc pc = .ok (.dup, 1)) (hn : pc + 1 = n) (hv : v.category = 1) (k : tn_V E G enc n lv (v :: v :: st) σ res) : tn_V E G enc pc lv (v :: st) σ res := by
  subst hn
  exact fun H locs ls hP hS hl r σ' hr => lv_dup g.ex g.by hd hv (k H locs ls hP hS hl r σ' hr)
theorem tr_pop (g : tn_Ok E G cc own nL R) {v : Value} (n : Nat) (hd : decode cc pc = .ok (.pop, 1)) (hn : pc + 1 = n) (hv : v.category = 1) (k : tn_V E G enc n lv (st) σ res) : tn_V E G enc pc lv (v :: st) σ res := by
  subst hn
  exact fun H locs ls hP hS hl r σ' hr => lv_pop g.ex g.by hd hv (k H locs ls hP hS hl r σ' hr)
theorem tr_dup2 (g : tn_Ok E G cc own nL R) {v w : Value} (n : Nat) (hd : decode cc pc = .ok (.dup2, 1)) (hn : pc + 1 = n) (hv : v.category = 1) (hw : w.category = 1) (k : tn_V E G enc n lv (v :: w :: v :: w :: st) σ res) : tn_V E G enc pc lv (v :: w :: st) σ res := by
  subst hn
  exact fun H locs ls hP hS hl r σ' hr => lv_dup2_11 g.ex g.by hd hv hw (k H locs ls hP hS hl r σ' hr)
theorem tr_lcmp (g : tn_Ok E G cc own nL R) {x y : Int64} (n : Nat) (hd : decode cc pc = .ok (.lcmp, 1)) (hn : pc + 1 = n)  (k : tn_V E G enc n lv (.int (lg_cmp x y) :: st) σ res) : tn_V E G enc pc lv (.long y :: .long x :: st) σ res := by
  subst hn
  exact fun H locs ls hP hS hl r σ' hr => W.lcmp g.ex g.by hd  (k H locs ls hP hS hl r σ' hr)
theorem tr_ldc (g : tn_Ok E G cc own nL R) {i : Nat} {v : Int32} (hw : Cond.constant own i v ∈ tn_T) (n : Nat) (hd : decode cc pc = .ok (.ldc i, 2)) (hn : pc + 2 = n) (k : tn_V E G enc n lv (.int v :: st) σ res) : tn_V E G enc pc lv st σ res := by
  subst hn
  exact fun H locs ls hP hS hl r σ' hr => lv_ldc g.ex g.by g.ow (g.ts _ hw) hd (k H locs ls hP hS hl r σ' hr)
theorem tr_ldcw (g : tn_Ok E G cc own nL R) {i : Nat} {v : Int32} (hw : Cond.constant own i v ∈ tn_T) (n : Nat) (hd : decode cc pc = .ok (.ldc_w i, 3)) (hn : pc + 3 = n) (k : tn_V E G enc n lv (.int v :: st) σ res) : tn_V E G enc pc lv st σ res := by
  subst hn
  exact fun H locs ls hP hS hl r σ' hr => lv_ldcw g.ex g.by g.ow (g.ts _ hw) hd (k H locs ls hP hS hl r σ' hr)
theorem tr_ldc2 (g : tn_Ok E G cc own nL R) {i : Nat} {v : Int64} (hw : Cond.constantLong own i v ∈ tn_T) (n : Nat) (hd : decode cc pc = .ok (.ldc2_w i, 3)) (hn : pc + 3 = n) (k : tn_V E G enc n lv (.long v :: st) σ res) : tn_V E G enc pc lv st σ res := by
  subst hn
  exact fun H locs ls hP hS hl r σ' hr => lv_ldc2 g.ex g.by g.ow (g.ts _ hw) hd (k H locs ls hP hS hl r σ' hr)
theorem tr_goto (g : tn_Ok E G cc own nL R) {off : Int} (t : Nat) (hd : decode cc pc = .ok (.goto off, 3)) (ht : (pc : Int) + off = (t : Int)) (k : tn_V E G enc t lv st σ res) : tn_V E G enc pc lv st σ res :=
  fun H locs ls hP hS hl r σ' hr => lv_goto g.ex g.by hd ht (k H locs ls hP hS hl r σ' hr)
theorem tr_if_eq (g : tn_Ok E G cc own nL R) {x : Int32} {X Y : Option (ρ × tn_M)} {off : Int} (t n : Nat) (hd : decode cc pc = .ok (.ifCond .eq off, 3)) (ht : (pc : Int) + off = (t : Int)) (hn : pc + 3 = n) (kt : tn_V E G enc t lv st σ X) (kf : tn_V E G enc n lv st σ Y) : tn_V E G enc pc lv (.int x :: st) σ (if x = 0 then X else Y) := by
  subst hn
  intro H locs ls hP hS hl r σ' hr
  refine lv_if_eq g.ex g.by hd ht (fun h => kt H locs ls hP hS hl r σ' ?_) (fun h => kf H locs ls hP hS hl r σ' ?_)
  · rw [if_pos h] at hr; exact hr
  · rw [if_neg h] at hr; exact hr
theorem tr_if_eqD (g : tn_Ok E G cc own nL R) {x : Int32} {α : Type} {a b : α} {kk : α → Option (ρ × tn_M)} (inj : α → Value) {off : Int} (J t n : Nat) (hd : decode cc pc = .ok (.ifCond .eq off, 3)) (ht : (pc : Int) + off = (t : Int)) (hn : pc + 3 = n) (kt : ∀ rs : Option (ρ × tn_M), tn_V E G enc J lv (inj a :: st) σ rs → tn_V E G enc t lv st σ rs) (kf : ∀ rs : Option (ρ × tn_M), tn_V E G enc J lv (inj b :: st) σ rs → tn_V E G enc n lv st σ rs) (kj : ∀ v, tn_V E G enc J lv (inj v :: st) σ (kk v)) : tn_V E G enc pc lv (.int x :: st) σ (tn_lt (if x = 0 then a else b) kk) := by
  subst hn
  intro H locs ls hP hS hl r σ' hr
  unfold tn_lt at hr
  refine lv_if_eq g.ex g.by hd ht (fun h => kt _ (kj _) H locs ls hP hS hl r σ' ?_) (fun h => kf _ (kj _) H locs ls hP hS hl r σ' ?_)
  · rw [if_pos h] at hr; exact hr
  · rw [if_neg h] at hr; exact hr
theorem tr_icmp_eq (g : tn_Ok E G cc own nL R) {x y : Int32} {X Y : Option (ρ × tn_M)} {off : Int} (t n : Nat) (hd : decode cc pc = .ok (.if_icmp .eq off, 3)) (ht : (pc : Int) + off = (t : Int)) (hn : pc + 3 = n) (kt : tn_V E G enc t lv st σ X) (kf : tn_V E G enc n lv st σ Y) : tn_V E G enc pc lv (.int y :: .int x :: st) σ (if x = y then X else Y) := by
  subst hn
  intro H locs ls hP hS hl r σ' hr
  refine lv_icmp_eq g.ex g.by hd ht (fun h => kt H locs ls hP hS hl r σ' ?_) (fun h => kf H locs ls hP hS hl r σ' ?_)
  · rw [if_pos h] at hr; exact hr
  · rw [if_neg h] at hr; exact hr
theorem tr_icmp_eqD (g : tn_Ok E G cc own nL R) {x y : Int32} {α : Type} {a b : α} {kk : α → Option (ρ × tn_M)} (inj : α → Value) {off : Int} (J t n : Nat) (hd : decode cc pc = .ok (.if_icmp .eq off, 3)) (ht : (pc : Int) + off = (t : Int)) (hn : pc + 3 = n) (kt : ∀ rs : Option (ρ × tn_M), tn_V E G enc J lv (inj a :: st) σ rs → tn_V E G enc t lv st σ rs) (kf : ∀ rs : Option (ρ × tn_M), tn_V E G enc J lv (inj b :: st) σ rs → tn_V E G enc n lv st σ rs) (kj : ∀ v, tn_V E G enc J lv (inj v :: st) σ (kk v)) : tn_V E G enc pc lv (.int y :: .int x :: st) σ (tn_lt (if x = y then a else b) kk) := by
  subst hn
  intro H locs ls hP hS hl r σ' hr
  unfold tn_lt at hr
  refine lv_icmp_eq g.ex g.by hd ht (fun h => kt _ (kj _) H locs ls hP hS hl r σ' ?_) (fun h => kf _ (kj _) H locs ls hP hS hl r σ' ?_)
  · rw [if_pos h] at hr; exact hr
  · rw [if_neg h] at hr; exact hr
theorem tr_if_ne (g : tn_Ok E G cc own nL R) {x : Int32} {X Y : Option (ρ × tn_M)} {off : Int} (t n : Nat) (hd : decode cc pc = .ok (.ifCond .ne off, 3)) (ht : (pc : Int) + off = (t : Int)) (hn : pc + 3 = n) (kt : tn_V E G enc t lv st σ Y) (kf : tn_V E G enc n lv st σ X) : tn_V E G enc pc lv (.int x :: st) σ (if x = 0 then X else Y) := by
  subst hn
  intro H locs ls hP hS hl r σ' hr
  refine lv_if_ne g.ex g.by hd ht (fun h => kt H locs ls hP hS hl r σ' ?_) (fun h => kf H locs ls hP hS hl r σ' ?_)
  · rw [if_neg h] at hr; exact hr
  · rw [if_pos h] at hr; exact hr
theorem tr_if_neD (g : tn_Ok E G cc own nL R) {x : Int32} {α : Type} {a b : α} {kk : α → Option (ρ × tn_M)} (inj : α → Value) {off : Int} (J t n : Nat) (hd : decode cc pc = .ok (.ifCond .ne off, 3)) (ht : (pc : Int) + off = (t : Int)) (hn : pc + 3 = n) (kt : ∀ rs : Option (ρ × tn_M), tn_V E G enc J lv (inj b :: st) σ rs → tn_V E G enc t lv st σ rs) (kf : ∀ rs : Option (ρ × tn_M), tn_V E G enc J lv (inj a :: st) σ rs → tn_V E G enc n lv st σ rs) (kj : ∀ v, tn_V E G enc J lv (inj v :: st) σ (kk v)) : tn_V E G enc pc lv (.int x :: st) σ (tn_lt (if x = 0 then a else b) kk) := by
  subst hn
  intro H locs ls hP hS hl r σ' hr
  unfold tn_lt at hr
  refine lv_if_ne g.ex g.by hd ht (fun h => kt _ (kj _) H locs ls hP hS hl r σ' ?_) (fun h => kf _ (kj _) H locs ls hP hS hl r σ' ?_)
  · rw [if_neg h] at hr; exact hr
  · rw [if_pos h] at hr; exact hr
theorem tr_icmp_ne (g : tn_Ok E G cc own nL R) {x y : Int32} {X Y : Option (ρ × tn_M)} {off : Int} (t n : Nat) (hd : decode cc pc = .ok (.if_icmp .ne off, 3)) (ht : (pc : Int) + off = (t : Int)) (hn : pc + 3 = n) (kt : tn_V E G enc t lv st σ Y) (kf : tn_V E G enc n lv st σ X) : tn_V E G enc pc lv (.int y :: .int x :: st) σ (if x = y then X else Y) := by
  subst hn
  intro H locs ls hP hS hl r σ' hr
  refine lv_icmp_ne g.ex g.by hd ht (fun h => kt H locs ls hP hS hl r σ' ?_) (fun h => kf H locs ls hP hS hl r σ' ?_)
  · rw [if_neg h] at hr; exact hr
  · rw [if_pos h] at hr; exact hr
theorem tr_icmp_neD (g : tn_Ok E G cc own nL R) {x y : Int32} {α : Type} {a b : α} {kk : α → Option (ρ × tn_M)} (inj : α → Value) {off : Int} (J t n : Nat) (hd : decode cc pc = .ok (.if_icmp .ne off, 3)) (ht : (pc : Int) + off = (t : Int)) (hn : pc + 3 = n) (kt : ∀ rs : Option (ρ × tn_M), tn_V E G enc J lv (inj b :: st) σ rs → tn_V E G enc t lv st σ rs) (kf : ∀ rs : Option (ρ × tn_M), tn_V E G enc J lv (inj a :: st) σ rs → tn_V E G enc n lv st σ rs) (kj : ∀ v, tn_V E G enc J lv (inj v :: st) σ (kk v)) : tn_V E G enc pc lv (.int y :: .int x :: st) σ (tn_lt (if x = y then a else b) kk) := by
  subst hn
  intro H locs ls hP hS hl r σ' hr
  unfold tn_lt at hr
  refine lv_icmp_ne g.ex g.by hd ht (fun h => kt _ (kj _) H locs ls hP hS hl r σ' ?_) (fun h => kf _ (kj _) H locs ls hP hS hl r σ' ?_)
  · rw [if_neg h] at hr; exact hr
  · rw [if_pos h] at hr; exact hr
theorem tr_if_lt (g : tn_Ok E G cc own nL R) {x : Int32} {X Y : Option (ρ × tn_M)} {off : Int} (t n : Nat) (hd : decode cc pc = .ok (.ifCond .lt off, 3)) (ht : (pc : Int) + off = (t : Int)) (hn : pc + 3 = n) (kt : tn_V E G enc t lv st σ X) (kf : tn_V E G enc n lv st σ Y) : tn_V E G enc pc lv (.int x :: st) σ (if x < 0 then X else Y) := by
  subst hn
  intro H locs ls hP hS hl r σ' hr
  refine lv_if_lt g.ex g.by hd ht (fun h => kt H locs ls hP hS hl r σ' ?_) (fun h => kf H locs ls hP hS hl r σ' ?_)
  · rw [if_pos h] at hr; exact hr
  · rw [if_neg h] at hr; exact hr
theorem tr_if_ltD (g : tn_Ok E G cc own nL R) {x : Int32} {α : Type} {a b : α} {kk : α → Option (ρ × tn_M)} (inj : α → Value) {off : Int} (J t n : Nat) (hd : decode cc pc = .ok (.ifCond .lt off, 3)) (ht : (pc : Int) + off = (t : Int)) (hn : pc + 3 = n) (kt : ∀ rs : Option (ρ × tn_M), tn_V E G enc J lv (inj a :: st) σ rs → tn_V E G enc t lv st σ rs) (kf : ∀ rs : Option (ρ × tn_M), tn_V E G enc J lv (inj b :: st) σ rs → tn_V E G enc n lv st σ rs) (kj : ∀ v, tn_V E G enc J lv (inj v :: st) σ (kk v)) : tn_V E G enc pc lv (.int x :: st) σ (tn_lt (if x < 0 then a else b) kk) := by
  subst hn
  intro H locs ls hP hS hl r σ' hr
  unfold tn_lt at hr
  refine lv_if_lt g.ex g.by hd ht (fun h => kt _ (kj _) H locs ls hP hS hl r σ' ?_) (fun h => kf _ (kj _) H locs ls hP hS hl r σ' ?_)
  · rw [if_pos h] at hr; exact hr
  · rw [if_neg h] at hr; exact hr
theorem tr_icmp_lt (g : tn_Ok E G cc own nL R) {x y : Int32} {X Y : Option (ρ × tn_M)} {off : Int} (t n : Nat) (hd : decode cc pc = .ok (.if_icmp .lt off, 3)) (ht : (pc : Int) + off = (t : Int)) (hn : pc + 3 = n) (kt : tn_V E G enc t lv st σ X) (kf : tn_V E G enc n lv st σ Y) : tn_V E G enc pc lv (.int y :: .int x :: st) σ (if x < y then X else Y) := by
  subst hn
  intro H locs ls hP hS hl r σ' hr
  refine lv_icmp_lt g.ex g.by hd ht (fun h => kt H locs ls hP hS hl r σ' ?_) (fun h => kf H locs ls hP hS hl r σ' ?_)
  · rw [if_pos h] at hr; exact hr
  · rw [if_neg h] at hr; exact hr
theorem tr_icmp_ltD (g : tn_Ok E G cc own nL R) {x y : Int32} {α : Type} {a b : α} {kk : α → Option (ρ × tn_M)} (inj : α → Value) {off : Int} (J t n : Nat) (hd : decode cc pc = .ok (.if_icmp .lt off, 3)) (ht : (pc : Int) + off = (t : Int)) (hn : pc + 3 = n) (kt : ∀ rs : Option (ρ × tn_M), tn_V E G enc J lv (inj a :: st) σ rs → tn_V E G enc t lv st σ rs) (kf : ∀ rs : Option (ρ × tn_M), tn_V E G enc J lv (inj b :: st) σ rs → tn_V E G enc n lv st σ rs) (kj : ∀ v, tn_V E G enc J lv (inj v :: st) σ (kk v)) : tn_V E G enc pc lv (.int y :: .int x :: st) σ (tn_lt (if x < y then a else b) kk) := by
  subst hn
  intro H locs ls hP hS hl r σ' hr
  unfold tn_lt at hr
  refine lv_icmp_lt g.ex g.by hd ht (fun h => kt _ (kj _) H locs ls hP hS hl r σ' ?_) (fun h => kf _ (kj _) H locs ls hP hS hl r σ' ?_)
  · rw [if_pos h] at hr; exact hr
  · rw [if_neg h] at hr; exact hr
theorem tr_if_ge (g : tn_Ok E G cc own nL R) {x : Int32} {X Y : Option (ρ × tn_M)} {off : Int} (t n : Nat) (hd : decode cc pc = .ok (.ifCond .ge off, 3)) (ht : (pc : Int) + off = (t : Int)) (hn : pc + 3 = n) (kt : tn_V E G enc t lv st σ X) (kf : tn_V E G enc n lv st σ Y) : tn_V E G enc pc lv (.int x :: st) σ (if 0 ≤ x then X else Y) := by
  subst hn
  intro H locs ls hP hS hl r σ' hr
  refine lv_if_ge g.ex g.by hd ht (fun h => kt H locs ls hP hS hl r σ' ?_) (fun h => kf H locs ls hP hS hl r σ' ?_)
  · rw [if_pos h] at hr; exact hr
  · rw [if_neg h] at hr; exact hr
theorem tr_if_geD (g : tn_Ok E G cc own nL R) {x : Int32} {α : Type} {a b : α} {kk : α → Option (ρ × tn_M)} (inj : α → Value) {off : Int} (J t n : Nat) (hd : decode cc pc = .ok (.ifCond .ge off, 3)) (ht : (pc : Int) + off = (t : Int)) (hn : pc + 3 = n) (kt : ∀ rs : Option (ρ × tn_M), tn_V E G enc J lv (inj a :: st) σ rs → tn_V E G enc t lv st σ rs) (kf : ∀ rs : Option (ρ × tn_M), tn_V E G enc J lv (inj b :: st) σ rs → tn_V E G enc n lv st σ rs) (kj : ∀ v, tn_V E G enc J lv (inj v :: st) σ (kk v)) : tn_V E G enc pc lv (.int x :: st) σ (tn_lt (if 0 ≤ x then a else b) kk) := by
  subst hn
  intro H locs ls hP hS hl r σ' hr
  unfold tn_lt at hr
  refine lv_if_ge g.ex g.by hd ht (fun h => kt _ (kj _) H locs ls hP hS hl r σ' ?_) (fun h => kf _ (kj _) H locs ls hP hS hl r σ' ?_)
  · rw [if_pos h] at hr; exact hr
  · rw [if_neg h] at hr; exact hr
theorem tr_icmp_ge (g : tn_Ok E G cc own nL R) {x y : Int32} {X Y : Option (ρ × tn_M)} {off : Int} (t n : Nat) (hd : decode cc pc = .ok (.if_icmp .ge off, 3)) (ht : (pc : Int) + off = (t : Int)) (hn : pc + 3 = n) (kt : tn_V E G enc t lv st σ X) (kf : tn_V E G enc n lv st σ Y) : tn_V E G enc pc lv (.int y :: .int x :: st) σ (if y ≤ x then X else Y) := by
  subst hn
  intro H locs ls hP hS hl r σ' hr
  refine lv_icmp_ge g.ex g.by hd ht (fun h => kt H locs ls hP hS hl r σ' ?_) (fun h => kf H locs ls hP hS hl r σ' ?_)
  · rw [if_pos h] at hr; exact hr
  · rw [if_neg h] at hr; exact hr
theorem tr_icmp_geD (g : tn_Ok E G cc own nL R) {x y : Int32} {α : Type} {a b : α} {kk : α → Option (ρ × tn_M)} (inj : α → Value) {off : Int} (J t n : Nat) (hd : decode cc pc = .ok (.if_icmp .ge off, 3)) (ht : (pc : Int) + off = (t : Int)) (hn : pc + 3 = n) (kt : ∀ rs : Option (ρ × tn_M), tn_V E G enc J lv (inj a :: st) σ rs → tn_V E G enc t lv st σ rs) (kf : ∀ rs : Option (ρ × tn_M), tn_V E G enc J lv (inj b :: st) σ rs → tn_V E G enc n lv st σ rs) (kj : ∀ v, tn_V E G enc J lv (inj v :: st) σ (kk v)) : tn_V E G enc pc lv (.int y :: .int x :: st) σ (tn_lt (if y ≤ x then a else b) kk) := by
  subst hn
  intro H locs ls hP hS hl r σ' hr
  unfold tn_lt at hr
  refine lv_icmp_ge g.ex g.by hd ht (fun h => kt _ (kj _) H locs ls hP hS hl r σ' ?_) (fun h => kf _ (kj _) H locs ls hP hS hl r σ' ?_)
  · rw [if_pos h] at hr; exact hr
  · rw [if_neg h] at hr; exact hr
theorem tr_if_gt (g : tn_Ok E G cc own nL R) {x : Int32} {X Y : Option (ρ × tn_M)} {off : Int} (t n : Nat) (hd : decode cc pc = .ok (.ifCond .gt off, 3)) (ht : (pc : Int) + off = (t : Int)) (hn : pc + 3 = n) (kt : tn_V E G enc t lv st σ X) (kf : tn_V E G enc n lv st σ Y) : tn_V E G enc pc lv (.int x :: st) σ (if 0 < x then X else Y) := by
  subst hn
  intro H locs ls hP hS hl r σ' hr
  refine lv_if_gt g.ex g.by hd ht (fun h => kt H locs ls hP hS hl r σ' ?_) (fun h => kf H locs ls hP hS hl r σ' ?_)
  · rw [if_pos h] at hr; exact hr
  · rw [if_neg h] at hr; exact hr
theorem tr_if_gtD (g : tn_Ok E G cc own nL R) {x : Int32} {α : Type} {a b : α} {kk : α → Option (ρ × tn_M)} (inj : α → Value) {off : Int} (J t n : Nat) (hd : decode cc pc = .ok (.ifCond .gt off, 3)) (ht : (pc : Int) + off = (t : Int)) (hn : pc + 3 = n) (kt : ∀ rs : Option (ρ × tn_M), tn_V E G enc J lv (inj a :: st) σ rs → tn_V E G enc t lv st σ rs) (kf : ∀ rs : Option (ρ × tn_M), tn_V E G enc J lv (inj b :: st) σ rs → tn_V E G enc n lv st σ rs) (kj : ∀ v, tn_V E G enc J lv (inj v :: st) σ (kk v)) : tn_V E G enc pc lv (.int x :: st) σ (tn_lt (if 0 < x then a else b) kk) := by
  subst hn
  intro H locs ls hP hS hl r σ' hr
  unfold tn_lt at hr
  refine lv_if_gt g.ex g.by hd ht (fun h => kt _ (kj _) H locs ls hP hS hl r σ' ?_) (fun h => kf _ (kj _) H locs ls hP hS hl r σ' ?_)
  · rw [if_pos h] at hr; exact hr
  · rw [if_neg h] at hr; exact hr
theorem tr_icmp_gt (g : tn_Ok E G cc own nL R) {x y : Int32} {X Y : Option (ρ × tn_M)} {off : Int} (t n : Nat) (hd : decode cc pc = .ok (.if_icmp .gt off, 3)) (ht : (pc : Int) + off = (t : Int)) (hn : pc + 3 = n) (kt : tn_V E G enc t lv st σ X) (kf : tn_V E G enc n lv st σ Y) : tn_V E G enc pc lv (.int y :: .int x :: st) σ (if y < x then X else Y) := by
  subst hn
  intro H locs ls hP hS hl r σ' hr
  refine lv_icmp_gt g.ex g.by hd ht (fun h => kt H locs ls hP hS hl r σ' ?_) (fun h => kf H locs ls hP hS hl r σ' ?_)
  · rw [if_pos h] at hr; exact hr
  · rw [if_neg h] at hr; exact hr
theorem tr_icmp_gtD (g : tn_Ok E G cc own nL R) {x y : Int32} {α : Type} {a b : α} {kk : α → Option (ρ × tn_M)} (inj : α → Value) {off : Int} (J t n : Nat) (hd : decode cc pc = .ok (.if_icmp .gt off, 3)) (ht : (pc : Int) + off = (t : Int)) (hn : pc + 3 = n) (kt : ∀ rs : Option (ρ × tn_M), tn_V E G enc J lv (inj a :: st) σ rs → tn_V E G enc t lv st σ rs) (kf : ∀ rs : Option (ρ × tn_M), tn_V E G enc J lv (inj b :: st) σ rs → tn_V E G enc n lv st σ rs) (kj : ∀ v, tn_V E G enc J lv (inj v :: st) σ (kk v)) : tn_V E G enc pc lv (.int y :: .int x :: st) σ (tn_lt (if y < x then a else b) kk) := by
  subst hn
  intro H locs ls hP hS hl r σ' hr
  unfold tn_lt at hr
  refine lv_icmp_gt g.ex g.by hd ht (fun h => kt _ (kj _) H locs ls hP hS hl r σ' ?_) (fun h => kf _ (kj _) H locs ls hP hS hl r σ' ?_)
  · rw [if_pos h] at hr; exact hr
  · rw [if_neg h] at hr; exact hr
theorem tr_if_le (g : tn_Ok E G cc own nL R) {x : Int32} {X Y : Option (ρ × tn_M)} {off : Int} (t n : Nat) (hd : decode cc pc = .ok (.ifCond .le off, 3)) (ht : (pc : Int) + off = (t : Int)) (hn : pc + 3 = n) (kt : tn_V E G enc t lv st σ X) (kf : tn_V E G enc n lv st σ Y) : tn_V E G enc pc lv (.int x :: st) σ (if x ≤ 0 then X else Y) := by
  subst hn
  intro H locs ls hP hS hl r σ' hr
  refine lv_if_le g.ex g.by hd ht (fun h => kt H locs ls hP hS hl r σ' ?_) (fun h => kf H locs ls hP hS hl r σ' ?_)
  · rw [if_pos h] at hr; exact hr
  · rw [if_neg h] at hr; exact hr
theorem tr_if_leD (g : tn_Ok E G cc own nL R) {x : Int32} {α : Type} {a b : α} {kk : α → Option (ρ × tn_M)} (inj : α → Value) {off : Int} (J t n : Nat) (hd : decode cc pc = .ok (.ifCond .le off, 3)) (ht : (pc : Int) + off = (t : Int)) (hn : pc + 3 = n) (kt : ∀ rs : Option (ρ × tn_M), tn_V E G enc J lv (inj a :: st) σ rs → tn_V E G enc t lv st σ rs) (kf : ∀ rs : Option (ρ × tn_M), tn_V E G enc J lv (inj b :: st) σ rs → tn_V E G enc n lv st σ rs) (kj : ∀ v, tn_V E G enc J lv (inj v :: st) σ (kk v)) : tn_V E G enc pc lv (.int x :: st) σ (tn_lt (if x ≤ 0 then a else b) kk) := by
  subst hn
  intro H locs ls hP hS hl r σ' hr
  unfold tn_lt at hr
  refine lv_if_le g.ex g.by hd ht (fun h => kt _ (kj _) H locs ls hP hS hl r σ' ?_) (fun h => kf _ (kj _) H locs ls hP hS hl r σ' ?_)
  · rw [if_pos h] at hr; exact hr
  · rw [if_neg h] at hr; exact hr
theorem tr_icmp_le (g : tn_Ok E G cc own nL R) {x y : Int32} {X Y : Option (ρ × tn_M)} {off : Int} (t n : Nat) (hd : decode cc pc = .ok (.if_icmp .le off, 3)) (ht : (pc : Int) + off = (t : Int)) (hn : pc + 3 = n) (kt : tn_V E G enc t lv st σ X) (kf : tn_V E G enc n lv st σ Y) : tn_V E G enc pc lv (.int y :: .int x :: st) σ (if x ≤ y then X else Y) := by
  subst hn
  intro H locs ls hP hS hl r σ' hr
  refine lv_icmp_le g.ex g.by hd ht (fun h => kt H locs ls hP hS hl r σ' ?_) (fun h => kf H locs ls hP hS hl r σ' ?_)
  · rw [if_pos h] at hr; exact hr
  · rw [if_neg h] at hr; exact hr
theorem tr_icmp_leD (g : tn_Ok E G cc own nL R) {x y : Int32} {α : Type} {a b : α} {kk : α → Option (ρ × tn_M)} (inj : α → Value) {off : Int} (J t n : Nat) (hd : decode cc pc = .ok (.if_icmp .le off, 3)) (ht : (pc : Int) + off = (t : Int)) (hn : pc + 3 = n) (kt : ∀ rs : Option (ρ × tn_M), tn_V E G enc J lv (inj a :: st) σ rs → tn_V E G enc t lv st σ rs) (kf : ∀ rs : Option (ρ × tn_M), tn_V E G enc J lv (inj b :: st) σ rs → tn_V E G enc n lv st σ rs) (kj : ∀ v, tn_V E G enc J lv (inj v :: st) σ (kk v)) : tn_V E G enc pc lv (.int y :: .int x :: st) σ (tn_lt (if x ≤ y then a else b) kk) := by
  subst hn
  intro H locs ls hP hS hl r σ' hr
  unfold tn_lt at hr
  refine lv_icmp_le g.ex g.by hd ht (fun h => kt _ (kj _) H locs ls hP hS hl r σ' ?_) (fun h => kf _ (kj _) H locs ls hP hS hl r σ' ?_)
  · rw [if_pos h] at hr; exact hr
  · rw [if_neg h] at hr; exact hr
theorem tr_leq (g : tn_Ok E G cc own nL R) {x y : Int64} {X Y : Option (ρ × tn_M)} {off : Int} (t n : Nat) (hd0 : decode cc pc = .ok (.lcmp, 1)) (hd : decode cc (pc + 1) = .ok (.ifCond .eq off, 3)) (ht : ((pc + 1 : Nat) : Int) + off = (t : Int)) (hn : pc + 4 = n) (kt : tn_V E G enc t lv st σ X) (kf : tn_V E G enc n lv st σ Y) : tn_V E G enc pc lv (.long y :: .long x :: st) σ (if x = y then X else Y) := by
  subst hn
  intro H locs ls hP hS hl r σ' hr
  refine W.lcmp g.ex g.by hd0 ?_
  refine lv_if_eq g.ex g.by hd ht (fun h => kt H locs ls hP hS hl r σ' ?_) (fun h => kf H locs ls hP hS hl r σ' ?_)
  · rw [if_pos ((lg_cmp_eq x y).mp h)] at hr; exact hr
  · rw [if_neg (fun z => h ((lg_cmp_eq x y).mpr z))] at hr; exact hr
theorem tr_leqD (g : tn_Ok E G cc own nL R) {x y : Int64} {α : Type} {a b : α} {kk : α → Option (ρ × tn_M)} (inj : α → Value) {off : Int} (J t n : Nat) (hd0 : decode cc pc = .ok (.lcmp, 1)) (hd : decode cc (pc + 1) = .ok (.ifCond .eq off, 3)) (ht : ((pc + 1 : Nat) : Int) + off = (t : Int)) (hn : pc + 4 = n) (kt : ∀ rs : Option (ρ × tn_M), tn_V E G enc J lv (inj a :: st) σ rs → tn_V E G enc t lv st σ rs) (kf : ∀ rs : Option (ρ × tn_M), tn_V E G enc J lv (inj b :: st) σ rs → tn_V E G enc n lv st σ rs) (kj : ∀ v, tn_V E G enc J lv (inj v :: st) σ (kk v)) : tn_V E G enc pc lv (.long y :: .long x :: st) σ (tn_lt (if x = y then a else b) kk) := by
  subst hn
  intro H locs ls hP hS hl r σ' hr
  unfold tn_lt at hr
  refine W.lcmp g.ex g.by hd0 ?_
  refine lv_if_eq g.ex g.by hd ht (fun h => kt _ (kj _) H locs ls hP hS hl r σ' ?_) (fun h => kf _ (kj _) H locs ls hP hS hl r σ' ?_)
  · rw [if_pos ((lg_cmp_eq x y).mp h)] at hr; exact hr
  · rw [if_neg (fun z => h ((lg_cmp_eq x y).mpr z))] at hr; exact hr
theorem tr_lne (g : tn_Ok E G cc own nL R) {x y : Int64} {X Y : Option (ρ × tn_M)} {off : Int} (t n : Nat) (hd0 : decode cc pc = .ok (.lcmp, 1)) (hd : decode cc (pc + 1) = .ok (.ifCond .ne off, 3)) (ht : ((pc + 1 : Nat) : Int) + off = (t : Int)) (hn : pc + 4 = n) (kt : tn_V E G enc t lv st σ Y) (kf : tn_V E G enc n lv st σ X) : tn_V E G enc pc lv (.long y :: .long x :: st) σ (if x = y then X else Y) := by
  subst hn
  intro H locs ls hP hS hl r σ' hr
  refine W.lcmp g.ex g.by hd0 ?_
  refine lv_if_ne g.ex g.by hd ht (fun h => kt H locs ls hP hS hl r σ' ?_) (fun h => kf H locs ls hP hS hl r σ' ?_)
  · rw [if_neg (fun z => h ((lg_cmp_eq x y).mpr z))] at hr; exact hr
  · rw [if_pos ((lg_cmp_eq x y).mp h)] at hr; exact hr
theorem tr_lneD (g : tn_Ok E G cc own nL R) {x y : Int64} {α : Type} {a b : α} {kk : α → Option (ρ × tn_M)} (inj : α → Value) {off : Int} (J t n : Nat) (hd0 : decode cc pc = .ok (.lcmp, 1)) (hd : decode cc (pc + 1) = .ok (.ifCond .ne off, 3)) (ht : ((pc + 1 : Nat) : Int) + off = (t : Int)) (hn : pc + 4 = n) (kt : ∀ rs : Option (ρ × tn_M), tn_V E G enc J lv (inj b :: st) σ rs → tn_V E G enc t lv st σ rs) (kf : ∀ rs : Option (ρ × tn_M), tn_V E G enc J lv (inj a :: st) σ rs → tn_V E G enc n lv st σ rs) (kj : ∀ v, tn_V E G enc J lv (inj v :: st) σ (kk v)) : tn_V E G enc pc lv (.long y :: .long x :: st) σ (tn_lt (if x = y then a else b) kk) := by
  subst hn
  intro H locs ls hP hS hl r σ' hr
  unfold tn_lt at hr
  refine W.lcmp g.ex g.by hd0 ?_
  refine lv_if_ne g.ex g.by hd ht (fun h => kt _ (kj _) H locs ls hP hS hl r σ' ?_) (fun h => kf _ (kj _) H locs ls hP hS hl r σ' ?_)
  · rw [if_neg (fun z => h ((lg_cmp_eq x y).mpr z))] at hr; exact hr
  · rw [if_pos ((lg_cmp_eq x y).mp h)] at hr; exact hr
theorem tr_llt (g : tn_Ok E G cc own nL R) {x y : Int64} {X Y : Option (ρ × tn_M)} {off : Int} (t n : Nat) (hd0 : decode cc pc = .ok (.lcmp, 1)) (hd : decode cc (pc + 1) = .ok (.ifCond .lt off, 3)) (ht : ((pc + 1 : Nat) : Int) + off = (t : Int)) (hn : pc + 4 = n) (kt : tn_V E G enc t lv st σ X) (kf : tn_V E G enc n lv st σ Y) : tn_V E G enc pc lv (.long y :: .long x :: st) σ (if x < y then X else Y) := by
  subst hn
  intro H locs ls hP hS hl r σ' hr
  refine W.lcmp g.ex g.by hd0 ?_
  refine lv_if_lt g.ex g.by hd ht (fun h => kt H locs ls hP hS hl r σ' ?_) (fun h => kf H locs ls hP hS hl r σ' ?_)
  · rw [if_pos ((lg_cmp_lt x y).mp h)] at hr; exact hr
  · rw [if_neg (fun z => h ((lg_cmp_lt x y).mpr z))] at hr; exact hr
theorem tr_lltD (g : tn_Ok E G cc own nL R) {x y : Int64} {α : Type} {a b : α} {kk : α → Option (ρ × tn_M)} (inj : α → Value) {off : Int} (J t n : Nat) (hd0 : decode cc pc = .ok (.lcmp, 1)) (hd : decode cc (pc + 1) = .ok (.ifCond .lt off, 3)) (ht : ((pc + 1 : Nat) : Int) + off = (t : Int)) (hn : pc + 4 = n) (kt : ∀ rs : Option (ρ × tn_M), tn_V E G enc J lv (inj a :: st) σ rs → tn_V E G enc t lv st σ rs) (kf : ∀ rs : Option (ρ × tn_M), tn_V E G enc J lv (inj b :: st) σ rs → tn_V E G enc n lv st σ rs) (kj : ∀ v, tn_V E G enc J lv (inj v :: st) σ (kk v)) : tn_V E G enc pc lv (.long y :: .long x :: st) σ (tn_lt (if x < y then a else b) kk) := by
  subst hn
  intro H locs ls hP hS hl r σ' hr
  unfold tn_lt at hr
  refine W.lcmp g.ex g.by hd0 ?_
  refine lv_if_lt g.ex g.by hd ht (fun h => kt _ (kj _) H locs ls hP hS hl r σ' ?_) (fun h => kf _ (kj _) H locs ls hP hS hl r σ' ?_)
  · rw [if_pos ((lg_cmp_lt x y).mp h)] at hr; exact hr
  · rw [if_neg (fun z => h ((lg_cmp_lt x y).mpr z))] at hr; exact hr
theorem tr_lge (g : tn_Ok E G cc own nL R) {x y : Int64} {X Y : Option (ρ × tn_M)} {off : Int} (t n : Nat) (hd0 : decode cc pc = .ok (.lcmp, 1)) (hd : decode cc (pc + 1) = .ok (.ifCond .ge off, 3)) (ht : ((pc + 1 : Nat) : Int) + off = (t : Int)) (hn : pc + 4 = n) (kt : tn_V E G enc t lv st σ X) (kf : tn_V E G enc n lv st σ Y) : tn_V E G enc pc lv (.long y :: .long x :: st) σ (if y ≤ x then X else Y) := by
  subst hn
  intro H locs ls hP hS hl r σ' hr
  refine W.lcmp g.ex g.by hd0 ?_
  refine lv_if_ge g.ex g.by hd ht (fun h => kt H locs ls hP hS hl r σ' ?_) (fun h => kf H locs ls hP hS hl r σ' ?_)
  · rw [if_pos ((lg_cmp_ge x y).mp h)] at hr; exact hr
  · rw [if_neg (fun z => h ((lg_cmp_ge x y).mpr z))] at hr; exact hr
theorem tr_lgeD (g : tn_Ok E G cc own nL R) {x y : Int64} {α : Type} {a b : α} {kk : α → Option (ρ × tn_M)} (inj : α → Value) {off : Int} (J t n : Nat) (hd0 : decode cc pc = .ok (.lcmp, 1)) (hd : decode cc (pc + 1) = .ok (.ifCond .ge off, 3)) (ht : ((pc + 1 : Nat) : Int) + off = (t : Int)) (hn : pc + 4 = n) (kt : ∀ rs : Option (ρ × tn_M), tn_V E G enc J lv (inj a :: st) σ rs → tn_V E G enc t lv st σ rs) (kf : ∀ rs : Option (ρ × tn_M), tn_V E G enc J lv (inj b :: st) σ rs → tn_V E G enc n lv st σ rs) (kj : ∀ v, tn_V E G enc J lv (inj v :: st) σ (kk v)) : tn_V E G enc pc lv (.long y :: .long x :: st) σ (tn_lt (if y ≤ x then a else b) kk) := by
  subst hn
  intro H locs ls hP hS hl r σ' hr
  unfold tn_lt at hr
  refine W.lcmp g.ex g.by hd0 ?_
  refine lv_if_ge g.ex g.by hd ht (fun h => kt _ (kj _) H locs ls hP hS hl r σ' ?_) (fun h => kf _ (kj _) H locs ls hP hS hl r σ' ?_)
  · rw [if_pos ((lg_cmp_ge x y).mp h)] at hr; exact hr
  · rw [if_neg (fun z => h ((lg_cmp_ge x y).mpr z))] at hr; exact hr
theorem tr_lgt (g : tn_Ok E G cc own nL R) {x y : Int64} {X Y : Option (ρ × tn_M)} {off : Int} (t n : Nat) (hd0 : decode cc pc = .ok (.lcmp, 1)) (hd : decode cc (pc + 1) = .ok (.ifCond .gt off, 3)) (ht : ((pc + 1 : Nat) : Int) + off = (t : Int)) (hn : pc + 4 = n) (kt : tn_V E G enc t lv st σ X) (kf : tn_V E G enc n lv st σ Y) : tn_V E G enc pc lv (.long y :: .long x :: st) σ (if y < x then X else Y) := by
  subst hn
  intro H locs ls hP hS hl r σ' hr
  refine W.lcmp g.ex g.by hd0 ?_
  refine lv_if_gt g.ex g.by hd ht (fun h => kt H locs ls hP hS hl r σ' ?_) (fun h => kf H locs ls hP hS hl r σ' ?_)
  · rw [if_pos ((lg_cmp_gt x y).mp h)] at hr; exact hr
  · rw [if_neg (fun z => h ((lg_cmp_gt x y).mpr z))] at hr; exact hr
theorem tr_lgtD (g : tn_Ok E G cc own nL R) {x y : Int64} {α : Type} {a b : α} {kk : α → Option (ρ × tn_M)} (inj : α → Value) {off : Int} (J t n : Nat) (hd0 : decode cc pc = .ok (.lcmp, 1)) (hd : decode cc (pc + 1) = .ok (.ifCond .gt off, 3)) (ht : ((pc + 1 : Nat) : Int) + off = (t : Int)) (hn : pc + 4 = n) (kt : ∀ rs : Option (ρ × tn_M), tn_V E G enc J lv (inj a :: st) σ rs → tn_V E G enc t lv st σ rs) (kf : ∀ rs : Option (ρ × tn_M), tn_V E G enc J lv (inj b :: st) σ rs → tn_V E G enc n lv st σ rs) (kj : ∀ v, tn_V E G enc J lv (inj v :: st) σ (kk v)) : tn_V E G enc pc lv (.long y :: .long x :: st) σ (tn_lt (if y < x then a else b) kk) := by
  subst hn
  intro H locs ls hP hS hl r σ' hr
  unfold tn_lt at hr
  refine W.lcmp g.ex g.by hd0 ?_
  refine lv_if_gt g.ex g.by hd ht (fun h => kt _ (kj _) H locs ls hP hS hl r σ' ?_) (fun h => kf _ (kj _) H locs ls hP hS hl r σ' ?_)
  · rw [if_pos ((lg_cmp_gt x y).mp h)] at hr; exact hr
  · rw [if_neg (fun z => h ((lg_cmp_gt x y).mpr z))] at hr; exact hr
theorem tr_lle (g : tn_Ok E G cc own nL R) {x y : Int64} {X Y : Option (ρ × tn_M)} {off : Int} (t n : Nat) (hd0 : decode cc pc = .ok (.lcmp, 1)) (hd : decode cc (pc + 1) = .ok (.ifCond .le off, 3)) (ht : ((pc + 1 : Nat) : Int) + off = (t : Int)) (hn : pc + 4 = n) (kt : tn_V E G enc t lv st σ X) (kf : tn_V E G enc n lv st σ Y) : tn_V E G enc pc lv (.long y :: .long x :: st) σ (if x ≤ y then X else Y) := by
  subst hn
  intro H locs ls hP hS hl r σ' hr
  refine W.lcmp g.ex g.by hd0 ?_
  refine lv_if_le g.ex g.by hd ht (fun h => kt H locs ls hP hS hl r σ' ?_) (fun h => kf H locs ls hP hS hl r σ' ?_)
  · rw [if_pos ((lg_cmp_le x y).mp h)] at hr; exact hr
  · rw [if_neg (fun z => h ((lg_cmp_le x y).mpr z))] at hr; exact hr
theorem tr_lleD (g : tn_Ok E G cc own nL R) {x y : Int64} {α : Type} {a b : α} {kk : α → Option (ρ × tn_M)} (inj : α → Value) {off : Int} (J t n : Nat) (hd0 : decode cc pc = .ok (.lcmp, 1)) (hd : decode cc (pc + 1) = .ok (.ifCond .le off, 3)) (ht : ((pc + 1 : Nat) : Int) + off = (t : Int)) (hn : pc + 4 = n) (kt : ∀ rs : Option (ρ × tn_M), tn_V E G enc J lv (inj a :: st) σ rs → tn_V E G enc t lv st σ rs) (kf : ∀ rs : Option (ρ × tn_M), tn_V E G enc J lv (inj b :: st) σ rs → tn_V E G enc n lv st σ rs) (kj : ∀ v, tn_V E G enc J lv (inj v :: st) σ (kk v)) : tn_V E G enc pc lv (.long y :: .long x :: st) σ (tn_lt (if x ≤ y then a else b) kk) := by
  subst hn
  intro H locs ls hP hS hl r σ' hr
  unfold tn_lt at hr
  refine W.lcmp g.ex g.by hd0 ?_
  refine lv_if_le g.ex g.by hd ht (fun h => kt _ (kj _) H locs ls hP hS hl r σ' ?_) (fun h => kf _ (kj _) H locs ls hP hS hl r σ' ?_)
  · rw [if_pos ((lg_cmp_le x y).mp h)] at hr; exact hr
  · rw [if_neg (fun z => h ((lg_cmp_le x y).mpr z))] at hr; exact hr
theorem tr_swOut (g : tn_Ok E G cc own nL R) {dflt lo hi : Int} {offs : Array Int} {len : Nat} {x : Int32} (t : Nat) (hd : decode cc pc = .ok (.tableswitch dflt lo hi offs, len)) (h : x.toInt < lo ∨ hi < x.toInt) (ht : (pc : Int) + dflt = (t : Int)) (k : tn_V E G enc t lv st σ res) : tn_V E G enc pc lv (.int x :: st) σ res :=
  fun H locs ls hP hS hl r σ' hr => lv_tableOut g.ex g.by hd h ht (k H locs ls hP hS hl r σ' hr)
theorem tr_swIn (g : tn_Ok E G cc own nL R) {dflt lo hi : Int} {offs : Array Int} {len : Nat} {x : Int32} {off : Int} (t : Nat) (hd : decode cc pc = .ok (.tableswitch dflt lo hi offs, len)) (h1 : ¬ x.toInt < lo) (h2 : ¬ hi < x.toInt) (ho : offs[(x.toInt - lo).toNat]? = some off) (ht : (pc : Int) + off = (t : Int)) (k : tn_V E G enc t lv st σ res) : tn_V E G enc pc lv (.int x :: st) σ res :=
  fun H locs ls hP hS hl r σ' hr => lv_tableIn g.ex g.by hd h1 h2 ho ht (k H locs ls hP hS hl r σ' hr)
theorem tr_ite {c : Prop} [Decidable c] {X Y : Option (ρ × tn_M)} (kt : c → tn_V E G enc pc lv st σ X) (kf : ¬ c → tn_V E G enc pc lv st σ Y) : tn_V E G enc pc lv st σ (if c then X else Y) := by
  by_cases h : c
  · rw [if_pos h]; exact kt h
  · rw [if_neg h]; exact kf h
theorem tr_iald (g : tn_Ok E G cc own nL R) {a : Nat} {i : Int32} {N : Nat} (n : Nat) (hk : tn_kd a = 1) (hN : tn_len a = N) (hd : decode cc pc = .ok (.iaload, 1)) (hn : pc + 1 = n) (k : tn_V E G enc n lv (.int (σ.1 a (tn_x i)) :: st) σ res) : tn_V E G enc pc lv (.int i :: .ref (tn_ad E a) :: st) σ (tn_ck i N res) := by
  subst hn
  intro H locs ls hP hS hl r σ' hr
  unfold tn_ck at hr
  by_cases h : i < 0 ∨ N ≤ i.toNatClampNeg
  · rw [if_pos h] at hr; cases hr
  · rw [if_neg h] at hr
    exact va_iald g.ex g.by g.K hP a 0 (tn_ws_i hk) rfl (by rw [hN]; exact h) hd (k H locs ls hP hS hl r σ' hr)
theorem tr_lald (g : tn_Ok E G cc own nL R) {a : Nat} {i : Int32} {N : Nat} (n : Nat) (hk : tn_kd a = 2) (hN : tn_len a = N) (hd : decode cc pc = .ok (.laload, 1)) (hn : pc + 1 = n) (k : tn_V E G enc n lv (.long (σ.2 a (tn_x i)) :: st) σ res) : tn_V E G enc pc lv (.int i :: .ref (tn_ad E a) :: st) σ (tn_ck i N res) := by
  subst hn
  intro H locs ls hP hS hl r σ' hr
  unfold tn_ck at hr
  by_cases h : i < 0 ∨ N ≤ i.toNatClampNeg
  · rw [if_pos h] at hr; cases hr
  · rw [if_neg h] at hr
    exact va_lald g.ex g.by g.K hP a 1 (tn_ws_l hk) rfl (by rw [hN]; exact h) hd (k H locs ls hP hS hl r σ' hr)
theorem tr_aald (g : tn_Ok E G cc own nL R) {a : Nat} {i : Int32} {N : Nat} (n : Nat) (hk : tn_kd a = 3) (hN : tn_len a = N) (hd : decode cc pc = .ok (.aaload, 1)) (hn : pc + 1 = n) (k : (i < 0 ∨ N ≤ i.toNatClampNeg → False) → tn_V E G enc n lv (.ref (tn_ad E (a + 1 + tn_x i)) :: st) σ res) : tn_V E G enc pc lv (.int i :: .ref (tn_ad E a) :: st) σ (tn_ck i N res) := by
  subst hn
  intro H locs ls hP hS hl r σ' hr
  unfold tn_ck at hr
  by_cases h : i < 0 ∨ N ≤ i.toNatClampNeg
  · rw [if_pos h] at hr; cases hr
  · rw [if_neg h] at hr
    have hlt : i.toNatClampNeg < tn_len a := by rw [hN]; exact Nat.not_le.mp fun q => h (Or.inr q)
    have hin : ¬ (i < 0 ∨ tn_len a ≤ i.toNatClampNeg) := by rw [hN]; exact h
    have hc := hP a _ (tn_ws_r hk)
    exact W.aald (v := .ref (tn_ad E (a + 1 + tn_x i))) (ty := .array .int) g.ex g.by hc ((g.K.2 2 _ rfl).1 (tn_len a) (fun j => va_rf (some (tn_ad E (a + 1 + j))))) rfl (fun q => by cases q) (by show ¬ (i < 0 ∨ (arrV _ _ _).slots.size ≤ _); rw [arrV_size]; exact hin) (by show (arrV _ _ _).slots[_]? = _; rw [arrV_read _ _ hlt]; rfl) rfl rfl hd (k h H locs ls hP hS hl r σ' hr)
theorem tr_iast (g : tn_Ok E G cc own nL R) {a : Nat} {i x : Int32} {N : Nat} (n : Nat) (hk : tn_kd a = 1) (hN : tn_len a = N) (hd : decode cc pc = .ok (.iastore, 1)) (hn : pc + 1 = n) {kk : tn_M → Option (ρ × tn_M)} (k : ∀ σ1, tn_V E G enc n lv st σ1 (kk σ1)) : tn_V E G enc pc lv (.int x :: .int i :: .ref (tn_ad E a) :: st) σ (tn_ck i N (tn_lt (tn_si σ a (tn_x i) x) kk)) := by
  subst hn
  intro H locs ls hP hS hl r σ' hr
  unfold tn_ck at hr
  by_cases h : i < 0 ∨ N ≤ i.toNatClampNeg
  · rw [if_pos h] at hr; cases hr
  · rw [if_neg h] at hr
    refine va_iast g.ex g.by g.K hP (g.D σ) hS a 0 (tn_ws_i hk) rfl (by rw [hN]; exact h) hd (fun H1 locs1 hP1 _ hS1 => ?_)
    rw [tn_ws_set (σ' := tn_si σ a (tn_x i) x) (by rw [tn_cell_i hk]; simp only [tn_si, if_pos, tn_x]) tn_si_ne] at hP1
    exact k _ H1 locs1 ls hP1 hS1 hl r σ' hr
theorem tr_last (g : tn_Ok E G cc own nL R) {a : Nat} {i : Int32} {x : Int64} {N : Nat} (n : Nat) (hk : tn_kd a = 2) (hN : tn_len a = N) (hd : decode cc pc = .ok (.lastore, 1)) (hn : pc + 1 = n) {kk : tn_M → Option (ρ × tn_M)} (k : ∀ σ1, tn_V E G enc n lv st σ1 (kk σ1)) : tn_V E G enc pc lv (.long x :: .int i :: .ref (tn_ad E a) :: st) σ (tn_ck i N (tn_lt (tn_sl σ a (tn_x i) x) kk)) := by
  subst hn
  intro H locs ls hP hS hl r σ' hr
  unfold tn_ck at hr
  by_cases h : i < 0 ∨ N ≤ i.toNatClampNeg
  · rw [if_pos h] at hr; cases hr
  · rw [if_neg h] at hr
    refine va_last g.ex g.by g.K hP (g.D σ) hS a 1 (tn_ws_l hk) rfl (by rw [hN]; exact h) hd (fun H1 locs1 hP1 _ hS1 => ?_)
    rw [tn_ws_set (σ' := tn_sl σ a (tn_x i) x) (by rw [tn_cell_l hk]; simp only [tn_sl, if_pos, tn_x]) tn_sl_ne] at hP1
    exact k _ H1 locs1 ls hP1 hS1 hl r σ' hr
theorem tr_ialdK (g : tn_Ok E G cc own nL R) {a : Nat} {i : Int32} {N : Nat} (n j : Nat) (hk : tn_kd a = 1) (hj : i.toNatClampNeg = j) (hN : tn_len a = N) (hi : ¬ (i < 0 ∨ N ≤ i.toNatClampNeg)) (hd : decode cc pc = .ok (.iaload, 1)) (hn : pc + 1 = n) (k : tn_V E G enc n lv (.int (σ.1 a j) :: st) σ res) : tn_V E G enc pc lv (.int i :: .ref (tn_ad E a) :: st) σ res := by
  subst hn
  subst hj
  intro H locs ls hP hS hl r σ' hr
  exact va_iald g.ex g.by g.K hP a 0 (tn_ws_i hk) rfl (by rw [hN]; exact hi) hd (k H locs ls hP hS hl r σ' hr)
theorem tr_laldK (g : tn_Ok E G cc own nL R) {a : Nat} {i : Int32} {N : Nat} (n j : Nat) (hk : tn_kd a = 2) (hj : i.toNatClampNeg = j) (hN : tn_len a = N) (hi : ¬ (i < 0 ∨ N ≤ i.toNatClampNeg)) (hd : decode cc pc = .ok (.laload, 1)) (hn : pc + 1 = n) (k : tn_V E G enc n lv (.long (σ.2 a j) :: st) σ res) : tn_V E G enc pc lv (.int i :: .ref (tn_ad E a) :: st) σ res := by
  subst hn
  subst hj
  intro H locs ls hP hS hl r σ' hr
  exact va_lald g.ex g.by g.K hP a 1 (tn_ws_l hk) rfl (by rw [hN]; exact hi) hd (k H locs ls hP hS hl r σ' hr)
theorem tr_iastK (g : tn_Ok E G cc own nL R) {a : Nat} {i x : Int32} {N : Nat} (n j : Nat) (hk : tn_kd a = 1) (hj : i.toNatClampNeg = j) (hN : tn_len a = N) (hi : ¬ (i < 0 ∨ N ≤ i.toNatClampNeg)) (hd : decode cc pc = .ok (.iastore, 1)) (hn : pc + 1 = n) {kk : tn_M → Option (ρ × tn_M)} (k : ∀ σ1, tn_V E G enc n lv st σ1 (kk σ1)) : tn_V E G enc pc lv (.int x :: .int i :: .ref (tn_ad E a) :: st) σ (tn_lt (tn_si σ a j x) kk) := by
  subst hj
  have h := tr_iast (E := E) (G := G) (enc := enc) (lv := lv) (st := st) (σ := σ) (i := i) (x := x) g n hk hN hd hn k
  unfold tn_ck at h
  rw [if_neg hi] at h
  exact h
theorem tr_lastK (g : tn_Ok E G cc own nL R) {a : Nat} {i : Int32} {x : Int64} {N : Nat} (n j : Nat) (hk : tn_kd a = 2) (hj : i.toNatClampNeg = j) (hN : tn_len a = N) (hi : ¬ (i < 0 ∨ N ≤ i.toNatClampNeg)) (hd : decode cc pc = .ok (.lastore, 1)) (hn : pc + 1 = n) {kk : tn_M → Option (ρ × tn_M)} (k : ∀ σ1, tn_V E G enc n lv st σ1 (kk σ1)) : tn_V E G enc pc lv (.long x :: .int i :: .ref (tn_ad E a) :: st) σ (tn_lt (tn_sl σ a j x) kk) := by
  subst hj
  have h := tr_last (E := E) (G := G) (enc := enc) (lv := lv) (st := st) (σ := σ) (i := i) (x := x) g n hk hN hd hn k
  unfold tn_ck at h
  rw [if_neg hi] at h
  exact h
theorem tr_haldK (g : tn_Ok E G cc own nL R) {i : Int32} {v : Int32} (n : Nat) (hi : ¬ (i < 0 ∨ 8 ≤ i.toNatClampNeg)) (hv : tn_hi i.toNatClampNeg = v) (hd : decode cc pc = .ok (.iaload, 1)) (hn : pc + 1 = n) (k : tn_V E G enc n lv (.int v :: st) σ res) : tn_V E G enc pc lv (.int i :: .ref E.2.2.2.2.2 :: st) σ res := by
  subst hn
  subst hv
  intro H locs ls hP hS hl r σ' hr
  exact va_ti g.ex g.by g.Z.2.1 hS hi rfl hd (k H locs ls hP hS hl r σ' hr)
theorem tr_alen (g : tn_Ok E G cc own nL R) {a : Nat} {v : Int32} (n : Nat) (hk : tn_kd a = 1) (hv : Int32.ofNat (tn_len a) = v) (hd : decode cc pc = .ok (.arraylength, 1)) (hn : pc + 1 = n) (k : tn_V E G enc n lv (.int v :: st) σ res) : tn_V E G enc pc lv (.ref (tn_ad E a) :: st) σ res := by
  subst hn
  intro H locs ls hP hS hl r σ' hr
  exact va_alen g.ex g.by g.K hP a 0 (tn_ws_i hk) rfl hv hd (k H locs ls hP hS hl r σ' hr)
theorem tr_alenl (g : tn_Ok E G cc own nL R) {a : Nat} {v : Int32} (n : Nat) (hk : tn_kd a = 2) (hv : Int32.ofNat (tn_len a) = v) (hd : decode cc pc = .ok (.arraylength, 1)) (hn : pc + 1 = n) (k : tn_V E G enc n lv (.int v :: st) σ res) : tn_V E G enc pc lv (.ref (tn_ad E a) :: st) σ res := by
  subst hn
  intro H locs ls hP hS hl r σ' hr
  exact va_alen g.ex g.by g.K hP a 1 (tn_ws_l hk) rfl hv hd (k H locs ls hP hS hl r σ' hr)
theorem tr_hget (g : tn_Ok E G cc own nL R) {i : Nat} (hw : Cond.fieldLink own i RX4 "HIGHEST" "[I" ∈ tn_T) (n : Nat) (hd : decode cc pc = .ok (.getstatic i, 3)) (hn : pc + 3 = n) (k : tn_V E G enc n lv (.ref E.2.2.2.2.2 :: st) σ res) : tn_V E G enc pc lv st σ res := by
  subst hn
  intro H locs ls hP hS hl r σ' hr
  exact va_gets g.ex g.by g.Z.1 hS g.ow (g.ts _ hw) (fun _ h => h) hd (k H locs ls hP hS hl r σ' hr)
theorem tr_hald (g : tn_Ok E G cc own nL R) {i : Int32} (n : Nat) (hd : decode cc pc = .ok (.iaload, 1)) (hn : pc + 1 = n) (k : tn_V E G enc n lv (.int (tn_hi (tn_x i)) :: st) σ res) : tn_V E G enc pc lv (.int i :: .ref E.2.2.2.2.2 :: st) σ (tn_ck i 8 res) := by
  subst hn
  intro H locs ls hP hS hl r σ' hr
  unfold tn_ck at hr
  by_cases h : i < 0 ∨ 8 ≤ i.toNatClampNeg
  · rw [if_pos h] at hr; cases hr
  · rw [if_neg h] at hr
    exact va_ti g.ex g.by g.Z.2.1 hS h rfl hd (k H locs ls hP hS hl r σ' hr)
theorem tr_get (g : tn_Ok E G cc own nL R) {C : String} {T : u_T} {N ci i : Nat} (hin : ∀ w ∈ u_ws C T N, w ∈ tn_T) (hc : classes[ci]? = some (C, T, N)) {a j : Nat} {v : Value} (ha : a < 6) (hci : (tn_fs E σ a).1 = ci) (hj : j < N) (hw : Cond.fieldLink own i (T j).1 (T j).2.1 (T j).2.2.1 ∈ tn_T) (hv : (tn_fs E σ a).2[j]? = some v) (n : Nat) (hd : decode cc pc = .ok (.getfield i, 3)) (hn : pc + 3 = n) (k : tn_V E G enc n lv (v :: st) σ res) : tn_V E G enc pc lv (.ref (tn_ad E a) :: st) σ res := by
  subst hn
  subst hci
  intro H locs ls hP hS hl r σ' hr
  exact va_get g.ex g.by g.ts hin g.ow g.K hP a (tn_ws_o ha) hc j hj (g.ts _ hw) (fun _ h => h) hv hd (k H locs ls hP hS hl r σ' hr)
theorem tr_put (g : tn_Ok E G cc own nL R) {C : String} {T : u_T} {N ci i : Nat} (hin : ∀ w ∈ u_ws C T N, w ∈ tn_T) (ty0 : Nat → FieldType) (hty : ∀ k, k < N → parseFieldDescriptor (T k).2.2.1 = some (ty0 k)) (hnm : ∀ a, a < N → ∀ b, b < N → a ≠ b → (T a).2.1 ≠ (T b).2.1) (hc : classes[ci]? = some (C, T, N)) {a j : Nat} {v : Value} {σ2 : tn_M} (ha : a < 6) (hci : (tn_fs E σ a).1 = ci) (hj : j < N) (hw : Cond.fieldLink own i (T j).1 (T j).2.1 (T j).2.2.1 ∈ tn_T) (hfin : (T j).2.2.2 = false) {ty : FieldType} (hpd : parseFieldDescriptor (T j).2.2.1 = some ty) (hnv : narrow ty v = v) (hfit : fits ty v = true) (hlen : j < (tn_fs E σ a).2.length) (hcell : tn_fs E σ2 a = (ci, (tn_fs E σ a).2.set j v)) (hoth : ∀ b, b ≠ a → σ2.1 b = σ.1 b ∧ σ2.2 b = σ.2 b) (n : Nat) (hd : decode cc pc = .ok (.putfield i, 3)) (hn : pc + 3 = n) {kk : tn_M → Option (ρ × tn_M)} (k : ∀ σ1, tn_V E G enc n lv st σ1 (kk σ1)) : tn_V E G enc pc lv (v :: .ref (tn_ad E a) :: st) σ (tn_lt σ2 kk) := by
  subst hn
  subst hci
  intro H locs ls hP hS hl r σ' hr
  refine va_put g.ex g.by g.ts hin ty0 hty hnm g.ow g.K hP (g.D σ) hS a (tn_ws_o ha) hc j hj (g.ts _ hw) (fun _ h => h) hfin hpd hnv hfit hlen hd (fun H1 locs1 hP1 _ hS1 => ?_)
  have hk0 : tn_kd a = 0 := by
    rcases (by omega : a = 0 ∨ a = 1 ∨ a = 2 ∨ a = 3 ∨ a = 4 ∨ a = 5) with rfl | rfl | rfl | rfl | rfl | rfl <;> rfl
  rw [tn_ws_set (σ' := σ2) (by rw [tn_cell_o hk0]; exact congrArg Sum.inr hcell) hoth] at hP1
  exact k _ H1 locs1 ls hP1 hS1 hl r σ' hr
end TNR

/-! contracts and calls -/
def tn_Qc (E : tn_E) (r : Option Value) (σ' : tn_M) : Array Value → State → Outcome → State → Prop := fun _ st o t => (o = .returned r ∧ tn_St E σ' t) ∧ va_F (tn_A E) st t
def tn_C (E : tn_E) (l : Launch) (y : MethodName) (bytes : ByteArray) (maxL : Nat) (ret : Option FieldType) (rm : Room) (As : List Value) (σ : tn_M) (r : Option Value) (σ' : tn_M) : Prop :=
  Met l y (Cond.code y bytes maxL ret :: tn_T) rm (va_Pc As (fun U => tn_St E σ U)) (tn_Qc E r σ') 0 0 (tn_A E)
/-- a frame of one of our methods: how it ends -/
def tn_Om (E : tn_E) (G : tn_G) (ret : Option FieldType) : Prop := (tg_Q G = fun r σ' => MQ (tg_b G) (tn_Qc E r σ') (tg_a G) (tg_s G) (tg_k G) (tg_z G) (tn_A E)) ∧ tg_A G = tn_A E ∧ (tg_h G).sig.returnType = ret ∧ (tg_h G).locks = false
theorem tn_St_moved {E : tn_E} {σ : tn_M} {u U : State} (hq : u.vm = U.vm) (hh : U.heap = u.heap) (h : tn_St E σ u) : tn_St E σ U := by
  obtain ⟨h1, h2, h3, h4, h5, h6⟩ := h
  have hvm : u.vm.Alike U.vm := by rw [hq]; exact Vm.Alike.refl _
  exact ⟨by rw [hh]; exact h1, va_K.moved hvm h2, h3, by rw [hh]; exact va_Z.moved hvm h4, by rw [hh]; exact va_T.moved hvm h5, va_Nw.same rfl hq h6⟩
theorem tn_end {E : tn_E} {G : tn_G} {cc : ByteArray} {own : String} {nL : Nat} {R : Room} {ret : Option FieldType} (g : tn_Ok E G cc own nL R) (o : tn_Om E G ret) {H : Heap} {locs : List Loc} {σ : tn_M} {r : Option Value} (hP : va_P E.2.1 classes (tn_ws E σ) H) (hS : va_S (tg_A G) (tg_s G).heap H locs) : ∀ t : State, t.heap = H → (tg_s G).WarmedH t.vm → tn_Qc E r σ (tg_a G) (tg_s G) (.returned r) t := by
  intro t ht hW
  have hA := o.2.1
  have hq : ∀ a : Nat, a < (tg_s G).heap.size → ¬ tg_A G a → t.heap[a]? = (tg_s G).heap[a]? := fun a h1 h2 => by rw [ht]; exact hS.2.1 a h1 h2
  obtain ⟨hz, hT, hN⟩ := g.Z
  refine ⟨⟨rfl, by rw [ht]; exact hP, va_K.moved hW.alike g.K, g.inj, ?_, ?_, va_Nw.warmM hW hN⟩, ?_⟩
  · have := va_Z.moved hW.alike (va_Z.kept hz hq)
    rw [hA] at this
    exact this
  · have := va_T.moved hW.alike (va_T.kept hT hq)
    rw [hA] at this
    exact this
  · rw [hA] at hS
    exact hS.F ht
section TNE
variable {E : tn_E} {G : tn_G} {cc : ByteArray} {own : String} {nL : Nat} {R : Room} {pc : Nat} {lv : List (Nat × Value)} {σ : tn_M}
theorem tr_iret (g : tn_Ok E G cc own nL R) (o : tn_Om E G (some .int)) {v : Int32} (hd : decode cc pc = .ok (.ireturn, 1)) : tn_V E G tn_ie pc lv [.int v] σ (some (v, σ)) := by
  intro H locs ls hP hS hl r σ' hr
  cases hr
  rw [o.1]
  exact W.iret g.ex g.by o.2.2.1 (tn_end g o hP hS) (by rw [← o.2.1]; exact hS.2.2) hd o.2.2.2
theorem tr_zret (g : tn_Ok E G cc own nL R) (o : tn_Om E G (some .boolean)) {v : Int32} (hv : narrow .boolean (.int v) = .int v) (hd : decode cc pc = .ok (.ireturn, 1)) : tn_V E G tn_ie pc lv [.int v] σ (some (v, σ)) := by
  intro H locs ls hP hS hl r σ' hr
  cases hr
  rw [o.1]
  exact W.zret g.ex g.by o.2.2.1 hv (tn_end g o hP hS) (by rw [← o.2.1]; exact hS.2.2) hd o.2.2.2
theorem tr_zretv (g : tn_Ok E G cc own nL R) (o : tn_Om E G (some .boolean)) {v : Int32} (hd : decode cc pc = .ok (.ireturn, 1)) : tn_V E G tn_ie pc lv [.int v] σ (tn_zr v σ) := by
  unfold tn_zr
  by_cases h : v = 0 ∨ v = 1
  · rw [if_pos h]
    refine tr_zret g o ?_ hd
    rcases h with rfl | rfl <;> rfl
  · rw [if_neg h]
    exact tr_none
theorem tr_lret (g : tn_Ok E G cc own nL R) (o : tn_Om E G (some .long)) {v : Int64} (hd : decode cc pc = .ok (.lreturn, 1)) : tn_V E G tn_le pc lv [.long v] σ (some (v, σ)) := by
  intro H locs ls hP hS hl r σ' hr
  cases hr
  rw [o.1]
  exact W.lret g.ex g.by o.2.2.1 (tn_end g o hP hS) (by rw [← o.2.1]; exact hS.2.2) hd o.2.2.2
theorem tr_vret (g : tn_Ok E G cc own nL R) (o : tn_Om E G none) (hd : decode cc pc = .ok (.return_, 1)) : tn_V E G tn_ve pc lv [] σ (some ((), σ)) := by
  intro H locs ls hP hS hl r σ' hr
  cases hr
  rw [o.1]
  exact W.vret g.ex g.by o.2.2.1 (tn_end g o hP hS) (by rw [← o.2.1]; exact hS.2.2) hd o.2.2.2
theorem tr_aret (g : tn_Ok E G cc own nL R) {C : String} (o : tn_Om E G (some (.object C))) {a : Nat} (hd : decode cc pc = .ok (.areturn, 1)) : tn_V E G (tn_re a) pc lv [.ref a] σ (some ((), σ)) := by
  intro H locs ls hP hS hl r σ' hr
  cases hr
  rw [o.1]
  exact W.aret g.ex g.by o.2.2.1 (Or.inl ⟨_, rfl⟩) (Or.inr ⟨_, rfl⟩) (tn_end g o hP hS) (by rw [← o.2.1]; exact hS.2.2) hd o.2.2.2
end TNE
theorem tn_met {E : tn_E} {l : Launch} {y : MethodName} {bytes : ByteArray} {maxL : Nat} {ret : Option FieldType} {rm : Room} {As : List Value} {σ : tn_M} {ρ : Type} {enc : ρ → Option Value} {res : Option (ρ × tn_M)} (hy : plainName y.cls = true) (hn : (lg_sl As).length ≤ maxL)
    (body : ∀ G : tn_G, tg_l G = l → tn_Ok E G bytes y.cls maxL rm → tn_Om E G ret → tn_V E G enc 0 (lv_args 0 As) [] σ res) {r : ρ} {σ' : tn_M} (hr : res = some (r, σ')) : tn_C E l y bytes maxL ret rm As σ (enc r) σ' := by
  refine Met.ofW (cc := bytes) (maxL := maxL) (ret := ret) hy rfl ?_
  intro p e s m args below meth c s₁ B hml hv
  obtain ⟨rfl, hP, hK, hi, hZ⟩ := hv
  have hts := atoms_spec (ws := Cond.code y bytes maxL ret :: tn_T) B.pre
  have hown : s.vm.findClass y.cls = some m.cls := findClass_of_methodNamed B.named
  have hl := lv_entry As (n := maxL) hn
  rw [lg_entry_eq]
  have hb := body (p, l, e, rm, s, m, As.toArray, below, meth, c, 0, 0, maxL, tn_A E, fun r σ' => MQ below (tn_Qc E r σ') As.toArray s 0 0 (tn_A E)) rfl ⟨B.exec, B.bytes, hml, rfl, hown, fun w hw => hts w (List.mem_cons_of_mem _ hw), hK, hi, fun k hk => ⟨k, hk, rfl⟩, hZ, rfl, Nat.zero_le _, Nat.zero_le _⟩ ⟨rfl, rfl, B.returns, B.notSynchronized⟩
  exact hb s.heap [] _ hP va_S.rf hl r σ' hr
end
section
/-! calls over the world -/
theorem tn_goodIn {c : Cond} (h : c ∈ tn_T) : GoodIn tn_T (c :: tn_T) := by
  intro w hw
  have hm : w ∈ tn_T := by
    rcases List.mem_cons.mp hw with rfl | hw
    · exact h
    · exact hw
  exact ⟨hm, good_of_word (List.mem_filter.mp hm).2⟩
/-- what the tables say of an instance method, of a static one -/
def tn_Yv (C : String) (y : MethodName) (bytes : ByteArray) (maxL : Nat) (ret : Option FieldType) (na : Nat) : Prop :=
  Cond.code y bytes maxL ret ∈ tn_T ∧ Cond.instanceMethod y ∈ tn_T ∧ Cond.selects C y y ∈ tn_T ∧ Cond.initialized y.cls ∈ tn_T ∧ (y.cls ≠ "java/lang/invoke/MethodHandle" ∧ y.cls ≠ "java/lang/invoke/VarHandle" ∧ (parseMethodDescriptor y.desc).map (fun d => d.parameters.length) = some na)
def tn_Ys (y : MethodName) (bytes : ByteArray) (maxL : Nat) (ret : Option FieldType) (na : Nat) : Prop :=
  Cond.code y bytes maxL ret ∈ tn_T ∧ Cond.static y ∈ tn_T ∧ Cond.initialized y.cls ∈ tn_T ∧ (y.cls ≠ "java/lang/invoke/MethodHandle" ∧ y.cls ≠ "java/lang/invoke/VarHandle" ∧ (parseMethodDescriptor y.desc).map (fun d => d.parameters.length) = some na)
section TNC
variable {E : tn_E} {G : tn_G} {cc : ByteArray} {own : String} {nL : Nat} {R : Room} {ρ : Type} {enc : ρ → Option Value} {pc : Nat} {lv : List (Nat × Value)} {st : List Value} {σ : tn_M}
theorem tn_atU (g : tn_Ok E G cc own nL R) {H : Heap} {locs : List Loc} (hP : va_P E.2.1 classes (tn_ws E σ) H) (hS : va_S (tg_A G) (tg_s G).heap H locs) (U : State) (hU : U.heap = H) (hW : (tg_s G).WarmedH U.vm) : tn_St E σ U := by
  have hq : ∀ a : Nat, a < (tg_s G).heap.size → ¬ tg_A G a → U.heap[a]? = (tg_s G).heap[a]? := fun a h1 h2 => by rw [hU]; exact hS.2.1 a h1 h2
  have hA : ∀ q, tn_A E q → tg_A G q := fun q ⟨k, hk, e⟩ => by rw [e]; exact g.A k hk
  obtain ⟨hz, hT, hN⟩ := g.Z
  exact ⟨by rw [hU]; exact hP, va_K.moved hW.alike g.K, g.inj, (va_Z.moved hW.alike (va_Z.kept hz hq)).narrow hA, (va_T.moved hW.alike (va_T.kept hT hq)).narrow hA, va_Nw.warmM hW hN⟩
theorem tn_blind {As : List Value} : FrameBlind (va_Pc As (fun U => tn_St E σ U)) := fun a U g mk q => ⟨q.1, tn_St_moved rfl rfl q.2⟩
/-- behind a call -/
theorem tn_behind (g : tn_Ok E G cc own nL R) {H : Heap} {locs : List Loc} {σ1 : tn_M} {r1 : Option Value} {a : Array Value} {st0 : List Value} {pcq : Nat} {ls : Array Slot} {Q : State → Prop} (hS : va_S (tg_A G) (tg_s G).heap H locs)
    (hr : va_Run (tg_p G) (tg_l G) (tg_e G) (tg_R G) (tg_s G) (tg_m G) (tg_a G) (tg_b G) (tg_h G) (tg_c G) H locs (tg_k G) (tg_z G) 0 0 (F0 (tg_m G) pcq ls st0) st (tn_Qc E r1 σ1 a) (tn_A E))
    (kk : ∀ (H1 : Heap) (locs1 : List Loc), va_P E.2.1 classes (tn_ws E σ1) H1 → va_S (tg_A G) (tg_s G).heap H1 locs1 → tg_W G H1 locs1 Q (F0 (tg_m G) (pcq + 3) ls (r1.toList ++ st))) : tg_W G H locs Q (F0 (tg_m G) pcq ls st0) := by
  intro T hT X
  obtain ⟨v, st₀, t, T', L, h0, X', hL, e1, e2, ⟨⟨hv, hw⟩, hz, hk⟩, stp⟩ := hr T hT X
  have hA : ∀ q, tn_A E q → tg_A G q := fun q ⟨k, hk, e⟩ => by rw [e]; exact g.A k hk
  have hv' : v = r1 := by cases hv; rfl
  subst hv'
  rw [h0] at hz hk
  have hP1 : va_P E.2.1 classes (tn_ws E σ1) T'.heap := by rw [e1]; exact hw.1
  have hS1 : va_S (tg_A G) (tg_s G).heap T'.heap (locs ++ L) := by
    refine ⟨Nat.le_trans hS.1 (by rw [e1]; exact hz), fun q h1 h2 => ?_, fun q hq => ?_⟩
    · rw [e1, hk q (Nat.lt_of_lt_of_le h1 hS.1) (fun z => h2 (hA q z))]
      exact hS.2.1 q h1 h2
    · rcases List.mem_append.mp hq with h | h
      · exact hS.2.2 q h
      · exact hA _ (hL q h)
  obtain ⟨t2, a1, b1⟩ := kk T'.heap (locs ++ L) hP1 hS1 T' rfl X'
  exact ⟨t2, stp t2 a1, b1⟩
theorem tr_callV (g : tn_Ok E G cc own nL R) {C : String} {y : MethodName} {bytes : ByteArray} {maxL : Nat} {ret : Option FieldType} {rm : Room} {ρ1 : Type} {enc1 : ρ1 → Option Value} {fres : Option (ρ1 × tn_M)} {kk : ρ1 → tn_M → Option (ρ × tn_M)} {T : u_T} {N ci a i na : Nat} {As stk : List Value}
    (hY : tn_Yv C y bytes maxL ret na) (hw : Cond.methodLink own i y ∈ tn_T) (hc : classes[ci]? = some (C, T, N)) (ha : a < 6) (hci : (tn_fs E σ a).1 = ci)
    (hM : ∀ r σ1, fres = some (r, σ1) → tn_C E (tg_l G) y bytes maxL ret rm (.ref (tn_ad E a) :: As) σ (enc1 r) σ1)
    (hr0 : rm.cells = 0 ∧ rm.slots = 0) (hroom : rm.frames + 1 ≤ R.frames ∧ 8 + (maxL + 11) + rm.locals ≤ R.locals) (hna : As.length = na) (hst : stk = As.reverse ++ .ref (tn_ad E a) :: st) (hW : (st.map fun v => v.category).sum ≤ 8)
    (n : Nat) (hd : decode cc pc = .ok (.invokevirtual i, 3)) (hn : pc + 3 = n) (k : ∀ r σ1, tn_V E G enc n lv ((enc1 r).toList ++ st) σ1 (kk r σ1)) : tn_V E G enc pc lv stk σ (tn_bd fres kk) := by
  subst hn
  subst hst
  intro H locs ls hP hS hl r σ' hr
  cases hf : fres with
  | none => rw [hf] at hr; cases hr
  | some q =>
    obtain ⟨r1, σ1⟩ := q
    rw [hf] at hr
    have hR := g.rm
    obtain ⟨hY1, hY2, hY3, hY4, hY5, hY6, hY7⟩ := hY
    have hcells : tg_k G + 0 ≤ (tg_R G).cells ∧ tg_z G + 0 ≤ (tg_R G).slots := by rw [hR]; exact g.2.2.2.2.2.2.2.2.2.2.2
    refine tn_behind g hS (va_runV (As := As) (rest := st) (C := C) ⟨g.ex, g.by, g.ml, g.ow, g.ts⟩ (hM r1 σ1 hf) ⟨callB_of (Ts := tn_T) (ws := Cond.code y bytes maxL ret :: tn_T) na g.ts (tn_goodIn hY1) rfl hr0.1 hr0.2 (g.ts _ hY4) (g.ts _ hw) ⟨hY5, hY6, hY7⟩ (by rw [hR]; exact hroom), g.ts _ hY2, g.ts _ hY3⟩ ⟨tn_blind, ?_, fun U hU hW => ⟨rfl, tn_atU g hP hS U hU hW⟩⟩ rfl hna (hl.1.trans g.nl) rfl (lv_room hW) hd hcells) (fun H1 locs1 hP1 hS1 => k r1 σ1 H1 locs1 ls hP1 hS1 hl r σ' hr)
    obtain ⟨rr, h1, cell, q1, q2, q3, q4⟩ := hP a _ (tn_ws_o ha)
    subst hci
    have hrr : rr = (C, T, N) := Option.some.inj (h1.symm.trans hc)
    subst hrr
    obtain ⟨-, hfc, -⟩ := g.K.1 _ _ hc
    exact ⟨cell, q1, by rw [q3]; rfl, by rw [q2]; exact hfc⟩
theorem tr_callS (g : tn_Ok E G cc own nL R) {y : MethodName} {bytes : ByteArray} {maxL : Nat} {ret : Option FieldType} {rm : Room} {ρ1 : Type} {enc1 : ρ1 → Option Value} {fres : Option (ρ1 × tn_M)} {kk : ρ1 → tn_M → Option (ρ × tn_M)} {i na : Nat} {As stk : List Value}
    (hY : tn_Ys y bytes maxL ret na) (hw : Cond.methodLink own i y ∈ tn_T)
    (hM : ∀ r σ1, fres = some (r, σ1) → tn_C E (tg_l G) y bytes maxL ret rm As σ (enc1 r) σ1)
    (hr0 : rm.cells = 0 ∧ rm.slots = 0) (hroom : rm.frames + 1 ≤ R.frames ∧ 8 + (maxL + 11) + rm.locals ≤ R.locals) (hna : As.length = na) (hst : stk = As.reverse ++ st) (hW : (st.map fun v => v.category).sum ≤ 8)
    (n : Nat) (hd : decode cc pc = .ok (.invokestatic i, 3)) (hn : pc + 3 = n) (k : ∀ r σ1, tn_V E G enc n lv ((enc1 r).toList ++ st) σ1 (kk r σ1)) : tn_V E G enc pc lv stk σ (tn_bd fres kk) := by
  subst hn
  subst hst
  intro H locs ls hP hS hl r σ' hr
  cases hf : fres with
  | none => rw [hf] at hr; cases hr
  | some q =>
    obtain ⟨r1, σ1⟩ := q
    rw [hf] at hr
    have hR := g.rm
    obtain ⟨hY1, hY2, hY4, hY5, hY6, hY7⟩ := hY
    have hcells : tg_k G + 0 ≤ (tg_R G).cells ∧ tg_z G + 0 ≤ (tg_R G).slots := by rw [hR]; exact g.2.2.2.2.2.2.2.2.2.2.2
    exact tn_behind g hS (va_runS (As := As) (rest := st) ⟨g.ex, g.by, g.ml, g.ow, g.ts⟩ (hM r1 σ1 hf) ⟨callB_of (Ts := tn_T) (ws := Cond.code y bytes maxL ret :: tn_T) na g.ts (tn_goodIn hY1) rfl hr0.1 hr0.2 (g.ts _ hY4) (g.ts _ hw) ⟨hY5, hY6, hY7⟩ (by rw [hR]; exact hroom), g.ts _ hY2⟩ ⟨tn_blind, fun U hU hW => ⟨rfl, tn_atU g hP hS U hU hW⟩⟩ rfl hna (hl.1.trans g.nl) rfl (lv_room hW) hd hcells) (fun H1 locs1 hP1 hS1 => k r1 σ1 H1 locs1 ls hP1 hS1 hl r σ' hr)
theorem tr_callN (g : tn_Ok E G cc RX0 nL R) {bytes : ByteArray} {maxL : Nat} {ret : Option FieldType} {rm : Room} {ρ1 : Type} {enc1 : ρ1 → Option Value} {fres : Option (ρ1 × tn_M)} {kk : ρ1 → tn_M → Option (ρ × tn_M)} {na : Nat} {As stk : List Value}
    (hY : tn_Ys yX4_ceiling bytes maxL ret na)
    (hM : ∀ r σ1, fres = some (r, σ1) → tn_C E (tg_l G) yX4_ceiling bytes maxL ret rm As σ (enc1 r) σ1)
    (hr0 : rm.cells = 0 ∧ rm.slots = 0) (hroom : rm.frames + 1 ≤ R.frames ∧ 8 + (maxL + 11) + rm.locals ≤ R.locals) (hna : As.length = na) (hst : stk = As.reverse ++ st) (hW : (st.map fun v => v.category).sum ≤ 8)
    (n : Nat) (hd : decode cc pc = .ok (.invokestatic 132, 3)) (hn : pc + 3 = n) (k : ∀ r σ1, tn_V E G enc n lv ((enc1 r).toList ++ st) σ1 (kk r σ1)) : tn_V E G enc pc lv stk σ (tn_bd fres kk) := by
  subst hn
  subst hst
  intro H locs ls hP hS hl r σ' hr
  cases hf : fres with
  | none => rw [hf] at hr; cases hr
  | some q =>
    obtain ⟨r1, σ1⟩ := q
    rw [hf] at hr
    have hR := g.rm
    obtain ⟨hY1, hY2, hY4, hY5, hY6, hY7⟩ := hY
    have hcells : tg_k G + 0 ≤ (tg_R G).cells ∧ tg_z G + 0 ≤ (tg_R G).slots := by rw [hR]; exact g.2.2.2.2.2.2.2.2.2.2.2
    exact tn_behind g hS (va_runSN (As := As) (rest := st) ⟨g.ex, g.by, g.ml, g.ow, g.ts⟩ (hM r1 σ1 hf) ⟨va_cnB (Ts := tn_T) (ws := Cond.code yX4_ceiling bytes maxL ret :: tn_T) na g.ts (tn_goodIn hY1) rfl hr0.1 hr0.2 g.Z.2.2 (g.ts _ hY4) ⟨hY5, hY6, hY7⟩ (by rw [hR]; exact hroom), g.ts _ hY2, trivial⟩ ⟨tn_blind, fun U hU hW => ⟨rfl, tn_atU g hP hS U hU hW⟩⟩ rfl hna (hl.1.trans g.nl) rfl (lv_room hW) hd hcells) (fun H1 locs1 hP1 hS1 => k r1 σ1 H1 locs1 ls hP1 hS1 hl r σ' hr)
def tn_cck {α : Type} (sp dp n : Int32) (a b : Nat) (r : Option α) : Option α := if sp < 0 ∨ dp < 0 ∨ n < 0 ∨ a < sp.toNatClampNeg + n.toNatClampNeg ∨ b < dp.toNatClampNeg + n.toNatClampNeg then none else r
theorem tr_acopy (g : tn_Ok E G cc own nL R) {ks kd : Nat} {sp dp n : Int32} {Ns Nd i : Nat} (hks : tn_kd ks = 1) (hkd : tn_kd kd = 1) (hNs : tn_len ks = Ns) (hNd : tn_len kd = Nd) (hw : Cond.methodLink own i arraycopyName ∈ tn_T) (hw1 : Cond.native arraycopyName ∈ tn_T) (hw2 : Cond.static arraycopyName ∈ tn_T) (hw3 : Cond.initialized "java/lang/System" ∈ tn_T)
    (hroom : 1 ≤ R.frames ∧ (st.map fun v => v.category).sum + (nativeFrameWords "java/lang/System" "arraycopy" 5 + 11) ≤ R.locals) (m : Nat) (hd : decode cc pc = .ok (.invokestatic i, 3)) (hn : pc + 3 = m) {kk : tn_M → Option (ρ × tn_M)} (k : ∀ σ1, tn_V E G enc m lv st σ1 (kk σ1)) : tn_V E G enc pc lv (.int n :: .int dp :: .ref (tn_ad E kd) :: .int sp :: .ref (tn_ad E ks) :: st) σ (tn_cck sp dp n Ns Nd (tn_lt (tn_cp σ ks kd (tn_x sp) (tn_x dp) (tn_x n)) kk)) := by
  subst hn
  intro H locs ls hP hS hl r σ' hr
  unfold tn_cck at hr
  by_cases h : sp < 0 ∨ dp < 0 ∨ n < 0 ∨ Ns < sp.toNatClampNeg + n.toNatClampNeg ∨ Nd < dp.toNatClampNeg + n.toNatClampNeg
  · rw [if_pos h] at hr; cases hr
  · rw [if_neg h] at hr
    simp only [not_or, Nat.not_lt] at h
    obtain ⟨h1, h2, h3, h4, h5⟩ := h
    refine va_copyi g.ex g.by (g.ml.trans (g.nl.symm.trans hl.1.symm)) g.ow (g.ts _ hw) (g.ts _ hw1) (g.ts _ hw2) (g.ts _ hw3) g.K hP (g.D σ) hS ks kd 0 0 (tn_ws_i hks) (tn_ws_i hkd) rfl rfl rfl h1 h2 h3 (by rw [hNs]; exact h4) (by rw [hNd]; exact h5) (fun _ _ => rfl) (by rw [g.rm]; exact hroom.1) (by rw [g.rm]; exact hroom.2) hd (fun H1 locs1 hP1 _ hS1 => ?_)
    rw [tn_ws_set (σ' := tn_cp σ ks kd (tn_x sp) (tn_x dp) (tn_x n)) (by rw [tn_cell_i hkd]; simp only [tn_cp, if_pos, tn_x]) tn_cp_ne] at hP1
    exact k _ H1 locs1 ls hP1 hS1 hl r σ' hr
end TNC
def tn_rm (f l : Nat) : Room := { frames := f, cells := 0, slots := 0, locals := l }
def tn_fuel : Nat := 2000
end
