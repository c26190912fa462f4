section
-- ===== PART A: goes FIRST, ahead of the names: the tables' words, and 'selects' of the private methods out of them =====
/-- a private method of a class that the tables say can be made, by its rows of tables_1 -/
def lw_okq (q : MethodName × Nat) : Prop := (q.1.cls ≠ "java/lang/invoke/MethodHandle" ∧ q.1.cls ≠ "java/lang/invoke/VarHandle") ∧ Cond.instantiable q.1.cls q.2 ∈ tables_1 ∧ Cond.privateMethod q.1 ∈ tables_1 ∧ Cond.instanceMethod q.1 ∈ tables_1
theorem lw_p0 : lw_okq (⟨"ChipRing", "actEnded", "(I)I"⟩, 8) := ⟨⟨by decide +kernel, by decide +kernel⟩, List.mem_of_getElem? (i := 13) (by decide +kernel), List.mem_of_getElem? (i := 295) (by decide +kernel), List.mem_of_getElem? (i := 296) (by decide +kernel)⟩
theorem lw_p1 : lw_okq (⟨"ChipRing", "counted", "(I)I"⟩, 8) := ⟨⟨by decide +kernel, by decide +kernel⟩, List.mem_of_getElem? (i := 13) (by decide +kernel), List.mem_of_getElem? (i := 306) (by decide +kernel), List.mem_of_getElem? (i := 307) (by decide +kernel)⟩
theorem lw_p2 : lw_okq (⟨"ChipRing$Board", "addFault", "(I)I"⟩, 7) := ⟨⟨by decide +kernel, by decide +kernel⟩, List.mem_of_getElem? (i := 21) (by decide +kernel), List.mem_of_getElem? (i := 347) (by decide +kernel), List.mem_of_getElem? (i := 348) (by decide +kernel)⟩
theorem lw_p3 : lw_okq (⟨"ChipRing$Board", "resetChips", "()V"⟩, 7) := ⟨⟨by decide +kernel, by decide +kernel⟩, List.mem_of_getElem? (i := 21) (by decide +kernel), List.mem_of_getElem? (i := 387) (by decide +kernel), List.mem_of_getElem? (i := 388) (by decide +kernel)⟩
theorem lw_p4 : lw_okq (⟨"ChipRing$Board", "captureInstructions", "()V"⟩, 7) := ⟨⟨by decide +kernel, by decide +kernel⟩, List.mem_of_getElem? (i := 21) (by decide +kernel), List.mem_of_getElem? (i := 392) (by decide +kernel), List.mem_of_getElem? (i := 393) (by decide +kernel)⟩
theorem lw_p5 : lw_okq (⟨"ChipRing$Board", "captureData", "(LChipRing$Nets;)V"⟩, 7) := ⟨⟨by decide +kernel, by decide +kernel⟩, List.mem_of_getElem? (i := 21) (by decide +kernel), List.mem_of_getElem? (i := 396) (by decide +kernel), List.mem_of_getElem? (i := 397) (by decide +kernel)⟩
theorem lw_p6 : lw_okq (⟨"ChipRing$Nets", "findOpenCells", "([II)V"⟩, 6) := ⟨⟨by decide +kernel, by decide +kernel⟩, List.mem_of_getElem? (i := 119) (by decide +kernel), List.mem_of_getElem? (i := 404) (by decide +kernel), List.mem_of_getElem? (i := 405) (by decide +kernel)⟩
theorem lw_p7 : lw_okq (⟨"ChipRing$Nets", "driveByLatches", "()V"⟩, 6) := ⟨⟨by decide +kernel, by decide +kernel⟩, List.mem_of_getElem? (i := 119) (by decide +kernel), List.mem_of_getElem? (i := 417) (by decide +kernel), List.mem_of_getElem? (i := 418) (by decide +kernel)⟩
theorem lw_p8 : lw_okq (⟨"ChipRing$Nets", "soundOutputs", "(I)I"⟩, 6) := ⟨⟨by decide +kernel, by decide +kernel⟩, List.mem_of_getElem? (i := 119) (by decide +kernel), List.mem_of_getElem? (i := 421) (by decide +kernel), List.mem_of_getElem? (i := 422) (by decide +kernel)⟩
theorem lw_p9 : lw_okq (⟨"ChipRing$Nets", "applyShorts", "([II)V"⟩, 6) := ⟨⟨by decide +kernel, by decide +kernel⟩, List.mem_of_getElem? (i := 119) (by decide +kernel), List.mem_of_getElem? (i := 428) (by decide +kernel), List.mem_of_getElem? (i := 429) (by decide +kernel)⟩
theorem lw_p10 : lw_okq (⟨"ChipRing$Nets", "applyStuck", "([II)V"⟩, 6) := ⟨⟨by decide +kernel, by decide +kernel⟩, List.mem_of_getElem? (i := 119) (by decide +kernel), List.mem_of_getElem? (i := 432) (by decide +kernel), List.mem_of_getElem? (i := 433) (by decide +kernel)⟩
theorem lw_p11 : lw_okq (⟨"ChipRing$Board", "updateInstructions", "()V"⟩, 7) := ⟨⟨by decide +kernel, by decide +kernel⟩, List.mem_of_getElem? (i := 21) (by decide +kernel), List.mem_of_getElem? (i := 457) (by decide +kernel), List.mem_of_getElem? (i := 458) (by decide +kernel)⟩
theorem lw_p12 : lw_okq (⟨"ChipRing$Board", "updateLatches", "()V"⟩, 7) := ⟨⟨by decide +kernel, by decide +kernel⟩, List.mem_of_getElem? (i := 21) (by decide +kernel), List.mem_of_getElem? (i := 461) (by decide +kernel), List.mem_of_getElem? (i := 462) (by decide +kernel)⟩
theorem lw_p13 : lw_okq (⟨"ChipRing$Board", "shiftInstructions", "(I)I"⟩, 7) := ⟨⟨by decide +kernel, by decide +kernel⟩, List.mem_of_getElem? (i := 21) (by decide +kernel), List.mem_of_getElem? (i := 470) (by decide +kernel), List.mem_of_getElem? (i := 471) (by decide +kernel)⟩
theorem lw_p14 : lw_okq (⟨"ChipRing$Board", "shiftData", "(I)I"⟩, 7) := ⟨⟨by decide +kernel, by decide +kernel⟩, List.mem_of_getElem? (i := 21) (by decide +kernel), List.mem_of_getElem? (i := 478) (by decide +kernel), List.mem_of_getElem? (i := 479) (by decide +kernel)⟩
theorem lw_p15 : lw_okq (⟨"ChipRing", "manyClocks", "(III)I"⟩, 8) := ⟨⟨by decide +kernel, by decide +kernel⟩, List.mem_of_getElem? (i := 13) (by decide +kernel), List.mem_of_getElem? (i := 497) (by decide +kernel), List.mem_of_getElem? (i := 498) (by decide +kernel)⟩
def lw_privs_1 : List (MethodName × Nat) := [(⟨"ChipRing", "actEnded", "(I)I"⟩, 8), (⟨"ChipRing", "counted", "(I)I"⟩, 8), (⟨"ChipRing$Board", "addFault", "(I)I"⟩, 7), (⟨"ChipRing$Board", "resetChips", "()V"⟩, 7), (⟨"ChipRing$Board", "captureInstructions", "()V"⟩, 7), (⟨"ChipRing$Board", "captureData", "(LChipRing$Nets;)V"⟩, 7), (⟨"ChipRing$Nets", "findOpenCells", "([II)V"⟩, 6), (⟨"ChipRing$Nets", "driveByLatches", "()V"⟩, 6), (⟨"ChipRing$Nets", "soundOutputs", "(I)I"⟩, 6), (⟨"ChipRing$Nets", "applyShorts", "([II)V"⟩, 6), (⟨"ChipRing$Nets", "applyStuck", "([II)V"⟩, 6), (⟨"ChipRing$Board", "updateInstructions", "()V"⟩, 7), (⟨"ChipRing$Board", "updateLatches", "()V"⟩, 7), (⟨"ChipRing$Board", "shiftInstructions", "(I)I"⟩, 7), (⟨"ChipRing$Board", "shiftData", "(I)I"⟩, 7), (⟨"ChipRing", "manyClocks", "(III)I"⟩, 8)]
theorem lw_r1 : ∀ q ∈ lw_privs_1, lw_okq q := List.forall_mem_cons.mpr ⟨lw_p0, List.forall_mem_cons.mpr ⟨lw_p1, List.forall_mem_cons.mpr ⟨lw_p2, List.forall_mem_cons.mpr ⟨lw_p3, List.forall_mem_cons.mpr ⟨lw_p4, List.forall_mem_cons.mpr ⟨lw_p5, List.forall_mem_cons.mpr ⟨lw_p6, List.forall_mem_cons.mpr ⟨lw_p7, List.forall_mem_cons.mpr ⟨lw_p8, List.forall_mem_cons.mpr ⟨lw_p9, List.forall_mem_cons.mpr ⟨lw_p10, List.forall_mem_cons.mpr ⟨lw_p11, List.forall_mem_cons.mpr ⟨lw_p12, List.forall_mem_cons.mpr ⟨lw_p13, List.forall_mem_cons.mpr ⟨lw_p14, List.forall_mem_cons.mpr ⟨lw_p15, fun _ h => absurd h List.not_mem_nil⟩⟩⟩⟩⟩⟩⟩⟩⟩⟩⟩⟩⟩⟩⟩⟩
theorem lw_p16 : lw_okq (⟨"ChipRing", "portNumber", "(I)I"⟩, 8) := ⟨⟨by decide +kernel, by decide +kernel⟩, List.mem_of_getElem? (i := 13) (by decide +kernel), List.mem_of_getElem? (i := 506) (by decide +kernel), List.mem_of_getElem? (i := 507) (by decide +kernel)⟩
theorem lw_p17 : lw_okq (⟨"ChipRing", "cellNumber", "(III)I"⟩, 8) := ⟨⟨by decide +kernel, by decide +kernel⟩, List.mem_of_getElem? (i := 13) (by decide +kernel), List.mem_of_getElem? (i := 538) (by decide +kernel), List.mem_of_getElem? (i := 539) (by decide +kernel)⟩
theorem lw_p18 : lw_okq (⟨"ChipRing$Tester", "prepare", "(I)V"⟩, 8) := ⟨⟨by decide +kernel, by decide +kernel⟩, List.mem_of_getElem? (i := 145) (by decide +kernel), List.mem_of_getElem? (i := 599) (by decide +kernel), List.mem_of_getElem? (i := 600) (by decide +kernel)⟩
theorem lw_p19 : lw_okq (⟨"ChipRing$Nets", "netsOfSoundOutputs", "()I"⟩, 6) := ⟨⟨by decide +kernel, by decide +kernel⟩, List.mem_of_getElem? (i := 119) (by decide +kernel), List.mem_of_getElem? (i := 607) (by decide +kernel), List.mem_of_getElem? (i := 608) (by decide +kernel)⟩
theorem lw_p20 : lw_okq (⟨"ChipRing$Nets", "driveByStimuli", "([II)V"⟩, 6) := ⟨⟨by decide +kernel, by decide +kernel⟩, List.mem_of_getElem? (i := 119) (by decide +kernel), List.mem_of_getElem? (i := 611) (by decide +kernel), List.mem_of_getElem? (i := 612) (by decide +kernel)⟩
theorem lw_p21 : lw_okq (⟨"ChipRing$Tester", "noteAnswers", "()V"⟩, 8) := ⟨⟨by decide +kernel, by decide +kernel⟩, List.mem_of_getElem? (i := 145) (by decide +kernel), List.mem_of_getElem? (i := 624) (by decide +kernel), List.mem_of_getElem? (i := 625) (by decide +kernel)⟩
theorem lw_p22 : lw_okq (⟨"ChipRing$Tester", "explains", "(I)Z"⟩, 8) := ⟨⟨by decide +kernel, by decide +kernel⟩, List.mem_of_getElem? (i := 145) (by decide +kernel), List.mem_of_getElem? (i := 628) (by decide +kernel), List.mem_of_getElem? (i := 629) (by decide +kernel)⟩
theorem lw_p23 : lw_okq (⟨"ChipRing$Tester", "listCandidates", "()V"⟩, 8) := ⟨⟨by decide +kernel, by decide +kernel⟩, List.mem_of_getElem? (i := 145) (by decide +kernel), List.mem_of_getElem? (i := 641) (by decide +kernel), List.mem_of_getElem? (i := 642) (by decide +kernel)⟩
theorem lw_p24 : lw_okq (⟨"ChipRing$Tester", "list", "(I)V"⟩, 8) := ⟨⟨by decide +kernel, by decide +kernel⟩, List.mem_of_getElem? (i := 145) (by decide +kernel), List.mem_of_getElem? (i := 645) (by decide +kernel), List.mem_of_getElem? (i := 646) (by decide +kernel)⟩
theorem lw_p25 : lw_okq (⟨"ChipRing$Tester", "listOpenCells", "()V"⟩, 8) := ⟨⟨by decide +kernel, by decide +kernel⟩, List.mem_of_getElem? (i := 145) (by decide +kernel), List.mem_of_getElem? (i := 649) (by decide +kernel), List.mem_of_getElem? (i := 650) (by decide +kernel)⟩
theorem lw_p26 : lw_okq (⟨"ChipRing$Tester", "listStuckNets", "(I)V"⟩, 8) := ⟨⟨by decide +kernel, by decide +kernel⟩, List.mem_of_getElem? (i := 145) (by decide +kernel), List.mem_of_getElem? (i := 654) (by decide +kernel), List.mem_of_getElem? (i := 655) (by decide +kernel)⟩
theorem lw_p27 : lw_okq (⟨"ChipRing$Tester", "listShorts", "(II)V"⟩, 8) := ⟨⟨by decide +kernel, by decide +kernel⟩, List.mem_of_getElem? (i := 145) (by decide +kernel), List.mem_of_getElem? (i := 659) (by decide +kernel), List.mem_of_getElem? (i := 660) (by decide +kernel)⟩
theorem lw_p28 : lw_okq (⟨"ChipRing$Text", "takes", "(I)Z"⟩, 9) := ⟨⟨by decide +kernel, by decide +kernel⟩, List.mem_of_getElem? (i := 199) (by decide +kernel), List.mem_of_getElem? (i := 687) (by decide +kernel), List.mem_of_getElem? (i := 688) (by decide +kernel)⟩
theorem lw_p29 : lw_okq (⟨"ChipRing$Text", "takesLetter", "(I)Z"⟩, 9) := ⟨⟨by decide +kernel, by decide +kernel⟩, List.mem_of_getElem? (i := 199) (by decide +kernel), List.mem_of_getElem? (i := 691) (by decide +kernel), List.mem_of_getElem? (i := 692) (by decide +kernel)⟩
theorem lw_p30 : lw_okq (⟨"ChipRing$Text", "takesEnd", "()Z"⟩, 9) := ⟨⟨by decide +kernel, by decide +kernel⟩, List.mem_of_getElem? (i := 199) (by decide +kernel), List.mem_of_getElem? (i := 698) (by decide +kernel), List.mem_of_getElem? (i := 699) (by decide +kernel)⟩
theorem lw_p31 : lw_okq (⟨"ChipRing$Text", "takesDigit", "(I)Z"⟩, 9) := ⟨⟨by decide +kernel, by decide +kernel⟩, List.mem_of_getElem? (i := 199) (by decide +kernel), List.mem_of_getElem? (i := 702) (by decide +kernel), List.mem_of_getElem? (i := 703) (by decide +kernel)⟩
def lw_privs_2 : List (MethodName × Nat) := [(⟨"ChipRing", "portNumber", "(I)I"⟩, 8), (⟨"ChipRing", "cellNumber", "(III)I"⟩, 8), (⟨"ChipRing$Tester", "prepare", "(I)V"⟩, 8), (⟨"ChipRing$Nets", "netsOfSoundOutputs", "()I"⟩, 6), (⟨"ChipRing$Nets", "driveByStimuli", "([II)V"⟩, 6), (⟨"ChipRing$Tester", "noteAnswers", "()V"⟩, 8), (⟨"ChipRing$Tester", "explains", "(I)Z"⟩, 8), (⟨"ChipRing$Tester", "listCandidates", "()V"⟩, 8), (⟨"ChipRing$Tester", "list", "(I)V"⟩, 8), (⟨"ChipRing$Tester", "listOpenCells", "()V"⟩, 8), (⟨"ChipRing$Tester", "listStuckNets", "(I)V"⟩, 8), (⟨"ChipRing$Tester", "listShorts", "(II)V"⟩, 8), (⟨"ChipRing$Text", "takes", "(I)Z"⟩, 9), (⟨"ChipRing$Text", "takesLetter", "(I)Z"⟩, 9), (⟨"ChipRing$Text", "takesEnd", "()Z"⟩, 9), (⟨"ChipRing$Text", "takesDigit", "(I)Z"⟩, 9)]
theorem lw_r2 : ∀ q ∈ lw_privs_2, lw_okq q := List.forall_mem_cons.mpr ⟨lw_p16, List.forall_mem_cons.mpr ⟨lw_p17, List.forall_mem_cons.mpr ⟨lw_p18, List.forall_mem_cons.mpr ⟨lw_p19, List.forall_mem_cons.mpr ⟨lw_p20, List.forall_mem_cons.mpr ⟨lw_p21, List.forall_mem_cons.mpr ⟨lw_p22, List.forall_mem_cons.mpr ⟨lw_p23, List.forall_mem_cons.mpr ⟨lw_p24, List.forall_mem_cons.mpr ⟨lw_p25, List.forall_mem_cons.mpr ⟨lw_p26, List.forall_mem_cons.mpr ⟨lw_p27, List.forall_mem_cons.mpr ⟨lw_p28, List.forall_mem_cons.mpr ⟨lw_p29, List.forall_mem_cons.mpr ⟨lw_p30, List.forall_mem_cons.mpr ⟨lw_p31, fun _ h => absurd h List.not_mem_nil⟩⟩⟩⟩⟩⟩⟩⟩⟩⟩⟩⟩⟩⟩⟩⟩
theorem lw_p32 : lw_okq (⟨"ChipRing", "carryOut", "(II)I"⟩, 8) := ⟨⟨by decide +kernel, by decide +kernel⟩, List.mem_of_getElem? (i := 13) (by decide +kernel), List.mem_of_getElem? (i := 706) (by decide +kernel), List.mem_of_getElem? (i := 707) (by decide +kernel)⟩
theorem lw_p33 : lw_okq (⟨"ChipRing", "mixedChips", "(J)J"⟩, 8) := ⟨⟨by decide +kernel, by decide +kernel⟩, List.mem_of_getElem? (i := 13) (by decide +kernel), List.mem_of_getElem? (i := 739) (by decide +kernel), List.mem_of_getElem? (i := 740) (by decide +kernel)⟩
theorem lw_p34 : lw_okq (⟨"ChipRingModel", "no", "()I"⟩, 19) := ⟨⟨by decide +kernel, by decide +kernel⟩, List.mem_of_getElem? (i := 748) (by decide +kernel), List.mem_of_getElem? (i := 816) (by decide +kernel), List.mem_of_getElem? (i := 817) (by decide +kernel)⟩
theorem lw_p35 : lw_okq (⟨"ChipRingModel", "laysAside", "()V"⟩, 19) := ⟨⟨by decide +kernel, by decide +kernel⟩, List.mem_of_getElem? (i := 748) (by decide +kernel), List.mem_of_getElem? (i := 824) (by decide +kernel), List.mem_of_getElem? (i := 825) (by decide +kernel)⟩
theorem lw_p36 : lw_okq (⟨"ChipRingModel", "addsChip", "(II)I"⟩, 19) := ⟨⟨by decide +kernel, by decide +kernel⟩, List.mem_of_getElem? (i := 748) (by decide +kernel), List.mem_of_getElem? (i := 828) (by decide +kernel), List.mem_of_getElem? (i := 829) (by decide +kernel)⟩
theorem lw_p37 : lw_okq (⟨"ChipRingModel", "firstOf", "(I)I"⟩, 19) := ⟨⟨by decide +kernel, by decide +kernel⟩, List.mem_of_getElem? (i := 748) (by decide +kernel), List.mem_of_getElem? (i := 838) (by decide +kernel), List.mem_of_getElem? (i := 839) (by decide +kernel)⟩
theorem lw_p38 : lw_okq (⟨"ChipRingModel", "get", "(II)I"⟩, 19) := ⟨⟨by decide +kernel, by decide +kernel⟩, List.mem_of_getElem? (i := 748) (by decide +kernel), List.mem_of_getElem? (i := 842) (by decide +kernel), List.mem_of_getElem? (i := 843) (by decide +kernel)⟩
theorem lw_p39 : lw_okq (⟨"ChipRingModel", "ends", "(I)I"⟩, 19) := ⟨⟨by decide +kernel, by decide +kernel⟩, List.mem_of_getElem? (i := 748) (by decide +kernel), List.mem_of_getElem? (i := 846) (by decide +kernel), List.mem_of_getElem? (i := 847) (by decide +kernel)⟩
theorem lw_p40 : lw_okq (⟨"ChipRingModel", "leaves", "()V"⟩, 19) := ⟨⟨by decide +kernel, by decide +kernel⟩, List.mem_of_getElem? (i := 748) (by decide +kernel), List.mem_of_getElem? (i := 850) (by decide +kernel), List.mem_of_getElem? (i := 851) (by decide +kernel)⟩
theorem lw_p41 : lw_okq (⟨"ChipRingModel", "full", "()I"⟩, 19) := ⟨⟨by decide +kernel, by decide +kernel⟩, List.mem_of_getElem? (i := 748) (by decide +kernel), List.mem_of_getElem? (i := 854) (by decide +kernel), List.mem_of_getElem? (i := 855) (by decide +kernel)⟩
theorem lw_p42 : lw_okq (⟨"ChipRingModel", "bad", "()I"⟩, 19) := ⟨⟨by decide +kernel, by decide +kernel⟩, List.mem_of_getElem? (i := 748) (by decide +kernel), List.mem_of_getElem? (i := 858) (by decide +kernel), List.mem_of_getElem? (i := 859) (by decide +kernel)⟩
theorem lw_p43 : lw_okq (⟨"ChipRingModel", "addsCell", "(III)I"⟩, 19) := ⟨⟨by decide +kernel, by decide +kernel⟩, List.mem_of_getElem? (i := 748) (by decide +kernel), List.mem_of_getElem? (i := 866) (by decide +kernel), List.mem_of_getElem? (i := 867) (by decide +kernel)⟩
theorem lw_p44 : lw_okq (⟨"ChipRingModel", "isChip", "(I)Z"⟩, 19) := ⟨⟨by decide +kernel, by decide +kernel⟩, List.mem_of_getElem? (i := 748) (by decide +kernel), List.mem_of_getElem? (i := 870) (by decide +kernel), List.mem_of_getElem? (i := 871) (by decide +kernel)⟩
theorem lw_p45 : lw_okq (⟨"ChipRingModel", "opensOne", "(II)I"⟩, 19) := ⟨⟨by decide +kernel, by decide +kernel⟩, List.mem_of_getElem? (i := 748) (by decide +kernel), List.mem_of_getElem? (i := 884) (by decide +kernel), List.mem_of_getElem? (i := 885) (by decide +kernel)⟩
theorem lw_p46 : lw_okq (⟨"ChipRingModel", "isCell", "(II)Z"⟩, 19) := ⟨⟨by decide +kernel, by decide +kernel⟩, List.mem_of_getElem? (i := 748) (by decide +kernel), List.mem_of_getElem? (i := 888) (by decide +kernel), List.mem_of_getElem? (i := 889) (by decide +kernel)⟩
theorem lw_p47 : lw_okq (⟨"ChipRingModel", "addsFault", "(ZI)I"⟩, 19) := ⟨⟨by decide +kernel, by decide +kernel⟩, List.mem_of_getElem? (i := 748) (by decide +kernel), List.mem_of_getElem? (i := 892) (by decide +kernel), List.mem_of_getElem? (i := 893) (by decide +kernel)⟩
def lw_privs_3 : List (MethodName × Nat) := [(⟨"ChipRing", "carryOut", "(II)I"⟩, 8), (⟨"ChipRing", "mixedChips", "(J)J"⟩, 8), (⟨"ChipRingModel", "no", "()I"⟩, 19), (⟨"ChipRingModel", "laysAside", "()V"⟩, 19), (⟨"ChipRingModel", "addsChip", "(II)I"⟩, 19), (⟨"ChipRingModel", "firstOf", "(I)I"⟩, 19), (⟨"ChipRingModel", "get", "(II)I"⟩, 19), (⟨"ChipRingModel", "ends", "(I)I"⟩, 19), (⟨"ChipRingModel", "leaves", "()V"⟩, 19), (⟨"ChipRingModel", "full", "()I"⟩, 19), (⟨"ChipRingModel", "bad", "()I"⟩, 19), (⟨"ChipRingModel", "addsCell", "(III)I"⟩, 19), (⟨"ChipRingModel", "isChip", "(I)Z"⟩, 19), (⟨"ChipRingModel", "opensOne", "(II)I"⟩, 19), (⟨"ChipRingModel", "isCell", "(II)Z"⟩, 19), (⟨"ChipRingModel", "addsFault", "(ZI)I"⟩, 19)]
theorem lw_r3 : ∀ q ∈ lw_privs_3, lw_okq q := List.forall_mem_cons.mpr ⟨lw_p32, List.forall_mem_cons.mpr ⟨lw_p33, List.forall_mem_cons.mpr ⟨lw_p34, List.forall_mem_cons.mpr ⟨lw_p35, List.forall_mem_cons.mpr ⟨lw_p36, List.forall_mem_cons.mpr ⟨lw_p37, List.forall_mem_cons.mpr ⟨lw_p38, List.forall_mem_cons.mpr ⟨lw_p39, List.forall_mem_cons.mpr ⟨lw_p40, List.forall_mem_cons.mpr ⟨lw_p41, List.forall_mem_cons.mpr ⟨lw_p42, List.forall_mem_cons.mpr ⟨lw_p43, List.forall_mem_cons.mpr ⟨lw_p44, List.forall_mem_cons.mpr ⟨lw_p45, List.forall_mem_cons.mpr ⟨lw_p46, List.forall_mem_cons.mpr ⟨lw_p47, fun _ h => absurd h List.not_mem_nil⟩⟩⟩⟩⟩⟩⟩⟩⟩⟩⟩⟩⟩⟩⟩⟩
theorem lw_p48 : lw_okq (⟨"ChipRingModel", "sticksOne", "(II)I"⟩, 19) := ⟨⟨by decide +kernel, by decide +kernel⟩, List.mem_of_getElem? (i := 748) (by decide +kernel), List.mem_of_getElem? (i := 900) (by decide +kernel), List.mem_of_getElem? (i := 901) (by decide +kernel)⟩
theorem lw_p49 : lw_okq (⟨"ChipRingModel", "shortsTwo", "(III)I"⟩, 19) := ⟨⟨by decide +kernel, by decide +kernel⟩, List.mem_of_getElem? (i := 748) (by decide +kernel), List.mem_of_getElem? (i := 908) (by decide +kernel), List.mem_of_getElem? (i := 909) (by decide +kernel)⟩
theorem lw_p50 : lw_okq (⟨"ChipRingModel", "healsAll", "()I"⟩, 19) := ⟨⟨by decide +kernel, by decide +kernel⟩, List.mem_of_getElem? (i := 748) (by decide +kernel), List.mem_of_getElem? (i := 916) (by decide +kernel), List.mem_of_getElem? (i := 917) (by decide +kernel)⟩
theorem lw_p51 : lw_okq (⟨"ChipRingModel", "clocksTo", "(II)I"⟩, 19) := ⟨⟨by decide +kernel, by decide +kernel⟩, List.mem_of_getElem? (i := 748) (by decide +kernel), List.mem_of_getElem? (i := 924) (by decide +kernel), List.mem_of_getElem? (i := 925) (by decide +kernel)⟩
theorem lw_p52 : lw_okq (⟨"ChipRingModel", "clocksOnce", "(II)I"⟩, 19) := ⟨⟨by decide +kernel, by decide +kernel⟩, List.mem_of_getElem? (i := 748) (by decide +kernel), List.mem_of_getElem? (i := 928) (by decide +kernel), List.mem_of_getElem? (i := 929) (by decide +kernel)⟩
theorem lw_p53 : lw_okq (⟨"ChipRingModel", "shifts", "(II)I"⟩, 19) := ⟨⟨by decide +kernel, by decide +kernel⟩, List.mem_of_getElem? (i := 748) (by decide +kernel), List.mem_of_getElem? (i := 932) (by decide +kernel), List.mem_of_getElem? (i := 933) (by decide +kernel)⟩
theorem lw_p54 : lw_okq (⟨"ChipRingModel", "chips", "()I"⟩, 19) := ⟨⟨by decide +kernel, by decide +kernel⟩, List.mem_of_getElem? (i := 748) (by decide +kernel), List.mem_of_getElem? (i := 936) (by decide +kernel), List.mem_of_getElem? (i := 937) (by decide +kernel)⟩
theorem lw_p55 : lw_okq (⟨"ChipRingModel", "longOf", "(I)I"⟩, 19) := ⟨⟨by decide +kernel, by decide +kernel⟩, List.mem_of_getElem? (i := 748) (by decide +kernel), List.mem_of_getElem? (i := 940) (by decide +kernel), List.mem_of_getElem? (i := 941) (by decide +kernel)⟩
theorem lw_p56 : lw_okq (⟨"ChipRingModel", "kindOf", "(I)I"⟩, 19) := ⟨⟨by decide +kernel, by decide +kernel⟩, List.mem_of_getElem? (i := 748) (by decide +kernel), List.mem_of_getElem? (i := 944) (by decide +kernel), List.mem_of_getElem? (i := 945) (by decide +kernel)⟩
theorem lw_p57 : lw_okq (⟨"ChipRingModel", "doesPlace", "(I)V"⟩, 19) := ⟨⟨by decide +kernel, by decide +kernel⟩, List.mem_of_getElem? (i := 748) (by decide +kernel), List.mem_of_getElem? (i := 948) (by decide +kernel), List.mem_of_getElem? (i := 949) (by decide +kernel)⟩
theorem lw_p58 : lw_okq (⟨"ChipRingModel", "laysNow", "()V"⟩, 19) := ⟨⟨by decide +kernel, by decide +kernel⟩, List.mem_of_getElem? (i := 748) (by decide +kernel), List.mem_of_getElem? (i := 952) (by decide +kernel), List.mem_of_getElem? (i := 953) (by decide +kernel)⟩
theorem lw_p59 : lw_okq (⟨"ChipRingModel", "usesAll", "()V"⟩, 19) := ⟨⟨by decide +kernel, by decide +kernel⟩, List.mem_of_getElem? (i := 748) (by decide +kernel), List.mem_of_getElem? (i := 956) (by decide +kernel), List.mem_of_getElem? (i := 957) (by decide +kernel)⟩
theorem lw_p60 : lw_okq (⟨"ChipRingModel", "laysNets", "(I)V"⟩, 19) := ⟨⟨by decide +kernel, by decide +kernel⟩, List.mem_of_getElem? (i := 748) (by decide +kernel), List.mem_of_getElem? (i := 960) (by decide +kernel), List.mem_of_getElem? (i := 961) (by decide +kernel)⟩
theorem lw_p61 : lw_okq (⟨"ChipRingModel", "laysDrivers", "(I)V"⟩, 19) := ⟨⟨by decide +kernel, by decide +kernel⟩, List.mem_of_getElem? (i := 748) (by decide +kernel), List.mem_of_getElem? (i := 964) (by decide +kernel), List.mem_of_getElem? (i := 965) (by decide +kernel)⟩
theorem lw_p62 : lw_okq (⟨"ChipRingModel", "drives", "(III)I"⟩, 19) := ⟨⟨by decide +kernel, by decide +kernel⟩, List.mem_of_getElem? (i := 748) (by decide +kernel), List.mem_of_getElem? (i := 968) (by decide +kernel), List.mem_of_getElem? (i := 969) (by decide +kernel)⟩
theorem lw_p63 : lw_okq (⟨"ChipRingModel", "isOut", "(II)Z"⟩, 19) := ⟨⟨by decide +kernel, by decide +kernel⟩, List.mem_of_getElem? (i := 748) (by decide +kernel), List.mem_of_getElem? (i := 972) (by decide +kernel), List.mem_of_getElem? (i := 973) (by decide +kernel)⟩
def lw_privs_4 : List (MethodName × Nat) := [(⟨"ChipRingModel", "sticksOne", "(II)I"⟩, 19), (⟨"ChipRingModel", "shortsTwo", "(III)I"⟩, 19), (⟨"ChipRingModel", "healsAll", "()I"⟩, 19), (⟨"ChipRingModel", "clocksTo", "(II)I"⟩, 19), (⟨"ChipRingModel", "clocksOnce", "(II)I"⟩, 19), (⟨"ChipRingModel", "shifts", "(II)I"⟩, 19), (⟨"ChipRingModel", "chips", "()I"⟩, 19), (⟨"ChipRingModel", "longOf", "(I)I"⟩, 19), (⟨"ChipRingModel", "kindOf", "(I)I"⟩, 19), (⟨"ChipRingModel", "doesPlace", "(I)V"⟩, 19), (⟨"ChipRingModel", "laysNow", "()V"⟩, 19), (⟨"ChipRingModel", "usesAll", "()V"⟩, 19), (⟨"ChipRingModel", "laysNets", "(I)V"⟩, 19), (⟨"ChipRingModel", "laysDrivers", "(I)V"⟩, 19), (⟨"ChipRingModel", "drives", "(III)I"⟩, 19), (⟨"ChipRingModel", "isOut", "(II)Z"⟩, 19)]
theorem lw_r4 : ∀ q ∈ lw_privs_4, lw_okq q := List.forall_mem_cons.mpr ⟨lw_p48, List.forall_mem_cons.mpr ⟨lw_p49, List.forall_mem_cons.mpr ⟨lw_p50, List.forall_mem_cons.mpr ⟨lw_p51, List.forall_mem_cons.mpr ⟨lw_p52, List.forall_mem_cons.mpr ⟨lw_p53, List.forall_mem_cons.mpr ⟨lw_p54, List.forall_mem_cons.mpr ⟨lw_p55, List.forall_mem_cons.mpr ⟨lw_p56, List.forall_mem_cons.mpr ⟨lw_p57, List.forall_mem_cons.mpr ⟨lw_p58, List.forall_mem_cons.mpr ⟨lw_p59, List.forall_mem_cons.mpr ⟨lw_p60, List.forall_mem_cons.mpr ⟨lw_p61, List.forall_mem_cons.mpr ⟨lw_p62, List.forall_mem_cons.mpr ⟨lw_p63, fun _ h => absurd h List.not_mem_nil⟩⟩⟩⟩⟩⟩⟩⟩⟩⟩⟩⟩⟩⟩⟩⟩
theorem lw_p64 : lw_okq (⟨"ChipRingModel", "isOpen", "(II)Z"⟩, 19) := ⟨⟨by decide +kernel, by decide +kernel⟩, List.mem_of_getElem? (i := 748) (by decide +kernel), List.mem_of_getElem? (i := 976) (by decide +kernel), List.mem_of_getElem? (i := 977) (by decide +kernel)⟩
theorem lw_p65 : lw_okq (⟨"ChipRingModel", "netOf", "(II)I"⟩, 19) := ⟨⟨by decide +kernel, by decide +kernel⟩, List.mem_of_getElem? (i := 748) (by decide +kernel), List.mem_of_getElem? (i := 980) (by decide +kernel), List.mem_of_getElem? (i := 981) (by decide +kernel)⟩
theorem lw_p66 : lw_okq (⟨"ChipRingModel", "patternAt", "(II)I"⟩, 19) := ⟨⟨by decide +kernel, by decide +kernel⟩, List.mem_of_getElem? (i := 748) (by decide +kernel), List.mem_of_getElem? (i := 984) (by decide +kernel), List.mem_of_getElem? (i := 985) (by decide +kernel)⟩
theorem lw_p67 : lw_okq (⟨"ChipRingModel", "counting", "()I"⟩, 19) := ⟨⟨by decide +kernel, by decide +kernel⟩, List.mem_of_getElem? (i := 748) (by decide +kernel), List.mem_of_getElem? (i := 988) (by decide +kernel), List.mem_of_getElem? (i := 989) (by decide +kernel)⟩
theorem lw_p68 : lw_okq (⟨"ChipRingModel", "outs", "()I"⟩, 19) := ⟨⟨by decide +kernel, by decide +kernel⟩, List.mem_of_getElem? (i := 748) (by decide +kernel), List.mem_of_getElem? (i := 992) (by decide +kernel), List.mem_of_getElem? (i := 993) (by decide +kernel)⟩
theorem lw_p69 : lw_okq (⟨"ChipRingModel", "captured", "(I)I"⟩, 19) := ⟨⟨by decide +kernel, by decide +kernel⟩, List.mem_of_getElem? (i := 748) (by decide +kernel), List.mem_of_getElem? (i := 1002) (by decide +kernel), List.mem_of_getElem? (i := 1003) (by decide +kernel)⟩
theorem lw_p70 : lw_okq (⟨"ChipRingModel", "sees", "(II)I"⟩, 19) := ⟨⟨by decide +kernel, by decide +kernel⟩, List.mem_of_getElem? (i := 748) (by decide +kernel), List.mem_of_getElem? (i := 1006) (by decide +kernel), List.mem_of_getElem? (i := 1007) (by decide +kernel)⟩
theorem lw_p71 : lw_okq (⟨"ChipRingModel", "tellPort", "(I)I"⟩, 19) := ⟨⟨by decide +kernel, by decide +kernel⟩, List.mem_of_getElem? (i := 748) (by decide +kernel), List.mem_of_getElem? (i := 1022) (by decide +kernel), List.mem_of_getElem? (i := 1023) (by decide +kernel)⟩
theorem lw_p72 : lw_okq (⟨"ChipRingModel", "longAll", "(Z)I"⟩, 19) := ⟨⟨by decide +kernel, by decide +kernel⟩, List.mem_of_getElem? (i := 748) (by decide +kernel), List.mem_of_getElem? (i := 1026) (by decide +kernel), List.mem_of_getElem? (i := 1027) (by decide +kernel)⟩
theorem lw_p73 : lw_okq (⟨"ChipRingModel", "fightsNow", "()I"⟩, 19) := ⟨⟨by decide +kernel, by decide +kernel⟩, List.mem_of_getElem? (i := 748) (by decide +kernel), List.mem_of_getElem? (i := 1030) (by decide +kernel), List.mem_of_getElem? (i := 1031) (by decide +kernel)⟩
theorem lw_p74 : lw_okq (⟨"ChipRingModel", "onesNow", "()I"⟩, 19) := ⟨⟨by decide +kernel, by decide +kernel⟩, List.mem_of_getElem? (i := 748) (by decide +kernel), List.mem_of_getElem? (i := 1034) (by decide +kernel), List.mem_of_getElem? (i := 1035) (by decide +kernel)⟩
theorem lw_p75 : lw_okq (⟨"ChipRingModel", "tellChip", "(II)I"⟩, 19) := ⟨⟨by decide +kernel, by decide +kernel⟩, List.mem_of_getElem? (i := 748) (by decide +kernel), List.mem_of_getElem? (i := 1042) (by decide +kernel), List.mem_of_getElem? (i := 1043) (by decide +kernel)⟩
theorem lw_p76 : lw_okq (⟨"ChipRingModel", "tellCell", "(III)I"⟩, 19) := ⟨⟨by decide +kernel, by decide +kernel⟩, List.mem_of_getElem? (i := 748) (by decide +kernel), List.mem_of_getElem? (i := 1050) (by decide +kernel), List.mem_of_getElem? (i := 1051) (by decide +kernel)⟩
theorem lw_p77 : lw_okq (⟨"ChipRingModel", "countOf", "(I)I"⟩, 19) := ⟨⟨by decide +kernel, by decide +kernel⟩, List.mem_of_getElem? (i := 748) (by decide +kernel), List.mem_of_getElem? (i := 1058) (by decide +kernel), List.mem_of_getElem? (i := 1059) (by decide +kernel)⟩
theorem lw_p78 : lw_okq (⟨"ChipRingModel", "cells", "()I"⟩, 19) := ⟨⟨by decide +kernel, by decide +kernel⟩, List.mem_of_getElem? (i := 748) (by decide +kernel), List.mem_of_getElem? (i := 1062) (by decide +kernel), List.mem_of_getElem? (i := 1063) (by decide +kernel)⟩
theorem lw_p79 : lw_okq (⟨"ChipRingModel", "netsWithCells", "()I"⟩, 19) := ⟨⟨by decide +kernel, by decide +kernel⟩, List.mem_of_getElem? (i := 748) (by decide +kernel), List.mem_of_getElem? (i := 1066) (by decide +kernel), List.mem_of_getElem? (i := 1067) (by decide +kernel)⟩
def lw_privs_5 : List (MethodName × Nat) := [(⟨"ChipRingModel", "isOpen", "(II)Z"⟩, 19), (⟨"ChipRingModel", "netOf", "(II)I"⟩, 19), (⟨"ChipRingModel", "patternAt", "(II)I"⟩, 19), (⟨"ChipRingModel", "counting", "()I"⟩, 19), (⟨"ChipRingModel", "outs", "()I"⟩, 19), (⟨"ChipRingModel", "captured", "(I)I"⟩, 19), (⟨"ChipRingModel", "sees", "(II)I"⟩, 19), (⟨"ChipRingModel", "tellPort", "(I)I"⟩, 19), (⟨"ChipRingModel", "longAll", "(Z)I"⟩, 19), (⟨"ChipRingModel", "fightsNow", "()I"⟩, 19), (⟨"ChipRingModel", "onesNow", "()I"⟩, 19), (⟨"ChipRingModel", "tellChip", "(II)I"⟩, 19), (⟨"ChipRingModel", "tellCell", "(III)I"⟩, 19), (⟨"ChipRingModel", "countOf", "(I)I"⟩, 19), (⟨"ChipRingModel", "cells", "()I"⟩, 19), (⟨"ChipRingModel", "netsWithCells", "()I"⟩, 19)]
theorem lw_r5 : ∀ q ∈ lw_privs_5, lw_okq q := List.forall_mem_cons.mpr ⟨lw_p64, List.forall_mem_cons.mpr ⟨lw_p65, List.forall_mem_cons.mpr ⟨lw_p66, List.forall_mem_cons.mpr ⟨lw_p67, List.forall_mem_cons.mpr ⟨lw_p68, List.forall_mem_cons.mpr ⟨lw_p69, List.forall_mem_cons.mpr ⟨lw_p70, List.forall_mem_cons.mpr ⟨lw_p71, List.forall_mem_cons.mpr ⟨lw_p72, List.forall_mem_cons.mpr ⟨lw_p73, List.forall_mem_cons.mpr ⟨lw_p74, List.forall_mem_cons.mpr ⟨lw_p75, List.forall_mem_cons.mpr ⟨lw_p76, List.forall_mem_cons.mpr ⟨lw_p77, List.forall_mem_cons.mpr ⟨lw_p78, List.forall_mem_cons.mpr ⟨lw_p79, fun _ h => absurd h List.not_mem_nil⟩⟩⟩⟩⟩⟩⟩⟩⟩⟩⟩⟩⟩⟩⟩⟩
theorem lw_p80 : lw_okq (⟨"ChipRingModel", "patternsOf", "(I)I"⟩, 19) := ⟨⟨by decide +kernel, by decide +kernel⟩, List.mem_of_getElem? (i := 748) (by decide +kernel), List.mem_of_getElem? (i := 1078) (by decide +kernel), List.mem_of_getElem? (i := 1079) (by decide +kernel)⟩
theorem lw_p81 : lw_okq (⟨"ChipRingModel", "laysAnswersNow", "(I)V"⟩, 19) := ⟨⟨by decide +kernel, by decide +kernel⟩, List.mem_of_getElem? (i := 748) (by decide +kernel), List.mem_of_getElem? (i := 1090) (by decide +kernel), List.mem_of_getElem? (i := 1091) (by decide +kernel)⟩
theorem lw_p82 : lw_okq (⟨"ChipRingModel", "laysAnswers", "(I[I)V"⟩, 19) := ⟨⟨by decide +kernel, by decide +kernel⟩, List.mem_of_getElem? (i := 748) (by decide +kernel), List.mem_of_getElem? (i := 1094) (by decide +kernel), List.mem_of_getElem? (i := 1095) (by decide +kernel)⟩
theorem lw_p83 : lw_okq (⟨"ChipRingModel", "seenBy", "(I)I"⟩, 19) := ⟨⟨by decide +kernel, by decide +kernel⟩, List.mem_of_getElem? (i := 748) (by decide +kernel), List.mem_of_getElem? (i := 1102) (by decide +kernel), List.mem_of_getElem? (i := 1103) (by decide +kernel)⟩
theorem lw_p84 : lw_okq (⟨"ChipRingModel", "answersSo", "(II)Z"⟩, 19) := ⟨⟨by decide +kernel, by decide +kernel⟩, List.mem_of_getElem? (i := 748) (by decide +kernel), List.mem_of_getElem? (i := 1106) (by decide +kernel), List.mem_of_getElem? (i := 1107) (by decide +kernel)⟩
theorem lw_p85 : lw_okq (⟨"ChipRingModel", "usesOne", "(I)V"⟩, 19) := ⟨⟨by decide +kernel, by decide +kernel⟩, List.mem_of_getElem? (i := 748) (by decide +kernel), List.mem_of_getElem? (i := 1110) (by decide +kernel), List.mem_of_getElem? (i := 1111) (by decide +kernel)⟩
theorem lw_p86 : lw_okq (⟨"ChipRingModel", "suspectsBy", "(II)I"⟩, 19) := ⟨⟨by decide +kernel, by decide +kernel⟩, List.mem_of_getElem? (i := 748) (by decide +kernel), List.mem_of_getElem? (i := 1118) (by decide +kernel), List.mem_of_getElem? (i := 1119) (by decide +kernel)⟩
theorem lw_p87 : lw_okq (⟨"ChipRingModel", "canBe", "(II)Z"⟩, 19) := ⟨⟨by decide +kernel, by decide +kernel⟩, List.mem_of_getElem? (i := 748) (by decide +kernel), List.mem_of_getElem? (i := 1122) (by decide +kernel), List.mem_of_getElem? (i := 1123) (by decide +kernel)⟩
theorem lw_p88 : lw_okq (⟨"ChipRingModel", "reads", "()Z"⟩, 19) := ⟨⟨by decide +kernel, by decide +kernel⟩, List.mem_of_getElem? (i := 748) (by decide +kernel), List.mem_of_getElem? (i := 1138) (by decide +kernel), List.mem_of_getElem? (i := 1139) (by decide +kernel)⟩
theorem lw_p89 : lw_okq (⟨"ChipRingModel", "blanks", "()V"⟩, 19) := ⟨⟨by decide +kernel, by decide +kernel⟩, List.mem_of_getElem? (i := 748) (by decide +kernel), List.mem_of_getElem? (i := 1142) (by decide +kernel), List.mem_of_getElem? (i := 1143) (by decide +kernel)⟩
theorem lw_p90 : lw_okq (⟨"ChipRingModel", "isAt", "(II)Z"⟩, 19) := ⟨⟨by decide +kernel, by decide +kernel⟩, List.mem_of_getElem? (i := 748) (by decide +kernel), List.mem_of_getElem? (i := 1146) (by decide +kernel), List.mem_of_getElem? (i := 1147) (by decide +kernel)⟩
theorem lw_p91 : lw_okq (⟨"ChipRingModel", "readsOrder", "()V"⟩, 19) := ⟨⟨by decide +kernel, by decide +kernel⟩, List.mem_of_getElem? (i := 748) (by decide +kernel), List.mem_of_getElem? (i := 1150) (by decide +kernel), List.mem_of_getElem? (i := 1151) (by decide +kernel)⟩
theorem lw_p92 : lw_okq (⟨"ChipRingModel", "number", "()I"⟩, 19) := ⟨⟨by decide +kernel, by decide +kernel⟩, List.mem_of_getElem? (i := 748) (by decide +kernel), List.mem_of_getElem? (i := 1157) (by decide +kernel), List.mem_of_getElem? (i := 1158) (by decide +kernel)⟩
theorem lw_p93 : lw_okq (⟨"ChipRingModel", "doesOrder", "(I)I"⟩, 19) := ⟨⟨by decide +kernel, by decide +kernel⟩, List.mem_of_getElem? (i := 748) (by decide +kernel), List.mem_of_getElem? (i := 1161) (by decide +kernel), List.mem_of_getElem? (i := 1162) (by decide +kernel)⟩
theorem lw_p94 : lw_okq (⟨"ChipRingModel", "toldOf", "(I)I"⟩, 19) := ⟨⟨by decide +kernel, by decide +kernel⟩, List.mem_of_getElem? (i := 748) (by decide +kernel), List.mem_of_getElem? (i := 1169) (by decide +kernel), List.mem_of_getElem? (i := 1170) (by decide +kernel)⟩
theorem lw_p95 : lw_okq (⟨"ChipRingModel", "mix", "(I)V"⟩, 19) := ⟨⟨by decide +kernel, by decide +kernel⟩, List.mem_of_getElem? (i := 748) (by decide +kernel), List.mem_of_getElem? (i := 1178) (by decide +kernel), List.mem_of_getElem? (i := 1179) (by decide +kernel)⟩
def lw_privs_6 : List (MethodName × Nat) := [(⟨"ChipRingModel", "patternsOf", "(I)I"⟩, 19), (⟨"ChipRingModel", "laysAnswersNow", "(I)V"⟩, 19), (⟨"ChipRingModel", "laysAnswers", "(I[I)V"⟩, 19), (⟨"ChipRingModel", "seenBy", "(I)I"⟩, 19), (⟨"ChipRingModel", "answersSo", "(II)Z"⟩, 19), (⟨"ChipRingModel", "usesOne", "(I)V"⟩, 19), (⟨"ChipRingModel", "suspectsBy", "(II)I"⟩, 19), (⟨"ChipRingModel", "canBe", "(II)Z"⟩, 19), (⟨"ChipRingModel", "reads", "()Z"⟩, 19), (⟨"ChipRingModel", "blanks", "()V"⟩, 19), (⟨"ChipRingModel", "isAt", "(II)Z"⟩, 19), (⟨"ChipRingModel", "readsOrder", "()V"⟩, 19), (⟨"ChipRingModel", "number", "()I"⟩, 19), (⟨"ChipRingModel", "doesOrder", "(I)I"⟩, 19), (⟨"ChipRingModel", "toldOf", "(I)I"⟩, 19), (⟨"ChipRingModel", "mix", "(I)V"⟩, 19)]
theorem lw_r6 : ∀ q ∈ lw_privs_6, lw_okq q := List.forall_mem_cons.mpr ⟨lw_p80, List.forall_mem_cons.mpr ⟨lw_p81, List.forall_mem_cons.mpr ⟨lw_p82, List.forall_mem_cons.mpr ⟨lw_p83, List.forall_mem_cons.mpr ⟨lw_p84, List.forall_mem_cons.mpr ⟨lw_p85, List.forall_mem_cons.mpr ⟨lw_p86, List.forall_mem_cons.mpr ⟨lw_p87, List.forall_mem_cons.mpr ⟨lw_p88, List.forall_mem_cons.mpr ⟨lw_p89, List.forall_mem_cons.mpr ⟨lw_p90, List.forall_mem_cons.mpr ⟨lw_p91, List.forall_mem_cons.mpr ⟨lw_p92, List.forall_mem_cons.mpr ⟨lw_p93, List.forall_mem_cons.mpr ⟨lw_p94, List.forall_mem_cons.mpr ⟨lw_p95, fun _ h => absurd h List.not_mem_nil⟩⟩⟩⟩⟩⟩⟩⟩⟩⟩⟩⟩⟩⟩⟩⟩
theorem lw_p96 : lw_okq (⟨"ChipRingModel", "mixChip", "(I)V"⟩, 19) := ⟨⟨by decide +kernel, by decide +kernel⟩, List.mem_of_getElem? (i := 748) (by decide +kernel), List.mem_of_getElem? (i := 1183) (by decide +kernel), List.mem_of_getElem? (i := 1184) (by decide +kernel)⟩
def lw_privs_7 : List (MethodName × Nat) := [(⟨"ChipRingModel", "mixChip", "(I)V"⟩, 19)]
theorem lw_r7 : ∀ q ∈ lw_privs_7, lw_okq q := List.forall_mem_cons.mpr ⟨lw_p96, fun _ h => absurd h List.not_mem_nil⟩
def lw_privs : List (MethodName × Nat) := lw_privs_1 ++ (lw_privs_2 ++ (lw_privs_3 ++ (lw_privs_4 ++ (lw_privs_5 ++ (lw_privs_6 ++ (lw_privs_7))))))
def lw_tbl : List Cond := k2_sels lw_privs ++ tables_1
theorem lw_privs_ok : ∀ q ∈ lw_privs, lw_okq q := by
  show ∀ q ∈ lw_privs_1 ++ (lw_privs_2 ++ (lw_privs_3 ++ (lw_privs_4 ++ (lw_privs_5 ++ (lw_privs_6 ++ (lw_privs_7)))))), lw_okq q
  exact List.forall_mem_append.mpr ⟨lw_r1, List.forall_mem_append.mpr ⟨lw_r2, List.forall_mem_append.mpr ⟨lw_r3, List.forall_mem_append.mpr ⟨lw_r4, List.forall_mem_append.mpr ⟨lw_r5, List.forall_mem_append.mpr ⟨lw_r6, lw_r7⟩⟩⟩⟩⟩⟩
end
section
def RX0 : String := "ChipRing$Board"
def TX0 : u_T := fun k => match k with
  | 0 => ("ChipRing$Board", "chips", "[LChipRing$Chip;", true)
  | 1 => ("ChipRing$Board", "chipCount", "I", false)
  | 2 => ("ChipRing$Board", "faults", "[I", true)
  | 3 => ("ChipRing$Board", "faultCount", "I", false)
  | 4 => ("ChipRing$Board", "portState", "I", false)
  | 5 => ("ChipRing$Board", "usedNets", "I", false)
  | _ => ("ChipRing$Board", "outputNets", "I", false)
def tyX0 : Nat → FieldType := fun k => match k with
  | 0 => .array (.object "ChipRing$Chip")
  | 1 => .int
  | 2 => .array .int
  | 3 => .int
  | 4 => .int
  | 5 => .int
  | _ => .int
abbrev wsX00 : List Cond := u_ws RX0 TX0 7
theorem nmX0 : ∀ a, a < 7 → ∀ b, b < 7 → a ≠ b → (TX0 a).2.1 ≠ (TX0 b).2.1 := by decide +kernel
theorem tyX0_ok : ∀ k, k < 7 → parseFieldDescriptor (TX0 k).2.2.1 = some (tyX0 k) := by decide +kernel
abbrev cX0_init : ByteArray := prog_2_method_1_code
def yX0_init : MethodName := ⟨RX0, "<init>", "()V"⟩
abbrev cX0_copyFrom : ByteArray := prog_2_method_2_code
def yX0_copyFrom : MethodName := ⟨RX0, "copyFrom", "(LChipRing$Board;)V"⟩
abbrev cX0_hasChip : ByteArray := prog_2_method_3_code
def yX0_hasChip : MethodName := ⟨RX0, "hasChip", "(I)Z"⟩
abbrev cX0_hasCell : ByteArray := prog_2_method_4_code
def yX0_hasCell : MethodName := ⟨RX0, "hasCell", "(II)Z"⟩
abbrev cX0_addChip : ByteArray := prog_2_method_5_code
def yX0_addChip : MethodName := ⟨RX0, "addChip", "(II)I"⟩
abbrev cX0_addCell : ByteArray := prog_2_method_6_code
def yX0_addCell : MethodName := ⟨RX0, "addCell", "(III)I"⟩
abbrev cX0_addOpen : ByteArray := prog_2_method_7_code
def yX0_addOpen : MethodName := ⟨RX0, "addOpen", "(II)I"⟩
abbrev cX0_addStuck : ByteArray := prog_2_method_8_code
def yX0_addStuck : MethodName := ⟨RX0, "addStuck", "(II)I"⟩
abbrev cX0_addShort : ByteArray := prog_2_method_9_code
def yX0_addShort : MethodName := ⟨RX0, "addShort", "(III)I"⟩
abbrev cX0_addFault : ByteArray := prog_2_method_10_code
def yX0_addFault : MethodName := ⟨RX0, "addFault", "(I)I"⟩
abbrev cX0_dropFaults : ByteArray := prog_2_method_11_code
def yX0_dropFaults : MethodName := ⟨RX0, "dropFaults", "()I"⟩
abbrev cX0_tick : ByteArray := prog_2_method_12_code
def yX0_tick : MethodName := ⟨RX0, "tick", "(IILChipRing$Nets;)I"⟩
abbrev cX0_resetChips : ByteArray := prog_2_method_13_code
def yX0_resetChips : MethodName := ⟨RX0, "resetChips", "()V"⟩
abbrev cX0_captureInstructions : ByteArray := prog_2_method_14_code
def yX0_captureInstructions : MethodName := ⟨RX0, "captureInstructions", "()V"⟩
abbrev cX0_captureData : ByteArray := prog_2_method_15_code
def yX0_captureData : MethodName := ⟨RX0, "captureData", "(LChipRing$Nets;)V"⟩
abbrev cX0_updateInstructions : ByteArray := prog_2_method_16_code
def yX0_updateInstructions : MethodName := ⟨RX0, "updateInstructions", "()V"⟩
abbrev cX0_updateLatches : ByteArray := prog_2_method_17_code
def yX0_updateLatches : MethodName := ⟨RX0, "updateLatches", "()V"⟩
abbrev cX0_shiftInstructions : ByteArray := prog_2_method_18_code
def yX0_shiftInstructions : MethodName := ⟨RX0, "shiftInstructions", "(I)I"⟩
abbrev cX0_shiftData : ByteArray := prog_2_method_19_code
def yX0_shiftData : MethodName := ⟨RX0, "shiftData", "(I)I"⟩
abbrev cX0_dataBits : ByteArray := prog_2_method_20_code
def yX0_dataBits : MethodName := ⟨RX0, "dataBits", "()I"⟩
abbrev cX0_instructionBits : ByteArray := prog_2_method_21_code
def yX0_instructionBits : MethodName := ⟨RX0, "instructionBits", "()I"⟩
abbrev cX0_cellCount : ByteArray := prog_2_method_22_code
def yX0_cellCount : MethodName := ⟨RX0, "cellCount", "()I"⟩
abbrev cX0_number : ByteArray := prog_2_method_23_code
def yX0_number : MethodName := ⟨RX0, "number", "(I)I"⟩
def RX1 : String := "ChipRing$Chip"
def TX1 : u_T := fun k => match k with
  | 0 => ("ChipRing$Chip", "instructionBits", "I", false)
  | 1 => ("ChipRing$Chip", "identity", "I", false)
  | 2 => ("ChipRing$Chip", "instruction", "I", false)
  | 3 => ("ChipRing$Chip", "instructionContent", "I", false)
  | 4 => ("ChipRing$Chip", "dataContent", "I", false)
  | 5 => ("ChipRing$Chip", "latches", "I", false)
  | 6 => ("ChipRing$Chip", "cellCount", "I", false)
  | 7 => ("ChipRing$Chip", "outputs", "I", false)
  | _ => ("ChipRing$Chip", "netOf", "[I", true)
def tyX1 : Nat → FieldType := fun k => match k with
  | 0 => .int
  | 1 => .int
  | 2 => .int
  | 3 => .int
  | 4 => .int
  | 5 => .int
  | 6 => .int
  | 7 => .int
  | _ => .array .int
abbrev wsX10 : List Cond := u_ws RX1 TX1 9
theorem nmX1 : ∀ a, a < 9 → ∀ b, b < 9 → a ≠ b → (TX1 a).2.1 ≠ (TX1 b).2.1 := by decide +kernel
theorem tyX1_ok : ∀ k, k < 9 → parseFieldDescriptor (TX1 k).2.2.1 = some (tyX1 k) := by decide +kernel
abbrev cX1_init : ByteArray := prog_3_method_1_code
def yX1_init : MethodName := ⟨RX1, "<init>", "()V"⟩
abbrev cX1_begin : ByteArray := prog_3_method_2_code
def yX1_begin : MethodName := ⟨RX1, "begin", "(II)V"⟩
abbrev cX1_copyFrom : ByteArray := prog_3_method_3_code
def yX1_copyFrom : MethodName := ⟨RX1, "copyFrom", "(LChipRing$Chip;)V"⟩
abbrev cX1_reset : ByteArray := prog_3_method_4_code
def yX1_reset : MethodName := ⟨RX1, "reset", "()V"⟩
abbrev cX1_addCell : ByteArray := prog_3_method_5_code
def yX1_addCell : MethodName := ⟨RX1, "addCell", "(II)I"⟩
abbrev cX1_isOutput : ByteArray := prog_3_method_6_code
def yX1_isOutput : MethodName := ⟨RX1, "isOutput", "(I)Z"⟩
abbrev cX1_scansCells : ByteArray := prog_3_method_7_code
def yX1_scansCells : MethodName := ⟨RX1, "scansCells", "()Z"⟩
abbrev cX1_scansIdentity : ByteArray := prog_3_method_8_code
def yX1_scansIdentity : MethodName := ⟨RX1, "scansIdentity", "()Z"⟩
abbrev cX1_dataBits : ByteArray := prog_3_method_9_code
def yX1_dataBits : MethodName := ⟨RX1, "dataBits", "()I"⟩
abbrev cX1_shiftInstruction : ByteArray := prog_3_method_10_code
def yX1_shiftInstruction : MethodName := ⟨RX1, "shiftInstruction", "(I)I"⟩
abbrev cX1_shiftData : ByteArray := prog_3_method_11_code
def yX1_shiftData : MethodName := ⟨RX1, "shiftData", "(I)I"⟩
abbrev cX1_updateLatches : ByteArray := prog_3_method_12_code
def yX1_updateLatches : MethodName := ⟨RX1, "updateLatches", "()V"⟩
abbrev cX1_number : ByteArray := prog_3_method_13_code
def yX1_number : MethodName := ⟨RX1, "number", "(I)I"⟩
def RX2 : String := "ChipRing$History"
def TX2 : u_T := fun k => match k with
  | 0 => ("ChipRing$History", "places", "[LChipRing$Board;", true)
  | 1 => ("ChipRing$History", "markPlace", "I", false)
  | _ => ("ChipRing$History", "kept", "I", false)
def tyX2 : Nat → FieldType := fun k => match k with
  | 0 => .array (.object "ChipRing$Board")
  | 1 => .int
  | _ => .int
abbrev wsX20 : List Cond := u_ws RX2 TX2 3
theorem nmX2 : ∀ a, a < 3 → ∀ b, b < 3 → a ≠ b → (TX2 a).2.1 ≠ (TX2 b).2.1 := by decide +kernel
theorem tyX2_ok : ∀ k, k < 3 → parseFieldDescriptor (TX2 k).2.2.1 = some (tyX2 k) := by decide +kernel
abbrev cX2_init : ByteArray := prog_4_method_1_code
def yX2_init : MethodName := ⟨RX2, "<init>", "()V"⟩
abbrev cX2_mark : ByteArray := prog_4_method_2_code
def yX2_mark : MethodName := ⟨RX2, "mark", "(LChipRing$Board;)V"⟩
abbrev cX2_keepMark : ByteArray := prog_4_method_3_code
def yX2_keepMark : MethodName := ⟨RX2, "keepMark", "()V"⟩
abbrev cX2_returnToMark : ByteArray := prog_4_method_4_code
def yX2_returnToMark : MethodName := ⟨RX2, "returnToMark", "(LChipRing$Board;)V"⟩
abbrev cX2_takeBack : ByteArray := prog_4_method_5_code
def yX2_takeBack : MethodName := ⟨RX2, "takeBack", "(LChipRing$Board;)I"⟩
def RX3 : String := "ChipRing$Nets"
def TX3 : u_T := fun k => match k with
  | 0 => ("ChipRing$Nets", "board", "LChipRing$Board;", true)
  | 1 => ("ChipRing$Nets", "words", "[I", true)
  | 2 => ("ChipRing$Nets", "openCells", "[I", true)
  | 3 => ("ChipRing$Nets", "someOpen", "Z", false)
  | 4 => ("ChipRing$Nets", "allOnes", "I", false)
  | _ => ("ChipRing$Nets", "fighting", "I", false)
def tyX3 : Nat → FieldType := fun k => match k with
  | 0 => .object "ChipRing$Board"
  | 1 => .array .int
  | 2 => .array .int
  | 3 => .boolean
  | 4 => .int
  | _ => .int
abbrev wsX30 : List Cond := u_ws RX3 TX3 6
theorem nmX3 : ∀ a, a < 6 → ∀ b, b < 6 → a ≠ b → (TX3 a).2.1 ≠ (TX3 b).2.1 := by decide +kernel
theorem tyX3_ok : ∀ k, k < 6 → parseFieldDescriptor (TX3 k).2.2.1 = some (tyX3 k) := by decide +kernel
abbrev cX3_init : ByteArray := prog_5_method_1_code
def yX3_init : MethodName := ⟨RX3, "<init>", "(LChipRing$Board;)V"⟩
abbrev cX3_settleNow : ByteArray := prog_5_method_2_code
def yX3_settleNow : MethodName := ⟨RX3, "settleNow", "()V"⟩
abbrev cX3_settleInTest : ByteArray := prog_5_method_3_code
def yX3_settleInTest : MethodName := ⟨RX3, "settleInTest", "([II[II)V"⟩
abbrev cX3_findOpenCells : ByteArray := prog_5_method_4_code
def yX3_findOpenCells : MethodName := ⟨RX3, "findOpenCells", "([II)V"⟩
abbrev cX3_soundOutputs : ByteArray := prog_5_method_5_code
def yX3_soundOutputs : MethodName := ⟨RX3, "soundOutputs", "(I)I"⟩
abbrev cX3_driveByLatches : ByteArray := prog_5_method_6_code
def yX3_driveByLatches : MethodName := ⟨RX3, "driveByLatches", "()V"⟩
abbrev cX3_netsOfSoundOutputs : ByteArray := prog_5_method_7_code
def yX3_netsOfSoundOutputs : MethodName := ⟨RX3, "netsOfSoundOutputs", "()I"⟩
abbrev cX3_driveByStimuli : ByteArray := prog_5_method_8_code
def yX3_driveByStimuli : MethodName := ⟨RX3, "driveByStimuli", "([II)V"⟩
abbrev cX3_applyShorts : ByteArray := prog_5_method_9_code
def yX3_applyShorts : MethodName := ⟨RX3, "applyShorts", "([II)V"⟩
abbrev cX3_applyStuck : ByteArray := prog_5_method_10_code
def yX3_applyStuck : MethodName := ⟨RX3, "applyStuck", "([II)V"⟩
abbrev cX3_seenBy : ByteArray := prog_5_method_11_code
def yX3_seenBy : MethodName := ⟨RX3, "seenBy", "(II)I"⟩
abbrev cX3_seenByInputs : ByteArray := prog_5_method_12_code
def yX3_seenByInputs : MethodName := ⟨RX3, "seenByInputs", "(I)I"⟩
abbrev cX3_netsAtOne : ByteArray := prog_5_method_13_code
def yX3_netsAtOne : MethodName := ⟨RX3, "netsAtOne", "()I"⟩
def RX4 : String := "ChipRing$Tester"
def TX4 : u_T := fun k => match k with
  | 0 => ("ChipRing$Tester", "board", "LChipRing$Board;", true)
  | 1 => ("ChipRing$Tester", "nets", "LChipRing$Nets;", true)
  | 2 => ("ChipRing$Tester", "stimuli", "[I", true)
  | 3 => ("ChipRing$Tester", "answers", "[I", true)
  | 4 => ("ChipRing$Tester", "onlyFault", "[I", true)
  | 5 => ("ChipRing$Tester", "codes", "[I", true)
  | 6 => ("ChipRing$Tester", "codeCount", "I", false)
  | _ => ("ChipRing$Tester", "allOnes", "I", false)
def tyX4 : Nat → FieldType := fun k => match k with
  | 0 => .object "ChipRing$Board"
  | 1 => .object "ChipRing$Nets"
  | 2 => .array .int
  | 3 => .array .int
  | 4 => .array .int
  | 5 => .array .int
  | 6 => .int
  | _ => .int
abbrev wsX40 : List Cond := u_ws RX4 TX4 8
theorem nmX4 : ∀ a, a < 8 → ∀ b, b < 8 → a ≠ b → (TX4 a).2.1 ≠ (TX4 b).2.1 := by decide +kernel
theorem tyX4_ok : ∀ k, k < 8 → parseFieldDescriptor (TX4 k).2.2.1 = some (tyX4 k) := by decide +kernel
abbrev cX4_init : ByteArray := prog_6_method_1_code
def yX4_init : MethodName := ⟨RX4, "<init>", "(LChipRing$Board;)V"⟩
abbrev cX4_patternCount : ByteArray := prog_6_method_2_code
def yX4_patternCount : MethodName := ⟨RX4, "patternCount", "(I)I"⟩
abbrev cX4_stimulus : ByteArray := prog_6_method_3_code
def yX4_stimulus : MethodName := ⟨RX4, "stimulus", "(II)I"⟩
abbrev cX4_codeBits : ByteArray := prog_6_method_4_code
def yX4_codeBits : MethodName := ⟨RX4, "codeBits", "(I)I"⟩
abbrev cX4_stimulusAt : ByteArray := prog_6_method_5_code
def yX4_stimulusAt : MethodName := ⟨RX4, "stimulusAt", "(III)I"⟩
abbrev cX4_prepare : ByteArray := prog_6_method_6_code
def yX4_prepare : MethodName := ⟨RX4, "prepare", "(I)V"⟩
abbrev cX4_presentAnswer : ByteArray := prog_6_method_7_code
def yX4_presentAnswer : MethodName := ⟨RX4, "presentAnswer", "(III)I"⟩
abbrev cX4_noteAnswers : ByteArray := prog_6_method_8_code
def yX4_noteAnswers : MethodName := ⟨RX4, "noteAnswers", "()V"⟩
abbrev cX4_explains : ByteArray := prog_6_method_9_code
def yX4_explains : MethodName := ⟨RX4, "explains", "(I)Z"⟩
abbrev cX4_showsFaults : ByteArray := prog_6_method_10_code
def yX4_showsFaults : MethodName := ⟨RX4, "showsFaults", "(I)Z"⟩
abbrev cX4_findSuspects : ByteArray := prog_6_method_11_code
def yX4_findSuspects : MethodName := ⟨RX4, "findSuspects", "(I)I"⟩
abbrev cX4_listCandidates : ByteArray := prog_6_method_12_code
def yX4_listCandidates : MethodName := ⟨RX4, "listCandidates", "()V"⟩
abbrev cX4_list : ByteArray := prog_6_method_13_code
def yX4_list : MethodName := ⟨RX4, "list", "(I)V"⟩
abbrev cX4_listOpenCells : ByteArray := prog_6_method_14_code
def yX4_listOpenCells : MethodName := ⟨RX4, "listOpenCells", "()V"⟩
abbrev cX4_listStuckNets : ByteArray := prog_6_method_15_code
def yX4_listStuckNets : MethodName := ⟨RX4, "listStuckNets", "(I)V"⟩
abbrev cX4_listShorts : ByteArray := prog_6_method_16_code
def yX4_listShorts : MethodName := ⟨RX4, "listShorts", "(II)V"⟩
def RX5 : String := "ChipRing$Text"
def TX5 : u_T := fun k => match k with
  | 0 => ("ChipRing$Text", "bytes", "[B", true)
  | 1 => ("ChipRing$Text", "length", "I", false)
  | 2 => ("ChipRing$Text", "letters", "[B", true)
  | 3 => ("ChipRing$Text", "numbers", "[I", true)
  | 4 => ("ChipRing$Text", "orderCount", "I", false)
  | 5 => ("ChipRing$Text", "inOrder", "Z", false)
  | 6 => ("ChipRing$Text", "wanted", "I", false)
  | 7 => ("ChipRing$Text", "begun", "I", false)
  | _ => ("ChipRing$Text", "digits", "I", false)
def tyX5 : Nat → FieldType := fun k => match k with
  | 0 => .array .byte
  | 1 => .int
  | 2 => .array .byte
  | 3 => .array .int
  | 4 => .int
  | 5 => .boolean
  | 6 => .int
  | 7 => .int
  | _ => .int
abbrev wsX50 : List Cond := u_ws RX5 TX5 9
theorem nmX5 : ∀ a, a < 9 → ∀ b, b < 9 → a ≠ b → (TX5 a).2.1 ≠ (TX5 b).2.1 := by decide +kernel
theorem tyX5_ok : ∀ k, k < 9 → parseFieldDescriptor (TX5 k).2.2.1 = some (tyX5 k) := by decide +kernel
abbrev cX5_init : ByteArray := prog_7_method_1_code
def yX5_init : MethodName := ⟨RX5, "<init>", "()V"⟩
abbrev cX5_append : ByteArray := prog_7_method_2_code
def yX5_append : MethodName := ⟨RX5, "append", "(I)I"⟩
abbrev cX5_drop : ByteArray := prog_7_method_3_code
def yX5_drop : MethodName := ⟨RX5, "drop", "()I"⟩
abbrev cX5_parse : ByteArray := prog_7_method_4_code
def yX5_parse : MethodName := ⟨RX5, "parse", "()I"⟩
abbrev cX5_takes : ByteArray := prog_7_method_5_code
def yX5_takes : MethodName := ⟨RX5, "takes", "(I)Z"⟩
abbrev cX5_takesLetter : ByteArray := prog_7_method_6_code
def yX5_takesLetter : MethodName := ⟨RX5, "takesLetter", "(I)Z"⟩
abbrev cX5_numbersOf : ByteArray := prog_7_method_7_code
def yX5_numbersOf : MethodName := ⟨RX5, "numbersOf", "(I)I"⟩
abbrev cX5_takesEnd : ByteArray := prog_7_method_8_code
def yX5_takesEnd : MethodName := ⟨RX5, "takesEnd", "()Z"⟩
abbrev cX5_takesDigit : ByteArray := prog_7_method_9_code
def yX5_takesDigit : MethodName := ⟨RX5, "takesDigit", "(I)Z"⟩
def RX6 : String := "ChipRing"
def TX6 : u_T := fun k => match k with
  | 0 => ("ChipRing", "board", "LChipRing$Board;", true)
  | 1 => ("ChipRing", "nets", "LChipRing$Nets;", true)
  | 2 => ("ChipRing", "tester", "LChipRing$Tester;", true)
  | 3 => ("ChipRing", "history", "LChipRing$History;", true)
  | 4 => ("ChipRing", "text", "LChipRing$Text;", true)
  | 5 => ("ChipRing", "bads", "I", false)
  | 6 => ("ChipRing", "noes", "I", false)
  | _ => ("ChipRing", "fulls", "I", false)
def tyX6 : Nat → FieldType := fun k => match k with
  | 0 => .object "ChipRing$Board"
  | 1 => .object "ChipRing$Nets"
  | 2 => .object "ChipRing$Tester"
  | 3 => .object "ChipRing$History"
  | 4 => .object "ChipRing$Text"
  | 5 => .int
  | 6 => .int
  | _ => .int
abbrev wsX60 : List Cond := u_ws RX6 TX6 8
theorem nmX6 : ∀ a, a < 8 → ∀ b, b < 8 → a ≠ b → (TX6 a).2.1 ≠ (TX6 b).2.1 := by decide +kernel
theorem tyX6_ok : ∀ k, k < 8 → parseFieldDescriptor (TX6 k).2.2.1 = some (tyX6 k) := by decide +kernel
abbrev cX6_init : ByteArray := prog_1_method_1_code
def yX6_init : MethodName := ⟨RX6, "<init>", "()V"⟩
abbrev cX6_chip : ByteArray := prog_1_method_2_code
def yX6_chip : MethodName := ⟨RX6, "chip", "(II)I"⟩
abbrev cX6_cell : ByteArray := prog_1_method_3_code
def yX6_cell : MethodName := ⟨RX6, "cell", "(III)I"⟩
abbrev cX6_opens : ByteArray := prog_1_method_4_code
def yX6_opens : MethodName := ⟨RX6, "opens", "(II)I"⟩
abbrev cX6_sticks : ByteArray := prog_1_method_5_code
def yX6_sticks : MethodName := ⟨RX6, "sticks", "(II)I"⟩
abbrev cX6_shorts : ByteArray := prog_1_method_6_code
def yX6_shorts : MethodName := ⟨RX6, "shorts", "(III)I"⟩
abbrev cX6_heals : ByteArray := prog_1_method_7_code
def yX6_heals : MethodName := ⟨RX6, "heals", "()I"⟩
abbrev cX6_clock : ByteArray := prog_1_method_8_code
def yX6_clock : MethodName := ⟨RX6, "clock", "(II)I"⟩
abbrev cX6_clocks : ByteArray := prog_1_method_9_code
def yX6_clocks : MethodName := ⟨RX6, "clocks", "(III)I"⟩
abbrev cX6_port : ByteArray := prog_1_method_10_code
def yX6_port : MethodName := ⟨RX6, "port", "(I)I"⟩
abbrev cX6_of : ByteArray := prog_1_method_11_code
def yX6_of : MethodName := ⟨RX6, "of", "(II)I"⟩
abbrev cX6_about : ByteArray := prog_1_method_12_code
def yX6_about : MethodName := ⟨RX6, "about", "(III)I"⟩
abbrev cX6_count : ByteArray := prog_1_method_13_code
def yX6_count : MethodName := ⟨RX6, "count", "(I)I"⟩
abbrev cX6_fault : ByteArray := prog_1_method_14_code
def yX6_fault : MethodName := ⟨RX6, "fault", "(I)I"⟩
abbrev cX6_patterns : ByteArray := prog_1_method_15_code
def yX6_patterns : MethodName := ⟨RX6, "patterns", "(I)I"⟩
abbrev cX6_pattern : ByteArray := prog_1_method_16_code
def yX6_pattern : MethodName := ⟨RX6, "pattern", "(III)I"⟩
abbrev cX6_answer : ByteArray := prog_1_method_17_code
def yX6_answer : MethodName := ⟨RX6, "answer", "(III)I"⟩
abbrev cX6_seen : ByteArray := prog_1_method_18_code
def yX6_seen : MethodName := ⟨RX6, "seen", "(I)I"⟩
abbrev cX6_suspects : ByteArray := prog_1_method_19_code
def yX6_suspects : MethodName := ⟨RX6, "suspects", "(II)I"⟩
abbrev cX6_type : ByteArray := prog_1_method_20_code
def yX6_type : MethodName := ⟨RX6, "type", "(I)I"⟩
abbrev cX6_clear : ByteArray := prog_1_method_21_code
def yX6_clear : MethodName := ⟨RX6, "clear", "()I"⟩
abbrev cX6_does : ByteArray := prog_1_method_22_code
def yX6_does : MethodName := ⟨RX6, "does", "()I"⟩
abbrev cX6_back : ByteArray := prog_1_method_23_code
def yX6_back : MethodName := ⟨RX6, "back", "()I"⟩
abbrev cX6_told : ByteArray := prog_1_method_24_code
def yX6_told : MethodName := ⟨RX6, "told", "(I)I"⟩
abbrev cX6_digest : ByteArray := prog_1_method_25_code
def yX6_digest : MethodName := ⟨RX6, "digest", "()J"⟩
abbrev cX6_isBit : ByteArray := prog_1_method_26_code
def yX6_isBit : MethodName := ⟨RX6, "isBit", "(I)Z"⟩
abbrev cX6_isNet : ByteArray := prog_1_method_27_code
def yX6_isNet : MethodName := ⟨RX6, "isNet", "(I)Z"⟩
abbrev cX6_isMember : ByteArray := prog_1_method_28_code
def yX6_isMember : MethodName := ⟨RX6, "isMember", "(II)Z"⟩
abbrev cX6_faultCode : ByteArray := prog_1_method_29_code
def yX6_faultCode : MethodName := ⟨RX6, "faultCode", "(III)I"⟩
abbrev cX6_kindOf : ByteArray := prog_1_method_30_code
def yX6_kindOf : MethodName := ⟨RX6, "kindOf", "(I)I"⟩
abbrev cX6_tensOf : ByteArray := prog_1_method_31_code
def yX6_tensOf : MethodName := ⟨RX6, "tensOf", "(I)I"⟩
abbrev cX6_onesOf : ByteArray := prog_1_method_32_code
def yX6_onesOf : MethodName := ⟨RX6, "onesOf", "(I)I"⟩
abbrev cX6_mixed : ByteArray := prog_1_method_33_code
def yX6_mixed : MethodName := ⟨RX6, "mixed", "(JI)J"⟩
abbrev cX6_counted : ByteArray := prog_1_method_34_code
def yX6_counted : MethodName := ⟨RX6, "counted", "(I)I"⟩
abbrev cX6_actEnded : ByteArray := prog_1_method_35_code
def yX6_actEnded : MethodName := ⟨RX6, "actEnded", "(I)I"⟩
abbrev cX6_manyClocks : ByteArray := prog_1_method_36_code
def yX6_manyClocks : MethodName := ⟨RX6, "manyClocks", "(III)I"⟩
abbrev cX6_portNumber : ByteArray := prog_1_method_37_code
def yX6_portNumber : MethodName := ⟨RX6, "portNumber", "(I)I"⟩
abbrev cX6_cellNumber : ByteArray := prog_1_method_38_code
def yX6_cellNumber : MethodName := ⟨RX6, "cellNumber", "(III)I"⟩
abbrev cX6_carryOut : ByteArray := prog_1_method_39_code
def yX6_carryOut : MethodName := ⟨RX6, "carryOut", "(II)I"⟩
abbrev cX6_mixedChips : ByteArray := prog_1_method_40_code
def yX6_mixedChips : MethodName := ⟨RX6, "mixedChips", "(J)J"⟩
def RX7 : String := "ChipRingModel"
def TX7 : u_T := fun k => match k with
  | 0 => ("ChipRingModel", "now", "[I", true)
  | 1 => ("ChipRingModel", "aside", "[I", true)
  | 2 => ("ChipRingModel", "past", "[I", true)
  | 3 => ("ChipRingModel", "states", "I", false)
  | 4 => ("ChipRingModel", "refused", "[I", true)
  | 5 => ("ChipRingModel", "text", "[I", true)
  | 6 => ("ChipRingModel", "length", "I", false)
  | 7 => ("ChipRingModel", "used", "[I", true)
  | 8 => ("ChipRingModel", "usedMany", "I", false)
  | 9 => ("ChipRingModel", "values", "[I", true)
  | 10 => ("ChipRingModel", "fights", "I", false)
  | 11 => ("ChipRingModel", "answers", "[I", true)
  | 12 => ("ChipRingModel", "others", "[I", true)
  | 13 => ("ChipRingModel", "spot", "I", false)
  | 14 => ("ChipRingModel", "isFaulty", "Z", false)
  | 15 => ("ChipRingModel", "orders", "I", false)
  | 16 => ("ChipRingModel", "letters", "[I", true)
  | 17 => ("ChipRingModel", "numbers", "[I", true)
  | _ => ("ChipRingModel", "hash", "J", false)
def tyX7 : Nat → FieldType := fun k => match k with
  | 0 => .array .int
  | 1 => .array .int
  | 2 => .array .int
  | 3 => .int
  | 4 => .array .int
  | 5 => .array .int
  | 6 => .int
  | 7 => .array .int
  | 8 => .int
  | 9 => .array .int
  | 10 => .int
  | 11 => .array .int
  | 12 => .array .int
  | 13 => .int
  | 14 => .boolean
  | 15 => .int
  | 16 => .array .int
  | 17 => .array .int
  | _ => .long
abbrev wsX70 : List Cond := u_ws RX7 TX7 19
theorem nmX7 : ∀ a, a < 19 → ∀ b, b < 19 → a ≠ b → (TX7 a).2.1 ≠ (TX7 b).2.1 := by decide +kernel
theorem tyX7_ok : ∀ k, k < 19 → parseFieldDescriptor (TX7 k).2.2.1 = some (tyX7 k) := by decide +kernel
abbrev cX7_init : ByteArray := prog_9_method_1_code
def yX7_init : MethodName := ⟨RX7, "<init>", "()V"⟩
abbrev cX7_bad : ByteArray := prog_9_method_3_code
def yX7_bad : MethodName := ⟨RX7, "bad", "()I"⟩
abbrev cX7_no : ByteArray := prog_9_method_4_code
def yX7_no : MethodName := ⟨RX7, "no", "()I"⟩
abbrev cX7_full : ByteArray := prog_9_method_5_code
def yX7_full : MethodName := ⟨RX7, "full", "()I"⟩
abbrev cX7_within : ByteArray := prog_9_method_6_code
def yX7_within : MethodName := ⟨RX7, "within", "(III)Z"⟩
abbrev cX7_isBit : ByteArray := prog_9_method_7_code
def yX7_isBit : MethodName := ⟨RX7, "isBit", "(I)Z"⟩
abbrev cX7_has : ByteArray := prog_9_method_8_code
def yX7_has : MethodName := ⟨RX7, "has", "(II)Z"⟩
abbrev cX7_chips : ByteArray := prog_9_method_9_code
def yX7_chips : MethodName := ⟨RX7, "chips", "()I"⟩
abbrev cX7_isChip : ByteArray := prog_9_method_10_code
def yX7_isChip : MethodName := ⟨RX7, "isChip", "(I)Z"⟩
abbrev cX7_at : ByteArray := prog_9_method_11_code
def yX7_at : MethodName := ⟨RX7, "at", "(II)I"⟩
abbrev cX7_get : ByteArray := prog_9_method_12_code
def yX7_get : MethodName := ⟨RX7, "get", "(II)I"⟩
abbrev cX7_isCell : ByteArray := prog_9_method_13_code
def yX7_isCell : MethodName := ⟨RX7, "isCell", "(II)Z"⟩
abbrev cX7_isOut : ByteArray := prog_9_method_14_code
def yX7_isOut : MethodName := ⟨RX7, "isOut", "(II)Z"⟩
abbrev cX7_netOf : ByteArray := prog_9_method_15_code
def yX7_netOf : MethodName := ⟨RX7, "netOf", "(II)I"⟩
abbrev cX7_isNet : ByteArray := prog_9_method_16_code
def yX7_isNet : MethodName := ⟨RX7, "isNet", "(I)Z"⟩
abbrev cX7_laysAside : ByteArray := prog_9_method_17_code
def yX7_laysAside : MethodName := ⟨RX7, "laysAside", "()V"⟩
abbrev cX7_leaves : ByteArray := prog_9_method_18_code
def yX7_leaves : MethodName := ⟨RX7, "leaves", "()V"⟩
abbrev cX7_back : ByteArray := prog_9_method_19_code
def yX7_back : MethodName := ⟨RX7, "back", "()I"⟩
abbrev cX7_ends : ByteArray := prog_9_method_20_code
def yX7_ends : MethodName := ⟨RX7, "ends", "(I)I"⟩
abbrev cX7_firstOf : ByteArray := prog_9_method_21_code
def yX7_firstOf : MethodName := ⟨RX7, "firstOf", "(I)I"⟩
abbrev cX7_addsChip : ByteArray := prog_9_method_22_code
def yX7_addsChip : MethodName := ⟨RX7, "addsChip", "(II)I"⟩
abbrev cX7_addsCell : ByteArray := prog_9_method_23_code
def yX7_addsCell : MethodName := ⟨RX7, "addsCell", "(III)I"⟩
abbrev cX7_addsFault : ByteArray := prog_9_method_24_code
def yX7_addsFault : MethodName := ⟨RX7, "addsFault", "(ZI)I"⟩
abbrev cX7_opensOne : ByteArray := prog_9_method_25_code
def yX7_opensOne : MethodName := ⟨RX7, "opensOne", "(II)I"⟩
abbrev cX7_sticksOne : ByteArray := prog_9_method_26_code
def yX7_sticksOne : MethodName := ⟨RX7, "sticksOne", "(II)I"⟩
abbrev cX7_shortsTwo : ByteArray := prog_9_method_27_code
def yX7_shortsTwo : MethodName := ⟨RX7, "shortsTwo", "(III)I"⟩
abbrev cX7_healsAll : ByteArray := prog_9_method_28_code
def yX7_healsAll : MethodName := ⟨RX7, "healsAll", "()I"⟩
abbrev cX7_chip : ByteArray := prog_9_method_29_code
def yX7_chip : MethodName := ⟨RX7, "chip", "(II)I"⟩
abbrev cX7_cell : ByteArray := prog_9_method_30_code
def yX7_cell : MethodName := ⟨RX7, "cell", "(III)I"⟩
abbrev cX7_opens : ByteArray := prog_9_method_31_code
def yX7_opens : MethodName := ⟨RX7, "opens", "(II)I"⟩
abbrev cX7_sticks : ByteArray := prog_9_method_32_code
def yX7_sticks : MethodName := ⟨RX7, "sticks", "(II)I"⟩
abbrev cX7_shorts : ByteArray := prog_9_method_33_code
def yX7_shorts : MethodName := ⟨RX7, "shorts", "(III)I"⟩
abbrev cX7_heals : ByteArray := prog_9_method_34_code
def yX7_heals : MethodName := ⟨RX7, "heals", "()I"⟩
abbrev cX7_usesAll : ByteArray := prog_9_method_35_code
def yX7_usesAll : MethodName := ⟨RX7, "usesAll", "()V"⟩
abbrev cX7_usesOne : ByteArray := prog_9_method_36_code
def yX7_usesOne : MethodName := ⟨RX7, "usesOne", "(I)V"⟩
abbrev cX7_isOpen : ByteArray := prog_9_method_37_code
def yX7_isOpen : MethodName := ⟨RX7, "isOpen", "(II)Z"⟩
abbrev cX7_outs : ByteArray := prog_9_method_38_code
def yX7_outs : MethodName := ⟨RX7, "outs", "()I"⟩
abbrev cX7_netsWithCells : ByteArray := prog_9_method_39_code
def yX7_netsWithCells : MethodName := ⟨RX7, "netsWithCells", "()I"⟩
abbrev cX7_ones : ByteArray := prog_9_method_40_code
def yX7_ones : MethodName := ⟨RX7, "ones", "(I)I"⟩
abbrev cX7_counting : ByteArray := prog_9_method_41_code
def yX7_counting : MethodName := ⟨RX7, "counting", "()I"⟩
abbrev cX7_patternAt : ByteArray := prog_9_method_42_code
def yX7_patternAt : MethodName := ⟨RX7, "patternAt", "(II)I"⟩
abbrev cX7_drives : ByteArray := prog_9_method_43_code
def yX7_drives : MethodName := ⟨RX7, "drives", "(III)I"⟩
abbrev cX7_laysDrivers : ByteArray := prog_9_method_44_code
def yX7_laysDrivers : MethodName := ⟨RX7, "laysDrivers", "(I)V"⟩
abbrev cX7_laysNets : ByteArray := prog_9_method_45_code
def yX7_laysNets : MethodName := ⟨RX7, "laysNets", "(I)V"⟩
abbrev cX7_sees : ByteArray := prog_9_method_46_code
def yX7_sees : MethodName := ⟨RX7, "sees", "(II)I"⟩
abbrev cX7_laysNow : ByteArray := prog_9_method_47_code
def yX7_laysNow : MethodName := ⟨RX7, "laysNow", "()V"⟩
abbrev cX7_onesNow : ByteArray := prog_9_method_48_code
def yX7_onesNow : MethodName := ⟨RX7, "onesNow", "()I"⟩
abbrev cX7_kindOf : ByteArray := prog_9_method_49_code
def yX7_kindOf : MethodName := ⟨RX7, "kindOf", "(I)I"⟩
abbrev cX7_longOf : ByteArray := prog_9_method_50_code
def yX7_longOf : MethodName := ⟨RX7, "longOf", "(I)I"⟩
abbrev cX7_captured : ByteArray := prog_9_method_51_code
def yX7_captured : MethodName := ⟨RX7, "captured", "(I)I"⟩
abbrev cX7_shifts : ByteArray := prog_9_method_52_code
def yX7_shifts : MethodName := ⟨RX7, "shifts", "(II)I"⟩
abbrev cX7_doesPlace : ByteArray := prog_9_method_53_code
def yX7_doesPlace : MethodName := ⟨RX7, "doesPlace", "(I)V"⟩
abbrev cX7_nextPlace : ByteArray := prog_9_method_54_code
def yX7_nextPlace : MethodName := ⟨RX7, "nextPlace", "(II)I"⟩
abbrev cX7_clocksOnce : ByteArray := prog_9_method_55_code
def yX7_clocksOnce : MethodName := ⟨RX7, "clocksOnce", "(II)I"⟩
abbrev cX7_clocksTo : ByteArray := prog_9_method_56_code
def yX7_clocksTo : MethodName := ⟨RX7, "clocksTo", "(II)I"⟩
abbrev cX7_clock : ByteArray := prog_9_method_57_code
def yX7_clock : MethodName := ⟨RX7, "clock", "(II)I"⟩
abbrev cX7_clocks : ByteArray := prog_9_method_58_code
def yX7_clocks : MethodName := ⟨RX7, "clocks", "(III)I"⟩
abbrev cX7_longAll : ByteArray := prog_9_method_59_code
def yX7_longAll : MethodName := ⟨RX7, "longAll", "(Z)I"⟩
abbrev cX7_fightsNow : ByteArray := prog_9_method_60_code
def yX7_fightsNow : MethodName := ⟨RX7, "fightsNow", "()I"⟩
abbrev cX7_tellPort : ByteArray := prog_9_method_61_code
def yX7_tellPort : MethodName := ⟨RX7, "tellPort", "(I)I"⟩
abbrev cX7_port : ByteArray := prog_9_method_62_code
def yX7_port : MethodName := ⟨RX7, "port", "(I)I"⟩
abbrev cX7_tellChip : ByteArray := prog_9_method_63_code
def yX7_tellChip : MethodName := ⟨RX7, "tellChip", "(II)I"⟩
abbrev cX7_of : ByteArray := prog_9_method_64_code
def yX7_of : MethodName := ⟨RX7, "of", "(II)I"⟩
abbrev cX7_tellCell : ByteArray := prog_9_method_65_code
def yX7_tellCell : MethodName := ⟨RX7, "tellCell", "(III)I"⟩
abbrev cX7_about : ByteArray := prog_9_method_66_code
def yX7_about : MethodName := ⟨RX7, "about", "(III)I"⟩
abbrev cX7_cells : ByteArray := prog_9_method_67_code
def yX7_cells : MethodName := ⟨RX7, "cells", "()I"⟩
abbrev cX7_countOf : ByteArray := prog_9_method_68_code
def yX7_countOf : MethodName := ⟨RX7, "countOf", "(I)I"⟩
abbrev cX7_count : ByteArray := prog_9_method_69_code
def yX7_count : MethodName := ⟨RX7, "count", "(I)I"⟩
abbrev cX7_fault : ByteArray := prog_9_method_70_code
def yX7_fault : MethodName := ⟨RX7, "fault", "(I)I"⟩
abbrev cX7_patternsOf : ByteArray := prog_9_method_71_code
def yX7_patternsOf : MethodName := ⟨RX7, "patternsOf", "(I)I"⟩
abbrev cX7_patterns : ByteArray := prog_9_method_72_code
def yX7_patterns : MethodName := ⟨RX7, "patterns", "(I)I"⟩
abbrev cX7_pattern : ByteArray := prog_9_method_73_code
def yX7_pattern : MethodName := ⟨RX7, "pattern", "(III)I"⟩
abbrev cX7_laysAnswers : ByteArray := prog_9_method_74_code
def yX7_laysAnswers : MethodName := ⟨RX7, "laysAnswers", "(I[I)V"⟩
abbrev cX7_laysAnswersNow : ByteArray := prog_9_method_75_code
def yX7_laysAnswersNow : MethodName := ⟨RX7, "laysAnswersNow", "(I)V"⟩
abbrev cX7_answer : ByteArray := prog_9_method_76_code
def yX7_answer : MethodName := ⟨RX7, "answer", "(III)I"⟩
abbrev cX7_answersSo : ByteArray := prog_9_method_77_code
def yX7_answersSo : MethodName := ⟨RX7, "answersSo", "(II)Z"⟩
abbrev cX7_seenBy : ByteArray := prog_9_method_78_code
def yX7_seenBy : MethodName := ⟨RX7, "seenBy", "(I)I"⟩
abbrev cX7_seen : ByteArray := prog_9_method_79_code
def yX7_seen : MethodName := ⟨RX7, "seen", "(I)I"⟩
abbrev cX7_canBe : ByteArray := prog_9_method_80_code
def yX7_canBe : MethodName := ⟨RX7, "canBe", "(II)Z"⟩
abbrev cX7_suspectsBy : ByteArray := prog_9_method_81_code
def yX7_suspectsBy : MethodName := ⟨RX7, "suspectsBy", "(II)I"⟩
abbrev cX7_suspects : ByteArray := prog_9_method_82_code
def yX7_suspects : MethodName := ⟨RX7, "suspects", "(II)I"⟩
abbrev cX7_type : ByteArray := prog_9_method_83_code
def yX7_type : MethodName := ⟨RX7, "type", "(I)I"⟩
abbrev cX7_clear : ByteArray := prog_9_method_84_code
def yX7_clear : MethodName := ⟨RX7, "clear", "()I"⟩
abbrev cX7_isAt : ByteArray := prog_9_method_85_code
def yX7_isAt : MethodName := ⟨RX7, "isAt", "(II)Z"⟩
abbrev cX7_blanks : ByteArray := prog_9_method_86_code
def yX7_blanks : MethodName := ⟨RX7, "blanks", "()V"⟩
abbrev cX7_number : ByteArray := prog_9_method_87_code
def yX7_number : MethodName := ⟨RX7, "number", "()I"⟩
abbrev cX7_manyOf : ByteArray := prog_9_method_88_code
def yX7_manyOf : MethodName := ⟨RX7, "manyOf", "(I)I"⟩
abbrev cX7_readsOrder : ByteArray := prog_9_method_89_code
def yX7_readsOrder : MethodName := ⟨RX7, "readsOrder", "()V"⟩
abbrev cX7_reads : ByteArray := prog_9_method_90_code
def yX7_reads : MethodName := ⟨RX7, "reads", "()Z"⟩
abbrev cX7_doesOrder : ByteArray := prog_9_method_91_code
def yX7_doesOrder : MethodName := ⟨RX7, "doesOrder", "(I)I"⟩
abbrev cX7_does : ByteArray := prog_9_method_92_code
def yX7_does : MethodName := ⟨RX7, "does", "()I"⟩
abbrev cX7_toldOf : ByteArray := prog_9_method_93_code
def yX7_toldOf : MethodName := ⟨RX7, "toldOf", "(I)I"⟩
abbrev cX7_told : ByteArray := prog_9_method_94_code
def yX7_told : MethodName := ⟨RX7, "told", "(I)I"⟩
abbrev cX7_mix : ByteArray := prog_9_method_95_code
def yX7_mix : MethodName := ⟨RX7, "mix", "(I)V"⟩
abbrev cX7_mixChip : ByteArray := prog_9_method_96_code
def yX7_mixChip : MethodName := ⟨RX7, "mixChip", "(I)V"⟩
abbrev cX7_digest : ByteArray := prog_9_method_97_code
def yX7_digest : MethodName := ⟨RX7, "digest", "()J"⟩
def RJ6 : String := "java/lang/Integer"
def TJ6 : u_T := fun k => match k with
  | _ => ("", "", "", false)
def tyJ6 : Nat → FieldType := fun k => match k with
  | _ => .int
abbrev wsJ60 : List Cond := u_ws RJ6 TJ6 0
theorem nmJ6 : ∀ a, a < 0 → ∀ b, b < 0 → a ≠ b → (TJ6 a).2.1 ≠ (TJ6 b).2.1 := by decide +kernel
theorem tyJ6_ok : ∀ k, k < 0 → parseFieldDescriptor (TJ6 k).2.2.1 = some (tyJ6 k) := by decide +kernel
abbrev cJ6_bitCount_0f7a4 : ByteArray := prog_10_method_49_code
def yJ6_bitCount_0f7a4 : MethodName := ⟨RJ6, "bitCount", "(I)I"⟩
def RJ9 : String := "java/lang/Math"
def TJ9 : u_T := fun k => match k with
  | _ => ("", "", "", false)
def tyJ9 : Nat → FieldType := fun k => match k with
  | _ => .int
abbrev wsJ90 : List Cond := u_ws RJ9 TJ9 0
theorem nmJ9 : ∀ a, a < 0 → ∀ b, b < 0 → a ≠ b → (TJ9 a).2.1 ≠ (TJ9 b).2.1 := by decide +kernel
theorem tyJ9_ok : ∀ k, k < 0 → parseFieldDescriptor (TJ9 k).2.2.1 = some (tyJ9 k) := by decide +kernel
abbrev cJ9_max_7cf53 : ByteArray := prog_11_method_65_code
def yJ9_max_7cf53 : MethodName := ⟨RJ9, "max", "(II)I"⟩
abbrev cJ9_min_7cf53 : ByteArray := prog_11_method_69_code
def yJ9_min_7cf53 : MethodName := ⟨RJ9, "min", "(II)I"⟩
def RJ10 : String := "java/lang/System"
def TJ10 : u_T := fun k => match k with
  | _ => ("", "", "", false)
def tyJ10 : Nat → FieldType := fun k => match k with
  | _ => .int
abbrev wsJ100 : List Cond := u_ws RJ10 TJ10 0
theorem nmJ10 : ∀ a, a < 0 → ∀ b, b < 0 → a ≠ b → (TJ10 a).2.1 ≠ (TJ10 b).2.1 := by decide +kernel
theorem tyJ10_ok : ∀ k, k < 0 → parseFieldDescriptor (TJ10 k).2.2.1 = some (tyJ10 k) := by decide +kernel
def RL : String := "ChipRingLaw"
abbrev cL_law : ByteArray := code
def yL_law : MethodName := ⟨RL, "law", "([I)Z"⟩
abbrev vwCl : List vw_C := [(RX0, TX0, 7), (RX1, TX1, 9), (RX2, TX2, 3), (RX3, TX3, 6), (RX4, TX4, 8), (RX5, TX5, 9), (RX6, TX6, 8), (RX7, TX7, 19)]
end
section
theorem dX0_init_0 : decode cX0_init 0 = .ok (.aload_n 0, 1) := by decide +kernel
theorem dX0_init_1 : decode cX0_init 1 = .ok (.invokespecial 3, 3) := by decide +kernel
theorem dX0_init_4 : decode cX0_init 4 = .ok (.aload_n 0, 1) := by decide +kernel
theorem dX0_init_5 : decode cX0_init 5 = .ok (.iconst 4, 1) := by decide +kernel
theorem dX0_init_6 : decode cX0_init 6 = .ok (.anewarray 9, 3) := by decide +kernel
theorem dX0_init_9 : decode cX0_init 9 = .ok (.putfield 11, 3) := by decide +kernel
theorem dX0_init_12 : decode cX0_init 12 = .ok (.aload_n 0, 1) := by decide +kernel
theorem dX0_init_13 : decode cX0_init 13 = .ok (.iconst 4, 1) := by decide +kernel
theorem dX0_init_14 : decode cX0_init 14 = .ok (.newarray .int, 2) := by decide +kernel
theorem dX0_init_16 : decode cX0_init 16 = .ok (.putfield 17, 3) := by decide +kernel
theorem dX0_init_19 : decode cX0_init 19 = .ok (.iconst 0, 1) := by decide +kernel
theorem dX0_init_20 : decode cX0_init 20 = .ok (.istore_n 1, 1) := by decide +kernel
theorem dX0_init_21 : decode cX0_init 21 = .ok (.iload_n 1, 1) := by decide +kernel
theorem dX0_init_22 : decode cX0_init 22 = .ok (.iconst 4, 1) := by decide +kernel
theorem dX0_init_23 : decode cX0_init 23 = .ok (.if_icmp .ge 22, 3) := by decide +kernel
theorem dX0_init_26 : decode cX0_init 26 = .ok (.aload_n 0, 1) := by decide +kernel
theorem dX0_init_27 : decode cX0_init 27 = .ok (.getfield 11, 3) := by decide +kernel
theorem dX0_init_30 : decode cX0_init 30 = .ok (.iload_n 1, 1) := by decide +kernel
theorem dX0_init_31 : decode cX0_init 31 = .ok (.new 9, 3) := by decide +kernel
theorem dX0_init_34 : decode cX0_init 34 = .ok (.dup, 1) := by decide +kernel
theorem dX0_init_35 : decode cX0_init 35 = .ok (.invokespecial 21, 3) := by decide +kernel
theorem dX0_init_38 : decode cX0_init 38 = .ok (.aastore, 1) := by decide +kernel
theorem dX0_init_39 : decode cX0_init 39 = .ok (.iinc 1 1, 3) := by decide +kernel
theorem dX0_init_42 : decode cX0_init 42 = .ok (.goto (-21), 3) := by decide +kernel
theorem dX0_init_45 : decode cX0_init 45 = .ok (.return_, 1) := by decide +kernel
theorem dX0_copyFrom_0 : decode cX0_copyFrom 0 = .ok (.iconst 0, 1) := by decide +kernel
theorem dX0_copyFrom_1 : decode cX0_copyFrom 1 = .ok (.istore_n 2, 1) := by decide +kernel
theorem dX0_copyFrom_2 : decode cX0_copyFrom 2 = .ok (.iload_n 2, 1) := by decide +kernel
theorem dX0_copyFrom_3 : decode cX0_copyFrom 3 = .ok (.aload_n 1, 1) := by decide +kernel
theorem dX0_copyFrom_4 : decode cX0_copyFrom 4 = .ok (.getfield 22, 3) := by decide +kernel
theorem dX0_copyFrom_7 : decode cX0_copyFrom 7 = .ok (.if_icmp .ge 24, 3) := by decide +kernel
theorem dX0_copyFrom_10 : decode cX0_copyFrom 10 = .ok (.aload_n 0, 1) := by decide +kernel
theorem dX0_copyFrom_11 : decode cX0_copyFrom 11 = .ok (.getfield 11, 3) := by decide +kernel
theorem dX0_copyFrom_14 : decode cX0_copyFrom 14 = .ok (.iload_n 2, 1) := by decide +kernel
theorem dX0_copyFrom_15 : decode cX0_copyFrom 15 = .ok (.aaload, 1) := by decide +kernel
theorem dX0_copyFrom_16 : decode cX0_copyFrom 16 = .ok (.aload_n 1, 1) := by decide +kernel
theorem dX0_copyFrom_17 : decode cX0_copyFrom 17 = .ok (.getfield 11, 3) := by decide +kernel
theorem dX0_copyFrom_20 : decode cX0_copyFrom 20 = .ok (.iload_n 2, 1) := by decide +kernel
theorem dX0_copyFrom_21 : decode cX0_copyFrom 21 = .ok (.aaload, 1) := by decide +kernel
theorem dX0_copyFrom_22 : decode cX0_copyFrom 22 = .ok (.invokevirtual 26, 3) := by decide +kernel
theorem dX0_copyFrom_25 : decode cX0_copyFrom 25 = .ok (.iinc 2 1, 3) := by decide +kernel
theorem dX0_copyFrom_28 : decode cX0_copyFrom 28 = .ok (.goto (-26), 3) := by decide +kernel
theorem dX0_copyFrom_31 : decode cX0_copyFrom 31 = .ok (.aload_n 0, 1) := by decide +kernel
theorem dX0_copyFrom_32 : decode cX0_copyFrom 32 = .ok (.aload_n 1, 1) := by decide +kernel
theorem dX0_copyFrom_33 : decode cX0_copyFrom 33 = .ok (.getfield 22, 3) := by decide +kernel
theorem dX0_copyFrom_36 : decode cX0_copyFrom 36 = .ok (.putfield 22, 3) := by decide +kernel
theorem dX0_copyFrom_39 : decode cX0_copyFrom 39 = .ok (.aload_n 1, 1) := by decide +kernel
theorem dX0_copyFrom_40 : decode cX0_copyFrom 40 = .ok (.getfield 17, 3) := by decide +kernel
theorem dX0_copyFrom_43 : decode cX0_copyFrom 43 = .ok (.iconst 0, 1) := by decide +kernel
theorem dX0_copyFrom_44 : decode cX0_copyFrom 44 = .ok (.aload_n 0, 1) := by decide +kernel
theorem dX0_copyFrom_45 : decode cX0_copyFrom 45 = .ok (.getfield 17, 3) := by decide +kernel
theorem dX0_copyFrom_48 : decode cX0_copyFrom 48 = .ok (.iconst 0, 1) := by decide +kernel
theorem dX0_copyFrom_49 : decode cX0_copyFrom 49 = .ok (.iconst 4, 1) := by decide +kernel
theorem dX0_copyFrom_50 : decode cX0_copyFrom 50 = .ok (.invokestatic 30, 3) := by decide +kernel
theorem dX0_copyFrom_53 : decode cX0_copyFrom 53 = .ok (.aload_n 0, 1) := by decide +kernel
theorem dX0_copyFrom_54 : decode cX0_copyFrom 54 = .ok (.aload_n 1, 1) := by decide +kernel
theorem dX0_copyFrom_55 : decode cX0_copyFrom 55 = .ok (.getfield 36, 3) := by decide +kernel
theorem dX0_copyFrom_58 : decode cX0_copyFrom 58 = .ok (.putfield 36, 3) := by decide +kernel
theorem dX0_copyFrom_61 : decode cX0_copyFrom 61 = .ok (.aload_n 0, 1) := by decide +kernel
theorem dX0_copyFrom_62 : decode cX0_copyFrom 62 = .ok (.aload_n 1, 1) := by decide +kernel
theorem dX0_copyFrom_63 : decode cX0_copyFrom 63 = .ok (.getfield 39, 3) := by decide +kernel
theorem dX0_copyFrom_66 : decode cX0_copyFrom 66 = .ok (.putfield 39, 3) := by decide +kernel
theorem dX0_copyFrom_69 : decode cX0_copyFrom 69 = .ok (.aload_n 0, 1) := by decide +kernel
theorem dX0_copyFrom_70 : decode cX0_copyFrom 70 = .ok (.aload_n 1, 1) := by decide +kernel
theorem dX0_copyFrom_71 : decode cX0_copyFrom 71 = .ok (.getfield 42, 3) := by decide +kernel
theorem dX0_copyFrom_74 : decode cX0_copyFrom 74 = .ok (.putfield 42, 3) := by decide +kernel
theorem dX0_copyFrom_77 : decode cX0_copyFrom 77 = .ok (.aload_n 0, 1) := by decide +kernel
theorem dX0_copyFrom_78 : decode cX0_copyFrom 78 = .ok (.aload_n 1, 1) := by decide +kernel
theorem dX0_copyFrom_79 : decode cX0_copyFrom 79 = .ok (.getfield 45, 3) := by decide +kernel
theorem dX0_copyFrom_82 : decode cX0_copyFrom 82 = .ok (.putfield 45, 3) := by decide +kernel
theorem dX0_copyFrom_85 : decode cX0_copyFrom 85 = .ok (.return_, 1) := by decide +kernel
theorem dX0_hasChip_0 : decode cX0_hasChip 0 = .ok (.iload_n 1, 1) := by decide +kernel
theorem dX0_hasChip_1 : decode cX0_hasChip 1 = .ok (.ifCond .lt 15, 3) := by decide +kernel
theorem dX0_hasChip_4 : decode cX0_hasChip 4 = .ok (.iload_n 1, 1) := by decide +kernel
theorem dX0_hasChip_5 : decode cX0_hasChip 5 = .ok (.aload_n 0, 1) := by decide +kernel
theorem dX0_hasChip_6 : decode cX0_hasChip 6 = .ok (.getfield 22, 3) := by decide +kernel
theorem dX0_hasChip_9 : decode cX0_hasChip 9 = .ok (.if_icmp .ge 7, 3) := by decide +kernel
theorem dX0_hasChip_12 : decode cX0_hasChip 12 = .ok (.iconst 1, 1) := by decide +kernel
theorem dX0_hasChip_13 : decode cX0_hasChip 13 = .ok (.goto 4, 3) := by decide +kernel
theorem dX0_hasChip_16 : decode cX0_hasChip 16 = .ok (.iconst 0, 1) := by decide +kernel
theorem dX0_hasChip_17 : decode cX0_hasChip 17 = .ok (.ireturn, 1) := by decide +kernel
theorem dX0_hasCell_0 : decode cX0_hasCell 0 = .ok (.aload_n 0, 1) := by decide +kernel
theorem dX0_hasCell_1 : decode cX0_hasCell 1 = .ok (.iload_n 1, 1) := by decide +kernel
theorem dX0_hasCell_2 : decode cX0_hasCell 2 = .ok (.invokevirtual 48, 3) := by decide +kernel
theorem dX0_hasCell_5 : decode cX0_hasCell 5 = .ok (.ifCond .eq 24, 3) := by decide +kernel
theorem dX0_hasCell_8 : decode cX0_hasCell 8 = .ok (.iload_n 2, 1) := by decide +kernel
theorem dX0_hasCell_9 : decode cX0_hasCell 9 = .ok (.ifCond .lt 20, 3) := by decide +kernel
theorem dX0_hasCell_12 : decode cX0_hasCell 12 = .ok (.iload_n 2, 1) := by decide +kernel
theorem dX0_hasCell_13 : decode cX0_hasCell 13 = .ok (.aload_n 0, 1) := by decide +kernel
theorem dX0_hasCell_14 : decode cX0_hasCell 14 = .ok (.getfield 11, 3) := by decide +kernel
theorem dX0_hasCell_17 : decode cX0_hasCell 17 = .ok (.iload_n 1, 1) := by decide +kernel
theorem dX0_hasCell_18 : decode cX0_hasCell 18 = .ok (.aaload, 1) := by decide +kernel
theorem dX0_hasCell_19 : decode cX0_hasCell 19 = .ok (.getfield 52, 3) := by decide +kernel
theorem dX0_hasCell_22 : decode cX0_hasCell 22 = .ok (.if_icmp .ge 7, 3) := by decide +kernel
theorem dX0_hasCell_25 : decode cX0_hasCell 25 = .ok (.iconst 1, 1) := by decide +kernel
theorem dX0_hasCell_26 : decode cX0_hasCell 26 = .ok (.goto 4, 3) := by decide +kernel
theorem dX0_hasCell_29 : decode cX0_hasCell 29 = .ok (.iconst 0, 1) := by decide +kernel
theorem dX0_hasCell_30 : decode cX0_hasCell 30 = .ok (.ireturn, 1) := by decide +kernel
theorem dX0_addChip_0 : decode cX0_addChip 0 = .ok (.iload_n 1, 1) := by decide +kernel
theorem dX0_addChip_1 : decode cX0_addChip 1 = .ok (.iconst 2, 1) := by decide +kernel
theorem dX0_addChip_2 : decode cX0_addChip 2 = .ok (.if_icmp .lt 19, 3) := by decide +kernel
theorem dX0_addChip_5 : decode cX0_addChip 5 = .ok (.iload_n 1, 1) := by decide +kernel
theorem dX0_addChip_6 : decode cX0_addChip 6 = .ok (.iconst 4, 1) := by decide +kernel
theorem dX0_addChip_7 : decode cX0_addChip 7 = .ok (.if_icmp .gt 14, 3) := by decide +kernel
theorem dX0_addChip_10 : decode cX0_addChip 10 = .ok (.iload_n 2, 1) := by decide +kernel
theorem dX0_addChip_11 : decode cX0_addChip 11 = .ok (.ifCond .lt 10, 3) := by decide +kernel
theorem dX0_addChip_14 : decode cX0_addChip 14 = .ok (.iload_n 2, 1) := by decide +kernel
theorem dX0_addChip_15 : decode cX0_addChip 15 = .ok (.sipush 256, 3) := by decide +kernel
theorem dX0_addChip_18 : decode cX0_addChip 18 = .ok (.if_icmp .le 6, 3) := by decide +kernel
theorem dX0_addChip_21 : decode cX0_addChip 21 = .ok (.bipush (-2), 2) := by decide +kernel
theorem dX0_addChip_23 : decode cX0_addChip 23 = .ok (.ireturn, 1) := by decide +kernel
theorem dX0_addChip_24 : decode cX0_addChip 24 = .ok (.aload_n 0, 1) := by decide +kernel
theorem dX0_addChip_25 : decode cX0_addChip 25 = .ok (.getfield 22, 3) := by decide +kernel
theorem dX0_addChip_28 : decode cX0_addChip 28 = .ok (.iconst 4, 1) := by decide +kernel
theorem dX0_addChip_29 : decode cX0_addChip 29 = .ok (.if_icmp .lt 6, 3) := by decide +kernel
theorem dX0_addChip_32 : decode cX0_addChip 32 = .ok (.bipush (-4), 2) := by decide +kernel
theorem dX0_addChip_34 : decode cX0_addChip 34 = .ok (.ireturn, 1) := by decide +kernel
theorem dX0_addChip_35 : decode cX0_addChip 35 = .ok (.aload_n 0, 1) := by decide +kernel
theorem dX0_addChip_36 : decode cX0_addChip 36 = .ok (.getfield 11, 3) := by decide +kernel
theorem dX0_addChip_39 : decode cX0_addChip 39 = .ok (.aload_n 0, 1) := by decide +kernel
theorem dX0_addChip_40 : decode cX0_addChip 40 = .ok (.getfield 22, 3) := by decide +kernel
theorem dX0_addChip_43 : decode cX0_addChip 43 = .ok (.aaload, 1) := by decide +kernel
theorem dX0_addChip_44 : decode cX0_addChip 44 = .ok (.iload_n 1, 1) := by decide +kernel
theorem dX0_addChip_45 : decode cX0_addChip 45 = .ok (.iload_n 2, 1) := by decide +kernel
theorem dX0_addChip_46 : decode cX0_addChip 46 = .ok (.invokevirtual 55, 3) := by decide +kernel
theorem dX0_addChip_49 : decode cX0_addChip 49 = .ok (.aload_n 0, 1) := by decide +kernel
theorem dX0_addChip_50 : decode cX0_addChip 50 = .ok (.dup, 1) := by decide +kernel
theorem dX0_addChip_51 : decode cX0_addChip 51 = .ok (.getfield 22, 3) := by decide +kernel
theorem dX0_addChip_54 : decode cX0_addChip 54 = .ok (.iconst 1, 1) := by decide +kernel
theorem dX0_addChip_55 : decode cX0_addChip 55 = .ok (.iadd, 1) := by decide +kernel
theorem dX0_addChip_56 : decode cX0_addChip 56 = .ok (.putfield 22, 3) := by decide +kernel
theorem dX0_addChip_59 : decode cX0_addChip 59 = .ok (.aload_n 0, 1) := by decide +kernel
theorem dX0_addChip_60 : decode cX0_addChip 60 = .ok (.getfield 22, 3) := by decide +kernel
theorem dX0_addChip_63 : decode cX0_addChip 63 = .ok (.iconst 1, 1) := by decide +kernel
theorem dX0_addChip_64 : decode cX0_addChip 64 = .ok (.isub, 1) := by decide +kernel
theorem dX0_addChip_65 : decode cX0_addChip 65 = .ok (.ireturn, 1) := by decide +kernel
theorem dX0_addCell_0 : decode cX0_addCell 0 = .ok (.aload_n 0, 1) := by decide +kernel
theorem dX0_addCell_1 : decode cX0_addCell 1 = .ok (.iload_n 1, 1) := by decide +kernel
theorem dX0_addCell_2 : decode cX0_addCell 2 = .ok (.invokevirtual 48, 3) := by decide +kernel
theorem dX0_addCell_5 : decode cX0_addCell 5 = .ok (.ifCond .eq 17, 3) := by decide +kernel
theorem dX0_addCell_8 : decode cX0_addCell 8 = .ok (.iload_n 2, 1) := by decide +kernel
theorem dX0_addCell_9 : decode cX0_addCell 9 = .ok (.invokestatic 59, 3) := by decide +kernel
theorem dX0_addCell_12 : decode cX0_addCell 12 = .ok (.ifCond .eq 10, 3) := by decide +kernel
theorem dX0_addCell_15 : decode cX0_addCell 15 = .ok (.iload_n 3, 1) := by decide +kernel
theorem dX0_addCell_16 : decode cX0_addCell 16 = .ok (.invokestatic 62, 3) := by decide +kernel
theorem dX0_addCell_19 : decode cX0_addCell 19 = .ok (.ifCond .ne 6, 3) := by decide +kernel
theorem dX0_addCell_22 : decode cX0_addCell 22 = .ok (.bipush (-2), 2) := by decide +kernel
theorem dX0_addCell_24 : decode cX0_addCell 24 = .ok (.ireturn, 1) := by decide +kernel
theorem dX0_addCell_25 : decode cX0_addCell 25 = .ok (.aload_n 0, 1) := by decide +kernel
theorem dX0_addCell_26 : decode cX0_addCell 26 = .ok (.getfield 11, 3) := by decide +kernel
theorem dX0_addCell_29 : decode cX0_addCell 29 = .ok (.iload_n 1, 1) := by decide +kernel
theorem dX0_addCell_30 : decode cX0_addCell 30 = .ok (.aaload, 1) := by decide +kernel
theorem dX0_addCell_31 : decode cX0_addCell 31 = .ok (.iload_n 2, 1) := by decide +kernel
theorem dX0_addCell_32 : decode cX0_addCell 32 = .ok (.iload_n 3, 1) := by decide +kernel
theorem dX0_addCell_33 : decode cX0_addCell 33 = .ok (.invokevirtual 65, 3) := by decide +kernel
theorem dX0_addCell_36 : decode cX0_addCell 36 = .ok (.istore 4, 2) := by decide +kernel
theorem dX0_addCell_38 : decode cX0_addCell 38 = .ok (.iload 4, 2) := by decide +kernel
theorem dX0_addCell_40 : decode cX0_addCell 40 = .ok (.ifCond .lt 27, 3) := by decide +kernel
theorem dX0_addCell_43 : decode cX0_addCell 43 = .ok (.aload_n 0, 1) := by decide +kernel
theorem dX0_addCell_44 : decode cX0_addCell 44 = .ok (.dup, 1) := by decide +kernel
theorem dX0_addCell_45 : decode cX0_addCell 45 = .ok (.getfield 42, 3) := by decide +kernel
theorem dX0_addCell_48 : decode cX0_addCell 48 = .ok (.iconst 1, 1) := by decide +kernel
theorem dX0_addCell_49 : decode cX0_addCell 49 = .ok (.iload_n 3, 1) := by decide +kernel
theorem dX0_addCell_50 : decode cX0_addCell 50 = .ok (.ishl, 1) := by decide +kernel
theorem dX0_addCell_51 : decode cX0_addCell 51 = .ok (.ior, 1) := by decide +kernel
theorem dX0_addCell_52 : decode cX0_addCell 52 = .ok (.putfield 42, 3) := by decide +kernel
theorem dX0_addCell_55 : decode cX0_addCell 55 = .ok (.aload_n 0, 1) := by decide +kernel
theorem dX0_addCell_56 : decode cX0_addCell 56 = .ok (.dup, 1) := by decide +kernel
theorem dX0_addCell_57 : decode cX0_addCell 57 = .ok (.getfield 45, 3) := by decide +kernel
theorem dX0_addCell_60 : decode cX0_addCell 60 = .ok (.iload_n 2, 1) := by decide +kernel
theorem dX0_addCell_61 : decode cX0_addCell 61 = .ok (.iload_n 3, 1) := by decide +kernel
theorem dX0_addCell_62 : decode cX0_addCell 62 = .ok (.ishl, 1) := by decide +kernel
theorem dX0_addCell_63 : decode cX0_addCell 63 = .ok (.ior, 1) := by decide +kernel
theorem dX0_addCell_64 : decode cX0_addCell 64 = .ok (.putfield 45, 3) := by decide +kernel
theorem dX0_addCell_67 : decode cX0_addCell 67 = .ok (.iload 4, 2) := by decide +kernel
theorem dX0_addCell_69 : decode cX0_addCell 69 = .ok (.ireturn, 1) := by decide +kernel
theorem dX0_addOpen_0 : decode cX0_addOpen 0 = .ok (.aload_n 0, 1) := by decide +kernel
theorem dX0_addOpen_1 : decode cX0_addOpen 1 = .ok (.iload_n 1, 1) := by decide +kernel
theorem dX0_addOpen_2 : decode cX0_addOpen 2 = .ok (.iload_n 2, 1) := by decide +kernel
theorem dX0_addOpen_3 : decode cX0_addOpen 3 = .ok (.invokevirtual 69, 3) := by decide +kernel
theorem dX0_addOpen_6 : decode cX0_addOpen 6 = .ok (.ifCond .eq 16, 3) := by decide +kernel
theorem dX0_addOpen_9 : decode cX0_addOpen 9 = .ok (.aload_n 0, 1) := by decide +kernel
theorem dX0_addOpen_10 : decode cX0_addOpen 10 = .ok (.iconst 1, 1) := by decide +kernel
theorem dX0_addOpen_11 : decode cX0_addOpen 11 = .ok (.iload_n 1, 1) := by decide +kernel
theorem dX0_addOpen_12 : decode cX0_addOpen 12 = .ok (.iload_n 2, 1) := by decide +kernel
theorem dX0_addOpen_13 : decode cX0_addOpen 13 = .ok (.invokestatic 73, 3) := by decide +kernel
theorem dX0_addOpen_16 : decode cX0_addOpen 16 = .ok (.invokevirtual 77, 3) := by decide +kernel
theorem dX0_addOpen_19 : decode cX0_addOpen 19 = .ok (.goto 5, 3) := by decide +kernel
theorem dX0_addOpen_22 : decode cX0_addOpen 22 = .ok (.bipush (-2), 2) := by decide +kernel
theorem dX0_addOpen_24 : decode cX0_addOpen 24 = .ok (.ireturn, 1) := by decide +kernel
theorem dX0_addStuck_0 : decode cX0_addStuck 0 = .ok (.iload_n 1, 1) := by decide +kernel
theorem dX0_addStuck_1 : decode cX0_addStuck 1 = .ok (.invokestatic 62, 3) := by decide +kernel
theorem dX0_addStuck_4 : decode cX0_addStuck 4 = .ok (.ifCond .eq 23, 3) := by decide +kernel
theorem dX0_addStuck_7 : decode cX0_addStuck 7 = .ok (.iload_n 2, 1) := by decide +kernel
theorem dX0_addStuck_8 : decode cX0_addStuck 8 = .ok (.invokestatic 59, 3) := by decide +kernel
theorem dX0_addStuck_11 : decode cX0_addStuck 11 = .ok (.ifCond .eq 16, 3) := by decide +kernel
theorem dX0_addStuck_14 : decode cX0_addStuck 14 = .ok (.aload_n 0, 1) := by decide +kernel
theorem dX0_addStuck_15 : decode cX0_addStuck 15 = .ok (.iconst 2, 1) := by decide +kernel
theorem dX0_addStuck_16 : decode cX0_addStuck 16 = .ok (.iload_n 1, 1) := by decide +kernel
theorem dX0_addStuck_17 : decode cX0_addStuck 17 = .ok (.iload_n 2, 1) := by decide +kernel
theorem dX0_addStuck_18 : decode cX0_addStuck 18 = .ok (.invokestatic 73, 3) := by decide +kernel
theorem dX0_addStuck_21 : decode cX0_addStuck 21 = .ok (.invokevirtual 77, 3) := by decide +kernel
theorem dX0_addStuck_24 : decode cX0_addStuck 24 = .ok (.goto 5, 3) := by decide +kernel
theorem dX0_addStuck_27 : decode cX0_addStuck 27 = .ok (.bipush (-2), 2) := by decide +kernel
theorem dX0_addStuck_29 : decode cX0_addStuck 29 = .ok (.ireturn, 1) := by decide +kernel
theorem dX0_addShort_0 : decode cX0_addShort 0 = .ok (.iload_n 1, 1) := by decide +kernel
theorem dX0_addShort_1 : decode cX0_addShort 1 = .ok (.invokestatic 62, 3) := by decide +kernel
theorem dX0_addShort_4 : decode cX0_addShort 4 = .ok (.ifCond .eq 22, 3) := by decide +kernel
theorem dX0_addShort_7 : decode cX0_addShort 7 = .ok (.iload_n 2, 1) := by decide +kernel
theorem dX0_addShort_8 : decode cX0_addShort 8 = .ok (.invokestatic 62, 3) := by decide +kernel
theorem dX0_addShort_11 : decode cX0_addShort 11 = .ok (.ifCond .eq 15, 3) := by decide +kernel
theorem dX0_addShort_14 : decode cX0_addShort 14 = .ok (.iload_n 1, 1) := by decide +kernel
theorem dX0_addShort_15 : decode cX0_addShort 15 = .ok (.iload_n 2, 1) := by decide +kernel
theorem dX0_addShort_16 : decode cX0_addShort 16 = .ok (.if_icmp .eq 10, 3) := by decide +kernel
theorem dX0_addShort_19 : decode cX0_addShort 19 = .ok (.iload_n 3, 1) := by decide +kernel
theorem dX0_addShort_20 : decode cX0_addShort 20 = .ok (.invokestatic 59, 3) := by decide +kernel
theorem dX0_addShort_23 : decode cX0_addShort 23 = .ok (.ifCond .ne 6, 3) := by decide +kernel
theorem dX0_addShort_26 : decode cX0_addShort 26 = .ok (.bipush (-2), 2) := by decide +kernel
theorem dX0_addShort_28 : decode cX0_addShort 28 = .ok (.ireturn, 1) := by decide +kernel
theorem dX0_addShort_29 : decode cX0_addShort 29 = .ok (.iload_n 3, 1) := by decide +kernel
theorem dX0_addShort_30 : decode cX0_addShort 30 = .ok (.ifCond .ne 7, 3) := by decide +kernel
theorem dX0_addShort_33 : decode cX0_addShort 33 = .ok (.iconst 3, 1) := by decide +kernel
theorem dX0_addShort_34 : decode cX0_addShort 34 = .ok (.goto 4, 3) := by decide +kernel
theorem dX0_addShort_37 : decode cX0_addShort 37 = .ok (.iconst 4, 1) := by decide +kernel
theorem dX0_addShort_38 : decode cX0_addShort 38 = .ok (.iload_n 1, 1) := by decide +kernel
theorem dX0_addShort_39 : decode cX0_addShort 39 = .ok (.iload_n 2, 1) := by decide +kernel
theorem dX0_addShort_40 : decode cX0_addShort 40 = .ok (.invokestatic 81, 3) := by decide +kernel
theorem dX0_addShort_43 : decode cX0_addShort 43 = .ok (.iload_n 1, 1) := by decide +kernel
theorem dX0_addShort_44 : decode cX0_addShort 44 = .ok (.iload_n 2, 1) := by decide +kernel
theorem dX0_addShort_45 : decode cX0_addShort 45 = .ok (.invokestatic 86, 3) := by decide +kernel
theorem dX0_addShort_48 : decode cX0_addShort 48 = .ok (.invokestatic 73, 3) := by decide +kernel
theorem dX0_addShort_51 : decode cX0_addShort 51 = .ok (.istore 4, 2) := by decide +kernel
theorem dX0_addShort_53 : decode cX0_addShort 53 = .ok (.aload_n 0, 1) := by decide +kernel
theorem dX0_addShort_54 : decode cX0_addShort 54 = .ok (.iload 4, 2) := by decide +kernel
theorem dX0_addShort_56 : decode cX0_addShort 56 = .ok (.invokevirtual 77, 3) := by decide +kernel
theorem dX0_addShort_59 : decode cX0_addShort 59 = .ok (.ireturn, 1) := by decide +kernel
theorem dX0_addFault_0 : decode cX0_addFault 0 = .ok (.aload_n 0, 1) := by decide +kernel
theorem dX0_addFault_1 : decode cX0_addFault 1 = .ok (.getfield 36, 3) := by decide +kernel
theorem dX0_addFault_4 : decode cX0_addFault 4 = .ok (.iconst 4, 1) := by decide +kernel
theorem dX0_addFault_5 : decode cX0_addFault 5 = .ok (.if_icmp .lt 6, 3) := by decide +kernel
theorem dX0_addFault_8 : decode cX0_addFault 8 = .ok (.bipush (-4), 2) := by decide +kernel
theorem dX0_addFault_10 : decode cX0_addFault 10 = .ok (.ireturn, 1) := by decide +kernel
theorem dX0_addFault_11 : decode cX0_addFault 11 = .ok (.aload_n 0, 1) := by decide +kernel
theorem dX0_addFault_12 : decode cX0_addFault 12 = .ok (.getfield 17, 3) := by decide +kernel
theorem dX0_addFault_15 : decode cX0_addFault 15 = .ok (.aload_n 0, 1) := by decide +kernel
theorem dX0_addFault_16 : decode cX0_addFault 16 = .ok (.getfield 36, 3) := by decide +kernel
theorem dX0_addFault_19 : decode cX0_addFault 19 = .ok (.iload_n 1, 1) := by decide +kernel
theorem dX0_addFault_20 : decode cX0_addFault 20 = .ok (.iastore, 1) := by decide +kernel
theorem dX0_addFault_21 : decode cX0_addFault 21 = .ok (.aload_n 0, 1) := by decide +kernel
theorem dX0_addFault_22 : decode cX0_addFault 22 = .ok (.dup, 1) := by decide +kernel
theorem dX0_addFault_23 : decode cX0_addFault 23 = .ok (.getfield 36, 3) := by decide +kernel
theorem dX0_addFault_26 : decode cX0_addFault 26 = .ok (.iconst 1, 1) := by decide +kernel
theorem dX0_addFault_27 : decode cX0_addFault 27 = .ok (.iadd, 1) := by decide +kernel
theorem dX0_addFault_28 : decode cX0_addFault 28 = .ok (.putfield 36, 3) := by decide +kernel
theorem dX0_addFault_31 : decode cX0_addFault 31 = .ok (.aload_n 0, 1) := by decide +kernel
theorem dX0_addFault_32 : decode cX0_addFault 32 = .ok (.getfield 36, 3) := by decide +kernel
theorem dX0_addFault_35 : decode cX0_addFault 35 = .ok (.ireturn, 1) := by decide +kernel
theorem dX0_dropFaults_0 : decode cX0_dropFaults 0 = .ok (.aload_n 0, 1) := by decide +kernel
theorem dX0_dropFaults_1 : decode cX0_dropFaults 1 = .ok (.getfield 36, 3) := by decide +kernel
theorem dX0_dropFaults_4 : decode cX0_dropFaults 4 = .ok (.istore_n 1, 1) := by decide +kernel
theorem dX0_dropFaults_5 : decode cX0_dropFaults 5 = .ok (.aload_n 0, 1) := by decide +kernel
theorem dX0_dropFaults_6 : decode cX0_dropFaults 6 = .ok (.iconst 0, 1) := by decide +kernel
theorem dX0_dropFaults_7 : decode cX0_dropFaults 7 = .ok (.putfield 36, 3) := by decide +kernel
theorem dX0_dropFaults_10 : decode cX0_dropFaults 10 = .ok (.iload_n 1, 1) := by decide +kernel
theorem dX0_dropFaults_11 : decode cX0_dropFaults 11 = .ok (.ireturn, 1) := by decide +kernel
theorem dX0_tick_0 : decode cX0_tick 0 = .ok (.iload_n 1, 1) := by decide +kernel
theorem dX0_tick_1 : decode cX0_tick 1 = .ok (.invokestatic 59, 3) := by decide +kernel
theorem dX0_tick_4 : decode cX0_tick 4 = .ok (.ifCond .eq 10, 3) := by decide +kernel
theorem dX0_tick_7 : decode cX0_tick 7 = .ok (.iload_n 2, 1) := by decide +kernel
theorem dX0_tick_8 : decode cX0_tick 8 = .ok (.invokestatic 59, 3) := by decide +kernel
theorem dX0_tick_11 : decode cX0_tick 11 = .ok (.ifCond .ne 6, 3) := by decide +kernel
theorem dX0_tick_14 : decode cX0_tick 14 = .ok (.bipush (-2), 2) := by decide +kernel
theorem dX0_tick_16 : decode cX0_tick 16 = .ok (.ireturn, 1) := by decide +kernel
theorem dX0_tick_17 : decode cX0_tick 17 = .ok (.iconst 2, 1) := by decide +kernel
theorem dX0_tick_18 : decode cX0_tick 18 = .ok (.istore 4, 2) := by decide +kernel
theorem dX0_tick_20 : decode cX0_tick 20 = .ok (.aload_n 0, 1) := by decide +kernel
theorem dX0_tick_21 : decode cX0_tick 21 = .ok (.getfield 39, 3) := by decide +kernel
theorem dX0_tick_24 : decode cX0_tick 24 = .ok (.tableswitch 136 0 15 #[80, 136, 136, 94, 126, 136, 136, 136, 109, 136, 87, 116, 136, 136, 136, 102], 80) := by decide +kernel
theorem dX0_tick_104 : decode cX0_tick 104 = .ok (.aload_n 0, 1) := by decide +kernel
theorem dX0_tick_105 : decode cX0_tick 105 = .ok (.invokevirtual 89, 3) := by decide +kernel
theorem dX0_tick_108 : decode cX0_tick 108 = .ok (.goto 52, 3) := by decide +kernel
theorem dX0_tick_111 : decode cX0_tick 111 = .ok (.aload_n 0, 1) := by decide +kernel
theorem dX0_tick_112 : decode cX0_tick 112 = .ok (.invokevirtual 92, 3) := by decide +kernel
theorem dX0_tick_115 : decode cX0_tick 115 = .ok (.goto 45, 3) := by decide +kernel
theorem dX0_tick_118 : decode cX0_tick 118 = .ok (.aload_n 0, 1) := by decide +kernel
theorem dX0_tick_119 : decode cX0_tick 119 = .ok (.aload_n 3, 1) := by decide +kernel
theorem dX0_tick_120 : decode cX0_tick 120 = .ok (.invokevirtual 95, 3) := by decide +kernel
theorem dX0_tick_123 : decode cX0_tick 123 = .ok (.goto 37, 3) := by decide +kernel
theorem dX0_tick_126 : decode cX0_tick 126 = .ok (.aload_n 0, 1) := by decide +kernel
theorem dX0_tick_127 : decode cX0_tick 127 = .ok (.invokevirtual 99, 3) := by decide +kernel
theorem dX0_tick_130 : decode cX0_tick 130 = .ok (.goto 30, 3) := by decide +kernel
theorem dX0_tick_133 : decode cX0_tick 133 = .ok (.aload_n 0, 1) := by decide +kernel
theorem dX0_tick_134 : decode cX0_tick 134 = .ok (.invokevirtual 102, 3) := by decide +kernel
theorem dX0_tick_137 : decode cX0_tick 137 = .ok (.goto 23, 3) := by decide +kernel
theorem dX0_tick_140 : decode cX0_tick 140 = .ok (.aload_n 0, 1) := by decide +kernel
theorem dX0_tick_141 : decode cX0_tick 141 = .ok (.iload_n 2, 1) := by decide +kernel
theorem dX0_tick_142 : decode cX0_tick 142 = .ok (.invokevirtual 105, 3) := by decide +kernel
theorem dX0_tick_145 : decode cX0_tick 145 = .ok (.istore 4, 2) := by decide +kernel
theorem dX0_tick_147 : decode cX0_tick 147 = .ok (.goto 13, 3) := by decide +kernel
theorem dX0_tick_150 : decode cX0_tick 150 = .ok (.aload_n 0, 1) := by decide +kernel
theorem dX0_tick_151 : decode cX0_tick 151 = .ok (.iload_n 2, 1) := by decide +kernel
theorem dX0_tick_152 : decode cX0_tick 152 = .ok (.invokevirtual 108, 3) := by decide +kernel
theorem dX0_tick_155 : decode cX0_tick 155 = .ok (.istore 4, 2) := by decide +kernel
theorem dX0_tick_157 : decode cX0_tick 157 = .ok (.goto 3, 3) := by decide +kernel
theorem dX0_tick_160 : decode cX0_tick 160 = .ok (.aload_n 0, 1) := by decide +kernel
theorem dX0_tick_161 : decode cX0_tick 161 = .ok (.getstatic 111, 3) := by decide +kernel
theorem dX0_tick_164 : decode cX0_tick 164 = .ok (.iconst 2, 1) := by decide +kernel
theorem dX0_tick_165 : decode cX0_tick 165 = .ok (.aload_n 0, 1) := by decide +kernel
theorem dX0_tick_166 : decode cX0_tick 166 = .ok (.getfield 39, 3) := by decide +kernel
theorem dX0_tick_169 : decode cX0_tick 169 = .ok (.imul, 1) := by decide +kernel
theorem dX0_tick_170 : decode cX0_tick 170 = .ok (.iload_n 1, 1) := by decide +kernel
theorem dX0_tick_171 : decode cX0_tick 171 = .ok (.iadd, 1) := by decide +kernel
theorem dX0_tick_172 : decode cX0_tick 172 = .ok (.iaload, 1) := by decide +kernel
theorem dX0_tick_173 : decode cX0_tick 173 = .ok (.putfield 39, 3) := by decide +kernel
theorem dX0_tick_176 : decode cX0_tick 176 = .ok (.iload 4, 2) := by decide +kernel
theorem dX0_tick_178 : decode cX0_tick 178 = .ok (.ireturn, 1) := by decide +kernel
theorem dX0_resetChips_0 : decode cX0_resetChips 0 = .ok (.iconst 0, 1) := by decide +kernel
theorem dX0_resetChips_1 : decode cX0_resetChips 1 = .ok (.istore_n 1, 1) := by decide +kernel
theorem dX0_resetChips_2 : decode cX0_resetChips 2 = .ok (.iload_n 1, 1) := by decide +kernel
theorem dX0_resetChips_3 : decode cX0_resetChips 3 = .ok (.aload_n 0, 1) := by decide +kernel
theorem dX0_resetChips_4 : decode cX0_resetChips 4 = .ok (.getfield 22, 3) := by decide +kernel
theorem dX0_resetChips_7 : decode cX0_resetChips 7 = .ok (.if_icmp .ge 18, 3) := by decide +kernel
theorem dX0_resetChips_10 : decode cX0_resetChips 10 = .ok (.aload_n 0, 1) := by decide +kernel
theorem dX0_resetChips_11 : decode cX0_resetChips 11 = .ok (.getfield 11, 3) := by decide +kernel
theorem dX0_resetChips_14 : decode cX0_resetChips 14 = .ok (.iload_n 1, 1) := by decide +kernel
theorem dX0_resetChips_15 : decode cX0_resetChips 15 = .ok (.aaload, 1) := by decide +kernel
theorem dX0_resetChips_16 : decode cX0_resetChips 16 = .ok (.invokevirtual 114, 3) := by decide +kernel
theorem dX0_resetChips_19 : decode cX0_resetChips 19 = .ok (.iinc 1 1, 3) := by decide +kernel
theorem dX0_resetChips_22 : decode cX0_resetChips 22 = .ok (.goto (-20), 3) := by decide +kernel
theorem dX0_resetChips_25 : decode cX0_resetChips 25 = .ok (.return_, 1) := by decide +kernel
theorem dX0_captureInstructions_0 : decode cX0_captureInstructions 0 = .ok (.iconst 0, 1) := by decide +kernel
theorem dX0_captureInstructions_1 : decode cX0_captureInstructions 1 = .ok (.istore_n 1, 1) := by decide +kernel
theorem dX0_captureInstructions_2 : decode cX0_captureInstructions 2 = .ok (.iload_n 1, 1) := by decide +kernel
theorem dX0_captureInstructions_3 : decode cX0_captureInstructions 3 = .ok (.aload_n 0, 1) := by decide +kernel
theorem dX0_captureInstructions_4 : decode cX0_captureInstructions 4 = .ok (.getfield 22, 3) := by decide +kernel
theorem dX0_captureInstructions_7 : decode cX0_captureInstructions 7 = .ok (.if_icmp .ge 19, 3) := by decide +kernel
theorem dX0_captureInstructions_10 : decode cX0_captureInstructions 10 = .ok (.aload_n 0, 1) := by decide +kernel
theorem dX0_captureInstructions_11 : decode cX0_captureInstructions 11 = .ok (.getfield 11, 3) := by decide +kernel
theorem dX0_captureInstructions_14 : decode cX0_captureInstructions 14 = .ok (.iload_n 1, 1) := by decide +kernel
theorem dX0_captureInstructions_15 : decode cX0_captureInstructions 15 = .ok (.aaload, 1) := by decide +kernel
theorem dX0_captureInstructions_16 : decode cX0_captureInstructions 16 = .ok (.iconst 1, 1) := by decide +kernel
theorem dX0_captureInstructions_17 : decode cX0_captureInstructions 17 = .ok (.putfield 117, 3) := by decide +kernel
theorem dX0_captureInstructions_20 : decode cX0_captureInstructions 20 = .ok (.iinc 1 1, 3) := by decide +kernel
theorem dX0_captureInstructions_23 : decode cX0_captureInstructions 23 = .ok (.goto (-21), 3) := by decide +kernel
theorem dX0_captureInstructions_26 : decode cX0_captureInstructions 26 = .ok (.return_, 1) := by decide +kernel
theorem dX0_captureData_0 : decode cX0_captureData 0 = .ok (.aload_n 1, 1) := by decide +kernel
theorem dX0_captureData_1 : decode cX0_captureData 1 = .ok (.invokevirtual 120, 3) := by decide +kernel
theorem dX0_captureData_4 : decode cX0_captureData 4 = .ok (.iconst 0, 1) := by decide +kernel
theorem dX0_captureData_5 : decode cX0_captureData 5 = .ok (.istore_n 2, 1) := by decide +kernel
theorem dX0_captureData_6 : decode cX0_captureData 6 = .ok (.iload_n 2, 1) := by decide +kernel
theorem dX0_captureData_7 : decode cX0_captureData 7 = .ok (.aload_n 0, 1) := by decide +kernel
theorem dX0_captureData_8 : decode cX0_captureData 8 = .ok (.getfield 22, 3) := by decide +kernel
theorem dX0_captureData_11 : decode cX0_captureData 11 = .ok (.if_icmp .ge 64, 3) := by decide +kernel
theorem dX0_captureData_14 : decode cX0_captureData 14 = .ok (.aload_n 0, 1) := by decide +kernel
theorem dX0_captureData_15 : decode cX0_captureData 15 = .ok (.getfield 11, 3) := by decide +kernel
theorem dX0_captureData_18 : decode cX0_captureData 18 = .ok (.iload_n 2, 1) := by decide +kernel
theorem dX0_captureData_19 : decode cX0_captureData 19 = .ok (.aaload, 1) := by decide +kernel
theorem dX0_captureData_20 : decode cX0_captureData 20 = .ok (.astore_n 3, 1) := by decide +kernel
theorem dX0_captureData_21 : decode cX0_captureData 21 = .ok (.aload_n 3, 1) := by decide +kernel
theorem dX0_captureData_22 : decode cX0_captureData 22 = .ok (.invokevirtual 125, 3) := by decide +kernel
theorem dX0_captureData_25 : decode cX0_captureData 25 = .ok (.ifCond .eq 25, 3) := by decide +kernel
theorem dX0_captureData_28 : decode cX0_captureData 28 = .ok (.aload_n 3, 1) := by decide +kernel
theorem dX0_captureData_29 : decode cX0_captureData 29 = .ok (.aload_n 1, 1) := by decide +kernel
theorem dX0_captureData_30 : decode cX0_captureData 30 = .ok (.iload_n 2, 1) := by decide +kernel
theorem dX0_captureData_31 : decode cX0_captureData 31 = .ok (.invokevirtual 129, 3) := by decide +kernel
theorem dX0_captureData_34 : decode cX0_captureData 34 = .ok (.aload_n 3, 1) := by decide +kernel
theorem dX0_captureData_35 : decode cX0_captureData 35 = .ok (.getfield 132, 3) := by decide +kernel
theorem dX0_captureData_38 : decode cX0_captureData 38 = .ok (.aload_n 3, 1) := by decide +kernel
theorem dX0_captureData_39 : decode cX0_captureData 39 = .ok (.getfield 135, 3) := by decide +kernel
theorem dX0_captureData_42 : decode cX0_captureData 42 = .ok (.iand, 1) := by decide +kernel
theorem dX0_captureData_43 : decode cX0_captureData 43 = .ok (.ior, 1) := by decide +kernel
theorem dX0_captureData_44 : decode cX0_captureData 44 = .ok (.putfield 138, 3) := by decide +kernel
theorem dX0_captureData_47 : decode cX0_captureData 47 = .ok (.goto 22, 3) := by decide +kernel
theorem dX0_captureData_50 : decode cX0_captureData 50 = .ok (.aload_n 3, 1) := by decide +kernel
theorem dX0_captureData_51 : decode cX0_captureData 51 = .ok (.aload_n 3, 1) := by decide +kernel
theorem dX0_captureData_52 : decode cX0_captureData 52 = .ok (.invokevirtual 141, 3) := by decide +kernel
theorem dX0_captureData_55 : decode cX0_captureData 55 = .ok (.ifCond .eq 10, 3) := by decide +kernel
theorem dX0_captureData_58 : decode cX0_captureData 58 = .ok (.aload_n 3, 1) := by decide +kernel
theorem dX0_captureData_59 : decode cX0_captureData 59 = .ok (.getfield 144, 3) := by decide +kernel
theorem dX0_captureData_62 : decode cX0_captureData 62 = .ok (.goto 4, 3) := by decide +kernel
theorem dX0_captureData_65 : decode cX0_captureData 65 = .ok (.iconst 0, 1) := by decide +kernel
theorem dX0_captureData_66 : decode cX0_captureData 66 = .ok (.putfield 138, 3) := by decide +kernel
theorem dX0_captureData_69 : decode cX0_captureData 69 = .ok (.iinc 2 1, 3) := by decide +kernel
theorem dX0_captureData_72 : decode cX0_captureData 72 = .ok (.goto (-66), 3) := by decide +kernel
theorem dX0_captureData_75 : decode cX0_captureData 75 = .ok (.return_, 1) := by decide +kernel
theorem dX0_updateInstructions_0 : decode cX0_updateInstructions 0 = .ok (.iconst 0, 1) := by decide +kernel
theorem dX0_updateInstructions_1 : decode cX0_updateInstructions 1 = .ok (.istore_n 1, 1) := by decide +kernel
theorem dX0_updateInstructions_2 : decode cX0_updateInstructions 2 = .ok (.iload_n 1, 1) := by decide +kernel
theorem dX0_updateInstructions_3 : decode cX0_updateInstructions 3 = .ok (.aload_n 0, 1) := by decide +kernel
theorem dX0_updateInstructions_4 : decode cX0_updateInstructions 4 = .ok (.getfield 22, 3) := by decide +kernel
theorem dX0_updateInstructions_7 : decode cX0_updateInstructions 7 = .ok (.if_icmp .ge 27, 3) := by decide +kernel
theorem dX0_updateInstructions_10 : decode cX0_updateInstructions 10 = .ok (.aload_n 0, 1) := by decide +kernel
theorem dX0_updateInstructions_11 : decode cX0_updateInstructions 11 = .ok (.getfield 11, 3) := by decide +kernel
theorem dX0_updateInstructions_14 : decode cX0_updateInstructions 14 = .ok (.iload_n 1, 1) := by decide +kernel
theorem dX0_updateInstructions_15 : decode cX0_updateInstructions 15 = .ok (.aaload, 1) := by decide +kernel
theorem dX0_updateInstructions_16 : decode cX0_updateInstructions 16 = .ok (.aload_n 0, 1) := by decide +kernel
theorem dX0_updateInstructions_17 : decode cX0_updateInstructions 17 = .ok (.getfield 11, 3) := by decide +kernel
theorem dX0_updateInstructions_20 : decode cX0_updateInstructions 20 = .ok (.iload_n 1, 1) := by decide +kernel
theorem dX0_updateInstructions_21 : decode cX0_updateInstructions 21 = .ok (.aaload, 1) := by decide +kernel
theorem dX0_updateInstructions_22 : decode cX0_updateInstructions 22 = .ok (.getfield 117, 3) := by decide +kernel
theorem dX0_updateInstructions_25 : decode cX0_updateInstructions 25 = .ok (.putfield 147, 3) := by decide +kernel
theorem dX0_updateInstructions_28 : decode cX0_updateInstructions 28 = .ok (.iinc 1 1, 3) := by decide +kernel
theorem dX0_updateInstructions_31 : decode cX0_updateInstructions 31 = .ok (.goto (-29), 3) := by decide +kernel
theorem dX0_updateInstructions_34 : decode cX0_updateInstructions 34 = .ok (.return_, 1) := by decide +kernel
theorem dX0_updateLatches_0 : decode cX0_updateLatches 0 = .ok (.iconst 0, 1) := by decide +kernel
theorem dX0_updateLatches_1 : decode cX0_updateLatches 1 = .ok (.istore_n 1, 1) := by decide +kernel
theorem dX0_updateLatches_2 : decode cX0_updateLatches 2 = .ok (.iload_n 1, 1) := by decide +kernel
theorem dX0_updateLatches_3 : decode cX0_updateLatches 3 = .ok (.aload_n 0, 1) := by decide +kernel
theorem dX0_updateLatches_4 : decode cX0_updateLatches 4 = .ok (.getfield 22, 3) := by decide +kernel
theorem dX0_updateLatches_7 : decode cX0_updateLatches 7 = .ok (.if_icmp .ge 18, 3) := by decide +kernel
theorem dX0_updateLatches_10 : decode cX0_updateLatches 10 = .ok (.aload_n 0, 1) := by decide +kernel
theorem dX0_updateLatches_11 : decode cX0_updateLatches 11 = .ok (.getfield 11, 3) := by decide +kernel
theorem dX0_updateLatches_14 : decode cX0_updateLatches 14 = .ok (.iload_n 1, 1) := by decide +kernel
theorem dX0_updateLatches_15 : decode cX0_updateLatches 15 = .ok (.aaload, 1) := by decide +kernel
theorem dX0_updateLatches_16 : decode cX0_updateLatches 16 = .ok (.invokevirtual 150, 3) := by decide +kernel
theorem dX0_updateLatches_19 : decode cX0_updateLatches 19 = .ok (.iinc 1 1, 3) := by decide +kernel
theorem dX0_updateLatches_22 : decode cX0_updateLatches 22 = .ok (.goto (-20), 3) := by decide +kernel
theorem dX0_updateLatches_25 : decode cX0_updateLatches 25 = .ok (.return_, 1) := by decide +kernel
theorem dX0_shiftInstructions_0 : decode cX0_shiftInstructions 0 = .ok (.iload_n 1, 1) := by decide +kernel
theorem dX0_shiftInstructions_1 : decode cX0_shiftInstructions 1 = .ok (.istore_n 2, 1) := by decide +kernel
theorem dX0_shiftInstructions_2 : decode cX0_shiftInstructions 2 = .ok (.iconst 0, 1) := by decide +kernel
theorem dX0_shiftInstructions_3 : decode cX0_shiftInstructions 3 = .ok (.istore_n 3, 1) := by decide +kernel
theorem dX0_shiftInstructions_4 : decode cX0_shiftInstructions 4 = .ok (.iload_n 3, 1) := by decide +kernel
theorem dX0_shiftInstructions_5 : decode cX0_shiftInstructions 5 = .ok (.aload_n 0, 1) := by decide +kernel
theorem dX0_shiftInstructions_6 : decode cX0_shiftInstructions 6 = .ok (.getfield 22, 3) := by decide +kernel
theorem dX0_shiftInstructions_9 : decode cX0_shiftInstructions 9 = .ok (.if_icmp .ge 20, 3) := by decide +kernel
theorem dX0_shiftInstructions_12 : decode cX0_shiftInstructions 12 = .ok (.aload_n 0, 1) := by decide +kernel
theorem dX0_shiftInstructions_13 : decode cX0_shiftInstructions 13 = .ok (.getfield 11, 3) := by decide +kernel
theorem dX0_shiftInstructions_16 : decode cX0_shiftInstructions 16 = .ok (.iload_n 3, 1) := by decide +kernel
theorem dX0_shiftInstructions_17 : decode cX0_shiftInstructions 17 = .ok (.aaload, 1) := by decide +kernel
theorem dX0_shiftInstructions_18 : decode cX0_shiftInstructions 18 = .ok (.iload_n 2, 1) := by decide +kernel
theorem dX0_shiftInstructions_19 : decode cX0_shiftInstructions 19 = .ok (.invokevirtual 151, 3) := by decide +kernel
theorem dX0_shiftInstructions_22 : decode cX0_shiftInstructions 22 = .ok (.istore_n 2, 1) := by decide +kernel
theorem dX0_shiftInstructions_23 : decode cX0_shiftInstructions 23 = .ok (.iinc 3 1, 3) := by decide +kernel
theorem dX0_shiftInstructions_26 : decode cX0_shiftInstructions 26 = .ok (.goto (-22), 3) := by decide +kernel
theorem dX0_shiftInstructions_29 : decode cX0_shiftInstructions 29 = .ok (.iload_n 2, 1) := by decide +kernel
theorem dX0_shiftInstructions_30 : decode cX0_shiftInstructions 30 = .ok (.ireturn, 1) := by decide +kernel
theorem dX0_shiftData_0 : decode cX0_shiftData 0 = .ok (.iload_n 1, 1) := by decide +kernel
theorem dX0_shiftData_1 : decode cX0_shiftData 1 = .ok (.istore_n 2, 1) := by decide +kernel
theorem dX0_shiftData_2 : decode cX0_shiftData 2 = .ok (.iconst 0, 1) := by decide +kernel
theorem dX0_shiftData_3 : decode cX0_shiftData 3 = .ok (.istore_n 3, 1) := by decide +kernel
theorem dX0_shiftData_4 : decode cX0_shiftData 4 = .ok (.iload_n 3, 1) := by decide +kernel
theorem dX0_shiftData_5 : decode cX0_shiftData 5 = .ok (.aload_n 0, 1) := by decide +kernel
theorem dX0_shiftData_6 : decode cX0_shiftData 6 = .ok (.getfield 22, 3) := by decide +kernel
theorem dX0_shiftData_9 : decode cX0_shiftData 9 = .ok (.if_icmp .ge 20, 3) := by decide +kernel
theorem dX0_shiftData_12 : decode cX0_shiftData 12 = .ok (.aload_n 0, 1) := by decide +kernel
theorem dX0_shiftData_13 : decode cX0_shiftData 13 = .ok (.getfield 11, 3) := by decide +kernel
theorem dX0_shiftData_16 : decode cX0_shiftData 16 = .ok (.iload_n 3, 1) := by decide +kernel
theorem dX0_shiftData_17 : decode cX0_shiftData 17 = .ok (.aaload, 1) := by decide +kernel
theorem dX0_shiftData_18 : decode cX0_shiftData 18 = .ok (.iload_n 2, 1) := by decide +kernel
theorem dX0_shiftData_19 : decode cX0_shiftData 19 = .ok (.invokevirtual 154, 3) := by decide +kernel
theorem dX0_shiftData_22 : decode cX0_shiftData 22 = .ok (.istore_n 2, 1) := by decide +kernel
theorem dX0_shiftData_23 : decode cX0_shiftData 23 = .ok (.iinc 3 1, 3) := by decide +kernel
theorem dX0_shiftData_26 : decode cX0_shiftData 26 = .ok (.goto (-22), 3) := by decide +kernel
theorem dX0_shiftData_29 : decode cX0_shiftData 29 = .ok (.iload_n 2, 1) := by decide +kernel
theorem dX0_shiftData_30 : decode cX0_shiftData 30 = .ok (.ireturn, 1) := by decide +kernel
theorem dX0_dataBits_0 : decode cX0_dataBits 0 = .ok (.iconst 0, 1) := by decide +kernel
theorem dX0_dataBits_1 : decode cX0_dataBits 1 = .ok (.istore_n 1, 1) := by decide +kernel
theorem dX0_dataBits_2 : decode cX0_dataBits 2 = .ok (.iconst 0, 1) := by decide +kernel
theorem dX0_dataBits_3 : decode cX0_dataBits 3 = .ok (.istore_n 2, 1) := by decide +kernel
theorem dX0_dataBits_4 : decode cX0_dataBits 4 = .ok (.iload_n 2, 1) := by decide +kernel
theorem dX0_dataBits_5 : decode cX0_dataBits 5 = .ok (.aload_n 0, 1) := by decide +kernel
theorem dX0_dataBits_6 : decode cX0_dataBits 6 = .ok (.getfield 22, 3) := by decide +kernel
theorem dX0_dataBits_9 : decode cX0_dataBits 9 = .ok (.if_icmp .ge 21, 3) := by decide +kernel
theorem dX0_dataBits_12 : decode cX0_dataBits 12 = .ok (.iload_n 1, 1) := by decide +kernel
theorem dX0_dataBits_13 : decode cX0_dataBits 13 = .ok (.aload_n 0, 1) := by decide +kernel
theorem dX0_dataBits_14 : decode cX0_dataBits 14 = .ok (.getfield 11, 3) := by decide +kernel
theorem dX0_dataBits_17 : decode cX0_dataBits 17 = .ok (.iload_n 2, 1) := by decide +kernel
theorem dX0_dataBits_18 : decode cX0_dataBits 18 = .ok (.aaload, 1) := by decide +kernel
theorem dX0_dataBits_19 : decode cX0_dataBits 19 = .ok (.invokevirtual 155, 3) := by decide +kernel
theorem dX0_dataBits_22 : decode cX0_dataBits 22 = .ok (.iadd, 1) := by decide +kernel
theorem dX0_dataBits_23 : decode cX0_dataBits 23 = .ok (.istore_n 1, 1) := by decide +kernel
theorem dX0_dataBits_24 : decode cX0_dataBits 24 = .ok (.iinc 2 1, 3) := by decide +kernel
theorem dX0_dataBits_27 : decode cX0_dataBits 27 = .ok (.goto (-23), 3) := by decide +kernel
theorem dX0_dataBits_30 : decode cX0_dataBits 30 = .ok (.iload_n 1, 1) := by decide +kernel
theorem dX0_dataBits_31 : decode cX0_dataBits 31 = .ok (.ireturn, 1) := by decide +kernel
theorem dX0_instructionBits_0 : decode cX0_instructionBits 0 = .ok (.iconst 0, 1) := by decide +kernel
theorem dX0_instructionBits_1 : decode cX0_instructionBits 1 = .ok (.istore_n 1, 1) := by decide +kernel
theorem dX0_instructionBits_2 : decode cX0_instructionBits 2 = .ok (.iconst 0, 1) := by decide +kernel
theorem dX0_instructionBits_3 : decode cX0_instructionBits 3 = .ok (.istore_n 2, 1) := by decide +kernel
theorem dX0_instructionBits_4 : decode cX0_instructionBits 4 = .ok (.iload_n 2, 1) := by decide +kernel
theorem dX0_instructionBits_5 : decode cX0_instructionBits 5 = .ok (.aload_n 0, 1) := by decide +kernel
theorem dX0_instructionBits_6 : decode cX0_instructionBits 6 = .ok (.getfield 22, 3) := by decide +kernel
theorem dX0_instructionBits_9 : decode cX0_instructionBits 9 = .ok (.if_icmp .ge 21, 3) := by decide +kernel
theorem dX0_instructionBits_12 : decode cX0_instructionBits 12 = .ok (.iload_n 1, 1) := by decide +kernel
theorem dX0_instructionBits_13 : decode cX0_instructionBits 13 = .ok (.aload_n 0, 1) := by decide +kernel
theorem dX0_instructionBits_14 : decode cX0_instructionBits 14 = .ok (.getfield 11, 3) := by decide +kernel
theorem dX0_instructionBits_17 : decode cX0_instructionBits 17 = .ok (.iload_n 2, 1) := by decide +kernel
theorem dX0_instructionBits_18 : decode cX0_instructionBits 18 = .ok (.aaload, 1) := by decide +kernel
theorem dX0_instructionBits_19 : decode cX0_instructionBits 19 = .ok (.getfield 159, 3) := by decide +kernel
theorem dX0_instructionBits_22 : decode cX0_instructionBits 22 = .ok (.iadd, 1) := by decide +kernel
theorem dX0_instructionBits_23 : decode cX0_instructionBits 23 = .ok (.istore_n 1, 1) := by decide +kernel
theorem dX0_instructionBits_24 : decode cX0_instructionBits 24 = .ok (.iinc 2 1, 3) := by decide +kernel
theorem dX0_instructionBits_27 : decode cX0_instructionBits 27 = .ok (.goto (-23), 3) := by decide +kernel
theorem dX0_instructionBits_30 : decode cX0_instructionBits 30 = .ok (.iload_n 1, 1) := by decide +kernel
theorem dX0_instructionBits_31 : decode cX0_instructionBits 31 = .ok (.ireturn, 1) := by decide +kernel
theorem dX0_cellCount_0 : decode cX0_cellCount 0 = .ok (.iconst 0, 1) := by decide +kernel
theorem dX0_cellCount_1 : decode cX0_cellCount 1 = .ok (.istore_n 1, 1) := by decide +kernel
theorem dX0_cellCount_2 : decode cX0_cellCount 2 = .ok (.iconst 0, 1) := by decide +kernel
theorem dX0_cellCount_3 : decode cX0_cellCount 3 = .ok (.istore_n 2, 1) := by decide +kernel
theorem dX0_cellCount_4 : decode cX0_cellCount 4 = .ok (.iload_n 2, 1) := by decide +kernel
theorem dX0_cellCount_5 : decode cX0_cellCount 5 = .ok (.aload_n 0, 1) := by decide +kernel
theorem dX0_cellCount_6 : decode cX0_cellCount 6 = .ok (.getfield 22, 3) := by decide +kernel
theorem dX0_cellCount_9 : decode cX0_cellCount 9 = .ok (.if_icmp .ge 21, 3) := by decide +kernel
theorem dX0_cellCount_12 : decode cX0_cellCount 12 = .ok (.iload_n 1, 1) := by decide +kernel
theorem dX0_cellCount_13 : decode cX0_cellCount 13 = .ok (.aload_n 0, 1) := by decide +kernel
theorem dX0_cellCount_14 : decode cX0_cellCount 14 = .ok (.getfield 11, 3) := by decide +kernel
theorem dX0_cellCount_17 : decode cX0_cellCount 17 = .ok (.iload_n 2, 1) := by decide +kernel
theorem dX0_cellCount_18 : decode cX0_cellCount 18 = .ok (.aaload, 1) := by decide +kernel
theorem dX0_cellCount_19 : decode cX0_cellCount 19 = .ok (.getfield 52, 3) := by decide +kernel
theorem dX0_cellCount_22 : decode cX0_cellCount 22 = .ok (.iadd, 1) := by decide +kernel
theorem dX0_cellCount_23 : decode cX0_cellCount 23 = .ok (.istore_n 1, 1) := by decide +kernel
theorem dX0_cellCount_24 : decode cX0_cellCount 24 = .ok (.iinc 2 1, 3) := by decide +kernel
theorem dX0_cellCount_27 : decode cX0_cellCount 27 = .ok (.goto (-23), 3) := by decide +kernel
theorem dX0_cellCount_30 : decode cX0_cellCount 30 = .ok (.iload_n 1, 1) := by decide +kernel
theorem dX0_cellCount_31 : decode cX0_cellCount 31 = .ok (.ireturn, 1) := by decide +kernel
theorem dX0_number_0 : decode cX0_number 0 = .ok (.iload_n 1, 1) := by decide +kernel
theorem dX0_number_1 : decode cX0_number 1 = .ok (.tableswitch 60 0 4 #[35, 40, 45, 50, 55], 35) := by decide +kernel
theorem dX0_number_36 : decode cX0_number 36 = .ok (.aload_n 0, 1) := by decide +kernel
theorem dX0_number_37 : decode cX0_number 37 = .ok (.getfield 22, 3) := by decide +kernel
theorem dX0_number_40 : decode cX0_number 40 = .ok (.ireturn, 1) := by decide +kernel
theorem dX0_number_41 : decode cX0_number 41 = .ok (.aload_n 0, 1) := by decide +kernel
theorem dX0_number_42 : decode cX0_number 42 = .ok (.invokevirtual 162, 3) := by decide +kernel
theorem dX0_number_45 : decode cX0_number 45 = .ok (.ireturn, 1) := by decide +kernel
theorem dX0_number_46 : decode cX0_number 46 = .ok (.aload_n 0, 1) := by decide +kernel
theorem dX0_number_47 : decode cX0_number 47 = .ok (.getfield 36, 3) := by decide +kernel
theorem dX0_number_50 : decode cX0_number 50 = .ok (.ireturn, 1) := by decide +kernel
theorem dX0_number_51 : decode cX0_number 51 = .ok (.aload_n 0, 1) := by decide +kernel
theorem dX0_number_52 : decode cX0_number 52 = .ok (.getfield 42, 3) := by decide +kernel
theorem dX0_number_55 : decode cX0_number 55 = .ok (.ireturn, 1) := by decide +kernel
theorem dX0_number_56 : decode cX0_number 56 = .ok (.aload_n 0, 1) := by decide +kernel
theorem dX0_number_57 : decode cX0_number 57 = .ok (.getfield 45, 3) := by decide +kernel
theorem dX0_number_60 : decode cX0_number 60 = .ok (.ireturn, 1) := by decide +kernel
theorem dX0_number_61 : decode cX0_number 61 = .ok (.bipush (-2), 2) := by decide +kernel
theorem dX0_number_63 : decode cX0_number 63 = .ok (.ireturn, 1) := by decide +kernel
theorem dX1_init_0 : decode cX1_init 0 = .ok (.aload_n 0, 1) := by decide +kernel
theorem dX1_init_1 : decode cX1_init 1 = .ok (.invokespecial 3, 3) := by decide +kernel
theorem dX1_init_4 : decode cX1_init 4 = .ok (.aload_n 0, 1) := by decide +kernel
theorem dX1_init_5 : decode cX1_init 5 = .ok (.bipush 6, 2) := by decide +kernel
theorem dX1_init_7 : decode cX1_init 7 = .ok (.newarray .int, 2) := by decide +kernel
theorem dX1_init_9 : decode cX1_init 9 = .ok (.putfield 9, 3) := by decide +kernel
theorem dX1_init_12 : decode cX1_init 12 = .ok (.return_, 1) := by decide +kernel
theorem dX1_begin_0 : decode cX1_begin 0 = .ok (.aload_n 0, 1) := by decide +kernel
theorem dX1_begin_1 : decode cX1_begin 1 = .ok (.iload_n 1, 1) := by decide +kernel
theorem dX1_begin_2 : decode cX1_begin 2 = .ok (.putfield 15, 3) := by decide +kernel
theorem dX1_begin_5 : decode cX1_begin 5 = .ok (.aload_n 0, 1) := by decide +kernel
theorem dX1_begin_6 : decode cX1_begin 6 = .ok (.iload_n 2, 1) := by decide +kernel
theorem dX1_begin_7 : decode cX1_begin 7 = .ok (.putfield 19, 3) := by decide +kernel
theorem dX1_begin_10 : decode cX1_begin 10 = .ok (.aload_n 0, 1) := by decide +kernel
theorem dX1_begin_11 : decode cX1_begin 11 = .ok (.iconst 0, 1) := by decide +kernel
theorem dX1_begin_12 : decode cX1_begin 12 = .ok (.putfield 22, 3) := by decide +kernel
theorem dX1_begin_15 : decode cX1_begin 15 = .ok (.aload_n 0, 1) := by decide +kernel
theorem dX1_begin_16 : decode cX1_begin 16 = .ok (.iconst 0, 1) := by decide +kernel
theorem dX1_begin_17 : decode cX1_begin 17 = .ok (.putfield 25, 3) := by decide +kernel
theorem dX1_begin_20 : decode cX1_begin 20 = .ok (.aload_n 0, 1) := by decide +kernel
theorem dX1_begin_21 : decode cX1_begin 21 = .ok (.iconst 0, 1) := by decide +kernel
theorem dX1_begin_22 : decode cX1_begin 22 = .ok (.putfield 28, 3) := by decide +kernel
theorem dX1_begin_25 : decode cX1_begin 25 = .ok (.aload_n 0, 1) := by decide +kernel
theorem dX1_begin_26 : decode cX1_begin 26 = .ok (.iconst 0, 1) := by decide +kernel
theorem dX1_begin_27 : decode cX1_begin 27 = .ok (.putfield 31, 3) := by decide +kernel
theorem dX1_begin_30 : decode cX1_begin 30 = .ok (.aload_n 0, 1) := by decide +kernel
theorem dX1_begin_31 : decode cX1_begin 31 = .ok (.iconst 0, 1) := by decide +kernel
theorem dX1_begin_32 : decode cX1_begin 32 = .ok (.putfield 34, 3) := by decide +kernel
theorem dX1_begin_35 : decode cX1_begin 35 = .ok (.aload_n 0, 1) := by decide +kernel
theorem dX1_begin_36 : decode cX1_begin 36 = .ok (.invokevirtual 37, 3) := by decide +kernel
theorem dX1_begin_39 : decode cX1_begin 39 = .ok (.return_, 1) := by decide +kernel
theorem dX1_copyFrom_0 : decode cX1_copyFrom 0 = .ok (.aload_n 0, 1) := by decide +kernel
theorem dX1_copyFrom_1 : decode cX1_copyFrom 1 = .ok (.aload_n 1, 1) := by decide +kernel
theorem dX1_copyFrom_2 : decode cX1_copyFrom 2 = .ok (.getfield 15, 3) := by decide +kernel
theorem dX1_copyFrom_5 : decode cX1_copyFrom 5 = .ok (.putfield 15, 3) := by decide +kernel
theorem dX1_copyFrom_8 : decode cX1_copyFrom 8 = .ok (.aload_n 0, 1) := by decide +kernel
theorem dX1_copyFrom_9 : decode cX1_copyFrom 9 = .ok (.aload_n 1, 1) := by decide +kernel
theorem dX1_copyFrom_10 : decode cX1_copyFrom 10 = .ok (.getfield 19, 3) := by decide +kernel
theorem dX1_copyFrom_13 : decode cX1_copyFrom 13 = .ok (.putfield 19, 3) := by decide +kernel
theorem dX1_copyFrom_16 : decode cX1_copyFrom 16 = .ok (.aload_n 0, 1) := by decide +kernel
theorem dX1_copyFrom_17 : decode cX1_copyFrom 17 = .ok (.aload_n 1, 1) := by decide +kernel
theorem dX1_copyFrom_18 : decode cX1_copyFrom 18 = .ok (.getfield 40, 3) := by decide +kernel
theorem dX1_copyFrom_21 : decode cX1_copyFrom 21 = .ok (.putfield 40, 3) := by decide +kernel
theorem dX1_copyFrom_24 : decode cX1_copyFrom 24 = .ok (.aload_n 0, 1) := by decide +kernel
theorem dX1_copyFrom_25 : decode cX1_copyFrom 25 = .ok (.aload_n 1, 1) := by decide +kernel
theorem dX1_copyFrom_26 : decode cX1_copyFrom 26 = .ok (.getfield 22, 3) := by decide +kernel
theorem dX1_copyFrom_29 : decode cX1_copyFrom 29 = .ok (.putfield 22, 3) := by decide +kernel
theorem dX1_copyFrom_32 : decode cX1_copyFrom 32 = .ok (.aload_n 0, 1) := by decide +kernel
theorem dX1_copyFrom_33 : decode cX1_copyFrom 33 = .ok (.aload_n 1, 1) := by decide +kernel
theorem dX1_copyFrom_34 : decode cX1_copyFrom 34 = .ok (.getfield 25, 3) := by decide +kernel
theorem dX1_copyFrom_37 : decode cX1_copyFrom 37 = .ok (.putfield 25, 3) := by decide +kernel
theorem dX1_copyFrom_40 : decode cX1_copyFrom 40 = .ok (.aload_n 0, 1) := by decide +kernel
theorem dX1_copyFrom_41 : decode cX1_copyFrom 41 = .ok (.aload_n 1, 1) := by decide +kernel
theorem dX1_copyFrom_42 : decode cX1_copyFrom 42 = .ok (.getfield 28, 3) := by decide +kernel
theorem dX1_copyFrom_45 : decode cX1_copyFrom 45 = .ok (.putfield 28, 3) := by decide +kernel
theorem dX1_copyFrom_48 : decode cX1_copyFrom 48 = .ok (.aload_n 0, 1) := by decide +kernel
theorem dX1_copyFrom_49 : decode cX1_copyFrom 49 = .ok (.aload_n 1, 1) := by decide +kernel
theorem dX1_copyFrom_50 : decode cX1_copyFrom 50 = .ok (.getfield 31, 3) := by decide +kernel
theorem dX1_copyFrom_53 : decode cX1_copyFrom 53 = .ok (.putfield 31, 3) := by decide +kernel
theorem dX1_copyFrom_56 : decode cX1_copyFrom 56 = .ok (.aload_n 0, 1) := by decide +kernel
theorem dX1_copyFrom_57 : decode cX1_copyFrom 57 = .ok (.aload_n 1, 1) := by decide +kernel
theorem dX1_copyFrom_58 : decode cX1_copyFrom 58 = .ok (.getfield 34, 3) := by decide +kernel
theorem dX1_copyFrom_61 : decode cX1_copyFrom 61 = .ok (.putfield 34, 3) := by decide +kernel
theorem dX1_copyFrom_64 : decode cX1_copyFrom 64 = .ok (.aload_n 1, 1) := by decide +kernel
theorem dX1_copyFrom_65 : decode cX1_copyFrom 65 = .ok (.getfield 9, 3) := by decide +kernel
theorem dX1_copyFrom_68 : decode cX1_copyFrom 68 = .ok (.iconst 0, 1) := by decide +kernel
theorem dX1_copyFrom_69 : decode cX1_copyFrom 69 = .ok (.aload_n 0, 1) := by decide +kernel
theorem dX1_copyFrom_70 : decode cX1_copyFrom 70 = .ok (.getfield 9, 3) := by decide +kernel
theorem dX1_copyFrom_73 : decode cX1_copyFrom 73 = .ok (.iconst 0, 1) := by decide +kernel
theorem dX1_copyFrom_74 : decode cX1_copyFrom 74 = .ok (.bipush 6, 2) := by decide +kernel
theorem dX1_copyFrom_76 : decode cX1_copyFrom 76 = .ok (.invokestatic 43, 3) := by decide +kernel
theorem dX1_copyFrom_79 : decode cX1_copyFrom 79 = .ok (.return_, 1) := by decide +kernel
theorem dX1_reset_0 : decode cX1_reset 0 = .ok (.aload_n 0, 1) := by decide +kernel
theorem dX1_reset_1 : decode cX1_reset 1 = .ok (.aload_n 0, 1) := by decide +kernel
theorem dX1_reset_2 : decode cX1_reset 2 = .ok (.getfield 19, 3) := by decide +kernel
theorem dX1_reset_5 : decode cX1_reset 5 = .ok (.sipush 256, 3) := by decide +kernel
theorem dX1_reset_8 : decode cX1_reset 8 = .ok (.if_icmp .ne 14, 3) := by decide +kernel
theorem dX1_reset_11 : decode cX1_reset 11 = .ok (.iconst 1, 1) := by decide +kernel
theorem dX1_reset_12 : decode cX1_reset 12 = .ok (.aload_n 0, 1) := by decide +kernel
theorem dX1_reset_13 : decode cX1_reset 13 = .ok (.getfield 15, 3) := by decide +kernel
theorem dX1_reset_16 : decode cX1_reset 16 = .ok (.ishl, 1) := by decide +kernel
theorem dX1_reset_17 : decode cX1_reset 17 = .ok (.iconst 1, 1) := by decide +kernel
theorem dX1_reset_18 : decode cX1_reset 18 = .ok (.isub, 1) := by decide +kernel
theorem dX1_reset_19 : decode cX1_reset 19 = .ok (.goto 4, 3) := by decide +kernel
theorem dX1_reset_22 : decode cX1_reset 22 = .ok (.iconst 2, 1) := by decide +kernel
theorem dX1_reset_23 : decode cX1_reset 23 = .ok (.putfield 40, 3) := by decide +kernel
theorem dX1_reset_26 : decode cX1_reset 26 = .ok (.return_, 1) := by decide +kernel
theorem dX1_addCell_0 : decode cX1_addCell 0 = .ok (.aload_n 0, 1) := by decide +kernel
theorem dX1_addCell_1 : decode cX1_addCell 1 = .ok (.getfield 31, 3) := by decide +kernel
theorem dX1_addCell_4 : decode cX1_addCell 4 = .ok (.bipush 6, 2) := by decide +kernel
theorem dX1_addCell_6 : decode cX1_addCell 6 = .ok (.if_icmp .lt 6, 3) := by decide +kernel
theorem dX1_addCell_9 : decode cX1_addCell 9 = .ok (.bipush (-4), 2) := by decide +kernel
theorem dX1_addCell_11 : decode cX1_addCell 11 = .ok (.ireturn, 1) := by decide +kernel
theorem dX1_addCell_12 : decode cX1_addCell 12 = .ok (.aload_n 0, 1) := by decide +kernel
theorem dX1_addCell_13 : decode cX1_addCell 13 = .ok (.getfield 31, 3) := by decide +kernel
theorem dX1_addCell_16 : decode cX1_addCell 16 = .ok (.istore_n 3, 1) := by decide +kernel
theorem dX1_addCell_17 : decode cX1_addCell 17 = .ok (.aload_n 0, 1) := by decide +kernel
theorem dX1_addCell_18 : decode cX1_addCell 18 = .ok (.getfield 9, 3) := by decide +kernel
theorem dX1_addCell_21 : decode cX1_addCell 21 = .ok (.iload_n 3, 1) := by decide +kernel
theorem dX1_addCell_22 : decode cX1_addCell 22 = .ok (.iload_n 2, 1) := by decide +kernel
theorem dX1_addCell_23 : decode cX1_addCell 23 = .ok (.iastore, 1) := by decide +kernel
theorem dX1_addCell_24 : decode cX1_addCell 24 = .ok (.aload_n 0, 1) := by decide +kernel
theorem dX1_addCell_25 : decode cX1_addCell 25 = .ok (.dup, 1) := by decide +kernel
theorem dX1_addCell_26 : decode cX1_addCell 26 = .ok (.getfield 34, 3) := by decide +kernel
theorem dX1_addCell_29 : decode cX1_addCell 29 = .ok (.iload_n 1, 1) := by decide +kernel
theorem dX1_addCell_30 : decode cX1_addCell 30 = .ok (.iload_n 3, 1) := by decide +kernel
theorem dX1_addCell_31 : decode cX1_addCell 31 = .ok (.ishl, 1) := by decide +kernel
theorem dX1_addCell_32 : decode cX1_addCell 32 = .ok (.ior, 1) := by decide +kernel
theorem dX1_addCell_33 : decode cX1_addCell 33 = .ok (.putfield 34, 3) := by decide +kernel
theorem dX1_addCell_36 : decode cX1_addCell 36 = .ok (.aload_n 0, 1) := by decide +kernel
theorem dX1_addCell_37 : decode cX1_addCell 37 = .ok (.dup, 1) := by decide +kernel
theorem dX1_addCell_38 : decode cX1_addCell 38 = .ok (.getfield 31, 3) := by decide +kernel
theorem dX1_addCell_41 : decode cX1_addCell 41 = .ok (.iconst 1, 1) := by decide +kernel
theorem dX1_addCell_42 : decode cX1_addCell 42 = .ok (.iadd, 1) := by decide +kernel
theorem dX1_addCell_43 : decode cX1_addCell 43 = .ok (.putfield 31, 3) := by decide +kernel
theorem dX1_addCell_46 : decode cX1_addCell 46 = .ok (.iload_n 3, 1) := by decide +kernel
theorem dX1_addCell_47 : decode cX1_addCell 47 = .ok (.ireturn, 1) := by decide +kernel
theorem dX1_isOutput_0 : decode cX1_isOutput 0 = .ok (.aload_n 0, 1) := by decide +kernel
theorem dX1_isOutput_1 : decode cX1_isOutput 1 = .ok (.getfield 34, 3) := by decide +kernel
theorem dX1_isOutput_4 : decode cX1_isOutput 4 = .ok (.iload_n 1, 1) := by decide +kernel
theorem dX1_isOutput_5 : decode cX1_isOutput 5 = .ok (.invokestatic 49, 3) := by decide +kernel
theorem dX1_isOutput_8 : decode cX1_isOutput 8 = .ok (.ireturn, 1) := by decide +kernel
theorem dX1_scansCells_0 : decode cX1_scansCells 0 = .ok (.aload_n 0, 1) := by decide +kernel
theorem dX1_scansCells_1 : decode cX1_scansCells 1 = .ok (.getfield 40, 3) := by decide +kernel
theorem dX1_scansCells_4 : decode cX1_scansCells 4 = .ok (.ifCond .eq 11, 3) := by decide +kernel
theorem dX1_scansCells_7 : decode cX1_scansCells 7 = .ok (.aload_n 0, 1) := by decide +kernel
theorem dX1_scansCells_8 : decode cX1_scansCells 8 = .ok (.getfield 40, 3) := by decide +kernel
theorem dX1_scansCells_11 : decode cX1_scansCells 11 = .ok (.iconst 1, 1) := by decide +kernel
theorem dX1_scansCells_12 : decode cX1_scansCells 12 = .ok (.if_icmp .ne 14, 3) := by decide +kernel
theorem dX1_scansCells_15 : decode cX1_scansCells 15 = .ok (.aload_n 0, 1) := by decide +kernel
theorem dX1_scansCells_16 : decode cX1_scansCells 16 = .ok (.getfield 31, 3) := by decide +kernel
theorem dX1_scansCells_19 : decode cX1_scansCells 19 = .ok (.ifCond .le 7, 3) := by decide +kernel
theorem dX1_scansCells_22 : decode cX1_scansCells 22 = .ok (.iconst 1, 1) := by decide +kernel
theorem dX1_scansCells_23 : decode cX1_scansCells 23 = .ok (.goto 4, 3) := by decide +kernel
theorem dX1_scansCells_26 : decode cX1_scansCells 26 = .ok (.iconst 0, 1) := by decide +kernel
theorem dX1_scansCells_27 : decode cX1_scansCells 27 = .ok (.ireturn, 1) := by decide +kernel
theorem dX1_scansIdentity_0 : decode cX1_scansIdentity 0 = .ok (.aload_n 0, 1) := by decide +kernel
theorem dX1_scansIdentity_1 : decode cX1_scansIdentity 1 = .ok (.getfield 40, 3) := by decide +kernel
theorem dX1_scansIdentity_4 : decode cX1_scansIdentity 4 = .ok (.iconst 2, 1) := by decide +kernel
theorem dX1_scansIdentity_5 : decode cX1_scansIdentity 5 = .ok (.if_icmp .ne 17, 3) := by decide +kernel
theorem dX1_scansIdentity_8 : decode cX1_scansIdentity 8 = .ok (.aload_n 0, 1) := by decide +kernel
theorem dX1_scansIdentity_9 : decode cX1_scansIdentity 9 = .ok (.getfield 19, 3) := by decide +kernel
theorem dX1_scansIdentity_12 : decode cX1_scansIdentity 12 = .ok (.sipush 256, 3) := by decide +kernel
theorem dX1_scansIdentity_15 : decode cX1_scansIdentity 15 = .ok (.if_icmp .eq 7, 3) := by decide +kernel
theorem dX1_scansIdentity_18 : decode cX1_scansIdentity 18 = .ok (.iconst 1, 1) := by decide +kernel
theorem dX1_scansIdentity_19 : decode cX1_scansIdentity 19 = .ok (.goto 4, 3) := by decide +kernel
theorem dX1_scansIdentity_22 : decode cX1_scansIdentity 22 = .ok (.iconst 0, 1) := by decide +kernel
theorem dX1_scansIdentity_23 : decode cX1_scansIdentity 23 = .ok (.ireturn, 1) := by decide +kernel
theorem dX1_dataBits_0 : decode cX1_dataBits 0 = .ok (.aload_n 0, 1) := by decide +kernel
theorem dX1_dataBits_1 : decode cX1_dataBits 1 = .ok (.invokevirtual 53, 3) := by decide +kernel
theorem dX1_dataBits_4 : decode cX1_dataBits 4 = .ok (.ifCond .eq 8, 3) := by decide +kernel
theorem dX1_dataBits_7 : decode cX1_dataBits 7 = .ok (.aload_n 0, 1) := by decide +kernel
theorem dX1_dataBits_8 : decode cX1_dataBits 8 = .ok (.getfield 31, 3) := by decide +kernel
theorem dX1_dataBits_11 : decode cX1_dataBits 11 = .ok (.ireturn, 1) := by decide +kernel
theorem dX1_dataBits_12 : decode cX1_dataBits 12 = .ok (.aload_n 0, 1) := by decide +kernel
theorem dX1_dataBits_13 : decode cX1_dataBits 13 = .ok (.invokevirtual 57, 3) := by decide +kernel
theorem dX1_dataBits_16 : decode cX1_dataBits 16 = .ok (.ifCond .eq 8, 3) := by decide +kernel
theorem dX1_dataBits_19 : decode cX1_dataBits 19 = .ok (.bipush 8, 2) := by decide +kernel
theorem dX1_dataBits_21 : decode cX1_dataBits 21 = .ok (.goto 4, 3) := by decide +kernel
theorem dX1_dataBits_24 : decode cX1_dataBits 24 = .ok (.iconst 1, 1) := by decide +kernel
theorem dX1_dataBits_25 : decode cX1_dataBits 25 = .ok (.ireturn, 1) := by decide +kernel
theorem dX1_shiftInstruction_0 : decode cX1_shiftInstruction 0 = .ok (.aload_n 0, 1) := by decide +kernel
theorem dX1_shiftInstruction_1 : decode cX1_shiftInstruction 1 = .ok (.getfield 22, 3) := by decide +kernel
theorem dX1_shiftInstruction_4 : decode cX1_shiftInstruction 4 = .ok (.iconst 1, 1) := by decide +kernel
theorem dX1_shiftInstruction_5 : decode cX1_shiftInstruction 5 = .ok (.iand, 1) := by decide +kernel
theorem dX1_shiftInstruction_6 : decode cX1_shiftInstruction 6 = .ok (.istore_n 2, 1) := by decide +kernel
theorem dX1_shiftInstruction_7 : decode cX1_shiftInstruction 7 = .ok (.aload_n 0, 1) := by decide +kernel
theorem dX1_shiftInstruction_8 : decode cX1_shiftInstruction 8 = .ok (.aload_n 0, 1) := by decide +kernel
theorem dX1_shiftInstruction_9 : decode cX1_shiftInstruction 9 = .ok (.getfield 22, 3) := by decide +kernel
theorem dX1_shiftInstruction_12 : decode cX1_shiftInstruction 12 = .ok (.iconst 1, 1) := by decide +kernel
theorem dX1_shiftInstruction_13 : decode cX1_shiftInstruction 13 = .ok (.ishr, 1) := by decide +kernel
theorem dX1_shiftInstruction_14 : decode cX1_shiftInstruction 14 = .ok (.iload_n 1, 1) := by decide +kernel
theorem dX1_shiftInstruction_15 : decode cX1_shiftInstruction 15 = .ok (.aload_n 0, 1) := by decide +kernel
theorem dX1_shiftInstruction_16 : decode cX1_shiftInstruction 16 = .ok (.getfield 15, 3) := by decide +kernel
theorem dX1_shiftInstruction_19 : decode cX1_shiftInstruction 19 = .ok (.iconst 1, 1) := by decide +kernel
theorem dX1_shiftInstruction_20 : decode cX1_shiftInstruction 20 = .ok (.isub, 1) := by decide +kernel
theorem dX1_shiftInstruction_21 : decode cX1_shiftInstruction 21 = .ok (.ishl, 1) := by decide +kernel
theorem dX1_shiftInstruction_22 : decode cX1_shiftInstruction 22 = .ok (.ior, 1) := by decide +kernel
theorem dX1_shiftInstruction_23 : decode cX1_shiftInstruction 23 = .ok (.putfield 22, 3) := by decide +kernel
theorem dX1_shiftInstruction_26 : decode cX1_shiftInstruction 26 = .ok (.iload_n 2, 1) := by decide +kernel
theorem dX1_shiftInstruction_27 : decode cX1_shiftInstruction 27 = .ok (.ireturn, 1) := by decide +kernel
theorem dX1_shiftData_0 : decode cX1_shiftData 0 = .ok (.aload_n 0, 1) := by decide +kernel
theorem dX1_shiftData_1 : decode cX1_shiftData 1 = .ok (.getfield 25, 3) := by decide +kernel
theorem dX1_shiftData_4 : decode cX1_shiftData 4 = .ok (.iconst 1, 1) := by decide +kernel
theorem dX1_shiftData_5 : decode cX1_shiftData 5 = .ok (.iand, 1) := by decide +kernel
theorem dX1_shiftData_6 : decode cX1_shiftData 6 = .ok (.istore_n 2, 1) := by decide +kernel
theorem dX1_shiftData_7 : decode cX1_shiftData 7 = .ok (.aload_n 0, 1) := by decide +kernel
theorem dX1_shiftData_8 : decode cX1_shiftData 8 = .ok (.aload_n 0, 1) := by decide +kernel
theorem dX1_shiftData_9 : decode cX1_shiftData 9 = .ok (.getfield 25, 3) := by decide +kernel
theorem dX1_shiftData_12 : decode cX1_shiftData 12 = .ok (.iconst 1, 1) := by decide +kernel
theorem dX1_shiftData_13 : decode cX1_shiftData 13 = .ok (.ishr, 1) := by decide +kernel
theorem dX1_shiftData_14 : decode cX1_shiftData 14 = .ok (.iload_n 1, 1) := by decide +kernel
theorem dX1_shiftData_15 : decode cX1_shiftData 15 = .ok (.aload_n 0, 1) := by decide +kernel
theorem dX1_shiftData_16 : decode cX1_shiftData 16 = .ok (.invokevirtual 60, 3) := by decide +kernel
theorem dX1_shiftData_19 : decode cX1_shiftData 19 = .ok (.iconst 1, 1) := by decide +kernel
theorem dX1_shiftData_20 : decode cX1_shiftData 20 = .ok (.isub, 1) := by decide +kernel
theorem dX1_shiftData_21 : decode cX1_shiftData 21 = .ok (.ishl, 1) := by decide +kernel
theorem dX1_shiftData_22 : decode cX1_shiftData 22 = .ok (.ior, 1) := by decide +kernel
theorem dX1_shiftData_23 : decode cX1_shiftData 23 = .ok (.putfield 25, 3) := by decide +kernel
theorem dX1_shiftData_26 : decode cX1_shiftData 26 = .ok (.iload_n 2, 1) := by decide +kernel
theorem dX1_shiftData_27 : decode cX1_shiftData 27 = .ok (.ireturn, 1) := by decide +kernel
theorem dX1_updateLatches_0 : decode cX1_updateLatches 0 = .ok (.aload_n 0, 1) := by decide +kernel
theorem dX1_updateLatches_1 : decode cX1_updateLatches 1 = .ok (.invokevirtual 53, 3) := by decide +kernel
theorem dX1_updateLatches_4 : decode cX1_updateLatches 4 = .ok (.ifCond .eq 11, 3) := by decide +kernel
theorem dX1_updateLatches_7 : decode cX1_updateLatches 7 = .ok (.aload_n 0, 1) := by decide +kernel
theorem dX1_updateLatches_8 : decode cX1_updateLatches 8 = .ok (.aload_n 0, 1) := by decide +kernel
theorem dX1_updateLatches_9 : decode cX1_updateLatches 9 = .ok (.getfield 25, 3) := by decide +kernel
theorem dX1_updateLatches_12 : decode cX1_updateLatches 12 = .ok (.putfield 28, 3) := by decide +kernel
theorem dX1_updateLatches_15 : decode cX1_updateLatches 15 = .ok (.return_, 1) := by decide +kernel
theorem dX1_number_0 : decode cX1_number 0 = .ok (.iload_n 1, 1) := by decide +kernel
theorem dX1_number_1 : decode cX1_number 1 = .ok (.tableswitch 87 0 7 #[47, 52, 57, 62, 67, 72, 77, 82], 47) := by decide +kernel
theorem dX1_number_48 : decode cX1_number 48 = .ok (.aload_n 0, 1) := by decide +kernel
theorem dX1_number_49 : decode cX1_number 49 = .ok (.getfield 15, 3) := by decide +kernel
theorem dX1_number_52 : decode cX1_number 52 = .ok (.ireturn, 1) := by decide +kernel
theorem dX1_number_53 : decode cX1_number 53 = .ok (.aload_n 0, 1) := by decide +kernel
theorem dX1_number_54 : decode cX1_number 54 = .ok (.getfield 19, 3) := by decide +kernel
theorem dX1_number_57 : decode cX1_number 57 = .ok (.ireturn, 1) := by decide +kernel
theorem dX1_number_58 : decode cX1_number 58 = .ok (.aload_n 0, 1) := by decide +kernel
theorem dX1_number_59 : decode cX1_number 59 = .ok (.getfield 31, 3) := by decide +kernel
theorem dX1_number_62 : decode cX1_number 62 = .ok (.ireturn, 1) := by decide +kernel
theorem dX1_number_63 : decode cX1_number 63 = .ok (.aload_n 0, 1) := by decide +kernel
theorem dX1_number_64 : decode cX1_number 64 = .ok (.getfield 40, 3) := by decide +kernel
theorem dX1_number_67 : decode cX1_number 67 = .ok (.ireturn, 1) := by decide +kernel
theorem dX1_number_68 : decode cX1_number 68 = .ok (.aload_n 0, 1) := by decide +kernel
theorem dX1_number_69 : decode cX1_number 69 = .ok (.invokevirtual 60, 3) := by decide +kernel
theorem dX1_number_72 : decode cX1_number 72 = .ok (.ireturn, 1) := by decide +kernel
theorem dX1_number_73 : decode cX1_number 73 = .ok (.aload_n 0, 1) := by decide +kernel
theorem dX1_number_74 : decode cX1_number 74 = .ok (.getfield 22, 3) := by decide +kernel
theorem dX1_number_77 : decode cX1_number 77 = .ok (.ireturn, 1) := by decide +kernel
theorem dX1_number_78 : decode cX1_number 78 = .ok (.aload_n 0, 1) := by decide +kernel
theorem dX1_number_79 : decode cX1_number 79 = .ok (.getfield 25, 3) := by decide +kernel
theorem dX1_number_82 : decode cX1_number 82 = .ok (.ireturn, 1) := by decide +kernel
theorem dX1_number_83 : decode cX1_number 83 = .ok (.aload_n 0, 1) := by decide +kernel
theorem dX1_number_84 : decode cX1_number 84 = .ok (.getfield 28, 3) := by decide +kernel
theorem dX1_number_87 : decode cX1_number 87 = .ok (.ireturn, 1) := by decide +kernel
theorem dX1_number_88 : decode cX1_number 88 = .ok (.bipush (-2), 2) := by decide +kernel
theorem dX1_number_90 : decode cX1_number 90 = .ok (.ireturn, 1) := by decide +kernel
theorem dX2_init_0 : decode cX2_init 0 = .ok (.aload_n 0, 1) := by decide +kernel
theorem dX2_init_1 : decode cX2_init 1 = .ok (.invokespecial 3, 3) := by decide +kernel
theorem dX2_init_4 : decode cX2_init 4 = .ok (.aload_n 0, 1) := by decide +kernel
theorem dX2_init_5 : decode cX2_init 5 = .ok (.bipush 6, 2) := by decide +kernel
theorem dX2_init_7 : decode cX2_init 7 = .ok (.anewarray 11, 3) := by decide +kernel
theorem dX2_init_10 : decode cX2_init 10 = .ok (.putfield 13, 3) := by decide +kernel
theorem dX2_init_13 : decode cX2_init 13 = .ok (.iconst 0, 1) := by decide +kernel
theorem dX2_init_14 : decode cX2_init 14 = .ok (.istore_n 1, 1) := by decide +kernel
theorem dX2_init_15 : decode cX2_init 15 = .ok (.iload_n 1, 1) := by decide +kernel
theorem dX2_init_16 : decode cX2_init 16 = .ok (.bipush 6, 2) := by decide +kernel
theorem dX2_init_18 : decode cX2_init 18 = .ok (.if_icmp .ge 22, 3) := by decide +kernel
theorem dX2_init_21 : decode cX2_init 21 = .ok (.aload_n 0, 1) := by decide +kernel
theorem dX2_init_22 : decode cX2_init 22 = .ok (.getfield 13, 3) := by decide +kernel
theorem dX2_init_25 : decode cX2_init 25 = .ok (.iload_n 1, 1) := by decide +kernel
theorem dX2_init_26 : decode cX2_init 26 = .ok (.new 11, 3) := by decide +kernel
theorem dX2_init_29 : decode cX2_init 29 = .ok (.dup, 1) := by decide +kernel
theorem dX2_init_30 : decode cX2_init 30 = .ok (.invokespecial 17, 3) := by decide +kernel
theorem dX2_init_33 : decode cX2_init 33 = .ok (.aastore, 1) := by decide +kernel
theorem dX2_init_34 : decode cX2_init 34 = .ok (.iinc 1 1, 3) := by decide +kernel
theorem dX2_init_37 : decode cX2_init 37 = .ok (.goto (-22), 3) := by decide +kernel
theorem dX2_init_40 : decode cX2_init 40 = .ok (.return_, 1) := by decide +kernel
theorem dX2_mark_0 : decode cX2_mark 0 = .ok (.aload_n 0, 1) := by decide +kernel
theorem dX2_mark_1 : decode cX2_mark 1 = .ok (.getfield 13, 3) := by decide +kernel
theorem dX2_mark_4 : decode cX2_mark 4 = .ok (.aload_n 0, 1) := by decide +kernel
theorem dX2_mark_5 : decode cX2_mark 5 = .ok (.getfield 18, 3) := by decide +kernel
theorem dX2_mark_8 : decode cX2_mark 8 = .ok (.aaload, 1) := by decide +kernel
theorem dX2_mark_9 : decode cX2_mark 9 = .ok (.aload_n 1, 1) := by decide +kernel
theorem dX2_mark_10 : decode cX2_mark 10 = .ok (.invokevirtual 22, 3) := by decide +kernel
theorem dX2_mark_13 : decode cX2_mark 13 = .ok (.return_, 1) := by decide +kernel
theorem dX2_keepMark_0 : decode cX2_keepMark 0 = .ok (.aload_n 0, 1) := by decide +kernel
theorem dX2_keepMark_1 : decode cX2_keepMark 1 = .ok (.aload_n 0, 1) := by decide +kernel
theorem dX2_keepMark_2 : decode cX2_keepMark 2 = .ok (.getfield 18, 3) := by decide +kernel
theorem dX2_keepMark_5 : decode cX2_keepMark 5 = .ok (.iconst 1, 1) := by decide +kernel
theorem dX2_keepMark_6 : decode cX2_keepMark 6 = .ok (.iadd, 1) := by decide +kernel
theorem dX2_keepMark_7 : decode cX2_keepMark 7 = .ok (.bipush 6, 2) := by decide +kernel
theorem dX2_keepMark_9 : decode cX2_keepMark 9 = .ok (.irem, 1) := by decide +kernel
theorem dX2_keepMark_10 : decode cX2_keepMark 10 = .ok (.putfield 18, 3) := by decide +kernel
theorem dX2_keepMark_13 : decode cX2_keepMark 13 = .ok (.aload_n 0, 1) := by decide +kernel
theorem dX2_keepMark_14 : decode cX2_keepMark 14 = .ok (.aload_n 0, 1) := by decide +kernel
theorem dX2_keepMark_15 : decode cX2_keepMark 15 = .ok (.getfield 26, 3) := by decide +kernel
theorem dX2_keepMark_18 : decode cX2_keepMark 18 = .ok (.iconst 1, 1) := by decide +kernel
theorem dX2_keepMark_19 : decode cX2_keepMark 19 = .ok (.iadd, 1) := by decide +kernel
theorem dX2_keepMark_20 : decode cX2_keepMark 20 = .ok (.iconst 5, 1) := by decide +kernel
theorem dX2_keepMark_21 : decode cX2_keepMark 21 = .ok (.invokestatic 29, 3) := by decide +kernel
theorem dX2_keepMark_24 : decode cX2_keepMark 24 = .ok (.putfield 26, 3) := by decide +kernel
theorem dX2_keepMark_27 : decode cX2_keepMark 27 = .ok (.return_, 1) := by decide +kernel
theorem dX2_returnToMark_0 : decode cX2_returnToMark 0 = .ok (.aload_n 1, 1) := by decide +kernel
theorem dX2_returnToMark_1 : decode cX2_returnToMark 1 = .ok (.aload_n 0, 1) := by decide +kernel
theorem dX2_returnToMark_2 : decode cX2_returnToMark 2 = .ok (.getfield 13, 3) := by decide +kernel
theorem dX2_returnToMark_5 : decode cX2_returnToMark 5 = .ok (.aload_n 0, 1) := by decide +kernel
theorem dX2_returnToMark_6 : decode cX2_returnToMark 6 = .ok (.getfield 18, 3) := by decide +kernel
theorem dX2_returnToMark_9 : decode cX2_returnToMark 9 = .ok (.aaload, 1) := by decide +kernel
theorem dX2_returnToMark_10 : decode cX2_returnToMark 10 = .ok (.invokevirtual 22, 3) := by decide +kernel
theorem dX2_returnToMark_13 : decode cX2_returnToMark 13 = .ok (.return_, 1) := by decide +kernel
theorem dX2_takeBack_0 : decode cX2_takeBack 0 = .ok (.aload_n 0, 1) := by decide +kernel
theorem dX2_takeBack_1 : decode cX2_takeBack 1 = .ok (.getfield 26, 3) := by decide +kernel
theorem dX2_takeBack_4 : decode cX2_takeBack 4 = .ok (.ifCond .ne 6, 3) := by decide +kernel
theorem dX2_takeBack_7 : decode cX2_takeBack 7 = .ok (.bipush (-3), 2) := by decide +kernel
theorem dX2_takeBack_9 : decode cX2_takeBack 9 = .ok (.ireturn, 1) := by decide +kernel
theorem dX2_takeBack_10 : decode cX2_takeBack 10 = .ok (.aload_n 0, 1) := by decide +kernel
theorem dX2_takeBack_11 : decode cX2_takeBack 11 = .ok (.aload_n 0, 1) := by decide +kernel
theorem dX2_takeBack_12 : decode cX2_takeBack 12 = .ok (.getfield 18, 3) := by decide +kernel
theorem dX2_takeBack_15 : decode cX2_takeBack 15 = .ok (.bipush 6, 2) := by decide +kernel
theorem dX2_takeBack_17 : decode cX2_takeBack 17 = .ok (.iadd, 1) := by decide +kernel
theorem dX2_takeBack_18 : decode cX2_takeBack 18 = .ok (.iconst 1, 1) := by decide +kernel
theorem dX2_takeBack_19 : decode cX2_takeBack 19 = .ok (.isub, 1) := by decide +kernel
theorem dX2_takeBack_20 : decode cX2_takeBack 20 = .ok (.bipush 6, 2) := by decide +kernel
theorem dX2_takeBack_22 : decode cX2_takeBack 22 = .ok (.irem, 1) := by decide +kernel
theorem dX2_takeBack_23 : decode cX2_takeBack 23 = .ok (.putfield 18, 3) := by decide +kernel
theorem dX2_takeBack_26 : decode cX2_takeBack 26 = .ok (.aload_n 0, 1) := by decide +kernel
theorem dX2_takeBack_27 : decode cX2_takeBack 27 = .ok (.dup, 1) := by decide +kernel
theorem dX2_takeBack_28 : decode cX2_takeBack 28 = .ok (.getfield 26, 3) := by decide +kernel
theorem dX2_takeBack_31 : decode cX2_takeBack 31 = .ok (.iconst 1, 1) := by decide +kernel
theorem dX2_takeBack_32 : decode cX2_takeBack 32 = .ok (.isub, 1) := by decide +kernel
theorem dX2_takeBack_33 : decode cX2_takeBack 33 = .ok (.putfield 26, 3) := by decide +kernel
theorem dX2_takeBack_36 : decode cX2_takeBack 36 = .ok (.aload_n 0, 1) := by decide +kernel
theorem dX2_takeBack_37 : decode cX2_takeBack 37 = .ok (.aload_n 1, 1) := by decide +kernel
theorem dX2_takeBack_38 : decode cX2_takeBack 38 = .ok (.invokevirtual 35, 3) := by decide +kernel
theorem dX2_takeBack_41 : decode cX2_takeBack 41 = .ok (.aload_n 0, 1) := by decide +kernel
theorem dX2_takeBack_42 : decode cX2_takeBack 42 = .ok (.getfield 26, 3) := by decide +kernel
theorem dX2_takeBack_45 : decode cX2_takeBack 45 = .ok (.ireturn, 1) := by decide +kernel
theorem dX3_init_0 : decode cX3_init 0 = .ok (.aload_n 0, 1) := by decide +kernel
theorem dX3_init_1 : decode cX3_init 1 = .ok (.invokespecial 3, 3) := by decide +kernel
theorem dX3_init_4 : decode cX3_init 4 = .ok (.aload_n 0, 1) := by decide +kernel
theorem dX3_init_5 : decode cX3_init 5 = .ok (.bipush 8, 2) := by decide +kernel
theorem dX3_init_7 : decode cX3_init 7 = .ok (.newarray .int, 2) := by decide +kernel
theorem dX3_init_9 : decode cX3_init 9 = .ok (.putfield 9, 3) := by decide +kernel
theorem dX3_init_12 : decode cX3_init 12 = .ok (.aload_n 0, 1) := by decide +kernel
theorem dX3_init_13 : decode cX3_init 13 = .ok (.iconst 4, 1) := by decide +kernel
theorem dX3_init_14 : decode cX3_init 14 = .ok (.newarray .int, 2) := by decide +kernel
theorem dX3_init_16 : decode cX3_init 16 = .ok (.putfield 15, 3) := by decide +kernel
theorem dX3_init_19 : decode cX3_init 19 = .ok (.aload_n 0, 1) := by decide +kernel
theorem dX3_init_20 : decode cX3_init 20 = .ok (.aload_n 1, 1) := by decide +kernel
theorem dX3_init_21 : decode cX3_init 21 = .ok (.putfield 18, 3) := by decide +kernel
theorem dX3_init_24 : decode cX3_init 24 = .ok (.return_, 1) := by decide +kernel
theorem dX3_settleNow_0 : decode cX3_settleNow 0 = .ok (.aload_n 0, 1) := by decide +kernel
theorem dX3_settleNow_1 : decode cX3_settleNow 1 = .ok (.iconst 1, 1) := by decide +kernel
theorem dX3_settleNow_2 : decode cX3_settleNow 2 = .ok (.putfield 22, 3) := by decide +kernel
theorem dX3_settleNow_5 : decode cX3_settleNow 5 = .ok (.aload_n 0, 1) := by decide +kernel
theorem dX3_settleNow_6 : decode cX3_settleNow 6 = .ok (.aload_n 0, 1) := by decide +kernel
theorem dX3_settleNow_7 : decode cX3_settleNow 7 = .ok (.getfield 18, 3) := by decide +kernel
theorem dX3_settleNow_10 : decode cX3_settleNow 10 = .ok (.getfield 26, 3) := by decide +kernel
theorem dX3_settleNow_13 : decode cX3_settleNow 13 = .ok (.aload_n 0, 1) := by decide +kernel
theorem dX3_settleNow_14 : decode cX3_settleNow 14 = .ok (.getfield 18, 3) := by decide +kernel
theorem dX3_settleNow_17 : decode cX3_settleNow 17 = .ok (.getfield 31, 3) := by decide +kernel
theorem dX3_settleNow_20 : decode cX3_settleNow 20 = .ok (.invokevirtual 34, 3) := by decide +kernel
theorem dX3_settleNow_23 : decode cX3_settleNow 23 = .ok (.aload_n 0, 1) := by decide +kernel
theorem dX3_settleNow_24 : decode cX3_settleNow 24 = .ok (.invokevirtual 38, 3) := by decide +kernel
theorem dX3_settleNow_27 : decode cX3_settleNow 27 = .ok (.aload_n 0, 1) := by decide +kernel
theorem dX3_settleNow_28 : decode cX3_settleNow 28 = .ok (.aload_n 0, 1) := by decide +kernel
theorem dX3_settleNow_29 : decode cX3_settleNow 29 = .ok (.getfield 18, 3) := by decide +kernel
theorem dX3_settleNow_32 : decode cX3_settleNow 32 = .ok (.getfield 26, 3) := by decide +kernel
theorem dX3_settleNow_35 : decode cX3_settleNow 35 = .ok (.aload_n 0, 1) := by decide +kernel
theorem dX3_settleNow_36 : decode cX3_settleNow 36 = .ok (.getfield 18, 3) := by decide +kernel
theorem dX3_settleNow_39 : decode cX3_settleNow 39 = .ok (.getfield 31, 3) := by decide +kernel
theorem dX3_settleNow_42 : decode cX3_settleNow 42 = .ok (.invokevirtual 41, 3) := by decide +kernel
theorem dX3_settleNow_45 : decode cX3_settleNow 45 = .ok (.aload_n 0, 1) := by decide +kernel
theorem dX3_settleNow_46 : decode cX3_settleNow 46 = .ok (.aload_n 0, 1) := by decide +kernel
theorem dX3_settleNow_47 : decode cX3_settleNow 47 = .ok (.getfield 18, 3) := by decide +kernel
theorem dX3_settleNow_50 : decode cX3_settleNow 50 = .ok (.getfield 26, 3) := by decide +kernel
theorem dX3_settleNow_53 : decode cX3_settleNow 53 = .ok (.aload_n 0, 1) := by decide +kernel
theorem dX3_settleNow_54 : decode cX3_settleNow 54 = .ok (.getfield 18, 3) := by decide +kernel
theorem dX3_settleNow_57 : decode cX3_settleNow 57 = .ok (.getfield 31, 3) := by decide +kernel
theorem dX3_settleNow_60 : decode cX3_settleNow 60 = .ok (.invokevirtual 44, 3) := by decide +kernel
theorem dX3_settleNow_63 : decode cX3_settleNow 63 = .ok (.return_, 1) := by decide +kernel
theorem dX3_settleInTest_0 : decode cX3_settleInTest 0 = .ok (.aload_n 0, 1) := by decide +kernel
theorem dX3_settleInTest_1 : decode cX3_settleInTest 1 = .ok (.iload_n 2, 1) := by decide +kernel
theorem dX3_settleInTest_2 : decode cX3_settleInTest 2 = .ok (.putfield 22, 3) := by decide +kernel
theorem dX3_settleInTest_5 : decode cX3_settleInTest 5 = .ok (.aload_n 0, 1) := by decide +kernel
theorem dX3_settleInTest_6 : decode cX3_settleInTest 6 = .ok (.aload_n 3, 1) := by decide +kernel
theorem dX3_settleInTest_7 : decode cX3_settleInTest 7 = .ok (.iload 4, 2) := by decide +kernel
theorem dX3_settleInTest_9 : decode cX3_settleInTest 9 = .ok (.invokevirtual 34, 3) := by decide +kernel
theorem dX3_settleInTest_12 : decode cX3_settleInTest 12 = .ok (.aload_n 0, 1) := by decide +kernel
theorem dX3_settleInTest_13 : decode cX3_settleInTest 13 = .ok (.aload_n 1, 1) := by decide +kernel
theorem dX3_settleInTest_14 : decode cX3_settleInTest 14 = .ok (.aload_n 0, 1) := by decide +kernel
theorem dX3_settleInTest_15 : decode cX3_settleInTest 15 = .ok (.getfield 47, 3) := by decide +kernel
theorem dX3_settleInTest_18 : decode cX3_settleInTest 18 = .ok (.ifCond .eq 10, 3) := by decide +kernel
theorem dX3_settleInTest_21 : decode cX3_settleInTest 21 = .ok (.aload_n 0, 1) := by decide +kernel
theorem dX3_settleInTest_22 : decode cX3_settleInTest 22 = .ok (.invokevirtual 51, 3) := by decide +kernel
theorem dX3_settleInTest_25 : decode cX3_settleInTest 25 = .ok (.goto 10, 3) := by decide +kernel
theorem dX3_settleInTest_28 : decode cX3_settleInTest 28 = .ok (.aload_n 0, 1) := by decide +kernel
theorem dX3_settleInTest_29 : decode cX3_settleInTest 29 = .ok (.getfield 18, 3) := by decide +kernel
theorem dX3_settleInTest_32 : decode cX3_settleInTest 32 = .ok (.getfield 55, 3) := by decide +kernel
theorem dX3_settleInTest_35 : decode cX3_settleInTest 35 = .ok (.invokevirtual 58, 3) := by decide +kernel
theorem dX3_settleInTest_38 : decode cX3_settleInTest 38 = .ok (.aload_n 0, 1) := by decide +kernel
theorem dX3_settleInTest_39 : decode cX3_settleInTest 39 = .ok (.aload_n 3, 1) := by decide +kernel
theorem dX3_settleInTest_40 : decode cX3_settleInTest 40 = .ok (.iload 4, 2) := by decide +kernel
theorem dX3_settleInTest_42 : decode cX3_settleInTest 42 = .ok (.invokevirtual 41, 3) := by decide +kernel
theorem dX3_settleInTest_45 : decode cX3_settleInTest 45 = .ok (.aload_n 0, 1) := by decide +kernel
theorem dX3_settleInTest_46 : decode cX3_settleInTest 46 = .ok (.aload_n 3, 1) := by decide +kernel
theorem dX3_settleInTest_47 : decode cX3_settleInTest 47 = .ok (.iload 4, 2) := by decide +kernel
theorem dX3_settleInTest_49 : decode cX3_settleInTest 49 = .ok (.invokevirtual 44, 3) := by decide +kernel
theorem dX3_settleInTest_52 : decode cX3_settleInTest 52 = .ok (.return_, 1) := by decide +kernel
theorem dX3_findOpenCells_0 : decode cX3_findOpenCells 0 = .ok (.aload_n 0, 1) := by decide +kernel
theorem dX3_findOpenCells_1 : decode cX3_findOpenCells 1 = .ok (.iconst 0, 1) := by decide +kernel
theorem dX3_findOpenCells_2 : decode cX3_findOpenCells 2 = .ok (.putfield 47, 3) := by decide +kernel
theorem dX3_findOpenCells_5 : decode cX3_findOpenCells 5 = .ok (.iconst 0, 1) := by decide +kernel
theorem dX3_findOpenCells_6 : decode cX3_findOpenCells 6 = .ok (.istore_n 3, 1) := by decide +kernel
theorem dX3_findOpenCells_7 : decode cX3_findOpenCells 7 = .ok (.iload_n 3, 1) := by decide +kernel
theorem dX3_findOpenCells_8 : decode cX3_findOpenCells 8 = .ok (.iconst 4, 1) := by decide +kernel
theorem dX3_findOpenCells_9 : decode cX3_findOpenCells 9 = .ok (.if_icmp .ge 16, 3) := by decide +kernel
theorem dX3_findOpenCells_12 : decode cX3_findOpenCells 12 = .ok (.aload_n 0, 1) := by decide +kernel
theorem dX3_findOpenCells_13 : decode cX3_findOpenCells 13 = .ok (.getfield 15, 3) := by decide +kernel
theorem dX3_findOpenCells_16 : decode cX3_findOpenCells 16 = .ok (.iload_n 3, 1) := by decide +kernel
theorem dX3_findOpenCells_17 : decode cX3_findOpenCells 17 = .ok (.iconst 0, 1) := by decide +kernel
theorem dX3_findOpenCells_18 : decode cX3_findOpenCells 18 = .ok (.iastore, 1) := by decide +kernel
theorem dX3_findOpenCells_19 : decode cX3_findOpenCells 19 = .ok (.iinc 3 1, 3) := by decide +kernel
theorem dX3_findOpenCells_22 : decode cX3_findOpenCells 22 = .ok (.goto (-15), 3) := by decide +kernel
theorem dX3_findOpenCells_25 : decode cX3_findOpenCells 25 = .ok (.iconst 0, 1) := by decide +kernel
theorem dX3_findOpenCells_26 : decode cX3_findOpenCells 26 = .ok (.istore_n 3, 1) := by decide +kernel
theorem dX3_findOpenCells_27 : decode cX3_findOpenCells 27 = .ok (.iload_n 3, 1) := by decide +kernel
theorem dX3_findOpenCells_28 : decode cX3_findOpenCells 28 = .ok (.iload_n 2, 1) := by decide +kernel
theorem dX3_findOpenCells_29 : decode cX3_findOpenCells 29 = .ok (.if_icmp .ge 46, 3) := by decide +kernel
theorem dX3_findOpenCells_32 : decode cX3_findOpenCells 32 = .ok (.aload_n 1, 1) := by decide +kernel
theorem dX3_findOpenCells_33 : decode cX3_findOpenCells 33 = .ok (.iload_n 3, 1) := by decide +kernel
theorem dX3_findOpenCells_34 : decode cX3_findOpenCells 34 = .ok (.iaload, 1) := by decide +kernel
theorem dX3_findOpenCells_35 : decode cX3_findOpenCells 35 = .ok (.invokestatic 61, 3) := by decide +kernel
theorem dX3_findOpenCells_38 : decode cX3_findOpenCells 38 = .ok (.iconst 1, 1) := by decide +kernel
theorem dX3_findOpenCells_39 : decode cX3_findOpenCells 39 = .ok (.if_icmp .ne 30, 3) := by decide +kernel
theorem dX3_findOpenCells_42 : decode cX3_findOpenCells 42 = .ok (.aload_n 0, 1) := by decide +kernel
theorem dX3_findOpenCells_43 : decode cX3_findOpenCells 43 = .ok (.iconst 1, 1) := by decide +kernel
theorem dX3_findOpenCells_44 : decode cX3_findOpenCells 44 = .ok (.putfield 47, 3) := by decide +kernel
theorem dX3_findOpenCells_47 : decode cX3_findOpenCells 47 = .ok (.aload_n 0, 1) := by decide +kernel
theorem dX3_findOpenCells_48 : decode cX3_findOpenCells 48 = .ok (.getfield 15, 3) := by decide +kernel
theorem dX3_findOpenCells_51 : decode cX3_findOpenCells 51 = .ok (.aload_n 1, 1) := by decide +kernel
theorem dX3_findOpenCells_52 : decode cX3_findOpenCells 52 = .ok (.iload_n 3, 1) := by decide +kernel
theorem dX3_findOpenCells_53 : decode cX3_findOpenCells 53 = .ok (.iaload, 1) := by decide +kernel
theorem dX3_findOpenCells_54 : decode cX3_findOpenCells 54 = .ok (.invokestatic 65, 3) := by decide +kernel
theorem dX3_findOpenCells_57 : decode cX3_findOpenCells 57 = .ok (.dup2, 1) := by decide +kernel
theorem dX3_findOpenCells_58 : decode cX3_findOpenCells 58 = .ok (.iaload, 1) := by decide +kernel
theorem dX3_findOpenCells_59 : decode cX3_findOpenCells 59 = .ok (.iconst 1, 1) := by decide +kernel
theorem dX3_findOpenCells_60 : decode cX3_findOpenCells 60 = .ok (.aload_n 1, 1) := by decide +kernel
theorem dX3_findOpenCells_61 : decode cX3_findOpenCells 61 = .ok (.iload_n 3, 1) := by decide +kernel
theorem dX3_findOpenCells_62 : decode cX3_findOpenCells 62 = .ok (.iaload, 1) := by decide +kernel
theorem dX3_findOpenCells_63 : decode cX3_findOpenCells 63 = .ok (.invokestatic 68, 3) := by decide +kernel
theorem dX3_findOpenCells_66 : decode cX3_findOpenCells 66 = .ok (.ishl, 1) := by decide +kernel
theorem dX3_findOpenCells_67 : decode cX3_findOpenCells 67 = .ok (.ior, 1) := by decide +kernel
theorem dX3_findOpenCells_68 : decode cX3_findOpenCells 68 = .ok (.iastore, 1) := by decide +kernel
theorem dX3_findOpenCells_69 : decode cX3_findOpenCells 69 = .ok (.iinc 3 1, 3) := by decide +kernel
theorem dX3_findOpenCells_72 : decode cX3_findOpenCells 72 = .ok (.goto (-45), 3) := by decide +kernel
theorem dX3_findOpenCells_75 : decode cX3_findOpenCells 75 = .ok (.return_, 1) := by decide +kernel
theorem dX3_soundOutputs_0 : decode cX3_soundOutputs 0 = .ok (.aload_n 0, 1) := by decide +kernel
theorem dX3_soundOutputs_1 : decode cX3_soundOutputs 1 = .ok (.getfield 18, 3) := by decide +kernel
theorem dX3_soundOutputs_4 : decode cX3_soundOutputs 4 = .ok (.getfield 71, 3) := by decide +kernel
theorem dX3_soundOutputs_7 : decode cX3_soundOutputs 7 = .ok (.iload_n 1, 1) := by decide +kernel
theorem dX3_soundOutputs_8 : decode cX3_soundOutputs 8 = .ok (.aaload, 1) := by decide +kernel
theorem dX3_soundOutputs_9 : decode cX3_soundOutputs 9 = .ok (.getfield 75, 3) := by decide +kernel
theorem dX3_soundOutputs_12 : decode cX3_soundOutputs 12 = .ok (.aload_n 0, 1) := by decide +kernel
theorem dX3_soundOutputs_13 : decode cX3_soundOutputs 13 = .ok (.getfield 15, 3) := by decide +kernel
theorem dX3_soundOutputs_16 : decode cX3_soundOutputs 16 = .ok (.iload_n 1, 1) := by decide +kernel
theorem dX3_soundOutputs_17 : decode cX3_soundOutputs 17 = .ok (.iaload, 1) := by decide +kernel
theorem dX3_soundOutputs_18 : decode cX3_soundOutputs 18 = .ok (.iconst (-1), 1) := by decide +kernel
theorem dX3_soundOutputs_19 : decode cX3_soundOutputs 19 = .ok (.ixor, 1) := by decide +kernel
theorem dX3_soundOutputs_20 : decode cX3_soundOutputs 20 = .ok (.iand, 1) := by decide +kernel
theorem dX3_soundOutputs_21 : decode cX3_soundOutputs 21 = .ok (.ireturn, 1) := by decide +kernel
theorem dX3_driveByLatches_0 : decode cX3_driveByLatches 0 = .ok (.iconst 0, 1) := by decide +kernel
theorem dX3_driveByLatches_1 : decode cX3_driveByLatches 1 = .ok (.istore_n 1, 1) := by decide +kernel
theorem dX3_driveByLatches_2 : decode cX3_driveByLatches 2 = .ok (.iconst 0, 1) := by decide +kernel
theorem dX3_driveByLatches_3 : decode cX3_driveByLatches 3 = .ok (.istore_n 2, 1) := by decide +kernel
theorem dX3_driveByLatches_4 : decode cX3_driveByLatches 4 = .ok (.iconst 0, 1) := by decide +kernel
theorem dX3_driveByLatches_5 : decode cX3_driveByLatches 5 = .ok (.istore_n 3, 1) := by decide +kernel
theorem dX3_driveByLatches_6 : decode cX3_driveByLatches 6 = .ok (.iload_n 3, 1) := by decide +kernel
theorem dX3_driveByLatches_7 : decode cX3_driveByLatches 7 = .ok (.aload_n 0, 1) := by decide +kernel
theorem dX3_driveByLatches_8 : decode cX3_driveByLatches 8 = .ok (.getfield 18, 3) := by decide +kernel
theorem dX3_driveByLatches_11 : decode cX3_driveByLatches 11 = .ok (.getfield 80, 3) := by decide +kernel
theorem dX3_driveByLatches_14 : decode cX3_driveByLatches 14 = .ok (.if_icmp .ge 113, 3) := by decide +kernel
theorem dX3_driveByLatches_17 : decode cX3_driveByLatches 17 = .ok (.aload_n 0, 1) := by decide +kernel
theorem dX3_driveByLatches_18 : decode cX3_driveByLatches 18 = .ok (.getfield 18, 3) := by decide +kernel
theorem dX3_driveByLatches_21 : decode cX3_driveByLatches 21 = .ok (.getfield 71, 3) := by decide +kernel
theorem dX3_driveByLatches_24 : decode cX3_driveByLatches 24 = .ok (.iload_n 3, 1) := by decide +kernel
theorem dX3_driveByLatches_25 : decode cX3_driveByLatches 25 = .ok (.aaload, 1) := by decide +kernel
theorem dX3_driveByLatches_26 : decode cX3_driveByLatches 26 = .ok (.astore 4, 2) := by decide +kernel
theorem dX3_driveByLatches_28 : decode cX3_driveByLatches 28 = .ok (.aload 4, 2) := by decide +kernel
theorem dX3_driveByLatches_30 : decode cX3_driveByLatches 30 = .ok (.getfield 83, 3) := by decide +kernel
theorem dX3_driveByLatches_33 : decode cX3_driveByLatches 33 = .ok (.ifCond .ne 11, 3) := by decide +kernel
theorem dX3_driveByLatches_36 : decode cX3_driveByLatches 36 = .ok (.aload_n 0, 1) := by decide +kernel
theorem dX3_driveByLatches_37 : decode cX3_driveByLatches 37 = .ok (.iload_n 3, 1) := by decide +kernel
theorem dX3_driveByLatches_38 : decode cX3_driveByLatches 38 = .ok (.invokevirtual 86, 3) := by decide +kernel
theorem dX3_driveByLatches_41 : decode cX3_driveByLatches 41 = .ok (.goto 4, 3) := by decide +kernel
theorem dX3_driveByLatches_44 : decode cX3_driveByLatches 44 = .ok (.iconst 0, 1) := by decide +kernel
theorem dX3_driveByLatches_45 : decode cX3_driveByLatches 45 = .ok (.istore 5, 2) := by decide +kernel
theorem dX3_driveByLatches_47 : decode cX3_driveByLatches 47 = .ok (.iconst 0, 1) := by decide +kernel
theorem dX3_driveByLatches_48 : decode cX3_driveByLatches 48 = .ok (.istore 6, 2) := by decide +kernel
theorem dX3_driveByLatches_50 : decode cX3_driveByLatches 50 = .ok (.iload 6, 2) := by decide +kernel
theorem dX3_driveByLatches_52 : decode cX3_driveByLatches 52 = .ok (.aload 4, 2) := by decide +kernel
theorem dX3_driveByLatches_54 : decode cX3_driveByLatches 54 = .ok (.getfield 89, 3) := by decide +kernel
theorem dX3_driveByLatches_57 : decode cX3_driveByLatches 57 = .ok (.if_icmp .ge 64, 3) := by decide +kernel
theorem dX3_driveByLatches_60 : decode cX3_driveByLatches 60 = .ok (.iload 5, 2) := by decide +kernel
theorem dX3_driveByLatches_62 : decode cX3_driveByLatches 62 = .ok (.aload 4, 2) := by decide +kernel
theorem dX3_driveByLatches_64 : decode cX3_driveByLatches 64 = .ok (.getfield 92, 3) := by decide +kernel
theorem dX3_driveByLatches_67 : decode cX3_driveByLatches 67 = .ok (.iand, 1) := by decide +kernel
theorem dX3_driveByLatches_68 : decode cX3_driveByLatches 68 = .ok (.iload 6, 2) := by decide +kernel
theorem dX3_driveByLatches_70 : decode cX3_driveByLatches 70 = .ok (.invokestatic 95, 3) := by decide +kernel
theorem dX3_driveByLatches_73 : decode cX3_driveByLatches 73 = .ok (.ifCond .eq 19, 3) := by decide +kernel
theorem dX3_driveByLatches_76 : decode cX3_driveByLatches 76 = .ok (.iload_n 2, 1) := by decide +kernel
theorem dX3_driveByLatches_77 : decode cX3_driveByLatches 77 = .ok (.iconst 1, 1) := by decide +kernel
theorem dX3_driveByLatches_78 : decode cX3_driveByLatches 78 = .ok (.aload 4, 2) := by decide +kernel
theorem dX3_driveByLatches_80 : decode cX3_driveByLatches 80 = .ok (.getfield 99, 3) := by decide +kernel
theorem dX3_driveByLatches_83 : decode cX3_driveByLatches 83 = .ok (.iload 6, 2) := by decide +kernel
theorem dX3_driveByLatches_85 : decode cX3_driveByLatches 85 = .ok (.iaload, 1) := by decide +kernel
theorem dX3_driveByLatches_86 : decode cX3_driveByLatches 86 = .ok (.ishl, 1) := by decide +kernel
theorem dX3_driveByLatches_87 : decode cX3_driveByLatches 87 = .ok (.ior, 1) := by decide +kernel
theorem dX3_driveByLatches_88 : decode cX3_driveByLatches 88 = .ok (.istore_n 2, 1) := by decide +kernel
theorem dX3_driveByLatches_89 : decode cX3_driveByLatches 89 = .ok (.goto 26, 3) := by decide +kernel
theorem dX3_driveByLatches_92 : decode cX3_driveByLatches 92 = .ok (.iload 5, 2) := by decide +kernel
theorem dX3_driveByLatches_94 : decode cX3_driveByLatches 94 = .ok (.iload 6, 2) := by decide +kernel
theorem dX3_driveByLatches_96 : decode cX3_driveByLatches 96 = .ok (.invokestatic 95, 3) := by decide +kernel
theorem dX3_driveByLatches_99 : decode cX3_driveByLatches 99 = .ok (.ifCond .eq 16, 3) := by decide +kernel
theorem dX3_driveByLatches_102 : decode cX3_driveByLatches 102 = .ok (.iload_n 1, 1) := by decide +kernel
theorem dX3_driveByLatches_103 : decode cX3_driveByLatches 103 = .ok (.iconst 1, 1) := by decide +kernel
theorem dX3_driveByLatches_104 : decode cX3_driveByLatches 104 = .ok (.aload 4, 2) := by decide +kernel
theorem dX3_driveByLatches_106 : decode cX3_driveByLatches 106 = .ok (.getfield 99, 3) := by decide +kernel
theorem dX3_driveByLatches_109 : decode cX3_driveByLatches 109 = .ok (.iload 6, 2) := by decide +kernel
theorem dX3_driveByLatches_111 : decode cX3_driveByLatches 111 = .ok (.iaload, 1) := by decide +kernel
theorem dX3_driveByLatches_112 : decode cX3_driveByLatches 112 = .ok (.ishl, 1) := by decide +kernel
theorem dX3_driveByLatches_113 : decode cX3_driveByLatches 113 = .ok (.ior, 1) := by decide +kernel
theorem dX3_driveByLatches_114 : decode cX3_driveByLatches 114 = .ok (.istore_n 1, 1) := by decide +kernel
theorem dX3_driveByLatches_115 : decode cX3_driveByLatches 115 = .ok (.iinc 6 1, 3) := by decide +kernel
theorem dX3_driveByLatches_118 : decode cX3_driveByLatches 118 = .ok (.goto (-68), 3) := by decide +kernel
theorem dX3_driveByLatches_121 : decode cX3_driveByLatches 121 = .ok (.iinc 3 1, 3) := by decide +kernel
theorem dX3_driveByLatches_124 : decode cX3_driveByLatches 124 = .ok (.goto (-118), 3) := by decide +kernel
theorem dX3_driveByLatches_127 : decode cX3_driveByLatches 127 = .ok (.aload_n 0, 1) := by decide +kernel
theorem dX3_driveByLatches_128 : decode cX3_driveByLatches 128 = .ok (.iload_n 1, 1) := by decide +kernel
theorem dX3_driveByLatches_129 : decode cX3_driveByLatches 129 = .ok (.iload_n 2, 1) := by decide +kernel
theorem dX3_driveByLatches_130 : decode cX3_driveByLatches 130 = .ok (.iand, 1) := by decide +kernel
theorem dX3_driveByLatches_131 : decode cX3_driveByLatches 131 = .ok (.putfield 102, 3) := by decide +kernel
theorem dX3_driveByLatches_134 : decode cX3_driveByLatches 134 = .ok (.iconst 0, 1) := by decide +kernel
theorem dX3_driveByLatches_135 : decode cX3_driveByLatches 135 = .ok (.istore_n 3, 1) := by decide +kernel
theorem dX3_driveByLatches_136 : decode cX3_driveByLatches 136 = .ok (.iload_n 3, 1) := by decide +kernel
theorem dX3_driveByLatches_137 : decode cX3_driveByLatches 137 = .ok (.bipush 8, 2) := by decide +kernel
theorem dX3_driveByLatches_139 : decode cX3_driveByLatches 139 = .ok (.if_icmp .ge 28, 3) := by decide +kernel
theorem dX3_driveByLatches_142 : decode cX3_driveByLatches 142 = .ok (.aload_n 0, 1) := by decide +kernel
theorem dX3_driveByLatches_143 : decode cX3_driveByLatches 143 = .ok (.getfield 9, 3) := by decide +kernel
theorem dX3_driveByLatches_146 : decode cX3_driveByLatches 146 = .ok (.iload_n 3, 1) := by decide +kernel
theorem dX3_driveByLatches_147 : decode cX3_driveByLatches 147 = .ok (.iload_n 1, 1) := by decide +kernel
theorem dX3_driveByLatches_148 : decode cX3_driveByLatches 148 = .ok (.iload_n 3, 1) := by decide +kernel
theorem dX3_driveByLatches_149 : decode cX3_driveByLatches 149 = .ok (.invokestatic 95, 3) := by decide +kernel
theorem dX3_driveByLatches_152 : decode cX3_driveByLatches 152 = .ok (.ifCond .eq 7, 3) := by decide +kernel
theorem dX3_driveByLatches_155 : decode cX3_driveByLatches 155 = .ok (.iconst 0, 1) := by decide +kernel
theorem dX3_driveByLatches_156 : decode cX3_driveByLatches 156 = .ok (.goto 4, 3) := by decide +kernel
theorem dX3_driveByLatches_159 : decode cX3_driveByLatches 159 = .ok (.iconst 1, 1) := by decide +kernel
theorem dX3_driveByLatches_160 : decode cX3_driveByLatches 160 = .ok (.iastore, 1) := by decide +kernel
theorem dX3_driveByLatches_161 : decode cX3_driveByLatches 161 = .ok (.iinc 3 1, 3) := by decide +kernel
theorem dX3_driveByLatches_164 : decode cX3_driveByLatches 164 = .ok (.goto (-28), 3) := by decide +kernel
theorem dX3_driveByLatches_167 : decode cX3_driveByLatches 167 = .ok (.return_, 1) := by decide +kernel
theorem dX3_netsOfSoundOutputs_0 : decode cX3_netsOfSoundOutputs 0 = .ok (.iconst 0, 1) := by decide +kernel
theorem dX3_netsOfSoundOutputs_1 : decode cX3_netsOfSoundOutputs 1 = .ok (.istore_n 1, 1) := by decide +kernel
theorem dX3_netsOfSoundOutputs_2 : decode cX3_netsOfSoundOutputs 2 = .ok (.iconst 0, 1) := by decide +kernel
theorem dX3_netsOfSoundOutputs_3 : decode cX3_netsOfSoundOutputs 3 = .ok (.istore_n 2, 1) := by decide +kernel
theorem dX3_netsOfSoundOutputs_4 : decode cX3_netsOfSoundOutputs 4 = .ok (.iload_n 2, 1) := by decide +kernel
theorem dX3_netsOfSoundOutputs_5 : decode cX3_netsOfSoundOutputs 5 = .ok (.aload_n 0, 1) := by decide +kernel
theorem dX3_netsOfSoundOutputs_6 : decode cX3_netsOfSoundOutputs 6 = .ok (.getfield 18, 3) := by decide +kernel
theorem dX3_netsOfSoundOutputs_9 : decode cX3_netsOfSoundOutputs 9 = .ok (.getfield 80, 3) := by decide +kernel
theorem dX3_netsOfSoundOutputs_12 : decode cX3_netsOfSoundOutputs 12 = .ok (.if_icmp .ge 66, 3) := by decide +kernel
theorem dX3_netsOfSoundOutputs_15 : decode cX3_netsOfSoundOutputs 15 = .ok (.aload_n 0, 1) := by decide +kernel
theorem dX3_netsOfSoundOutputs_16 : decode cX3_netsOfSoundOutputs 16 = .ok (.getfield 18, 3) := by decide +kernel
theorem dX3_netsOfSoundOutputs_19 : decode cX3_netsOfSoundOutputs 19 = .ok (.getfield 71, 3) := by decide +kernel
theorem dX3_netsOfSoundOutputs_22 : decode cX3_netsOfSoundOutputs 22 = .ok (.iload_n 2, 1) := by decide +kernel
theorem dX3_netsOfSoundOutputs_23 : decode cX3_netsOfSoundOutputs 23 = .ok (.aaload, 1) := by decide +kernel
theorem dX3_netsOfSoundOutputs_24 : decode cX3_netsOfSoundOutputs 24 = .ok (.astore_n 3, 1) := by decide +kernel
theorem dX3_netsOfSoundOutputs_25 : decode cX3_netsOfSoundOutputs 25 = .ok (.aload_n 0, 1) := by decide +kernel
theorem dX3_netsOfSoundOutputs_26 : decode cX3_netsOfSoundOutputs 26 = .ok (.iload_n 2, 1) := by decide +kernel
theorem dX3_netsOfSoundOutputs_27 : decode cX3_netsOfSoundOutputs 27 = .ok (.invokevirtual 86, 3) := by decide +kernel
theorem dX3_netsOfSoundOutputs_30 : decode cX3_netsOfSoundOutputs 30 = .ok (.istore 4, 2) := by decide +kernel
theorem dX3_netsOfSoundOutputs_32 : decode cX3_netsOfSoundOutputs 32 = .ok (.iconst 0, 1) := by decide +kernel
theorem dX3_netsOfSoundOutputs_33 : decode cX3_netsOfSoundOutputs 33 = .ok (.istore 5, 2) := by decide +kernel
theorem dX3_netsOfSoundOutputs_35 : decode cX3_netsOfSoundOutputs 35 = .ok (.iload 5, 2) := by decide +kernel
theorem dX3_netsOfSoundOutputs_37 : decode cX3_netsOfSoundOutputs 37 = .ok (.aload_n 3, 1) := by decide +kernel
theorem dX3_netsOfSoundOutputs_38 : decode cX3_netsOfSoundOutputs 38 = .ok (.getfield 89, 3) := by decide +kernel
theorem dX3_netsOfSoundOutputs_41 : decode cX3_netsOfSoundOutputs 41 = .ok (.if_icmp .ge 31, 3) := by decide +kernel
theorem dX3_netsOfSoundOutputs_44 : decode cX3_netsOfSoundOutputs 44 = .ok (.iload 4, 2) := by decide +kernel
theorem dX3_netsOfSoundOutputs_46 : decode cX3_netsOfSoundOutputs 46 = .ok (.iload 5, 2) := by decide +kernel
theorem dX3_netsOfSoundOutputs_48 : decode cX3_netsOfSoundOutputs 48 = .ok (.invokestatic 95, 3) := by decide +kernel
theorem dX3_netsOfSoundOutputs_51 : decode cX3_netsOfSoundOutputs 51 = .ok (.ifCond .eq 15, 3) := by decide +kernel
theorem dX3_netsOfSoundOutputs_54 : decode cX3_netsOfSoundOutputs 54 = .ok (.iload_n 1, 1) := by decide +kernel
theorem dX3_netsOfSoundOutputs_55 : decode cX3_netsOfSoundOutputs 55 = .ok (.iconst 1, 1) := by decide +kernel
theorem dX3_netsOfSoundOutputs_56 : decode cX3_netsOfSoundOutputs 56 = .ok (.aload_n 3, 1) := by decide +kernel
theorem dX3_netsOfSoundOutputs_57 : decode cX3_netsOfSoundOutputs 57 = .ok (.getfield 99, 3) := by decide +kernel
theorem dX3_netsOfSoundOutputs_60 : decode cX3_netsOfSoundOutputs 60 = .ok (.iload 5, 2) := by decide +kernel
theorem dX3_netsOfSoundOutputs_62 : decode cX3_netsOfSoundOutputs 62 = .ok (.iaload, 1) := by decide +kernel
theorem dX3_netsOfSoundOutputs_63 : decode cX3_netsOfSoundOutputs 63 = .ok (.ishl, 1) := by decide +kernel
theorem dX3_netsOfSoundOutputs_64 : decode cX3_netsOfSoundOutputs 64 = .ok (.ior, 1) := by decide +kernel
theorem dX3_netsOfSoundOutputs_65 : decode cX3_netsOfSoundOutputs 65 = .ok (.istore_n 1, 1) := by decide +kernel
theorem dX3_netsOfSoundOutputs_66 : decode cX3_netsOfSoundOutputs 66 = .ok (.iinc 5 1, 3) := by decide +kernel
theorem dX3_netsOfSoundOutputs_69 : decode cX3_netsOfSoundOutputs 69 = .ok (.goto (-34), 3) := by decide +kernel
theorem dX3_netsOfSoundOutputs_72 : decode cX3_netsOfSoundOutputs 72 = .ok (.iinc 2 1, 3) := by decide +kernel
theorem dX3_netsOfSoundOutputs_75 : decode cX3_netsOfSoundOutputs 75 = .ok (.goto (-71), 3) := by decide +kernel
theorem dX3_netsOfSoundOutputs_78 : decode cX3_netsOfSoundOutputs 78 = .ok (.iload_n 1, 1) := by decide +kernel
theorem dX3_netsOfSoundOutputs_79 : decode cX3_netsOfSoundOutputs 79 = .ok (.ireturn, 1) := by decide +kernel
theorem dX3_driveByStimuli_0 : decode cX3_driveByStimuli 0 = .ok (.iconst 0, 1) := by decide +kernel
theorem dX3_driveByStimuli_1 : decode cX3_driveByStimuli 1 = .ok (.istore_n 3, 1) := by decide +kernel
theorem dX3_driveByStimuli_2 : decode cX3_driveByStimuli 2 = .ok (.iload_n 3, 1) := by decide +kernel
theorem dX3_driveByStimuli_3 : decode cX3_driveByStimuli 3 = .ok (.bipush 8, 2) := by decide +kernel
theorem dX3_driveByStimuli_5 : decode cX3_driveByStimuli 5 = .ok (.if_icmp .ge 33, 3) := by decide +kernel
theorem dX3_driveByStimuli_8 : decode cX3_driveByStimuli 8 = .ok (.aload_n 0, 1) := by decide +kernel
theorem dX3_driveByStimuli_9 : decode cX3_driveByStimuli 9 = .ok (.getfield 9, 3) := by decide +kernel
theorem dX3_driveByStimuli_12 : decode cX3_driveByStimuli 12 = .ok (.iload_n 3, 1) := by decide +kernel
theorem dX3_driveByStimuli_13 : decode cX3_driveByStimuli 13 = .ok (.iload_n 2, 1) := by decide +kernel
theorem dX3_driveByStimuli_14 : decode cX3_driveByStimuli 14 = .ok (.iload_n 3, 1) := by decide +kernel
theorem dX3_driveByStimuli_15 : decode cX3_driveByStimuli 15 = .ok (.invokestatic 95, 3) := by decide +kernel
theorem dX3_driveByStimuli_18 : decode cX3_driveByStimuli 18 = .ok (.ifCond .eq 9, 3) := by decide +kernel
theorem dX3_driveByStimuli_21 : decode cX3_driveByStimuli 21 = .ok (.aload_n 1, 1) := by decide +kernel
theorem dX3_driveByStimuli_22 : decode cX3_driveByStimuli 22 = .ok (.iload_n 3, 1) := by decide +kernel
theorem dX3_driveByStimuli_23 : decode cX3_driveByStimuli 23 = .ok (.iaload, 1) := by decide +kernel
theorem dX3_driveByStimuli_24 : decode cX3_driveByStimuli 24 = .ok (.goto 7, 3) := by decide +kernel
theorem dX3_driveByStimuli_27 : decode cX3_driveByStimuli 27 = .ok (.aload_n 0, 1) := by decide +kernel
theorem dX3_driveByStimuli_28 : decode cX3_driveByStimuli 28 = .ok (.getfield 22, 3) := by decide +kernel
theorem dX3_driveByStimuli_31 : decode cX3_driveByStimuli 31 = .ok (.iastore, 1) := by decide +kernel
theorem dX3_driveByStimuli_32 : decode cX3_driveByStimuli 32 = .ok (.iinc 3 1, 3) := by decide +kernel
theorem dX3_driveByStimuli_35 : decode cX3_driveByStimuli 35 = .ok (.goto (-33), 3) := by decide +kernel
theorem dX3_driveByStimuli_38 : decode cX3_driveByStimuli 38 = .ok (.return_, 1) := by decide +kernel
theorem dX3_applyShorts_0 : decode cX3_applyShorts 0 = .ok (.iconst 0, 1) := by decide +kernel
theorem dX3_applyShorts_1 : decode cX3_applyShorts 1 = .ok (.istore_n 3, 1) := by decide +kernel
theorem dX3_applyShorts_2 : decode cX3_applyShorts 2 = .ok (.iload_n 3, 1) := by decide +kernel
theorem dX3_applyShorts_3 : decode cX3_applyShorts 3 = .ok (.iload_n 2, 1) := by decide +kernel
theorem dX3_applyShorts_4 : decode cX3_applyShorts 4 = .ok (.if_icmp .ge 104, 3) := by decide +kernel
theorem dX3_applyShorts_7 : decode cX3_applyShorts 7 = .ok (.aload_n 1, 1) := by decide +kernel
theorem dX3_applyShorts_8 : decode cX3_applyShorts 8 = .ok (.iload_n 3, 1) := by decide +kernel
theorem dX3_applyShorts_9 : decode cX3_applyShorts 9 = .ok (.iaload, 1) := by decide +kernel
theorem dX3_applyShorts_10 : decode cX3_applyShorts 10 = .ok (.invokestatic 61, 3) := by decide +kernel
theorem dX3_applyShorts_13 : decode cX3_applyShorts 13 = .ok (.istore 4, 2) := by decide +kernel
theorem dX3_applyShorts_15 : decode cX3_applyShorts 15 = .ok (.iload 4, 2) := by decide +kernel
theorem dX3_applyShorts_17 : decode cX3_applyShorts 17 = .ok (.iconst 3, 1) := by decide +kernel
theorem dX3_applyShorts_18 : decode cX3_applyShorts 18 = .ok (.if_icmp .eq 9, 3) := by decide +kernel
theorem dX3_applyShorts_21 : decode cX3_applyShorts 21 = .ok (.iload 4, 2) := by decide +kernel
theorem dX3_applyShorts_23 : decode cX3_applyShorts 23 = .ok (.iconst 4, 1) := by decide +kernel
theorem dX3_applyShorts_24 : decode cX3_applyShorts 24 = .ok (.if_icmp .ne 78, 3) := by decide +kernel
theorem dX3_applyShorts_27 : decode cX3_applyShorts 27 = .ok (.aload_n 1, 1) := by decide +kernel
theorem dX3_applyShorts_28 : decode cX3_applyShorts 28 = .ok (.iload_n 3, 1) := by decide +kernel
theorem dX3_applyShorts_29 : decode cX3_applyShorts 29 = .ok (.iaload, 1) := by decide +kernel
theorem dX3_applyShorts_30 : decode cX3_applyShorts 30 = .ok (.invokestatic 65, 3) := by decide +kernel
theorem dX3_applyShorts_33 : decode cX3_applyShorts 33 = .ok (.istore 5, 2) := by decide +kernel
theorem dX3_applyShorts_35 : decode cX3_applyShorts 35 = .ok (.aload_n 1, 1) := by decide +kernel
theorem dX3_applyShorts_36 : decode cX3_applyShorts 36 = .ok (.iload_n 3, 1) := by decide +kernel
theorem dX3_applyShorts_37 : decode cX3_applyShorts 37 = .ok (.iaload, 1) := by decide +kernel
theorem dX3_applyShorts_38 : decode cX3_applyShorts 38 = .ok (.invokestatic 68, 3) := by decide +kernel
theorem dX3_applyShorts_41 : decode cX3_applyShorts 41 = .ok (.istore 6, 2) := by decide +kernel
theorem dX3_applyShorts_43 : decode cX3_applyShorts 43 = .ok (.iload 4, 2) := by decide +kernel
theorem dX3_applyShorts_45 : decode cX3_applyShorts 45 = .ok (.iconst 3, 1) := by decide +kernel
theorem dX3_applyShorts_46 : decode cX3_applyShorts 46 = .ok (.if_icmp .ne 21, 3) := by decide +kernel
theorem dX3_applyShorts_49 : decode cX3_applyShorts 49 = .ok (.aload_n 0, 1) := by decide +kernel
theorem dX3_applyShorts_50 : decode cX3_applyShorts 50 = .ok (.getfield 9, 3) := by decide +kernel
theorem dX3_applyShorts_53 : decode cX3_applyShorts 53 = .ok (.iload 5, 2) := by decide +kernel
theorem dX3_applyShorts_55 : decode cX3_applyShorts 55 = .ok (.iaload, 1) := by decide +kernel
theorem dX3_applyShorts_56 : decode cX3_applyShorts 56 = .ok (.aload_n 0, 1) := by decide +kernel
theorem dX3_applyShorts_57 : decode cX3_applyShorts 57 = .ok (.getfield 9, 3) := by decide +kernel
theorem dX3_applyShorts_60 : decode cX3_applyShorts 60 = .ok (.iload 6, 2) := by decide +kernel
theorem dX3_applyShorts_62 : decode cX3_applyShorts 62 = .ok (.iaload, 1) := by decide +kernel
theorem dX3_applyShorts_63 : decode cX3_applyShorts 63 = .ok (.iand, 1) := by decide +kernel
theorem dX3_applyShorts_64 : decode cX3_applyShorts 64 = .ok (.goto 18, 3) := by decide +kernel
theorem dX3_applyShorts_67 : decode cX3_applyShorts 67 = .ok (.aload_n 0, 1) := by decide +kernel
theorem dX3_applyShorts_68 : decode cX3_applyShorts 68 = .ok (.getfield 9, 3) := by decide +kernel
theorem dX3_applyShorts_71 : decode cX3_applyShorts 71 = .ok (.iload 5, 2) := by decide +kernel
theorem dX3_applyShorts_73 : decode cX3_applyShorts 73 = .ok (.iaload, 1) := by decide +kernel
theorem dX3_applyShorts_74 : decode cX3_applyShorts 74 = .ok (.aload_n 0, 1) := by decide +kernel
theorem dX3_applyShorts_75 : decode cX3_applyShorts 75 = .ok (.getfield 9, 3) := by decide +kernel
theorem dX3_applyShorts_78 : decode cX3_applyShorts 78 = .ok (.iload 6, 2) := by decide +kernel
theorem dX3_applyShorts_80 : decode cX3_applyShorts 80 = .ok (.iaload, 1) := by decide +kernel
theorem dX3_applyShorts_81 : decode cX3_applyShorts 81 = .ok (.ior, 1) := by decide +kernel
theorem dX3_applyShorts_82 : decode cX3_applyShorts 82 = .ok (.istore 7, 2) := by decide +kernel
theorem dX3_applyShorts_84 : decode cX3_applyShorts 84 = .ok (.aload_n 0, 1) := by decide +kernel
theorem dX3_applyShorts_85 : decode cX3_applyShorts 85 = .ok (.getfield 9, 3) := by decide +kernel
theorem dX3_applyShorts_88 : decode cX3_applyShorts 88 = .ok (.iload 5, 2) := by decide +kernel
theorem dX3_applyShorts_90 : decode cX3_applyShorts 90 = .ok (.iload 7, 2) := by decide +kernel
theorem dX3_applyShorts_92 : decode cX3_applyShorts 92 = .ok (.iastore, 1) := by decide +kernel
theorem dX3_applyShorts_93 : decode cX3_applyShorts 93 = .ok (.aload_n 0, 1) := by decide +kernel
theorem dX3_applyShorts_94 : decode cX3_applyShorts 94 = .ok (.getfield 9, 3) := by decide +kernel
theorem dX3_applyShorts_97 : decode cX3_applyShorts 97 = .ok (.iload 6, 2) := by decide +kernel
theorem dX3_applyShorts_99 : decode cX3_applyShorts 99 = .ok (.iload 7, 2) := by decide +kernel
theorem dX3_applyShorts_101 : decode cX3_applyShorts 101 = .ok (.iastore, 1) := by decide +kernel
theorem dX3_applyShorts_102 : decode cX3_applyShorts 102 = .ok (.iinc 3 1, 3) := by decide +kernel
theorem dX3_applyShorts_105 : decode cX3_applyShorts 105 = .ok (.goto (-103), 3) := by decide +kernel
theorem dX3_applyShorts_108 : decode cX3_applyShorts 108 = .ok (.return_, 1) := by decide +kernel
theorem dX3_applyStuck_0 : decode cX3_applyStuck 0 = .ok (.iconst 0, 1) := by decide +kernel
theorem dX3_applyStuck_1 : decode cX3_applyStuck 1 = .ok (.istore_n 3, 1) := by decide +kernel
theorem dX3_applyStuck_2 : decode cX3_applyStuck 2 = .ok (.iload_n 3, 1) := by decide +kernel
theorem dX3_applyStuck_3 : decode cX3_applyStuck 3 = .ok (.iload_n 2, 1) := by decide +kernel
theorem dX3_applyStuck_4 : decode cX3_applyStuck 4 = .ok (.if_icmp .ge 48, 3) := by decide +kernel
theorem dX3_applyStuck_7 : decode cX3_applyStuck 7 = .ok (.aload_n 1, 1) := by decide +kernel
theorem dX3_applyStuck_8 : decode cX3_applyStuck 8 = .ok (.iload_n 3, 1) := by decide +kernel
theorem dX3_applyStuck_9 : decode cX3_applyStuck 9 = .ok (.iaload, 1) := by decide +kernel
theorem dX3_applyStuck_10 : decode cX3_applyStuck 10 = .ok (.invokestatic 61, 3) := by decide +kernel
theorem dX3_applyStuck_13 : decode cX3_applyStuck 13 = .ok (.iconst 2, 1) := by decide +kernel
theorem dX3_applyStuck_14 : decode cX3_applyStuck 14 = .ok (.if_icmp .ne 32, 3) := by decide +kernel
theorem dX3_applyStuck_17 : decode cX3_applyStuck 17 = .ok (.aload_n 0, 1) := by decide +kernel
theorem dX3_applyStuck_18 : decode cX3_applyStuck 18 = .ok (.getfield 9, 3) := by decide +kernel
theorem dX3_applyStuck_21 : decode cX3_applyStuck 21 = .ok (.aload_n 1, 1) := by decide +kernel
theorem dX3_applyStuck_22 : decode cX3_applyStuck 22 = .ok (.iload_n 3, 1) := by decide +kernel
theorem dX3_applyStuck_23 : decode cX3_applyStuck 23 = .ok (.iaload, 1) := by decide +kernel
theorem dX3_applyStuck_24 : decode cX3_applyStuck 24 = .ok (.invokestatic 65, 3) := by decide +kernel
theorem dX3_applyStuck_27 : decode cX3_applyStuck 27 = .ok (.aload_n 1, 1) := by decide +kernel
theorem dX3_applyStuck_28 : decode cX3_applyStuck 28 = .ok (.iload_n 3, 1) := by decide +kernel
theorem dX3_applyStuck_29 : decode cX3_applyStuck 29 = .ok (.iaload, 1) := by decide +kernel
theorem dX3_applyStuck_30 : decode cX3_applyStuck 30 = .ok (.invokestatic 68, 3) := by decide +kernel
theorem dX3_applyStuck_33 : decode cX3_applyStuck 33 = .ok (.iconst 1, 1) := by decide +kernel
theorem dX3_applyStuck_34 : decode cX3_applyStuck 34 = .ok (.if_icmp .ne 10, 3) := by decide +kernel
theorem dX3_applyStuck_37 : decode cX3_applyStuck 37 = .ok (.aload_n 0, 1) := by decide +kernel
theorem dX3_applyStuck_38 : decode cX3_applyStuck 38 = .ok (.getfield 22, 3) := by decide +kernel
theorem dX3_applyStuck_41 : decode cX3_applyStuck 41 = .ok (.goto 4, 3) := by decide +kernel
theorem dX3_applyStuck_44 : decode cX3_applyStuck 44 = .ok (.iconst 0, 1) := by decide +kernel
theorem dX3_applyStuck_45 : decode cX3_applyStuck 45 = .ok (.iastore, 1) := by decide +kernel
theorem dX3_applyStuck_46 : decode cX3_applyStuck 46 = .ok (.iinc 3 1, 3) := by decide +kernel
theorem dX3_applyStuck_49 : decode cX3_applyStuck 49 = .ok (.goto (-47), 3) := by decide +kernel
theorem dX3_applyStuck_52 : decode cX3_applyStuck 52 = .ok (.return_, 1) := by decide +kernel
theorem dX3_seenBy_0 : decode cX3_seenBy 0 = .ok (.aload_n 0, 1) := by decide +kernel
theorem dX3_seenBy_1 : decode cX3_seenBy 1 = .ok (.getfield 15, 3) := by decide +kernel
theorem dX3_seenBy_4 : decode cX3_seenBy 4 = .ok (.iload_n 1, 1) := by decide +kernel
theorem dX3_seenBy_5 : decode cX3_seenBy 5 = .ok (.iaload, 1) := by decide +kernel
theorem dX3_seenBy_6 : decode cX3_seenBy 6 = .ok (.iload_n 2, 1) := by decide +kernel
theorem dX3_seenBy_7 : decode cX3_seenBy 7 = .ok (.invokestatic 95, 3) := by decide +kernel
theorem dX3_seenBy_10 : decode cX3_seenBy 10 = .ok (.ifCond .eq 10, 3) := by decide +kernel
theorem dX3_seenBy_13 : decode cX3_seenBy 13 = .ok (.aload_n 0, 1) := by decide +kernel
theorem dX3_seenBy_14 : decode cX3_seenBy 14 = .ok (.getfield 22, 3) := by decide +kernel
theorem dX3_seenBy_17 : decode cX3_seenBy 17 = .ok (.goto 22, 3) := by decide +kernel
theorem dX3_seenBy_20 : decode cX3_seenBy 20 = .ok (.aload_n 0, 1) := by decide +kernel
theorem dX3_seenBy_21 : decode cX3_seenBy 21 = .ok (.getfield 9, 3) := by decide +kernel
theorem dX3_seenBy_24 : decode cX3_seenBy 24 = .ok (.aload_n 0, 1) := by decide +kernel
theorem dX3_seenBy_25 : decode cX3_seenBy 25 = .ok (.getfield 18, 3) := by decide +kernel
theorem dX3_seenBy_28 : decode cX3_seenBy 28 = .ok (.getfield 71, 3) := by decide +kernel
theorem dX3_seenBy_31 : decode cX3_seenBy 31 = .ok (.iload_n 1, 1) := by decide +kernel
theorem dX3_seenBy_32 : decode cX3_seenBy 32 = .ok (.aaload, 1) := by decide +kernel
theorem dX3_seenBy_33 : decode cX3_seenBy 33 = .ok (.getfield 99, 3) := by decide +kernel
theorem dX3_seenBy_36 : decode cX3_seenBy 36 = .ok (.iload_n 2, 1) := by decide +kernel
theorem dX3_seenBy_37 : decode cX3_seenBy 37 = .ok (.iaload, 1) := by decide +kernel
theorem dX3_seenBy_38 : decode cX3_seenBy 38 = .ok (.iaload, 1) := by decide +kernel
theorem dX3_seenBy_39 : decode cX3_seenBy 39 = .ok (.ireturn, 1) := by decide +kernel
theorem dX3_seenByInputs_0 : decode cX3_seenByInputs 0 = .ok (.aload_n 0, 1) := by decide +kernel
theorem dX3_seenByInputs_1 : decode cX3_seenByInputs 1 = .ok (.getfield 18, 3) := by decide +kernel
theorem dX3_seenByInputs_4 : decode cX3_seenByInputs 4 = .ok (.getfield 71, 3) := by decide +kernel
theorem dX3_seenByInputs_7 : decode cX3_seenByInputs 7 = .ok (.iload_n 1, 1) := by decide +kernel
theorem dX3_seenByInputs_8 : decode cX3_seenByInputs 8 = .ok (.aaload, 1) := by decide +kernel
theorem dX3_seenByInputs_9 : decode cX3_seenByInputs 9 = .ok (.astore_n 2, 1) := by decide +kernel
theorem dX3_seenByInputs_10 : decode cX3_seenByInputs 10 = .ok (.iconst 0, 1) := by decide +kernel
theorem dX3_seenByInputs_11 : decode cX3_seenByInputs 11 = .ok (.istore_n 3, 1) := by decide +kernel
theorem dX3_seenByInputs_12 : decode cX3_seenByInputs 12 = .ok (.iconst 0, 1) := by decide +kernel
theorem dX3_seenByInputs_13 : decode cX3_seenByInputs 13 = .ok (.istore 4, 2) := by decide +kernel
theorem dX3_seenByInputs_15 : decode cX3_seenByInputs 15 = .ok (.iload 4, 2) := by decide +kernel
theorem dX3_seenByInputs_17 : decode cX3_seenByInputs 17 = .ok (.aload_n 2, 1) := by decide +kernel
theorem dX3_seenByInputs_18 : decode cX3_seenByInputs 18 = .ok (.getfield 89, 3) := by decide +kernel
theorem dX3_seenByInputs_21 : decode cX3_seenByInputs 21 = .ok (.if_icmp .ge 31, 3) := by decide +kernel
theorem dX3_seenByInputs_24 : decode cX3_seenByInputs 24 = .ok (.aload_n 2, 1) := by decide +kernel
theorem dX3_seenByInputs_25 : decode cX3_seenByInputs 25 = .ok (.iload 4, 2) := by decide +kernel
theorem dX3_seenByInputs_27 : decode cX3_seenByInputs 27 = .ok (.invokevirtual 105, 3) := by decide +kernel
theorem dX3_seenByInputs_30 : decode cX3_seenByInputs 30 = .ok (.ifCond .ne 16, 3) := by decide +kernel
theorem dX3_seenByInputs_33 : decode cX3_seenByInputs 33 = .ok (.iload_n 3, 1) := by decide +kernel
theorem dX3_seenByInputs_34 : decode cX3_seenByInputs 34 = .ok (.aload_n 0, 1) := by decide +kernel
theorem dX3_seenByInputs_35 : decode cX3_seenByInputs 35 = .ok (.iload_n 1, 1) := by decide +kernel
theorem dX3_seenByInputs_36 : decode cX3_seenByInputs 36 = .ok (.iload 4, 2) := by decide +kernel
theorem dX3_seenByInputs_38 : decode cX3_seenByInputs 38 = .ok (.invokevirtual 109, 3) := by decide +kernel
theorem dX3_seenByInputs_41 : decode cX3_seenByInputs 41 = .ok (.iload 4, 2) := by decide +kernel
theorem dX3_seenByInputs_43 : decode cX3_seenByInputs 43 = .ok (.ishl, 1) := by decide +kernel
theorem dX3_seenByInputs_44 : decode cX3_seenByInputs 44 = .ok (.ior, 1) := by decide +kernel
theorem dX3_seenByInputs_45 : decode cX3_seenByInputs 45 = .ok (.istore_n 3, 1) := by decide +kernel
theorem dX3_seenByInputs_46 : decode cX3_seenByInputs 46 = .ok (.iinc 4 1, 3) := by decide +kernel
theorem dX3_seenByInputs_49 : decode cX3_seenByInputs 49 = .ok (.goto (-34), 3) := by decide +kernel
theorem dX3_seenByInputs_52 : decode cX3_seenByInputs 52 = .ok (.iload_n 3, 1) := by decide +kernel
theorem dX3_seenByInputs_53 : decode cX3_seenByInputs 53 = .ok (.ireturn, 1) := by decide +kernel
theorem dX3_netsAtOne_0 : decode cX3_netsAtOne 0 = .ok (.iconst 0, 1) := by decide +kernel
theorem dX3_netsAtOne_1 : decode cX3_netsAtOne 1 = .ok (.istore_n 1, 1) := by decide +kernel
theorem dX3_netsAtOne_2 : decode cX3_netsAtOne 2 = .ok (.iconst 0, 1) := by decide +kernel
theorem dX3_netsAtOne_3 : decode cX3_netsAtOne 3 = .ok (.istore_n 2, 1) := by decide +kernel
theorem dX3_netsAtOne_4 : decode cX3_netsAtOne 4 = .ok (.iload_n 2, 1) := by decide +kernel
theorem dX3_netsAtOne_5 : decode cX3_netsAtOne 5 = .ok (.bipush 8, 2) := by decide +kernel
theorem dX3_netsAtOne_7 : decode cX3_netsAtOne 7 = .ok (.if_icmp .ge 20, 3) := by decide +kernel
theorem dX3_netsAtOne_10 : decode cX3_netsAtOne 10 = .ok (.iload_n 1, 1) := by decide +kernel
theorem dX3_netsAtOne_11 : decode cX3_netsAtOne 11 = .ok (.aload_n 0, 1) := by decide +kernel
theorem dX3_netsAtOne_12 : decode cX3_netsAtOne 12 = .ok (.getfield 9, 3) := by decide +kernel
theorem dX3_netsAtOne_15 : decode cX3_netsAtOne 15 = .ok (.iload_n 2, 1) := by decide +kernel
theorem dX3_netsAtOne_16 : decode cX3_netsAtOne 16 = .ok (.iaload, 1) := by decide +kernel
theorem dX3_netsAtOne_17 : decode cX3_netsAtOne 17 = .ok (.iload_n 2, 1) := by decide +kernel
theorem dX3_netsAtOne_18 : decode cX3_netsAtOne 18 = .ok (.ishl, 1) := by decide +kernel
theorem dX3_netsAtOne_19 : decode cX3_netsAtOne 19 = .ok (.ior, 1) := by decide +kernel
theorem dX3_netsAtOne_20 : decode cX3_netsAtOne 20 = .ok (.istore_n 1, 1) := by decide +kernel
theorem dX3_netsAtOne_21 : decode cX3_netsAtOne 21 = .ok (.iinc 2 1, 3) := by decide +kernel
theorem dX3_netsAtOne_24 : decode cX3_netsAtOne 24 = .ok (.goto (-20), 3) := by decide +kernel
theorem dX3_netsAtOne_27 : decode cX3_netsAtOne 27 = .ok (.iload_n 1, 1) := by decide +kernel
theorem dX3_netsAtOne_28 : decode cX3_netsAtOne 28 = .ok (.ireturn, 1) := by decide +kernel
theorem dX4_init_0 : decode cX4_init 0 = .ok (.aload_n 0, 1) := by decide +kernel
theorem dX4_init_1 : decode cX4_init 1 = .ok (.invokespecial 3, 3) := by decide +kernel
theorem dX4_init_4 : decode cX4_init 4 = .ok (.aload_n 0, 1) := by decide +kernel
theorem dX4_init_5 : decode cX4_init 5 = .ok (.bipush 8, 2) := by decide +kernel
theorem dX4_init_7 : decode cX4_init 7 = .ok (.newarray .int, 2) := by decide +kernel
theorem dX4_init_9 : decode cX4_init 9 = .ok (.putfield 9, 3) := by decide +kernel
theorem dX4_init_12 : decode cX4_init 12 = .ok (.aload_n 0, 1) := by decide +kernel
theorem dX4_init_13 : decode cX4_init 13 = .ok (.bipush 24, 2) := by decide +kernel
theorem dX4_init_15 : decode cX4_init 15 = .ok (.newarray .int, 2) := by decide +kernel
theorem dX4_init_17 : decode cX4_init 17 = .ok (.putfield 15, 3) := by decide +kernel
theorem dX4_init_20 : decode cX4_init 20 = .ok (.aload_n 0, 1) := by decide +kernel
theorem dX4_init_21 : decode cX4_init 21 = .ok (.iconst 1, 1) := by decide +kernel
theorem dX4_init_22 : decode cX4_init 22 = .ok (.newarray .int, 2) := by decide +kernel
theorem dX4_init_24 : decode cX4_init 24 = .ok (.putfield 18, 3) := by decide +kernel
theorem dX4_init_27 : decode cX4_init 27 = .ok (.aload_n 0, 1) := by decide +kernel
theorem dX4_init_28 : decode cX4_init 28 = .ok (.bipush 97, 2) := by decide +kernel
theorem dX4_init_30 : decode cX4_init 30 = .ok (.newarray .int, 2) := by decide +kernel
theorem dX4_init_32 : decode cX4_init 32 = .ok (.putfield 21, 3) := by decide +kernel
theorem dX4_init_35 : decode cX4_init 35 = .ok (.aload_n 0, 1) := by decide +kernel
theorem dX4_init_36 : decode cX4_init 36 = .ok (.aload_n 1, 1) := by decide +kernel
theorem dX4_init_37 : decode cX4_init 37 = .ok (.putfield 24, 3) := by decide +kernel
theorem dX4_init_40 : decode cX4_init 40 = .ok (.aload_n 0, 1) := by decide +kernel
theorem dX4_init_41 : decode cX4_init 41 = .ok (.new 28, 3) := by decide +kernel
theorem dX4_init_44 : decode cX4_init 44 = .ok (.dup, 1) := by decide +kernel
theorem dX4_init_45 : decode cX4_init 45 = .ok (.aload_n 1, 1) := by decide +kernel
theorem dX4_init_46 : decode cX4_init 46 = .ok (.invokespecial 30, 3) := by decide +kernel
theorem dX4_init_49 : decode cX4_init 49 = .ok (.putfield 33, 3) := by decide +kernel
theorem dX4_init_52 : decode cX4_init 52 = .ok (.return_, 1) := by decide +kernel
theorem dX4_patternCount_0 : decode cX4_patternCount 0 = .ok (.aload_n 0, 1) := by decide +kernel
theorem dX4_patternCount_1 : decode cX4_patternCount 1 = .ok (.getfield 24, 3) := by decide +kernel
theorem dX4_patternCount_4 : decode cX4_patternCount 4 = .ok (.getfield 37, 3) := by decide +kernel
theorem dX4_patternCount_7 : decode cX4_patternCount 7 = .ok (.invokestatic 43, 3) := by decide +kernel
theorem dX4_patternCount_10 : decode cX4_patternCount 10 = .ok (.iload_n 1, 1) := by decide +kernel
theorem dX4_patternCount_11 : decode cX4_patternCount 11 = .ok (.ishl, 1) := by decide +kernel
theorem dX4_patternCount_12 : decode cX4_patternCount 12 = .ok (.ireturn, 1) := by decide +kernel
theorem dX4_stimulus_0 : decode cX4_stimulus 0 = .ok (.iload_n 1, 1) := by decide +kernel
theorem dX4_stimulus_1 : decode cX4_stimulus 1 = .ok (.iload_n 2, 1) := by decide +kernel
theorem dX4_stimulus_2 : decode cX4_stimulus 2 = .ok (.aload_n 0, 1) := by decide +kernel
theorem dX4_stimulus_3 : decode cX4_stimulus 3 = .ok (.getfield 24, 3) := by decide +kernel
theorem dX4_stimulus_6 : decode cX4_stimulus 6 = .ok (.getfield 37, 3) := by decide +kernel
theorem dX4_stimulus_9 : decode cX4_stimulus 9 = .ok (.invokestatic 47, 3) := by decide +kernel
theorem dX4_stimulus_12 : decode cX4_stimulus 12 = .ok (.ireturn, 1) := by decide +kernel
theorem dX4_codeBits_0 : decode cX4_codeBits 0 = .ok (.iload_n 0, 1) := by decide +kernel
theorem dX4_codeBits_1 : decode cX4_codeBits 1 = .ok (.invokestatic 51, 3) := by decide +kernel
theorem dX4_codeBits_4 : decode cX4_codeBits 4 = .ok (.iconst 2, 1) := by decide +kernel
theorem dX4_codeBits_5 : decode cX4_codeBits 5 = .ok (.iadd, 1) := by decide +kernel
theorem dX4_codeBits_6 : decode cX4_codeBits 6 = .ok (.istore_n 1, 1) := by decide +kernel
theorem dX4_codeBits_7 : decode cX4_codeBits 7 = .ok (.iconst 1, 1) := by decide +kernel
theorem dX4_codeBits_8 : decode cX4_codeBits 8 = .ok (.istore_n 2, 1) := by decide +kernel
theorem dX4_codeBits_9 : decode cX4_codeBits 9 = .ok (.iload_n 2, 1) := by decide +kernel
theorem dX4_codeBits_10 : decode cX4_codeBits 10 = .ok (.bipush 8, 2) := by decide +kernel
theorem dX4_codeBits_12 : decode cX4_codeBits 12 = .ok (.if_icmp .ge 16, 3) := by decide +kernel
theorem dX4_codeBits_15 : decode cX4_codeBits 15 = .ok (.iconst 1, 1) := by decide +kernel
theorem dX4_codeBits_16 : decode cX4_codeBits 16 = .ok (.iload_n 2, 1) := by decide +kernel
theorem dX4_codeBits_17 : decode cX4_codeBits 17 = .ok (.ishl, 1) := by decide +kernel
theorem dX4_codeBits_18 : decode cX4_codeBits 18 = .ok (.iload_n 1, 1) := by decide +kernel
theorem dX4_codeBits_19 : decode cX4_codeBits 19 = .ok (.if_icmp .ge 9, 3) := by decide +kernel
theorem dX4_codeBits_22 : decode cX4_codeBits 22 = .ok (.iinc 2 1, 3) := by decide +kernel
theorem dX4_codeBits_25 : decode cX4_codeBits 25 = .ok (.goto (-16), 3) := by decide +kernel
theorem dX4_codeBits_28 : decode cX4_codeBits 28 = .ok (.iload_n 2, 1) := by decide +kernel
theorem dX4_codeBits_29 : decode cX4_codeBits 29 = .ok (.ireturn, 1) := by decide +kernel
theorem dX4_stimulusAt_0 : decode cX4_stimulusAt 0 = .ok (.iload_n 2, 1) := by decide +kernel
theorem dX4_stimulusAt_1 : decode cX4_stimulusAt 1 = .ok (.invokestatic 43, 3) := by decide +kernel
theorem dX4_stimulusAt_4 : decode cX4_stimulusAt 4 = .ok (.istore_n 3, 1) := by decide +kernel
theorem dX4_stimulusAt_5 : decode cX4_stimulusAt 5 = .ok (.iconst 2, 1) := by decide +kernel
theorem dX4_stimulusAt_6 : decode cX4_stimulusAt 6 = .ok (.iload_n 1, 1) := by decide +kernel
theorem dX4_stimulusAt_7 : decode cX4_stimulusAt 7 = .ok (.ishl, 1) := by decide +kernel
theorem dX4_stimulusAt_8 : decode cX4_stimulusAt 8 = .ok (.iconst 1, 1) := by decide +kernel
theorem dX4_stimulusAt_9 : decode cX4_stimulusAt 9 = .ok (.isub, 1) := by decide +kernel
theorem dX4_stimulusAt_10 : decode cX4_stimulusAt 10 = .ok (.istore 4, 2) := by decide +kernel
theorem dX4_stimulusAt_12 : decode cX4_stimulusAt 12 = .ok (.iload_n 2, 1) := by decide +kernel
theorem dX4_stimulusAt_13 : decode cX4_stimulusAt 13 = .ok (.iload 4, 2) := by decide +kernel
theorem dX4_stimulusAt_15 : decode cX4_stimulusAt 15 = .ok (.iand, 1) := by decide +kernel
theorem dX4_stimulusAt_16 : decode cX4_stimulusAt 16 = .ok (.invokestatic 51, 3) := by decide +kernel
theorem dX4_stimulusAt_19 : decode cX4_stimulusAt 19 = .ok (.istore 5, 2) := by decide +kernel
theorem dX4_stimulusAt_21 : decode cX4_stimulusAt 21 = .ok (.iconst 1, 1) := by decide +kernel
theorem dX4_stimulusAt_22 : decode cX4_stimulusAt 22 = .ok (.iload_n 3, 1) := by decide +kernel
theorem dX4_stimulusAt_23 : decode cX4_stimulusAt 23 = .ok (.ishl, 1) := by decide +kernel
theorem dX4_stimulusAt_24 : decode cX4_stimulusAt 24 = .ok (.iconst 1, 1) := by decide +kernel
theorem dX4_stimulusAt_25 : decode cX4_stimulusAt 25 = .ok (.isub, 1) := by decide +kernel
theorem dX4_stimulusAt_26 : decode cX4_stimulusAt 26 = .ok (.iload 5, 2) := by decide +kernel
theorem dX4_stimulusAt_28 : decode cX4_stimulusAt 28 = .ok (.isub, 1) := by decide +kernel
theorem dX4_stimulusAt_29 : decode cX4_stimulusAt 29 = .ok (.istore 6, 2) := by decide +kernel
theorem dX4_stimulusAt_31 : decode cX4_stimulusAt 31 = .ok (.iload_n 0, 1) := by decide +kernel
theorem dX4_stimulusAt_32 : decode cX4_stimulusAt 32 = .ok (.ifCond .ne 8, 3) := by decide +kernel
theorem dX4_stimulusAt_35 : decode cX4_stimulusAt 35 = .ok (.iload 5, 2) := by decide +kernel
theorem dX4_stimulusAt_37 : decode cX4_stimulusAt 37 = .ok (.goto 10, 3) := by decide +kernel
theorem dX4_stimulusAt_40 : decode cX4_stimulusAt 40 = .ok (.iload 5, 2) := by decide +kernel
theorem dX4_stimulusAt_42 : decode cX4_stimulusAt 42 = .ok (.iload 6, 2) := by decide +kernel
theorem dX4_stimulusAt_44 : decode cX4_stimulusAt 44 = .ok (.iload_n 3, 1) := by decide +kernel
theorem dX4_stimulusAt_45 : decode cX4_stimulusAt 45 = .ok (.ishl, 1) := by decide +kernel
theorem dX4_stimulusAt_46 : decode cX4_stimulusAt 46 = .ok (.ior, 1) := by decide +kernel
theorem dX4_stimulusAt_47 : decode cX4_stimulusAt 47 = .ok (.ireturn, 1) := by decide +kernel
theorem dX4_prepare_0 : decode cX4_prepare 0 = .ok (.aload_n 0, 1) := by decide +kernel
theorem dX4_prepare_1 : decode cX4_prepare 1 = .ok (.getfield 24, 3) := by decide +kernel
theorem dX4_prepare_4 : decode cX4_prepare 4 = .ok (.getfield 37, 3) := by decide +kernel
theorem dX4_prepare_7 : decode cX4_prepare 7 = .ok (.istore_n 2, 1) := by decide +kernel
theorem dX4_prepare_8 : decode cX4_prepare 8 = .ok (.aload_n 0, 1) := by decide +kernel
theorem dX4_prepare_9 : decode cX4_prepare 9 = .ok (.iconst 1, 1) := by decide +kernel
theorem dX4_prepare_10 : decode cX4_prepare 10 = .ok (.iload_n 2, 1) := by decide +kernel
theorem dX4_prepare_11 : decode cX4_prepare 11 = .ok (.invokestatic 43, 3) := by decide +kernel
theorem dX4_prepare_14 : decode cX4_prepare 14 = .ok (.iload_n 1, 1) := by decide +kernel
theorem dX4_prepare_15 : decode cX4_prepare 15 = .ok (.ishl, 1) := by decide +kernel
theorem dX4_prepare_16 : decode cX4_prepare 16 = .ok (.ishl, 1) := by decide +kernel
theorem dX4_prepare_17 : decode cX4_prepare 17 = .ok (.iconst 1, 1) := by decide +kernel
theorem dX4_prepare_18 : decode cX4_prepare 18 = .ok (.isub, 1) := by decide +kernel
theorem dX4_prepare_19 : decode cX4_prepare 19 = .ok (.putfield 56, 3) := by decide +kernel
theorem dX4_prepare_22 : decode cX4_prepare 22 = .ok (.iconst 0, 1) := by decide +kernel
theorem dX4_prepare_23 : decode cX4_prepare 23 = .ok (.istore_n 3, 1) := by decide +kernel
theorem dX4_prepare_24 : decode cX4_prepare 24 = .ok (.iload_n 3, 1) := by decide +kernel
theorem dX4_prepare_25 : decode cX4_prepare 25 = .ok (.bipush 8, 2) := by decide +kernel
theorem dX4_prepare_27 : decode cX4_prepare 27 = .ok (.if_icmp .ge 21, 3) := by decide +kernel
theorem dX4_prepare_30 : decode cX4_prepare 30 = .ok (.aload_n 0, 1) := by decide +kernel
theorem dX4_prepare_31 : decode cX4_prepare 31 = .ok (.getfield 9, 3) := by decide +kernel
theorem dX4_prepare_34 : decode cX4_prepare 34 = .ok (.iload_n 3, 1) := by decide +kernel
theorem dX4_prepare_35 : decode cX4_prepare 35 = .ok (.iload_n 1, 1) := by decide +kernel
theorem dX4_prepare_36 : decode cX4_prepare 36 = .ok (.iload_n 3, 1) := by decide +kernel
theorem dX4_prepare_37 : decode cX4_prepare 37 = .ok (.iload_n 2, 1) := by decide +kernel
theorem dX4_prepare_38 : decode cX4_prepare 38 = .ok (.invokestatic 47, 3) := by decide +kernel
theorem dX4_prepare_41 : decode cX4_prepare 41 = .ok (.iastore, 1) := by decide +kernel
theorem dX4_prepare_42 : decode cX4_prepare 42 = .ok (.iinc 3 1, 3) := by decide +kernel
theorem dX4_prepare_45 : decode cX4_prepare 45 = .ok (.goto (-21), 3) := by decide +kernel
theorem dX4_prepare_48 : decode cX4_prepare 48 = .ok (.return_, 1) := by decide +kernel
theorem dX4_presentAnswer_0 : decode cX4_presentAnswer 0 = .ok (.aload_n 0, 1) := by decide +kernel
theorem dX4_presentAnswer_1 : decode cX4_presentAnswer 1 = .ok (.iload_n 1, 1) := by decide +kernel
theorem dX4_presentAnswer_2 : decode cX4_presentAnswer 2 = .ok (.invokevirtual 59, 3) := by decide +kernel
theorem dX4_presentAnswer_5 : decode cX4_presentAnswer 5 = .ok (.aload_n 0, 1) := by decide +kernel
theorem dX4_presentAnswer_6 : decode cX4_presentAnswer 6 = .ok (.getfield 33, 3) := by decide +kernel
theorem dX4_presentAnswer_9 : decode cX4_presentAnswer 9 = .ok (.aload_n 0, 1) := by decide +kernel
theorem dX4_presentAnswer_10 : decode cX4_presentAnswer 10 = .ok (.getfield 9, 3) := by decide +kernel
theorem dX4_presentAnswer_13 : decode cX4_presentAnswer 13 = .ok (.aload_n 0, 1) := by decide +kernel
theorem dX4_presentAnswer_14 : decode cX4_presentAnswer 14 = .ok (.getfield 56, 3) := by decide +kernel
theorem dX4_presentAnswer_17 : decode cX4_presentAnswer 17 = .ok (.aload_n 0, 1) := by decide +kernel
theorem dX4_presentAnswer_18 : decode cX4_presentAnswer 18 = .ok (.getfield 24, 3) := by decide +kernel
theorem dX4_presentAnswer_21 : decode cX4_presentAnswer 21 = .ok (.getfield 63, 3) := by decide +kernel
theorem dX4_presentAnswer_24 : decode cX4_presentAnswer 24 = .ok (.aload_n 0, 1) := by decide +kernel
theorem dX4_presentAnswer_25 : decode cX4_presentAnswer 25 = .ok (.getfield 24, 3) := by decide +kernel
theorem dX4_presentAnswer_28 : decode cX4_presentAnswer 28 = .ok (.getfield 66, 3) := by decide +kernel
theorem dX4_presentAnswer_31 : decode cX4_presentAnswer 31 = .ok (.invokevirtual 69, 3) := by decide +kernel
theorem dX4_presentAnswer_34 : decode cX4_presentAnswer 34 = .ok (.aload_n 0, 1) := by decide +kernel
theorem dX4_presentAnswer_35 : decode cX4_presentAnswer 35 = .ok (.getfield 33, 3) := by decide +kernel
theorem dX4_presentAnswer_38 : decode cX4_presentAnswer 38 = .ok (.iload_n 2, 1) := by decide +kernel
theorem dX4_presentAnswer_39 : decode cX4_presentAnswer 39 = .ok (.iload_n 3, 1) := by decide +kernel
theorem dX4_presentAnswer_40 : decode cX4_presentAnswer 40 = .ok (.invokevirtual 73, 3) := by decide +kernel
theorem dX4_presentAnswer_43 : decode cX4_presentAnswer 43 = .ok (.ireturn, 1) := by decide +kernel
theorem dX4_noteAnswers_0 : decode cX4_noteAnswers 0 = .ok (.aload_n 0, 1) := by decide +kernel
theorem dX4_noteAnswers_1 : decode cX4_noteAnswers 1 = .ok (.getfield 33, 3) := by decide +kernel
theorem dX4_noteAnswers_4 : decode cX4_noteAnswers 4 = .ok (.aload_n 0, 1) := by decide +kernel
theorem dX4_noteAnswers_5 : decode cX4_noteAnswers 5 = .ok (.getfield 9, 3) := by decide +kernel
theorem dX4_noteAnswers_8 : decode cX4_noteAnswers 8 = .ok (.aload_n 0, 1) := by decide +kernel
theorem dX4_noteAnswers_9 : decode cX4_noteAnswers 9 = .ok (.getfield 56, 3) := by decide +kernel
theorem dX4_noteAnswers_12 : decode cX4_noteAnswers 12 = .ok (.aload_n 0, 1) := by decide +kernel
theorem dX4_noteAnswers_13 : decode cX4_noteAnswers 13 = .ok (.getfield 24, 3) := by decide +kernel
theorem dX4_noteAnswers_16 : decode cX4_noteAnswers 16 = .ok (.getfield 63, 3) := by decide +kernel
theorem dX4_noteAnswers_19 : decode cX4_noteAnswers 19 = .ok (.aload_n 0, 1) := by decide +kernel
theorem dX4_noteAnswers_20 : decode cX4_noteAnswers 20 = .ok (.getfield 24, 3) := by decide +kernel
theorem dX4_noteAnswers_23 : decode cX4_noteAnswers 23 = .ok (.getfield 66, 3) := by decide +kernel
theorem dX4_noteAnswers_26 : decode cX4_noteAnswers 26 = .ok (.invokevirtual 69, 3) := by decide +kernel
theorem dX4_noteAnswers_29 : decode cX4_noteAnswers 29 = .ok (.iconst 0, 1) := by decide +kernel
theorem dX4_noteAnswers_30 : decode cX4_noteAnswers 30 = .ok (.istore_n 1, 1) := by decide +kernel
theorem dX4_noteAnswers_31 : decode cX4_noteAnswers 31 = .ok (.iload_n 1, 1) := by decide +kernel
theorem dX4_noteAnswers_32 : decode cX4_noteAnswers 32 = .ok (.aload_n 0, 1) := by decide +kernel
theorem dX4_noteAnswers_33 : decode cX4_noteAnswers 33 = .ok (.getfield 24, 3) := by decide +kernel
theorem dX4_noteAnswers_36 : decode cX4_noteAnswers 36 = .ok (.getfield 77, 3) := by decide +kernel
theorem dX4_noteAnswers_39 : decode cX4_noteAnswers 39 = .ok (.if_icmp .ge 53, 3) := by decide +kernel
theorem dX4_noteAnswers_42 : decode cX4_noteAnswers 42 = .ok (.iconst 0, 1) := by decide +kernel
theorem dX4_noteAnswers_43 : decode cX4_noteAnswers 43 = .ok (.istore_n 2, 1) := by decide +kernel
theorem dX4_noteAnswers_44 : decode cX4_noteAnswers 44 = .ok (.iload_n 2, 1) := by decide +kernel
theorem dX4_noteAnswers_45 : decode cX4_noteAnswers 45 = .ok (.aload_n 0, 1) := by decide +kernel
theorem dX4_noteAnswers_46 : decode cX4_noteAnswers 46 = .ok (.getfield 24, 3) := by decide +kernel
theorem dX4_noteAnswers_49 : decode cX4_noteAnswers 49 = .ok (.getfield 80, 3) := by decide +kernel
theorem dX4_noteAnswers_52 : decode cX4_noteAnswers 52 = .ok (.iload_n 1, 1) := by decide +kernel
theorem dX4_noteAnswers_53 : decode cX4_noteAnswers 53 = .ok (.aaload, 1) := by decide +kernel
theorem dX4_noteAnswers_54 : decode cX4_noteAnswers 54 = .ok (.getfield 84, 3) := by decide +kernel
theorem dX4_noteAnswers_57 : decode cX4_noteAnswers 57 = .ok (.if_icmp .ge 29, 3) := by decide +kernel
theorem dX4_noteAnswers_60 : decode cX4_noteAnswers 60 = .ok (.aload_n 0, 1) := by decide +kernel
theorem dX4_noteAnswers_61 : decode cX4_noteAnswers 61 = .ok (.getfield 15, 3) := by decide +kernel
theorem dX4_noteAnswers_64 : decode cX4_noteAnswers 64 = .ok (.iload_n 1, 1) := by decide +kernel
theorem dX4_noteAnswers_65 : decode cX4_noteAnswers 65 = .ok (.bipush 6, 2) := by decide +kernel
theorem dX4_noteAnswers_67 : decode cX4_noteAnswers 67 = .ok (.imul, 1) := by decide +kernel
theorem dX4_noteAnswers_68 : decode cX4_noteAnswers 68 = .ok (.iload_n 2, 1) := by decide +kernel
theorem dX4_noteAnswers_69 : decode cX4_noteAnswers 69 = .ok (.iadd, 1) := by decide +kernel
theorem dX4_noteAnswers_70 : decode cX4_noteAnswers 70 = .ok (.aload_n 0, 1) := by decide +kernel
theorem dX4_noteAnswers_71 : decode cX4_noteAnswers 71 = .ok (.getfield 33, 3) := by decide +kernel
theorem dX4_noteAnswers_74 : decode cX4_noteAnswers 74 = .ok (.iload_n 1, 1) := by decide +kernel
theorem dX4_noteAnswers_75 : decode cX4_noteAnswers 75 = .ok (.iload_n 2, 1) := by decide +kernel
theorem dX4_noteAnswers_76 : decode cX4_noteAnswers 76 = .ok (.invokevirtual 73, 3) := by decide +kernel
theorem dX4_noteAnswers_79 : decode cX4_noteAnswers 79 = .ok (.iastore, 1) := by decide +kernel
theorem dX4_noteAnswers_80 : decode cX4_noteAnswers 80 = .ok (.iinc 2 1, 3) := by decide +kernel
theorem dX4_noteAnswers_83 : decode cX4_noteAnswers 83 = .ok (.goto (-39), 3) := by decide +kernel
theorem dX4_noteAnswers_86 : decode cX4_noteAnswers 86 = .ok (.iinc 1 1, 3) := by decide +kernel
theorem dX4_noteAnswers_89 : decode cX4_noteAnswers 89 = .ok (.goto (-58), 3) := by decide +kernel
theorem dX4_noteAnswers_92 : decode cX4_noteAnswers 92 = .ok (.return_, 1) := by decide +kernel
theorem dX4_explains_0 : decode cX4_explains 0 = .ok (.aload_n 0, 1) := by decide +kernel
theorem dX4_explains_1 : decode cX4_explains 1 = .ok (.getfield 18, 3) := by decide +kernel
theorem dX4_explains_4 : decode cX4_explains 4 = .ok (.iconst 0, 1) := by decide +kernel
theorem dX4_explains_5 : decode cX4_explains 5 = .ok (.iload_n 1, 1) := by decide +kernel
theorem dX4_explains_6 : decode cX4_explains 6 = .ok (.iastore, 1) := by decide +kernel
theorem dX4_explains_7 : decode cX4_explains 7 = .ok (.aload_n 0, 1) := by decide +kernel
theorem dX4_explains_8 : decode cX4_explains 8 = .ok (.getfield 33, 3) := by decide +kernel
theorem dX4_explains_11 : decode cX4_explains 11 = .ok (.aload_n 0, 1) := by decide +kernel
theorem dX4_explains_12 : decode cX4_explains 12 = .ok (.getfield 9, 3) := by decide +kernel
theorem dX4_explains_15 : decode cX4_explains 15 = .ok (.aload_n 0, 1) := by decide +kernel
theorem dX4_explains_16 : decode cX4_explains 16 = .ok (.getfield 56, 3) := by decide +kernel
theorem dX4_explains_19 : decode cX4_explains 19 = .ok (.aload_n 0, 1) := by decide +kernel
theorem dX4_explains_20 : decode cX4_explains 20 = .ok (.getfield 18, 3) := by decide +kernel
theorem dX4_explains_23 : decode cX4_explains 23 = .ok (.iload_n 1, 1) := by decide +kernel
theorem dX4_explains_24 : decode cX4_explains 24 = .ok (.ifCond .ne 7, 3) := by decide +kernel
theorem dX4_explains_27 : decode cX4_explains 27 = .ok (.iconst 0, 1) := by decide +kernel
theorem dX4_explains_28 : decode cX4_explains 28 = .ok (.goto 4, 3) := by decide +kernel
theorem dX4_explains_31 : decode cX4_explains 31 = .ok (.iconst 1, 1) := by decide +kernel
theorem dX4_explains_32 : decode cX4_explains 32 = .ok (.invokevirtual 69, 3) := by decide +kernel
theorem dX4_explains_35 : decode cX4_explains 35 = .ok (.iconst 0, 1) := by decide +kernel
theorem dX4_explains_36 : decode cX4_explains 36 = .ok (.istore_n 2, 1) := by decide +kernel
theorem dX4_explains_37 : decode cX4_explains 37 = .ok (.iload_n 2, 1) := by decide +kernel
theorem dX4_explains_38 : decode cX4_explains 38 = .ok (.aload_n 0, 1) := by decide +kernel
theorem dX4_explains_39 : decode cX4_explains 39 = .ok (.getfield 24, 3) := by decide +kernel
theorem dX4_explains_42 : decode cX4_explains 42 = .ok (.getfield 77, 3) := by decide +kernel
theorem dX4_explains_45 : decode cX4_explains 45 = .ok (.if_icmp .ge 73, 3) := by decide +kernel
theorem dX4_explains_48 : decode cX4_explains 48 = .ok (.aload_n 0, 1) := by decide +kernel
theorem dX4_explains_49 : decode cX4_explains 49 = .ok (.getfield 24, 3) := by decide +kernel
theorem dX4_explains_52 : decode cX4_explains 52 = .ok (.getfield 80, 3) := by decide +kernel
theorem dX4_explains_55 : decode cX4_explains 55 = .ok (.iload_n 2, 1) := by decide +kernel
theorem dX4_explains_56 : decode cX4_explains 56 = .ok (.aaload, 1) := by decide +kernel
theorem dX4_explains_57 : decode cX4_explains 57 = .ok (.astore_n 3, 1) := by decide +kernel
theorem dX4_explains_58 : decode cX4_explains 58 = .ok (.iconst 0, 1) := by decide +kernel
theorem dX4_explains_59 : decode cX4_explains 59 = .ok (.istore 4, 2) := by decide +kernel
theorem dX4_explains_61 : decode cX4_explains 61 = .ok (.iload 4, 2) := by decide +kernel
theorem dX4_explains_63 : decode cX4_explains 63 = .ok (.aload_n 3, 1) := by decide +kernel
theorem dX4_explains_64 : decode cX4_explains 64 = .ok (.getfield 84, 3) := by decide +kernel
theorem dX4_explains_67 : decode cX4_explains 67 = .ok (.if_icmp .ge 45, 3) := by decide +kernel
theorem dX4_explains_70 : decode cX4_explains 70 = .ok (.aload_n 3, 1) := by decide +kernel
theorem dX4_explains_71 : decode cX4_explains 71 = .ok (.iload 4, 2) := by decide +kernel
theorem dX4_explains_73 : decode cX4_explains 73 = .ok (.invokevirtual 89, 3) := by decide +kernel
theorem dX4_explains_76 : decode cX4_explains 76 = .ok (.ifCond .ne 30, 3) := by decide +kernel
theorem dX4_explains_79 : decode cX4_explains 79 = .ok (.aload_n 0, 1) := by decide +kernel
theorem dX4_explains_80 : decode cX4_explains 80 = .ok (.getfield 33, 3) := by decide +kernel
theorem dX4_explains_83 : decode cX4_explains 83 = .ok (.iload_n 2, 1) := by decide +kernel
theorem dX4_explains_84 : decode cX4_explains 84 = .ok (.iload 4, 2) := by decide +kernel
theorem dX4_explains_86 : decode cX4_explains 86 = .ok (.invokevirtual 73, 3) := by decide +kernel
theorem dX4_explains_89 : decode cX4_explains 89 = .ok (.aload_n 0, 1) := by decide +kernel
theorem dX4_explains_90 : decode cX4_explains 90 = .ok (.getfield 15, 3) := by decide +kernel
theorem dX4_explains_93 : decode cX4_explains 93 = .ok (.iload_n 2, 1) := by decide +kernel
theorem dX4_explains_94 : decode cX4_explains 94 = .ok (.bipush 6, 2) := by decide +kernel
theorem dX4_explains_96 : decode cX4_explains 96 = .ok (.imul, 1) := by decide +kernel
theorem dX4_explains_97 : decode cX4_explains 97 = .ok (.iload 4, 2) := by decide +kernel
theorem dX4_explains_99 : decode cX4_explains 99 = .ok (.iadd, 1) := by decide +kernel
theorem dX4_explains_100 : decode cX4_explains 100 = .ok (.iaload, 1) := by decide +kernel
theorem dX4_explains_101 : decode cX4_explains 101 = .ok (.if_icmp .eq 5, 3) := by decide +kernel
theorem dX4_explains_104 : decode cX4_explains 104 = .ok (.iconst 0, 1) := by decide +kernel
theorem dX4_explains_105 : decode cX4_explains 105 = .ok (.ireturn, 1) := by decide +kernel
theorem dX4_explains_106 : decode cX4_explains 106 = .ok (.iinc 4 1, 3) := by decide +kernel
theorem dX4_explains_109 : decode cX4_explains 109 = .ok (.goto (-48), 3) := by decide +kernel
theorem dX4_explains_112 : decode cX4_explains 112 = .ok (.iinc 2 1, 3) := by decide +kernel
theorem dX4_explains_115 : decode cX4_explains 115 = .ok (.goto (-78), 3) := by decide +kernel
theorem dX4_explains_118 : decode cX4_explains 118 = .ok (.iconst 1, 1) := by decide +kernel
theorem dX4_explains_119 : decode cX4_explains 119 = .ok (.ireturn, 1) := by decide +kernel
theorem dX4_showsFaults_0 : decode cX4_showsFaults 0 = .ok (.aload_n 0, 1) := by decide +kernel
theorem dX4_showsFaults_1 : decode cX4_showsFaults 1 = .ok (.iload_n 1, 1) := by decide +kernel
theorem dX4_showsFaults_2 : decode cX4_showsFaults 2 = .ok (.invokevirtual 59, 3) := by decide +kernel
theorem dX4_showsFaults_5 : decode cX4_showsFaults 5 = .ok (.aload_n 0, 1) := by decide +kernel
theorem dX4_showsFaults_6 : decode cX4_showsFaults 6 = .ok (.invokevirtual 93, 3) := by decide +kernel
theorem dX4_showsFaults_9 : decode cX4_showsFaults 9 = .ok (.aload_n 0, 1) := by decide +kernel
theorem dX4_showsFaults_10 : decode cX4_showsFaults 10 = .ok (.iconst 0, 1) := by decide +kernel
theorem dX4_showsFaults_11 : decode cX4_showsFaults 11 = .ok (.invokevirtual 96, 3) := by decide +kernel
theorem dX4_showsFaults_14 : decode cX4_showsFaults 14 = .ok (.ifCond .ne 7, 3) := by decide +kernel
theorem dX4_showsFaults_17 : decode cX4_showsFaults 17 = .ok (.iconst 1, 1) := by decide +kernel
theorem dX4_showsFaults_18 : decode cX4_showsFaults 18 = .ok (.goto 4, 3) := by decide +kernel
theorem dX4_showsFaults_21 : decode cX4_showsFaults 21 = .ok (.iconst 0, 1) := by decide +kernel
theorem dX4_showsFaults_22 : decode cX4_showsFaults 22 = .ok (.ireturn, 1) := by decide +kernel
theorem dX4_findSuspects_0 : decode cX4_findSuspects 0 = .ok (.aload_n 0, 1) := by decide +kernel
theorem dX4_findSuspects_1 : decode cX4_findSuspects 1 = .ok (.iload_n 1, 1) := by decide +kernel
theorem dX4_findSuspects_2 : decode cX4_findSuspects 2 = .ok (.invokevirtual 59, 3) := by decide +kernel
theorem dX4_findSuspects_5 : decode cX4_findSuspects 5 = .ok (.aload_n 0, 1) := by decide +kernel
theorem dX4_findSuspects_6 : decode cX4_findSuspects 6 = .ok (.invokevirtual 93, 3) := by decide +kernel
theorem dX4_findSuspects_9 : decode cX4_findSuspects 9 = .ok (.aload_n 0, 1) := by decide +kernel
theorem dX4_findSuspects_10 : decode cX4_findSuspects 10 = .ok (.invokevirtual 99, 3) := by decide +kernel
theorem dX4_findSuspects_13 : decode cX4_findSuspects 13 = .ok (.iconst 0, 1) := by decide +kernel
theorem dX4_findSuspects_14 : decode cX4_findSuspects 14 = .ok (.istore_n 2, 1) := by decide +kernel
theorem dX4_findSuspects_15 : decode cX4_findSuspects 15 = .ok (.iconst 0, 1) := by decide +kernel
theorem dX4_findSuspects_16 : decode cX4_findSuspects 16 = .ok (.istore_n 3, 1) := by decide +kernel
theorem dX4_findSuspects_17 : decode cX4_findSuspects 17 = .ok (.iload_n 3, 1) := by decide +kernel
theorem dX4_findSuspects_18 : decode cX4_findSuspects 18 = .ok (.aload_n 0, 1) := by decide +kernel
theorem dX4_findSuspects_19 : decode cX4_findSuspects 19 = .ok (.getfield 102, 3) := by decide +kernel
theorem dX4_findSuspects_22 : decode cX4_findSuspects 22 = .ok (.if_icmp .ge 37, 3) := by decide +kernel
theorem dX4_findSuspects_25 : decode cX4_findSuspects 25 = .ok (.aload_n 0, 1) := by decide +kernel
theorem dX4_findSuspects_26 : decode cX4_findSuspects 26 = .ok (.aload_n 0, 1) := by decide +kernel
theorem dX4_findSuspects_27 : decode cX4_findSuspects 27 = .ok (.getfield 21, 3) := by decide +kernel
theorem dX4_findSuspects_30 : decode cX4_findSuspects 30 = .ok (.iload_n 3, 1) := by decide +kernel
theorem dX4_findSuspects_31 : decode cX4_findSuspects 31 = .ok (.iaload, 1) := by decide +kernel
theorem dX4_findSuspects_32 : decode cX4_findSuspects 32 = .ok (.invokevirtual 96, 3) := by decide +kernel
theorem dX4_findSuspects_35 : decode cX4_findSuspects 35 = .ok (.ifCond .eq 18, 3) := by decide +kernel
theorem dX4_findSuspects_38 : decode cX4_findSuspects 38 = .ok (.aload_n 0, 1) := by decide +kernel
theorem dX4_findSuspects_39 : decode cX4_findSuspects 39 = .ok (.getfield 21, 3) := by decide +kernel
theorem dX4_findSuspects_42 : decode cX4_findSuspects 42 = .ok (.iload_n 2, 1) := by decide +kernel
theorem dX4_findSuspects_43 : decode cX4_findSuspects 43 = .ok (.aload_n 0, 1) := by decide +kernel
theorem dX4_findSuspects_44 : decode cX4_findSuspects 44 = .ok (.getfield 21, 3) := by decide +kernel
theorem dX4_findSuspects_47 : decode cX4_findSuspects 47 = .ok (.iload_n 3, 1) := by decide +kernel
theorem dX4_findSuspects_48 : decode cX4_findSuspects 48 = .ok (.iaload, 1) := by decide +kernel
theorem dX4_findSuspects_49 : decode cX4_findSuspects 49 = .ok (.iastore, 1) := by decide +kernel
theorem dX4_findSuspects_50 : decode cX4_findSuspects 50 = .ok (.iinc 2 1, 3) := by decide +kernel
theorem dX4_findSuspects_53 : decode cX4_findSuspects 53 = .ok (.iinc 3 1, 3) := by decide +kernel
theorem dX4_findSuspects_56 : decode cX4_findSuspects 56 = .ok (.goto (-39), 3) := by decide +kernel
theorem dX4_findSuspects_59 : decode cX4_findSuspects 59 = .ok (.iload_n 2, 1) := by decide +kernel
theorem dX4_findSuspects_60 : decode cX4_findSuspects 60 = .ok (.ireturn, 1) := by decide +kernel
theorem dX4_listCandidates_0 : decode cX4_listCandidates 0 = .ok (.aload_n 0, 1) := by decide +kernel
theorem dX4_listCandidates_1 : decode cX4_listCandidates 1 = .ok (.getfield 24, 3) := by decide +kernel
theorem dX4_listCandidates_4 : decode cX4_listCandidates 4 = .ok (.getfield 105, 3) := by decide +kernel
theorem dX4_listCandidates_7 : decode cX4_listCandidates 7 = .ok (.istore_n 1, 1) := by decide +kernel
theorem dX4_listCandidates_8 : decode cX4_listCandidates 8 = .ok (.aload_n 0, 1) := by decide +kernel
theorem dX4_listCandidates_9 : decode cX4_listCandidates 9 = .ok (.iconst 0, 1) := by decide +kernel
theorem dX4_listCandidates_10 : decode cX4_listCandidates 10 = .ok (.putfield 102, 3) := by decide +kernel
theorem dX4_listCandidates_13 : decode cX4_listCandidates 13 = .ok (.aload_n 0, 1) := by decide +kernel
theorem dX4_listCandidates_14 : decode cX4_listCandidates 14 = .ok (.iconst 0, 1) := by decide +kernel
theorem dX4_listCandidates_15 : decode cX4_listCandidates 15 = .ok (.invokevirtual 108, 3) := by decide +kernel
theorem dX4_listCandidates_18 : decode cX4_listCandidates 18 = .ok (.aload_n 0, 1) := by decide +kernel
theorem dX4_listCandidates_19 : decode cX4_listCandidates 19 = .ok (.invokevirtual 111, 3) := by decide +kernel
theorem dX4_listCandidates_22 : decode cX4_listCandidates 22 = .ok (.aload_n 0, 1) := by decide +kernel
theorem dX4_listCandidates_23 : decode cX4_listCandidates 23 = .ok (.iload_n 1, 1) := by decide +kernel
theorem dX4_listCandidates_24 : decode cX4_listCandidates 24 = .ok (.invokevirtual 114, 3) := by decide +kernel
theorem dX4_listCandidates_27 : decode cX4_listCandidates 27 = .ok (.aload_n 0, 1) := by decide +kernel
theorem dX4_listCandidates_28 : decode cX4_listCandidates 28 = .ok (.iconst 3, 1) := by decide +kernel
theorem dX4_listCandidates_29 : decode cX4_listCandidates 29 = .ok (.iload_n 1, 1) := by decide +kernel
theorem dX4_listCandidates_30 : decode cX4_listCandidates 30 = .ok (.invokevirtual 117, 3) := by decide +kernel
theorem dX4_listCandidates_33 : decode cX4_listCandidates 33 = .ok (.aload_n 0, 1) := by decide +kernel
theorem dX4_listCandidates_34 : decode cX4_listCandidates 34 = .ok (.iconst 4, 1) := by decide +kernel
theorem dX4_listCandidates_35 : decode cX4_listCandidates 35 = .ok (.iload_n 1, 1) := by decide +kernel
theorem dX4_listCandidates_36 : decode cX4_listCandidates 36 = .ok (.invokevirtual 117, 3) := by decide +kernel
theorem dX4_listCandidates_39 : decode cX4_listCandidates 39 = .ok (.return_, 1) := by decide +kernel
theorem dX4_list_0 : decode cX4_list 0 = .ok (.aload_n 0, 1) := by decide +kernel
theorem dX4_list_1 : decode cX4_list 1 = .ok (.getfield 102, 3) := by decide +kernel
theorem dX4_list_4 : decode cX4_list 4 = .ok (.bipush 97, 2) := by decide +kernel
theorem dX4_list_6 : decode cX4_list 6 = .ok (.if_icmp .ge 23, 3) := by decide +kernel
theorem dX4_list_9 : decode cX4_list 9 = .ok (.aload_n 0, 1) := by decide +kernel
theorem dX4_list_10 : decode cX4_list 10 = .ok (.getfield 21, 3) := by decide +kernel
theorem dX4_list_13 : decode cX4_list 13 = .ok (.aload_n 0, 1) := by decide +kernel
theorem dX4_list_14 : decode cX4_list 14 = .ok (.getfield 102, 3) := by decide +kernel
theorem dX4_list_17 : decode cX4_list 17 = .ok (.iload_n 1, 1) := by decide +kernel
theorem dX4_list_18 : decode cX4_list 18 = .ok (.iastore, 1) := by decide +kernel
theorem dX4_list_19 : decode cX4_list 19 = .ok (.aload_n 0, 1) := by decide +kernel
theorem dX4_list_20 : decode cX4_list 20 = .ok (.dup, 1) := by decide +kernel
theorem dX4_list_21 : decode cX4_list 21 = .ok (.getfield 102, 3) := by decide +kernel
theorem dX4_list_24 : decode cX4_list 24 = .ok (.iconst 1, 1) := by decide +kernel
theorem dX4_list_25 : decode cX4_list 25 = .ok (.iadd, 1) := by decide +kernel
theorem dX4_list_26 : decode cX4_list 26 = .ok (.putfield 102, 3) := by decide +kernel
theorem dX4_list_29 : decode cX4_list 29 = .ok (.return_, 1) := by decide +kernel
theorem dX4_listOpenCells_0 : decode cX4_listOpenCells 0 = .ok (.iconst 0, 1) := by decide +kernel
theorem dX4_listOpenCells_1 : decode cX4_listOpenCells 1 = .ok (.istore_n 1, 1) := by decide +kernel
theorem dX4_listOpenCells_2 : decode cX4_listOpenCells 2 = .ok (.iload_n 1, 1) := by decide +kernel
theorem dX4_listOpenCells_3 : decode cX4_listOpenCells 3 = .ok (.aload_n 0, 1) := by decide +kernel
theorem dX4_listOpenCells_4 : decode cX4_listOpenCells 4 = .ok (.getfield 24, 3) := by decide +kernel
theorem dX4_listOpenCells_7 : decode cX4_listOpenCells 7 = .ok (.getfield 77, 3) := by decide +kernel
theorem dX4_listOpenCells_10 : decode cX4_listOpenCells 10 = .ok (.if_icmp .ge 43, 3) := by decide +kernel
theorem dX4_listOpenCells_13 : decode cX4_listOpenCells 13 = .ok (.iconst 0, 1) := by decide +kernel
theorem dX4_listOpenCells_14 : decode cX4_listOpenCells 14 = .ok (.istore_n 2, 1) := by decide +kernel
theorem dX4_listOpenCells_15 : decode cX4_listOpenCells 15 = .ok (.iload_n 2, 1) := by decide +kernel
theorem dX4_listOpenCells_16 : decode cX4_listOpenCells 16 = .ok (.aload_n 0, 1) := by decide +kernel
theorem dX4_listOpenCells_17 : decode cX4_listOpenCells 17 = .ok (.getfield 24, 3) := by decide +kernel
theorem dX4_listOpenCells_20 : decode cX4_listOpenCells 20 = .ok (.getfield 80, 3) := by decide +kernel
theorem dX4_listOpenCells_23 : decode cX4_listOpenCells 23 = .ok (.iload_n 1, 1) := by decide +kernel
theorem dX4_listOpenCells_24 : decode cX4_listOpenCells 24 = .ok (.aaload, 1) := by decide +kernel
theorem dX4_listOpenCells_25 : decode cX4_listOpenCells 25 = .ok (.getfield 84, 3) := by decide +kernel
theorem dX4_listOpenCells_28 : decode cX4_listOpenCells 28 = .ok (.if_icmp .ge 19, 3) := by decide +kernel
theorem dX4_listOpenCells_31 : decode cX4_listOpenCells 31 = .ok (.aload_n 0, 1) := by decide +kernel
theorem dX4_listOpenCells_32 : decode cX4_listOpenCells 32 = .ok (.iconst 1, 1) := by decide +kernel
theorem dX4_listOpenCells_33 : decode cX4_listOpenCells 33 = .ok (.iload_n 1, 1) := by decide +kernel
theorem dX4_listOpenCells_34 : decode cX4_listOpenCells 34 = .ok (.iload_n 2, 1) := by decide +kernel
theorem dX4_listOpenCells_35 : decode cX4_listOpenCells 35 = .ok (.invokestatic 121, 3) := by decide +kernel
theorem dX4_listOpenCells_38 : decode cX4_listOpenCells 38 = .ok (.invokevirtual 108, 3) := by decide +kernel
theorem dX4_listOpenCells_41 : decode cX4_listOpenCells 41 = .ok (.iinc 2 1, 3) := by decide +kernel
theorem dX4_listOpenCells_44 : decode cX4_listOpenCells 44 = .ok (.goto (-29), 3) := by decide +kernel
theorem dX4_listOpenCells_47 : decode cX4_listOpenCells 47 = .ok (.iinc 1 1, 3) := by decide +kernel
theorem dX4_listOpenCells_50 : decode cX4_listOpenCells 50 = .ok (.goto (-48), 3) := by decide +kernel
theorem dX4_listOpenCells_53 : decode cX4_listOpenCells 53 = .ok (.return_, 1) := by decide +kernel
theorem dX4_listStuckNets_0 : decode cX4_listStuckNets 0 = .ok (.iconst 0, 1) := by decide +kernel
theorem dX4_listStuckNets_1 : decode cX4_listStuckNets 1 = .ok (.istore_n 2, 1) := by decide +kernel
theorem dX4_listStuckNets_2 : decode cX4_listStuckNets 2 = .ok (.iload_n 2, 1) := by decide +kernel
theorem dX4_listStuckNets_3 : decode cX4_listStuckNets 3 = .ok (.bipush 8, 2) := by decide +kernel
theorem dX4_listStuckNets_5 : decode cX4_listStuckNets 5 = .ok (.if_icmp .ge 37, 3) := by decide +kernel
theorem dX4_listStuckNets_8 : decode cX4_listStuckNets 8 = .ok (.iload_n 1, 1) := by decide +kernel
theorem dX4_listStuckNets_9 : decode cX4_listStuckNets 9 = .ok (.iload_n 2, 1) := by decide +kernel
theorem dX4_listStuckNets_10 : decode cX4_listStuckNets 10 = .ok (.invokestatic 124, 3) := by decide +kernel
theorem dX4_listStuckNets_13 : decode cX4_listStuckNets 13 = .ok (.ifCond .eq 23, 3) := by decide +kernel
theorem dX4_listStuckNets_16 : decode cX4_listStuckNets 16 = .ok (.aload_n 0, 1) := by decide +kernel
theorem dX4_listStuckNets_17 : decode cX4_listStuckNets 17 = .ok (.iconst 2, 1) := by decide +kernel
theorem dX4_listStuckNets_18 : decode cX4_listStuckNets 18 = .ok (.iload_n 2, 1) := by decide +kernel
theorem dX4_listStuckNets_19 : decode cX4_listStuckNets 19 = .ok (.iconst 0, 1) := by decide +kernel
theorem dX4_listStuckNets_20 : decode cX4_listStuckNets 20 = .ok (.invokestatic 121, 3) := by decide +kernel
theorem dX4_listStuckNets_23 : decode cX4_listStuckNets 23 = .ok (.invokevirtual 108, 3) := by decide +kernel
theorem dX4_listStuckNets_26 : decode cX4_listStuckNets 26 = .ok (.aload_n 0, 1) := by decide +kernel
theorem dX4_listStuckNets_27 : decode cX4_listStuckNets 27 = .ok (.iconst 2, 1) := by decide +kernel
theorem dX4_listStuckNets_28 : decode cX4_listStuckNets 28 = .ok (.iload_n 2, 1) := by decide +kernel
theorem dX4_listStuckNets_29 : decode cX4_listStuckNets 29 = .ok (.iconst 1, 1) := by decide +kernel
theorem dX4_listStuckNets_30 : decode cX4_listStuckNets 30 = .ok (.invokestatic 121, 3) := by decide +kernel
theorem dX4_listStuckNets_33 : decode cX4_listStuckNets 33 = .ok (.invokevirtual 108, 3) := by decide +kernel
theorem dX4_listStuckNets_36 : decode cX4_listStuckNets 36 = .ok (.iinc 2 1, 3) := by decide +kernel
theorem dX4_listStuckNets_39 : decode cX4_listStuckNets 39 = .ok (.goto (-37), 3) := by decide +kernel
theorem dX4_listStuckNets_42 : decode cX4_listStuckNets 42 = .ok (.return_, 1) := by decide +kernel
theorem dX4_listShorts_0 : decode cX4_listShorts 0 = .ok (.iconst 0, 1) := by decide +kernel
theorem dX4_listShorts_1 : decode cX4_listShorts 1 = .ok (.istore_n 3, 1) := by decide +kernel
theorem dX4_listShorts_2 : decode cX4_listShorts 2 = .ok (.iload_n 3, 1) := by decide +kernel
theorem dX4_listShorts_3 : decode cX4_listShorts 3 = .ok (.bipush 8, 2) := by decide +kernel
theorem dX4_listShorts_5 : decode cX4_listShorts 5 = .ok (.if_icmp .ge 55, 3) := by decide +kernel
theorem dX4_listShorts_8 : decode cX4_listShorts 8 = .ok (.iload_n 3, 1) := by decide +kernel
theorem dX4_listShorts_9 : decode cX4_listShorts 9 = .ok (.iconst 1, 1) := by decide +kernel
theorem dX4_listShorts_10 : decode cX4_listShorts 10 = .ok (.iadd, 1) := by decide +kernel
theorem dX4_listShorts_11 : decode cX4_listShorts 11 = .ok (.istore 4, 2) := by decide +kernel
theorem dX4_listShorts_13 : decode cX4_listShorts 13 = .ok (.iload 4, 2) := by decide +kernel
theorem dX4_listShorts_15 : decode cX4_listShorts 15 = .ok (.bipush 8, 2) := by decide +kernel
theorem dX4_listShorts_17 : decode cX4_listShorts 17 = .ok (.if_icmp .ge 37, 3) := by decide +kernel
theorem dX4_listShorts_20 : decode cX4_listShorts 20 = .ok (.iload_n 2, 1) := by decide +kernel
theorem dX4_listShorts_21 : decode cX4_listShorts 21 = .ok (.iload_n 3, 1) := by decide +kernel
theorem dX4_listShorts_22 : decode cX4_listShorts 22 = .ok (.invokestatic 124, 3) := by decide +kernel
theorem dX4_listShorts_25 : decode cX4_listShorts 25 = .ok (.ifCond .eq 23, 3) := by decide +kernel
theorem dX4_listShorts_28 : decode cX4_listShorts 28 = .ok (.iload_n 2, 1) := by decide +kernel
theorem dX4_listShorts_29 : decode cX4_listShorts 29 = .ok (.iload 4, 2) := by decide +kernel
theorem dX4_listShorts_31 : decode cX4_listShorts 31 = .ok (.invokestatic 124, 3) := by decide +kernel
theorem dX4_listShorts_34 : decode cX4_listShorts 34 = .ok (.ifCond .eq 14, 3) := by decide +kernel
theorem dX4_listShorts_37 : decode cX4_listShorts 37 = .ok (.aload_n 0, 1) := by decide +kernel
theorem dX4_listShorts_38 : decode cX4_listShorts 38 = .ok (.iload_n 1, 1) := by decide +kernel
theorem dX4_listShorts_39 : decode cX4_listShorts 39 = .ok (.iload_n 3, 1) := by decide +kernel
theorem dX4_listShorts_40 : decode cX4_listShorts 40 = .ok (.iload 4, 2) := by decide +kernel
theorem dX4_listShorts_42 : decode cX4_listShorts 42 = .ok (.invokestatic 121, 3) := by decide +kernel
theorem dX4_listShorts_45 : decode cX4_listShorts 45 = .ok (.invokevirtual 108, 3) := by decide +kernel
theorem dX4_listShorts_48 : decode cX4_listShorts 48 = .ok (.iinc 4 1, 3) := by decide +kernel
theorem dX4_listShorts_51 : decode cX4_listShorts 51 = .ok (.goto (-38), 3) := by decide +kernel
theorem dX4_listShorts_54 : decode cX4_listShorts 54 = .ok (.iinc 3 1, 3) := by decide +kernel
theorem dX4_listShorts_57 : decode cX4_listShorts 57 = .ok (.goto (-55), 3) := by decide +kernel
theorem dX4_listShorts_60 : decode cX4_listShorts 60 = .ok (.return_, 1) := by decide +kernel
theorem dX5_init_0 : decode cX5_init 0 = .ok (.aload_n 0, 1) := by decide +kernel
theorem dX5_init_1 : decode cX5_init 1 = .ok (.invokespecial 3, 3) := by decide +kernel
theorem dX5_init_4 : decode cX5_init 4 = .ok (.aload_n 0, 1) := by decide +kernel
theorem dX5_init_5 : decode cX5_init 5 = .ok (.bipush 120, 2) := by decide +kernel
theorem dX5_init_7 : decode cX5_init 7 = .ok (.newarray .byte, 2) := by decide +kernel
theorem dX5_init_9 : decode cX5_init 9 = .ok (.putfield 9, 3) := by decide +kernel
theorem dX5_init_12 : decode cX5_init 12 = .ok (.aload_n 0, 1) := by decide +kernel
theorem dX5_init_13 : decode cX5_init 13 = .ok (.bipush 60, 2) := by decide +kernel
theorem dX5_init_15 : decode cX5_init 15 = .ok (.newarray .byte, 2) := by decide +kernel
theorem dX5_init_17 : decode cX5_init 17 = .ok (.putfield 15, 3) := by decide +kernel
theorem dX5_init_20 : decode cX5_init 20 = .ok (.aload_n 0, 1) := by decide +kernel
theorem dX5_init_21 : decode cX5_init 21 = .ok (.sipush 180, 3) := by decide +kernel
theorem dX5_init_24 : decode cX5_init 24 = .ok (.newarray .int, 2) := by decide +kernel
theorem dX5_init_26 : decode cX5_init 26 = .ok (.putfield 18, 3) := by decide +kernel
theorem dX5_init_29 : decode cX5_init 29 = .ok (.return_, 1) := by decide +kernel
theorem dX5_append_0 : decode cX5_append 0 = .ok (.iload_n 1, 1) := by decide +kernel
theorem dX5_append_1 : decode cX5_append 1 = .ok (.ifCond .lt 9, 3) := by decide +kernel
theorem dX5_append_4 : decode cX5_append 4 = .ok (.iload_n 1, 1) := by decide +kernel
theorem dX5_append_5 : decode cX5_append 5 = .ok (.bipush 127, 2) := by decide +kernel
theorem dX5_append_7 : decode cX5_append 7 = .ok (.if_icmp .le 6, 3) := by decide +kernel
theorem dX5_append_10 : decode cX5_append 10 = .ok (.bipush (-2), 2) := by decide +kernel
theorem dX5_append_12 : decode cX5_append 12 = .ok (.ireturn, 1) := by decide +kernel
theorem dX5_append_13 : decode cX5_append 13 = .ok (.aload_n 0, 1) := by decide +kernel
theorem dX5_append_14 : decode cX5_append 14 = .ok (.getfield 22, 3) := by decide +kernel
theorem dX5_append_17 : decode cX5_append 17 = .ok (.bipush 120, 2) := by decide +kernel
theorem dX5_append_19 : decode cX5_append 19 = .ok (.if_icmp .lt 6, 3) := by decide +kernel
theorem dX5_append_22 : decode cX5_append 22 = .ok (.bipush (-4), 2) := by decide +kernel
theorem dX5_append_24 : decode cX5_append 24 = .ok (.ireturn, 1) := by decide +kernel
theorem dX5_append_25 : decode cX5_append 25 = .ok (.aload_n 0, 1) := by decide +kernel
theorem dX5_append_26 : decode cX5_append 26 = .ok (.getfield 9, 3) := by decide +kernel
theorem dX5_append_29 : decode cX5_append 29 = .ok (.aload_n 0, 1) := by decide +kernel
theorem dX5_append_30 : decode cX5_append 30 = .ok (.getfield 22, 3) := by decide +kernel
theorem dX5_append_33 : decode cX5_append 33 = .ok (.iload_n 1, 1) := by decide +kernel
theorem dX5_append_34 : decode cX5_append 34 = .ok (.i2b, 1) := by decide +kernel
theorem dX5_append_35 : decode cX5_append 35 = .ok (.bastore, 1) := by decide +kernel
theorem dX5_append_36 : decode cX5_append 36 = .ok (.aload_n 0, 1) := by decide +kernel
theorem dX5_append_37 : decode cX5_append 37 = .ok (.dup, 1) := by decide +kernel
theorem dX5_append_38 : decode cX5_append 38 = .ok (.getfield 22, 3) := by decide +kernel
theorem dX5_append_41 : decode cX5_append 41 = .ok (.iconst 1, 1) := by decide +kernel
theorem dX5_append_42 : decode cX5_append 42 = .ok (.iadd, 1) := by decide +kernel
theorem dX5_append_43 : decode cX5_append 43 = .ok (.putfield 22, 3) := by decide +kernel
theorem dX5_append_46 : decode cX5_append 46 = .ok (.aload_n 0, 1) := by decide +kernel
theorem dX5_append_47 : decode cX5_append 47 = .ok (.getfield 22, 3) := by decide +kernel
theorem dX5_append_50 : decode cX5_append 50 = .ok (.ireturn, 1) := by decide +kernel
theorem dX5_drop_0 : decode cX5_drop 0 = .ok (.aload_n 0, 1) := by decide +kernel
theorem dX5_drop_1 : decode cX5_drop 1 = .ok (.getfield 22, 3) := by decide +kernel
theorem dX5_drop_4 : decode cX5_drop 4 = .ok (.istore_n 1, 1) := by decide +kernel
theorem dX5_drop_5 : decode cX5_drop 5 = .ok (.aload_n 0, 1) := by decide +kernel
theorem dX5_drop_6 : decode cX5_drop 6 = .ok (.iconst 0, 1) := by decide +kernel
theorem dX5_drop_7 : decode cX5_drop 7 = .ok (.putfield 22, 3) := by decide +kernel
theorem dX5_drop_10 : decode cX5_drop 10 = .ok (.iload_n 1, 1) := by decide +kernel
theorem dX5_drop_11 : decode cX5_drop 11 = .ok (.ireturn, 1) := by decide +kernel
theorem dX5_parse_0 : decode cX5_parse 0 = .ok (.aload_n 0, 1) := by decide +kernel
theorem dX5_parse_1 : decode cX5_parse 1 = .ok (.iconst 0, 1) := by decide +kernel
theorem dX5_parse_2 : decode cX5_parse 2 = .ok (.putfield 26, 3) := by decide +kernel
theorem dX5_parse_5 : decode cX5_parse 5 = .ok (.aload_n 0, 1) := by decide +kernel
theorem dX5_parse_6 : decode cX5_parse 6 = .ok (.iconst 0, 1) := by decide +kernel
theorem dX5_parse_7 : decode cX5_parse 7 = .ok (.putfield 29, 3) := by decide +kernel
theorem dX5_parse_10 : decode cX5_parse 10 = .ok (.iconst 0, 1) := by decide +kernel
theorem dX5_parse_11 : decode cX5_parse 11 = .ok (.istore_n 1, 1) := by decide +kernel
theorem dX5_parse_12 : decode cX5_parse 12 = .ok (.iload_n 1, 1) := by decide +kernel
theorem dX5_parse_13 : decode cX5_parse 13 = .ok (.aload_n 0, 1) := by decide +kernel
theorem dX5_parse_14 : decode cX5_parse 14 = .ok (.getfield 22, 3) := by decide +kernel
theorem dX5_parse_17 : decode cX5_parse 17 = .ok (.if_icmp .ge 24, 3) := by decide +kernel
theorem dX5_parse_20 : decode cX5_parse 20 = .ok (.aload_n 0, 1) := by decide +kernel
theorem dX5_parse_21 : decode cX5_parse 21 = .ok (.aload_n 0, 1) := by decide +kernel
theorem dX5_parse_22 : decode cX5_parse 22 = .ok (.getfield 9, 3) := by decide +kernel
theorem dX5_parse_25 : decode cX5_parse 25 = .ok (.iload_n 1, 1) := by decide +kernel
theorem dX5_parse_26 : decode cX5_parse 26 = .ok (.baload, 1) := by decide +kernel
theorem dX5_parse_27 : decode cX5_parse 27 = .ok (.invokevirtual 33, 3) := by decide +kernel
theorem dX5_parse_30 : decode cX5_parse 30 = .ok (.ifCond .ne 5, 3) := by decide +kernel
theorem dX5_parse_33 : decode cX5_parse 33 = .ok (.iload_n 1, 1) := by decide +kernel
theorem dX5_parse_34 : decode cX5_parse 34 = .ok (.ireturn, 1) := by decide +kernel
theorem dX5_parse_35 : decode cX5_parse 35 = .ok (.iinc 1 1, 3) := by decide +kernel
theorem dX5_parse_38 : decode cX5_parse 38 = .ok (.goto (-26), 3) := by decide +kernel
theorem dX5_parse_41 : decode cX5_parse 41 = .ok (.aload_n 0, 1) := by decide +kernel
theorem dX5_parse_42 : decode cX5_parse 42 = .ok (.getfield 29, 3) := by decide +kernel
theorem dX5_parse_45 : decode cX5_parse 45 = .ok (.ifCond .ne 10, 3) := by decide +kernel
theorem dX5_parse_48 : decode cX5_parse 48 = .ok (.aload_n 0, 1) := by decide +kernel
theorem dX5_parse_49 : decode cX5_parse 49 = .ok (.getfield 26, 3) := by decide +kernel
theorem dX5_parse_52 : decode cX5_parse 52 = .ok (.ifCond .ne 10, 3) := by decide +kernel
theorem dX5_parse_55 : decode cX5_parse 55 = .ok (.aload_n 0, 1) := by decide +kernel
theorem dX5_parse_56 : decode cX5_parse 56 = .ok (.getfield 22, 3) := by decide +kernel
theorem dX5_parse_59 : decode cX5_parse 59 = .ok (.goto 4, 3) := by decide +kernel
theorem dX5_parse_62 : decode cX5_parse 62 = .ok (.iconst (-1), 1) := by decide +kernel
theorem dX5_parse_63 : decode cX5_parse 63 = .ok (.ireturn, 1) := by decide +kernel
theorem dX5_takes_0 : decode cX5_takes 0 = .ok (.iload_n 1, 1) := by decide +kernel
theorem dX5_takes_1 : decode cX5_takes 1 = .ok (.bipush 32, 2) := by decide +kernel
theorem dX5_takes_3 : decode cX5_takes 3 = .ok (.if_icmp .ne 10, 3) := by decide +kernel
theorem dX5_takes_6 : decode cX5_takes 6 = .ok (.aload_n 0, 1) := by decide +kernel
theorem dX5_takes_7 : decode cX5_takes 7 = .ok (.iconst 0, 1) := by decide +kernel
theorem dX5_takes_8 : decode cX5_takes 8 = .ok (.putfield 37, 3) := by decide +kernel
theorem dX5_takes_11 : decode cX5_takes 11 = .ok (.iconst 1, 1) := by decide +kernel
theorem dX5_takes_12 : decode cX5_takes 12 = .ok (.ireturn, 1) := by decide +kernel
theorem dX5_takes_13 : decode cX5_takes 13 = .ok (.aload_n 0, 1) := by decide +kernel
theorem dX5_takes_14 : decode cX5_takes 14 = .ok (.getfield 29, 3) := by decide +kernel
theorem dX5_takes_17 : decode cX5_takes 17 = .ok (.ifCond .ne 9, 3) := by decide +kernel
theorem dX5_takes_20 : decode cX5_takes 20 = .ok (.aload_n 0, 1) := by decide +kernel
theorem dX5_takes_21 : decode cX5_takes 21 = .ok (.iload_n 1, 1) := by decide +kernel
theorem dX5_takes_22 : decode cX5_takes 22 = .ok (.invokevirtual 40, 3) := by decide +kernel
theorem dX5_takes_25 : decode cX5_takes 25 = .ok (.ireturn, 1) := by decide +kernel
theorem dX5_takes_26 : decode cX5_takes 26 = .ok (.iload_n 1, 1) := by decide +kernel
theorem dX5_takes_27 : decode cX5_takes 27 = .ok (.bipush 59, 2) := by decide +kernel
theorem dX5_takes_29 : decode cX5_takes 29 = .ok (.if_icmp .ne 8, 3) := by decide +kernel
theorem dX5_takes_32 : decode cX5_takes 32 = .ok (.aload_n 0, 1) := by decide +kernel
theorem dX5_takes_33 : decode cX5_takes 33 = .ok (.invokevirtual 43, 3) := by decide +kernel
theorem dX5_takes_36 : decode cX5_takes 36 = .ok (.ireturn, 1) := by decide +kernel
theorem dX5_takes_37 : decode cX5_takes 37 = .ok (.iload_n 1, 1) := by decide +kernel
theorem dX5_takes_38 : decode cX5_takes 38 = .ok (.bipush 48, 2) := by decide +kernel
theorem dX5_takes_40 : decode cX5_takes 40 = .ok (.if_icmp .lt 24, 3) := by decide +kernel
theorem dX5_takes_43 : decode cX5_takes 43 = .ok (.iload_n 1, 1) := by decide +kernel
theorem dX5_takes_44 : decode cX5_takes 44 = .ok (.bipush 57, 2) := by decide +kernel
theorem dX5_takes_46 : decode cX5_takes 46 = .ok (.if_icmp .gt 18, 3) := by decide +kernel
theorem dX5_takes_49 : decode cX5_takes 49 = .ok (.aload_n 0, 1) := by decide +kernel
theorem dX5_takes_50 : decode cX5_takes 50 = .ok (.iload_n 1, 1) := by decide +kernel
theorem dX5_takes_51 : decode cX5_takes 51 = .ok (.bipush 48, 2) := by decide +kernel
theorem dX5_takes_53 : decode cX5_takes 53 = .ok (.isub, 1) := by decide +kernel
theorem dX5_takes_54 : decode cX5_takes 54 = .ok (.invokevirtual 47, 3) := by decide +kernel
theorem dX5_takes_57 : decode cX5_takes 57 = .ok (.ifCond .eq 7, 3) := by decide +kernel
theorem dX5_takes_60 : decode cX5_takes 60 = .ok (.iconst 1, 1) := by decide +kernel
theorem dX5_takes_61 : decode cX5_takes 61 = .ok (.goto 4, 3) := by decide +kernel
theorem dX5_takes_64 : decode cX5_takes 64 = .ok (.iconst 0, 1) := by decide +kernel
theorem dX5_takes_65 : decode cX5_takes 65 = .ok (.ireturn, 1) := by decide +kernel
theorem dX5_takesLetter_0 : decode cX5_takesLetter 0 = .ok (.aload_n 0, 1) := by decide +kernel
theorem dX5_takesLetter_1 : decode cX5_takesLetter 1 = .ok (.iload_n 1, 1) := by decide +kernel
theorem dX5_takesLetter_2 : decode cX5_takesLetter 2 = .ok (.invokestatic 50, 3) := by decide +kernel
theorem dX5_takesLetter_5 : decode cX5_takesLetter 5 = .ok (.putfield 54, 3) := by decide +kernel
theorem dX5_takesLetter_8 : decode cX5_takesLetter 8 = .ok (.aload_n 0, 1) := by decide +kernel
theorem dX5_takesLetter_9 : decode cX5_takesLetter 9 = .ok (.getfield 54, 3) := by decide +kernel
theorem dX5_takesLetter_12 : decode cX5_takesLetter 12 = .ok (.iconst (-1), 1) := by decide +kernel
theorem dX5_takesLetter_13 : decode cX5_takesLetter 13 = .ok (.if_icmp .eq 12, 3) := by decide +kernel
theorem dX5_takesLetter_16 : decode cX5_takesLetter 16 = .ok (.aload_n 0, 1) := by decide +kernel
theorem dX5_takesLetter_17 : decode cX5_takesLetter 17 = .ok (.getfield 26, 3) := by decide +kernel
theorem dX5_takesLetter_20 : decode cX5_takesLetter 20 = .ok (.bipush 60, 2) := by decide +kernel
theorem dX5_takesLetter_22 : decode cX5_takesLetter 22 = .ok (.if_icmp .lt 5, 3) := by decide +kernel
theorem dX5_takesLetter_25 : decode cX5_takesLetter 25 = .ok (.iconst 0, 1) := by decide +kernel
theorem dX5_takesLetter_26 : decode cX5_takesLetter 26 = .ok (.ireturn, 1) := by decide +kernel
theorem dX5_takesLetter_27 : decode cX5_takesLetter 27 = .ok (.aload_n 0, 1) := by decide +kernel
theorem dX5_takesLetter_28 : decode cX5_takesLetter 28 = .ok (.getfield 15, 3) := by decide +kernel
theorem dX5_takesLetter_31 : decode cX5_takesLetter 31 = .ok (.aload_n 0, 1) := by decide +kernel
theorem dX5_takesLetter_32 : decode cX5_takesLetter 32 = .ok (.getfield 26, 3) := by decide +kernel
theorem dX5_takesLetter_35 : decode cX5_takesLetter 35 = .ok (.iload_n 1, 1) := by decide +kernel
theorem dX5_takesLetter_36 : decode cX5_takesLetter 36 = .ok (.i2b, 1) := by decide +kernel
theorem dX5_takesLetter_37 : decode cX5_takesLetter 37 = .ok (.bastore, 1) := by decide +kernel
theorem dX5_takesLetter_38 : decode cX5_takesLetter 38 = .ok (.iconst 0, 1) := by decide +kernel
theorem dX5_takesLetter_39 : decode cX5_takesLetter 39 = .ok (.istore_n 2, 1) := by decide +kernel
theorem dX5_takesLetter_40 : decode cX5_takesLetter 40 = .ok (.iload_n 2, 1) := by decide +kernel
theorem dX5_takesLetter_41 : decode cX5_takesLetter 41 = .ok (.iconst 3, 1) := by decide +kernel
theorem dX5_takesLetter_42 : decode cX5_takesLetter 42 = .ok (.if_icmp .ge 23, 3) := by decide +kernel
theorem dX5_takesLetter_45 : decode cX5_takesLetter 45 = .ok (.aload_n 0, 1) := by decide +kernel
theorem dX5_takesLetter_46 : decode cX5_takesLetter 46 = .ok (.getfield 18, 3) := by decide +kernel
theorem dX5_takesLetter_49 : decode cX5_takesLetter 49 = .ok (.aload_n 0, 1) := by decide +kernel
theorem dX5_takesLetter_50 : decode cX5_takesLetter 50 = .ok (.getfield 26, 3) := by decide +kernel
theorem dX5_takesLetter_53 : decode cX5_takesLetter 53 = .ok (.iconst 3, 1) := by decide +kernel
theorem dX5_takesLetter_54 : decode cX5_takesLetter 54 = .ok (.imul, 1) := by decide +kernel
theorem dX5_takesLetter_55 : decode cX5_takesLetter 55 = .ok (.iload_n 2, 1) := by decide +kernel
theorem dX5_takesLetter_56 : decode cX5_takesLetter 56 = .ok (.iadd, 1) := by decide +kernel
theorem dX5_takesLetter_57 : decode cX5_takesLetter 57 = .ok (.iconst 0, 1) := by decide +kernel
theorem dX5_takesLetter_58 : decode cX5_takesLetter 58 = .ok (.iastore, 1) := by decide +kernel
theorem dX5_takesLetter_59 : decode cX5_takesLetter 59 = .ok (.iinc 2 1, 3) := by decide +kernel
theorem dX5_takesLetter_62 : decode cX5_takesLetter 62 = .ok (.goto (-22), 3) := by decide +kernel
theorem dX5_takesLetter_65 : decode cX5_takesLetter 65 = .ok (.aload_n 0, 1) := by decide +kernel
theorem dX5_takesLetter_66 : decode cX5_takesLetter 66 = .ok (.iconst 1, 1) := by decide +kernel
theorem dX5_takesLetter_67 : decode cX5_takesLetter 67 = .ok (.putfield 29, 3) := by decide +kernel
theorem dX5_takesLetter_70 : decode cX5_takesLetter 70 = .ok (.aload_n 0, 1) := by decide +kernel
theorem dX5_takesLetter_71 : decode cX5_takesLetter 71 = .ok (.iconst 0, 1) := by decide +kernel
theorem dX5_takesLetter_72 : decode cX5_takesLetter 72 = .ok (.putfield 57, 3) := by decide +kernel
theorem dX5_takesLetter_75 : decode cX5_takesLetter 75 = .ok (.aload_n 0, 1) := by decide +kernel
theorem dX5_takesLetter_76 : decode cX5_takesLetter 76 = .ok (.iconst 0, 1) := by decide +kernel
theorem dX5_takesLetter_77 : decode cX5_takesLetter 77 = .ok (.putfield 37, 3) := by decide +kernel
theorem dX5_takesLetter_80 : decode cX5_takesLetter 80 = .ok (.iconst 1, 1) := by decide +kernel
theorem dX5_takesLetter_81 : decode cX5_takesLetter 81 = .ok (.ireturn, 1) := by decide +kernel
theorem dX5_numbersOf_0 : decode cX5_numbersOf 0 = .ok (.iload_n 0, 1) := by decide +kernel
theorem dX5_numbersOf_1 : decode cX5_numbersOf 1 = .ok (.tableswitch 97 99 117 #[93, 97, 97, 97, 97, 91, 97, 97, 93, 97, 97, 97, 93, 95, 97, 97, 95, 97, 93], 91) := by decide +kernel
theorem dX5_numbersOf_92 : decode cX5_numbersOf 92 = .ok (.iconst 0, 1) := by decide +kernel
theorem dX5_numbersOf_93 : decode cX5_numbersOf 93 = .ok (.ireturn, 1) := by decide +kernel
theorem dX5_numbersOf_94 : decode cX5_numbersOf 94 = .ok (.iconst 2, 1) := by decide +kernel
theorem dX5_numbersOf_95 : decode cX5_numbersOf 95 = .ok (.ireturn, 1) := by decide +kernel
theorem dX5_numbersOf_96 : decode cX5_numbersOf 96 = .ok (.iconst 3, 1) := by decide +kernel
theorem dX5_numbersOf_97 : decode cX5_numbersOf 97 = .ok (.ireturn, 1) := by decide +kernel
theorem dX5_numbersOf_98 : decode cX5_numbersOf 98 = .ok (.iconst (-1), 1) := by decide +kernel
theorem dX5_numbersOf_99 : decode cX5_numbersOf 99 = .ok (.ireturn, 1) := by decide +kernel
theorem dX5_takesEnd_0 : decode cX5_takesEnd 0 = .ok (.aload_n 0, 1) := by decide +kernel
theorem dX5_takesEnd_1 : decode cX5_takesEnd 1 = .ok (.getfield 57, 3) := by decide +kernel
theorem dX5_takesEnd_4 : decode cX5_takesEnd 4 = .ok (.aload_n 0, 1) := by decide +kernel
theorem dX5_takesEnd_5 : decode cX5_takesEnd 5 = .ok (.getfield 54, 3) := by decide +kernel
theorem dX5_takesEnd_8 : decode cX5_takesEnd 8 = .ok (.if_icmp .eq 5, 3) := by decide +kernel
theorem dX5_takesEnd_11 : decode cX5_takesEnd 11 = .ok (.iconst 0, 1) := by decide +kernel
theorem dX5_takesEnd_12 : decode cX5_takesEnd 12 = .ok (.ireturn, 1) := by decide +kernel
theorem dX5_takesEnd_13 : decode cX5_takesEnd 13 = .ok (.aload_n 0, 1) := by decide +kernel
theorem dX5_takesEnd_14 : decode cX5_takesEnd 14 = .ok (.dup, 1) := by decide +kernel
theorem dX5_takesEnd_15 : decode cX5_takesEnd 15 = .ok (.getfield 26, 3) := by decide +kernel
theorem dX5_takesEnd_18 : decode cX5_takesEnd 18 = .ok (.iconst 1, 1) := by decide +kernel
theorem dX5_takesEnd_19 : decode cX5_takesEnd 19 = .ok (.iadd, 1) := by decide +kernel
theorem dX5_takesEnd_20 : decode cX5_takesEnd 20 = .ok (.putfield 26, 3) := by decide +kernel
theorem dX5_takesEnd_23 : decode cX5_takesEnd 23 = .ok (.aload_n 0, 1) := by decide +kernel
theorem dX5_takesEnd_24 : decode cX5_takesEnd 24 = .ok (.iconst 0, 1) := by decide +kernel
theorem dX5_takesEnd_25 : decode cX5_takesEnd 25 = .ok (.putfield 29, 3) := by decide +kernel
theorem dX5_takesEnd_28 : decode cX5_takesEnd 28 = .ok (.iconst 1, 1) := by decide +kernel
theorem dX5_takesEnd_29 : decode cX5_takesEnd 29 = .ok (.ireturn, 1) := by decide +kernel
theorem dX5_takesDigit_0 : decode cX5_takesDigit 0 = .ok (.aload_n 0, 1) := by decide +kernel
theorem dX5_takesDigit_1 : decode cX5_takesDigit 1 = .ok (.getfield 37, 3) := by decide +kernel
theorem dX5_takesDigit_4 : decode cX5_takesDigit 4 = .ok (.ifCond .ne 29, 3) := by decide +kernel
theorem dX5_takesDigit_7 : decode cX5_takesDigit 7 = .ok (.aload_n 0, 1) := by decide +kernel
theorem dX5_takesDigit_8 : decode cX5_takesDigit 8 = .ok (.getfield 57, 3) := by decide +kernel
theorem dX5_takesDigit_11 : decode cX5_takesDigit 11 = .ok (.aload_n 0, 1) := by decide +kernel
theorem dX5_takesDigit_12 : decode cX5_takesDigit 12 = .ok (.getfield 54, 3) := by decide +kernel
theorem dX5_takesDigit_15 : decode cX5_takesDigit 15 = .ok (.if_icmp .ne 5, 3) := by decide +kernel
theorem dX5_takesDigit_18 : decode cX5_takesDigit 18 = .ok (.iconst 0, 1) := by decide +kernel
theorem dX5_takesDigit_19 : decode cX5_takesDigit 19 = .ok (.ireturn, 1) := by decide +kernel
theorem dX5_takesDigit_20 : decode cX5_takesDigit 20 = .ok (.aload_n 0, 1) := by decide +kernel
theorem dX5_takesDigit_21 : decode cX5_takesDigit 21 = .ok (.dup, 1) := by decide +kernel
theorem dX5_takesDigit_22 : decode cX5_takesDigit 22 = .ok (.getfield 57, 3) := by decide +kernel
theorem dX5_takesDigit_25 : decode cX5_takesDigit 25 = .ok (.iconst 1, 1) := by decide +kernel
theorem dX5_takesDigit_26 : decode cX5_takesDigit 26 = .ok (.iadd, 1) := by decide +kernel
theorem dX5_takesDigit_27 : decode cX5_takesDigit 27 = .ok (.putfield 57, 3) := by decide +kernel
theorem dX5_takesDigit_30 : decode cX5_takesDigit 30 = .ok (.goto 13, 3) := by decide +kernel
theorem dX5_takesDigit_33 : decode cX5_takesDigit 33 = .ok (.aload_n 0, 1) := by decide +kernel
theorem dX5_takesDigit_34 : decode cX5_takesDigit 34 = .ok (.getfield 37, 3) := by decide +kernel
theorem dX5_takesDigit_37 : decode cX5_takesDigit 37 = .ok (.iconst 3, 1) := by decide +kernel
theorem dX5_takesDigit_38 : decode cX5_takesDigit 38 = .ok (.if_icmp .ne 5, 3) := by decide +kernel
theorem dX5_takesDigit_41 : decode cX5_takesDigit 41 = .ok (.iconst 0, 1) := by decide +kernel
theorem dX5_takesDigit_42 : decode cX5_takesDigit 42 = .ok (.ireturn, 1) := by decide +kernel
theorem dX5_takesDigit_43 : decode cX5_takesDigit 43 = .ok (.aload_n 0, 1) := by decide +kernel
theorem dX5_takesDigit_44 : decode cX5_takesDigit 44 = .ok (.getfield 26, 3) := by decide +kernel
theorem dX5_takesDigit_47 : decode cX5_takesDigit 47 = .ok (.iconst 3, 1) := by decide +kernel
theorem dX5_takesDigit_48 : decode cX5_takesDigit 48 = .ok (.imul, 1) := by decide +kernel
theorem dX5_takesDigit_49 : decode cX5_takesDigit 49 = .ok (.aload_n 0, 1) := by decide +kernel
theorem dX5_takesDigit_50 : decode cX5_takesDigit 50 = .ok (.getfield 57, 3) := by decide +kernel
theorem dX5_takesDigit_53 : decode cX5_takesDigit 53 = .ok (.iadd, 1) := by decide +kernel
theorem dX5_takesDigit_54 : decode cX5_takesDigit 54 = .ok (.iconst 1, 1) := by decide +kernel
theorem dX5_takesDigit_55 : decode cX5_takesDigit 55 = .ok (.isub, 1) := by decide +kernel
theorem dX5_takesDigit_56 : decode cX5_takesDigit 56 = .ok (.istore_n 2, 1) := by decide +kernel
theorem dX5_takesDigit_57 : decode cX5_takesDigit 57 = .ok (.aload_n 0, 1) := by decide +kernel
theorem dX5_takesDigit_58 : decode cX5_takesDigit 58 = .ok (.getfield 18, 3) := by decide +kernel
theorem dX5_takesDigit_61 : decode cX5_takesDigit 61 = .ok (.iload_n 2, 1) := by decide +kernel
theorem dX5_takesDigit_62 : decode cX5_takesDigit 62 = .ok (.bipush 10, 2) := by decide +kernel
theorem dX5_takesDigit_64 : decode cX5_takesDigit 64 = .ok (.aload_n 0, 1) := by decide +kernel
theorem dX5_takesDigit_65 : decode cX5_takesDigit 65 = .ok (.getfield 18, 3) := by decide +kernel
theorem dX5_takesDigit_68 : decode cX5_takesDigit 68 = .ok (.iload_n 2, 1) := by decide +kernel
theorem dX5_takesDigit_69 : decode cX5_takesDigit 69 = .ok (.iaload, 1) := by decide +kernel
theorem dX5_takesDigit_70 : decode cX5_takesDigit 70 = .ok (.imul, 1) := by decide +kernel
theorem dX5_takesDigit_71 : decode cX5_takesDigit 71 = .ok (.iload_n 1, 1) := by decide +kernel
theorem dX5_takesDigit_72 : decode cX5_takesDigit 72 = .ok (.iadd, 1) := by decide +kernel
theorem dX5_takesDigit_73 : decode cX5_takesDigit 73 = .ok (.iastore, 1) := by decide +kernel
theorem dX5_takesDigit_74 : decode cX5_takesDigit 74 = .ok (.aload_n 0, 1) := by decide +kernel
theorem dX5_takesDigit_75 : decode cX5_takesDigit 75 = .ok (.dup, 1) := by decide +kernel
theorem dX5_takesDigit_76 : decode cX5_takesDigit 76 = .ok (.getfield 37, 3) := by decide +kernel
theorem dX5_takesDigit_79 : decode cX5_takesDigit 79 = .ok (.iconst 1, 1) := by decide +kernel
theorem dX5_takesDigit_80 : decode cX5_takesDigit 80 = .ok (.iadd, 1) := by decide +kernel
theorem dX5_takesDigit_81 : decode cX5_takesDigit 81 = .ok (.putfield 37, 3) := by decide +kernel
theorem dX5_takesDigit_84 : decode cX5_takesDigit 84 = .ok (.iconst 1, 1) := by decide +kernel
theorem dX5_takesDigit_85 : decode cX5_takesDigit 85 = .ok (.ireturn, 1) := by decide +kernel
theorem dX6_init_0 : decode cX6_init 0 = .ok (.aload_n 0, 1) := by decide +kernel
theorem dX6_init_1 : decode cX6_init 1 = .ok (.invokespecial 3, 3) := by decide +kernel
theorem dX6_init_4 : decode cX6_init 4 = .ok (.new 9, 3) := by decide +kernel
theorem dX6_init_7 : decode cX6_init 7 = .ok (.dup, 1) := by decide +kernel
theorem dX6_init_8 : decode cX6_init 8 = .ok (.invokespecial 11, 3) := by decide +kernel
theorem dX6_init_11 : decode cX6_init 11 = .ok (.astore_n 1, 1) := by decide +kernel
theorem dX6_init_12 : decode cX6_init 12 = .ok (.aload_n 0, 1) := by decide +kernel
theorem dX6_init_13 : decode cX6_init 13 = .ok (.aload_n 1, 1) := by decide +kernel
theorem dX6_init_14 : decode cX6_init 14 = .ok (.putfield 12, 3) := by decide +kernel
theorem dX6_init_17 : decode cX6_init 17 = .ok (.aload_n 0, 1) := by decide +kernel
theorem dX6_init_18 : decode cX6_init 18 = .ok (.new 16, 3) := by decide +kernel
theorem dX6_init_21 : decode cX6_init 21 = .ok (.dup, 1) := by decide +kernel
theorem dX6_init_22 : decode cX6_init 22 = .ok (.aload_n 1, 1) := by decide +kernel
theorem dX6_init_23 : decode cX6_init 23 = .ok (.invokespecial 18, 3) := by decide +kernel
theorem dX6_init_26 : decode cX6_init 26 = .ok (.putfield 21, 3) := by decide +kernel
theorem dX6_init_29 : decode cX6_init 29 = .ok (.aload_n 0, 1) := by decide +kernel
theorem dX6_init_30 : decode cX6_init 30 = .ok (.new 25, 3) := by decide +kernel
theorem dX6_init_33 : decode cX6_init 33 = .ok (.dup, 1) := by decide +kernel
theorem dX6_init_34 : decode cX6_init 34 = .ok (.aload_n 1, 1) := by decide +kernel
theorem dX6_init_35 : decode cX6_init 35 = .ok (.invokespecial 27, 3) := by decide +kernel
theorem dX6_init_38 : decode cX6_init 38 = .ok (.putfield 28, 3) := by decide +kernel
theorem dX6_init_41 : decode cX6_init 41 = .ok (.aload_n 0, 1) := by decide +kernel
theorem dX6_init_42 : decode cX6_init 42 = .ok (.new 32, 3) := by decide +kernel
theorem dX6_init_45 : decode cX6_init 45 = .ok (.dup, 1) := by decide +kernel
theorem dX6_init_46 : decode cX6_init 46 = .ok (.invokespecial 34, 3) := by decide +kernel
theorem dX6_init_49 : decode cX6_init 49 = .ok (.putfield 35, 3) := by decide +kernel
theorem dX6_init_52 : decode cX6_init 52 = .ok (.aload_n 0, 1) := by decide +kernel
theorem dX6_init_53 : decode cX6_init 53 = .ok (.new 39, 3) := by decide +kernel
theorem dX6_init_56 : decode cX6_init 56 = .ok (.dup, 1) := by decide +kernel
theorem dX6_init_57 : decode cX6_init 57 = .ok (.invokespecial 41, 3) := by decide +kernel
theorem dX6_init_60 : decode cX6_init 60 = .ok (.putfield 42, 3) := by decide +kernel
theorem dX6_init_63 : decode cX6_init 63 = .ok (.return_, 1) := by decide +kernel
theorem dX6_chip_0 : decode cX6_chip 0 = .ok (.aload_n 0, 1) := by decide +kernel
theorem dX6_chip_1 : decode cX6_chip 1 = .ok (.getfield 35, 3) := by decide +kernel
theorem dX6_chip_4 : decode cX6_chip 4 = .ok (.aload_n 0, 1) := by decide +kernel
theorem dX6_chip_5 : decode cX6_chip 5 = .ok (.getfield 12, 3) := by decide +kernel
theorem dX6_chip_8 : decode cX6_chip 8 = .ok (.invokevirtual 46, 3) := by decide +kernel
theorem dX6_chip_11 : decode cX6_chip 11 = .ok (.aload_n 0, 1) := by decide +kernel
theorem dX6_chip_12 : decode cX6_chip 12 = .ok (.aload_n 0, 1) := by decide +kernel
theorem dX6_chip_13 : decode cX6_chip 13 = .ok (.getfield 12, 3) := by decide +kernel
theorem dX6_chip_16 : decode cX6_chip 16 = .ok (.iload_n 1, 1) := by decide +kernel
theorem dX6_chip_17 : decode cX6_chip 17 = .ok (.iload_n 2, 1) := by decide +kernel
theorem dX6_chip_18 : decode cX6_chip 18 = .ok (.invokevirtual 49, 3) := by decide +kernel
theorem dX6_chip_21 : decode cX6_chip 21 = .ok (.invokevirtual 53, 3) := by decide +kernel
theorem dX6_chip_24 : decode cX6_chip 24 = .ok (.ireturn, 1) := by decide +kernel
theorem dX6_cell_0 : decode cX6_cell 0 = .ok (.aload_n 0, 1) := by decide +kernel
theorem dX6_cell_1 : decode cX6_cell 1 = .ok (.getfield 35, 3) := by decide +kernel
theorem dX6_cell_4 : decode cX6_cell 4 = .ok (.aload_n 0, 1) := by decide +kernel
theorem dX6_cell_5 : decode cX6_cell 5 = .ok (.getfield 12, 3) := by decide +kernel
theorem dX6_cell_8 : decode cX6_cell 8 = .ok (.invokevirtual 46, 3) := by decide +kernel
theorem dX6_cell_11 : decode cX6_cell 11 = .ok (.aload_n 0, 1) := by decide +kernel
theorem dX6_cell_12 : decode cX6_cell 12 = .ok (.aload_n 0, 1) := by decide +kernel
theorem dX6_cell_13 : decode cX6_cell 13 = .ok (.getfield 12, 3) := by decide +kernel
theorem dX6_cell_16 : decode cX6_cell 16 = .ok (.iload_n 1, 1) := by decide +kernel
theorem dX6_cell_17 : decode cX6_cell 17 = .ok (.iload_n 2, 1) := by decide +kernel
theorem dX6_cell_18 : decode cX6_cell 18 = .ok (.iload_n 3, 1) := by decide +kernel
theorem dX6_cell_19 : decode cX6_cell 19 = .ok (.invokevirtual 57, 3) := by decide +kernel
theorem dX6_cell_22 : decode cX6_cell 22 = .ok (.invokevirtual 53, 3) := by decide +kernel
theorem dX6_cell_25 : decode cX6_cell 25 = .ok (.ireturn, 1) := by decide +kernel
theorem dX6_opens_0 : decode cX6_opens 0 = .ok (.aload_n 0, 1) := by decide +kernel
theorem dX6_opens_1 : decode cX6_opens 1 = .ok (.getfield 35, 3) := by decide +kernel
theorem dX6_opens_4 : decode cX6_opens 4 = .ok (.aload_n 0, 1) := by decide +kernel
theorem dX6_opens_5 : decode cX6_opens 5 = .ok (.getfield 12, 3) := by decide +kernel
theorem dX6_opens_8 : decode cX6_opens 8 = .ok (.invokevirtual 46, 3) := by decide +kernel
theorem dX6_opens_11 : decode cX6_opens 11 = .ok (.aload_n 0, 1) := by decide +kernel
theorem dX6_opens_12 : decode cX6_opens 12 = .ok (.aload_n 0, 1) := by decide +kernel
theorem dX6_opens_13 : decode cX6_opens 13 = .ok (.getfield 12, 3) := by decide +kernel
theorem dX6_opens_16 : decode cX6_opens 16 = .ok (.iload_n 1, 1) := by decide +kernel
theorem dX6_opens_17 : decode cX6_opens 17 = .ok (.iload_n 2, 1) := by decide +kernel
theorem dX6_opens_18 : decode cX6_opens 18 = .ok (.invokevirtual 61, 3) := by decide +kernel
theorem dX6_opens_21 : decode cX6_opens 21 = .ok (.invokevirtual 53, 3) := by decide +kernel
theorem dX6_opens_24 : decode cX6_opens 24 = .ok (.ireturn, 1) := by decide +kernel
theorem dX6_sticks_0 : decode cX6_sticks 0 = .ok (.aload_n 0, 1) := by decide +kernel
theorem dX6_sticks_1 : decode cX6_sticks 1 = .ok (.getfield 35, 3) := by decide +kernel
theorem dX6_sticks_4 : decode cX6_sticks 4 = .ok (.aload_n 0, 1) := by decide +kernel
theorem dX6_sticks_5 : decode cX6_sticks 5 = .ok (.getfield 12, 3) := by decide +kernel
theorem dX6_sticks_8 : decode cX6_sticks 8 = .ok (.invokevirtual 46, 3) := by decide +kernel
theorem dX6_sticks_11 : decode cX6_sticks 11 = .ok (.aload_n 0, 1) := by decide +kernel
theorem dX6_sticks_12 : decode cX6_sticks 12 = .ok (.aload_n 0, 1) := by decide +kernel
theorem dX6_sticks_13 : decode cX6_sticks 13 = .ok (.getfield 12, 3) := by decide +kernel
theorem dX6_sticks_16 : decode cX6_sticks 16 = .ok (.iload_n 1, 1) := by decide +kernel
theorem dX6_sticks_17 : decode cX6_sticks 17 = .ok (.iload_n 2, 1) := by decide +kernel
theorem dX6_sticks_18 : decode cX6_sticks 18 = .ok (.invokevirtual 64, 3) := by decide +kernel
theorem dX6_sticks_21 : decode cX6_sticks 21 = .ok (.invokevirtual 53, 3) := by decide +kernel
theorem dX6_sticks_24 : decode cX6_sticks 24 = .ok (.ireturn, 1) := by decide +kernel
theorem dX6_shorts_0 : decode cX6_shorts 0 = .ok (.aload_n 0, 1) := by decide +kernel
theorem dX6_shorts_1 : decode cX6_shorts 1 = .ok (.getfield 35, 3) := by decide +kernel
theorem dX6_shorts_4 : decode cX6_shorts 4 = .ok (.aload_n 0, 1) := by decide +kernel
theorem dX6_shorts_5 : decode cX6_shorts 5 = .ok (.getfield 12, 3) := by decide +kernel
theorem dX6_shorts_8 : decode cX6_shorts 8 = .ok (.invokevirtual 46, 3) := by decide +kernel
theorem dX6_shorts_11 : decode cX6_shorts 11 = .ok (.aload_n 0, 1) := by decide +kernel
theorem dX6_shorts_12 : decode cX6_shorts 12 = .ok (.aload_n 0, 1) := by decide +kernel
theorem dX6_shorts_13 : decode cX6_shorts 13 = .ok (.getfield 12, 3) := by decide +kernel
theorem dX6_shorts_16 : decode cX6_shorts 16 = .ok (.iload_n 1, 1) := by decide +kernel
theorem dX6_shorts_17 : decode cX6_shorts 17 = .ok (.iload_n 2, 1) := by decide +kernel
theorem dX6_shorts_18 : decode cX6_shorts 18 = .ok (.iload_n 3, 1) := by decide +kernel
theorem dX6_shorts_19 : decode cX6_shorts 19 = .ok (.invokevirtual 67, 3) := by decide +kernel
theorem dX6_shorts_22 : decode cX6_shorts 22 = .ok (.invokevirtual 53, 3) := by decide +kernel
theorem dX6_shorts_25 : decode cX6_shorts 25 = .ok (.ireturn, 1) := by decide +kernel
theorem dX6_heals_0 : decode cX6_heals 0 = .ok (.aload_n 0, 1) := by decide +kernel
theorem dX6_heals_1 : decode cX6_heals 1 = .ok (.getfield 35, 3) := by decide +kernel
theorem dX6_heals_4 : decode cX6_heals 4 = .ok (.aload_n 0, 1) := by decide +kernel
theorem dX6_heals_5 : decode cX6_heals 5 = .ok (.getfield 12, 3) := by decide +kernel
theorem dX6_heals_8 : decode cX6_heals 8 = .ok (.invokevirtual 46, 3) := by decide +kernel
theorem dX6_heals_11 : decode cX6_heals 11 = .ok (.aload_n 0, 1) := by decide +kernel
theorem dX6_heals_12 : decode cX6_heals 12 = .ok (.aload_n 0, 1) := by decide +kernel
theorem dX6_heals_13 : decode cX6_heals 13 = .ok (.getfield 12, 3) := by decide +kernel
theorem dX6_heals_16 : decode cX6_heals 16 = .ok (.invokevirtual 70, 3) := by decide +kernel
theorem dX6_heals_19 : decode cX6_heals 19 = .ok (.invokevirtual 53, 3) := by decide +kernel
theorem dX6_heals_22 : decode cX6_heals 22 = .ok (.ireturn, 1) := by decide +kernel
theorem dX6_clock_0 : decode cX6_clock 0 = .ok (.aload_n 0, 1) := by decide +kernel
theorem dX6_clock_1 : decode cX6_clock 1 = .ok (.getfield 35, 3) := by decide +kernel
theorem dX6_clock_4 : decode cX6_clock 4 = .ok (.aload_n 0, 1) := by decide +kernel
theorem dX6_clock_5 : decode cX6_clock 5 = .ok (.getfield 12, 3) := by decide +kernel
theorem dX6_clock_8 : decode cX6_clock 8 = .ok (.invokevirtual 46, 3) := by decide +kernel
theorem dX6_clock_11 : decode cX6_clock 11 = .ok (.aload_n 0, 1) := by decide +kernel
theorem dX6_clock_12 : decode cX6_clock 12 = .ok (.aload_n 0, 1) := by decide +kernel
theorem dX6_clock_13 : decode cX6_clock 13 = .ok (.getfield 12, 3) := by decide +kernel
theorem dX6_clock_16 : decode cX6_clock 16 = .ok (.iload_n 1, 1) := by decide +kernel
theorem dX6_clock_17 : decode cX6_clock 17 = .ok (.iload_n 2, 1) := by decide +kernel
theorem dX6_clock_18 : decode cX6_clock 18 = .ok (.aload_n 0, 1) := by decide +kernel
theorem dX6_clock_19 : decode cX6_clock 19 = .ok (.getfield 21, 3) := by decide +kernel
theorem dX6_clock_22 : decode cX6_clock 22 = .ok (.invokevirtual 74, 3) := by decide +kernel
theorem dX6_clock_25 : decode cX6_clock 25 = .ok (.invokevirtual 53, 3) := by decide +kernel
theorem dX6_clock_28 : decode cX6_clock 28 = .ok (.ireturn, 1) := by decide +kernel
theorem dX6_clocks_0 : decode cX6_clocks 0 = .ok (.aload_n 0, 1) := by decide +kernel
theorem dX6_clocks_1 : decode cX6_clocks 1 = .ok (.getfield 35, 3) := by decide +kernel
theorem dX6_clocks_4 : decode cX6_clocks 4 = .ok (.aload_n 0, 1) := by decide +kernel
theorem dX6_clocks_5 : decode cX6_clocks 5 = .ok (.getfield 12, 3) := by decide +kernel
theorem dX6_clocks_8 : decode cX6_clocks 8 = .ok (.invokevirtual 46, 3) := by decide +kernel
theorem dX6_clocks_11 : decode cX6_clocks 11 = .ok (.aload_n 0, 1) := by decide +kernel
theorem dX6_clocks_12 : decode cX6_clocks 12 = .ok (.aload_n 0, 1) := by decide +kernel
theorem dX6_clocks_13 : decode cX6_clocks 13 = .ok (.iload_n 1, 1) := by decide +kernel
theorem dX6_clocks_14 : decode cX6_clocks 14 = .ok (.iload_n 2, 1) := by decide +kernel
theorem dX6_clocks_15 : decode cX6_clocks 15 = .ok (.iload_n 3, 1) := by decide +kernel
theorem dX6_clocks_16 : decode cX6_clocks 16 = .ok (.invokevirtual 78, 3) := by decide +kernel
theorem dX6_clocks_19 : decode cX6_clocks 19 = .ok (.invokevirtual 53, 3) := by decide +kernel
theorem dX6_clocks_22 : decode cX6_clocks 22 = .ok (.ireturn, 1) := by decide +kernel
theorem dX6_port_0 : decode cX6_port 0 = .ok (.aload_n 0, 1) := by decide +kernel
theorem dX6_port_1 : decode cX6_port 1 = .ok (.aload_n 0, 1) := by decide +kernel
theorem dX6_port_2 : decode cX6_port 2 = .ok (.iload_n 1, 1) := by decide +kernel
theorem dX6_port_3 : decode cX6_port 3 = .ok (.invokevirtual 81, 3) := by decide +kernel
theorem dX6_port_6 : decode cX6_port 6 = .ok (.invokevirtual 84, 3) := by decide +kernel
theorem dX6_port_9 : decode cX6_port 9 = .ok (.ireturn, 1) := by decide +kernel
theorem dX6_of_0 : decode cX6_of 0 = .ok (.aload_n 0, 1) := by decide +kernel
theorem dX6_of_1 : decode cX6_of 1 = .ok (.getfield 12, 3) := by decide +kernel
theorem dX6_of_4 : decode cX6_of 4 = .ok (.iload_n 1, 1) := by decide +kernel
theorem dX6_of_5 : decode cX6_of 5 = .ok (.invokevirtual 87, 3) := by decide +kernel
theorem dX6_of_8 : decode cX6_of 8 = .ok (.ifCond .ne 10, 3) := by decide +kernel
theorem dX6_of_11 : decode cX6_of 11 = .ok (.aload_n 0, 1) := by decide +kernel
theorem dX6_of_12 : decode cX6_of 12 = .ok (.bipush (-2), 2) := by decide +kernel
theorem dX6_of_14 : decode cX6_of 14 = .ok (.invokevirtual 84, 3) := by decide +kernel
theorem dX6_of_17 : decode cX6_of 17 = .ok (.ireturn, 1) := by decide +kernel
theorem dX6_of_18 : decode cX6_of 18 = .ok (.aload_n 0, 1) := by decide +kernel
theorem dX6_of_19 : decode cX6_of 19 = .ok (.aload_n 0, 1) := by decide +kernel
theorem dX6_of_20 : decode cX6_of 20 = .ok (.getfield 12, 3) := by decide +kernel
theorem dX6_of_23 : decode cX6_of 23 = .ok (.getfield 91, 3) := by decide +kernel
theorem dX6_of_26 : decode cX6_of 26 = .ok (.iload_n 1, 1) := by decide +kernel
theorem dX6_of_27 : decode cX6_of 27 = .ok (.aaload, 1) := by decide +kernel
theorem dX6_of_28 : decode cX6_of 28 = .ok (.iload_n 2, 1) := by decide +kernel
theorem dX6_of_29 : decode cX6_of 29 = .ok (.invokevirtual 95, 3) := by decide +kernel
theorem dX6_of_32 : decode cX6_of 32 = .ok (.invokevirtual 84, 3) := by decide +kernel
theorem dX6_of_35 : decode cX6_of 35 = .ok (.ireturn, 1) := by decide +kernel
theorem dX6_about_0 : decode cX6_about 0 = .ok (.aload_n 0, 1) := by decide +kernel
theorem dX6_about_1 : decode cX6_about 1 = .ok (.getfield 12, 3) := by decide +kernel
theorem dX6_about_4 : decode cX6_about 4 = .ok (.iload_n 1, 1) := by decide +kernel
theorem dX6_about_5 : decode cX6_about 5 = .ok (.iload_n 2, 1) := by decide +kernel
theorem dX6_about_6 : decode cX6_about 6 = .ok (.invokevirtual 100, 3) := by decide +kernel
theorem dX6_about_9 : decode cX6_about 9 = .ok (.ifCond .ne 10, 3) := by decide +kernel
theorem dX6_about_12 : decode cX6_about 12 = .ok (.aload_n 0, 1) := by decide +kernel
theorem dX6_about_13 : decode cX6_about 13 = .ok (.bipush (-2), 2) := by decide +kernel
theorem dX6_about_15 : decode cX6_about 15 = .ok (.invokevirtual 84, 3) := by decide +kernel
theorem dX6_about_18 : decode cX6_about 18 = .ok (.ireturn, 1) := by decide +kernel
theorem dX6_about_19 : decode cX6_about 19 = .ok (.aload_n 0, 1) := by decide +kernel
theorem dX6_about_20 : decode cX6_about 20 = .ok (.aload_n 0, 1) := by decide +kernel
theorem dX6_about_21 : decode cX6_about 21 = .ok (.iload_n 1, 1) := by decide +kernel
theorem dX6_about_22 : decode cX6_about 22 = .ok (.iload_n 2, 1) := by decide +kernel
theorem dX6_about_23 : decode cX6_about 23 = .ok (.iload_n 3, 1) := by decide +kernel
theorem dX6_about_24 : decode cX6_about 24 = .ok (.invokevirtual 104, 3) := by decide +kernel
theorem dX6_about_27 : decode cX6_about 27 = .ok (.invokevirtual 84, 3) := by decide +kernel
theorem dX6_about_30 : decode cX6_about 30 = .ok (.ireturn, 1) := by decide +kernel
theorem dX6_count_0 : decode cX6_count 0 = .ok (.aload_n 0, 1) := by decide +kernel
theorem dX6_count_1 : decode cX6_count 1 = .ok (.aload_n 0, 1) := by decide +kernel
theorem dX6_count_2 : decode cX6_count 2 = .ok (.getfield 12, 3) := by decide +kernel
theorem dX6_count_5 : decode cX6_count 5 = .ok (.iload_n 1, 1) := by decide +kernel
theorem dX6_count_6 : decode cX6_count 6 = .ok (.invokevirtual 107, 3) := by decide +kernel
theorem dX6_count_9 : decode cX6_count 9 = .ok (.invokevirtual 84, 3) := by decide +kernel
theorem dX6_count_12 : decode cX6_count 12 = .ok (.ireturn, 1) := by decide +kernel
theorem dX6_fault_0 : decode cX6_fault 0 = .ok (.iload_n 1, 1) := by decide +kernel
theorem dX6_fault_1 : decode cX6_fault 1 = .ok (.ifCond .ge 10, 3) := by decide +kernel
theorem dX6_fault_4 : decode cX6_fault 4 = .ok (.aload_n 0, 1) := by decide +kernel
theorem dX6_fault_5 : decode cX6_fault 5 = .ok (.bipush (-2), 2) := by decide +kernel
theorem dX6_fault_7 : decode cX6_fault 7 = .ok (.invokevirtual 84, 3) := by decide +kernel
theorem dX6_fault_10 : decode cX6_fault 10 = .ok (.ireturn, 1) := by decide +kernel
theorem dX6_fault_11 : decode cX6_fault 11 = .ok (.iload_n 1, 1) := by decide +kernel
theorem dX6_fault_12 : decode cX6_fault 12 = .ok (.aload_n 0, 1) := by decide +kernel
theorem dX6_fault_13 : decode cX6_fault 13 = .ok (.getfield 12, 3) := by decide +kernel
theorem dX6_fault_16 : decode cX6_fault 16 = .ok (.getfield 108, 3) := by decide +kernel
theorem dX6_fault_19 : decode cX6_fault 19 = .ok (.if_icmp .ge 15, 3) := by decide +kernel
theorem dX6_fault_22 : decode cX6_fault 22 = .ok (.aload_n 0, 1) := by decide +kernel
theorem dX6_fault_23 : decode cX6_fault 23 = .ok (.getfield 12, 3) := by decide +kernel
theorem dX6_fault_26 : decode cX6_fault 26 = .ok (.getfield 112, 3) := by decide +kernel
theorem dX6_fault_29 : decode cX6_fault 29 = .ok (.iload_n 1, 1) := by decide +kernel
theorem dX6_fault_30 : decode cX6_fault 30 = .ok (.iaload, 1) := by decide +kernel
theorem dX6_fault_31 : decode cX6_fault 31 = .ok (.goto 4, 3) := by decide +kernel
theorem dX6_fault_34 : decode cX6_fault 34 = .ok (.iconst (-1), 1) := by decide +kernel
theorem dX6_fault_35 : decode cX6_fault 35 = .ok (.ireturn, 1) := by decide +kernel
theorem dX6_patterns_0 : decode cX6_patterns 0 = .ok (.iload_n 1, 1) := by decide +kernel
theorem dX6_patterns_1 : decode cX6_patterns 1 = .ok (.invokestatic 116, 3) := by decide +kernel
theorem dX6_patterns_4 : decode cX6_patterns 4 = .ok (.ifCond .eq 14, 3) := by decide +kernel
theorem dX6_patterns_7 : decode cX6_patterns 7 = .ok (.aload_n 0, 1) := by decide +kernel
theorem dX6_patterns_8 : decode cX6_patterns 8 = .ok (.getfield 28, 3) := by decide +kernel
theorem dX6_patterns_11 : decode cX6_patterns 11 = .ok (.iload_n 1, 1) := by decide +kernel
theorem dX6_patterns_12 : decode cX6_patterns 12 = .ok (.invokevirtual 119, 3) := by decide +kernel
theorem dX6_patterns_15 : decode cX6_patterns 15 = .ok (.goto 9, 3) := by decide +kernel
theorem dX6_patterns_18 : decode cX6_patterns 18 = .ok (.aload_n 0, 1) := by decide +kernel
theorem dX6_patterns_19 : decode cX6_patterns 19 = .ok (.bipush (-2), 2) := by decide +kernel
theorem dX6_patterns_21 : decode cX6_patterns 21 = .ok (.invokevirtual 84, 3) := by decide +kernel
theorem dX6_patterns_24 : decode cX6_patterns 24 = .ok (.ireturn, 1) := by decide +kernel
theorem dX6_pattern_0 : decode cX6_pattern 0 = .ok (.iload_n 1, 1) := by decide +kernel
theorem dX6_pattern_1 : decode cX6_pattern 1 = .ok (.invokestatic 116, 3) := by decide +kernel
theorem dX6_pattern_4 : decode cX6_pattern 4 = .ok (.ifCond .eq 26, 3) := by decide +kernel
theorem dX6_pattern_7 : decode cX6_pattern 7 = .ok (.iload_n 3, 1) := by decide +kernel
theorem dX6_pattern_8 : decode cX6_pattern 8 = .ok (.invokestatic 122, 3) := by decide +kernel
theorem dX6_pattern_11 : decode cX6_pattern 11 = .ok (.ifCond .eq 19, 3) := by decide +kernel
theorem dX6_pattern_14 : decode cX6_pattern 14 = .ok (.iload_n 2, 1) := by decide +kernel
theorem dX6_pattern_15 : decode cX6_pattern 15 = .ok (.ifCond .lt 15, 3) := by decide +kernel
theorem dX6_pattern_18 : decode cX6_pattern 18 = .ok (.iload_n 2, 1) := by decide +kernel
theorem dX6_pattern_19 : decode cX6_pattern 19 = .ok (.aload_n 0, 1) := by decide +kernel
theorem dX6_pattern_20 : decode cX6_pattern 20 = .ok (.getfield 28, 3) := by decide +kernel
theorem dX6_pattern_23 : decode cX6_pattern 23 = .ok (.iload_n 1, 1) := by decide +kernel
theorem dX6_pattern_24 : decode cX6_pattern 24 = .ok (.invokevirtual 119, 3) := by decide +kernel
theorem dX6_pattern_27 : decode cX6_pattern 27 = .ok (.if_icmp .lt 10, 3) := by decide +kernel
theorem dX6_pattern_30 : decode cX6_pattern 30 = .ok (.aload_n 0, 1) := by decide +kernel
theorem dX6_pattern_31 : decode cX6_pattern 31 = .ok (.bipush (-2), 2) := by decide +kernel
theorem dX6_pattern_33 : decode cX6_pattern 33 = .ok (.invokevirtual 84, 3) := by decide +kernel
theorem dX6_pattern_36 : decode cX6_pattern 36 = .ok (.ireturn, 1) := by decide +kernel
theorem dX6_pattern_37 : decode cX6_pattern 37 = .ok (.aload_n 0, 1) := by decide +kernel
theorem dX6_pattern_38 : decode cX6_pattern 38 = .ok (.getfield 12, 3) := by decide +kernel
theorem dX6_pattern_41 : decode cX6_pattern 41 = .ok (.getfield 125, 3) := by decide +kernel
theorem dX6_pattern_44 : decode cX6_pattern 44 = .ok (.iload_n 3, 1) := by decide +kernel
theorem dX6_pattern_45 : decode cX6_pattern 45 = .ok (.invokestatic 128, 3) := by decide +kernel
theorem dX6_pattern_48 : decode cX6_pattern 48 = .ok (.ifCond .ne 5, 3) := by decide +kernel
theorem dX6_pattern_51 : decode cX6_pattern 51 = .ok (.iconst (-1), 1) := by decide +kernel
theorem dX6_pattern_52 : decode cX6_pattern 52 = .ok (.ireturn, 1) := by decide +kernel
theorem dX6_pattern_53 : decode cX6_pattern 53 = .ok (.aload_n 0, 1) := by decide +kernel
theorem dX6_pattern_54 : decode cX6_pattern 54 = .ok (.getfield 28, 3) := by decide +kernel
theorem dX6_pattern_57 : decode cX6_pattern 57 = .ok (.iload_n 1, 1) := by decide +kernel
theorem dX6_pattern_58 : decode cX6_pattern 58 = .ok (.iload_n 3, 1) := by decide +kernel
theorem dX6_pattern_59 : decode cX6_pattern 59 = .ok (.invokevirtual 131, 3) := by decide +kernel
theorem dX6_pattern_62 : decode cX6_pattern 62 = .ok (.iload_n 2, 1) := by decide +kernel
theorem dX6_pattern_63 : decode cX6_pattern 63 = .ok (.ishr, 1) := by decide +kernel
theorem dX6_pattern_64 : decode cX6_pattern 64 = .ok (.iconst 1, 1) := by decide +kernel
theorem dX6_pattern_65 : decode cX6_pattern 65 = .ok (.iand, 1) := by decide +kernel
theorem dX6_pattern_66 : decode cX6_pattern 66 = .ok (.ireturn, 1) := by decide +kernel
theorem dX6_answer_0 : decode cX6_answer 0 = .ok (.iload_n 1, 1) := by decide +kernel
theorem dX6_answer_1 : decode cX6_answer 1 = .ok (.invokestatic 116, 3) := by decide +kernel
theorem dX6_answer_4 : decode cX6_answer 4 = .ok (.ifCond .eq 31, 3) := by decide +kernel
theorem dX6_answer_7 : decode cX6_answer 7 = .ok (.aload_n 0, 1) := by decide +kernel
theorem dX6_answer_8 : decode cX6_answer 8 = .ok (.getfield 12, 3) := by decide +kernel
theorem dX6_answer_11 : decode cX6_answer 11 = .ok (.iload_n 2, 1) := by decide +kernel
theorem dX6_answer_12 : decode cX6_answer 12 = .ok (.iload_n 3, 1) := by decide +kernel
theorem dX6_answer_13 : decode cX6_answer 13 = .ok (.invokevirtual 100, 3) := by decide +kernel
theorem dX6_answer_16 : decode cX6_answer 16 = .ok (.ifCond .eq 19, 3) := by decide +kernel
theorem dX6_answer_19 : decode cX6_answer 19 = .ok (.aload_n 0, 1) := by decide +kernel
theorem dX6_answer_20 : decode cX6_answer 20 = .ok (.getfield 12, 3) := by decide +kernel
theorem dX6_answer_23 : decode cX6_answer 23 = .ok (.getfield 91, 3) := by decide +kernel
theorem dX6_answer_26 : decode cX6_answer 26 = .ok (.iload_n 2, 1) := by decide +kernel
theorem dX6_answer_27 : decode cX6_answer 27 = .ok (.aaload, 1) := by decide +kernel
theorem dX6_answer_28 : decode cX6_answer 28 = .ok (.iload_n 3, 1) := by decide +kernel
theorem dX6_answer_29 : decode cX6_answer 29 = .ok (.invokevirtual 134, 3) := by decide +kernel
theorem dX6_answer_32 : decode cX6_answer 32 = .ok (.ifCond .eq 10, 3) := by decide +kernel
theorem dX6_answer_35 : decode cX6_answer 35 = .ok (.aload_n 0, 1) := by decide +kernel
theorem dX6_answer_36 : decode cX6_answer 36 = .ok (.bipush (-2), 2) := by decide +kernel
theorem dX6_answer_38 : decode cX6_answer 38 = .ok (.invokevirtual 84, 3) := by decide +kernel
theorem dX6_answer_41 : decode cX6_answer 41 = .ok (.ireturn, 1) := by decide +kernel
theorem dX6_answer_42 : decode cX6_answer 42 = .ok (.aload_n 0, 1) := by decide +kernel
theorem dX6_answer_43 : decode cX6_answer 43 = .ok (.getfield 28, 3) := by decide +kernel
theorem dX6_answer_46 : decode cX6_answer 46 = .ok (.iload_n 1, 1) := by decide +kernel
theorem dX6_answer_47 : decode cX6_answer 47 = .ok (.iload_n 2, 1) := by decide +kernel
theorem dX6_answer_48 : decode cX6_answer 48 = .ok (.iload_n 3, 1) := by decide +kernel
theorem dX6_answer_49 : decode cX6_answer 49 = .ok (.invokevirtual 137, 3) := by decide +kernel
theorem dX6_answer_52 : decode cX6_answer 52 = .ok (.ireturn, 1) := by decide +kernel
theorem dX6_seen_0 : decode cX6_seen 0 = .ok (.iload_n 1, 1) := by decide +kernel
theorem dX6_seen_1 : decode cX6_seen 1 = .ok (.invokestatic 116, 3) := by decide +kernel
theorem dX6_seen_4 : decode cX6_seen 4 = .ok (.ifCond .ne 10, 3) := by decide +kernel
theorem dX6_seen_7 : decode cX6_seen 7 = .ok (.aload_n 0, 1) := by decide +kernel
theorem dX6_seen_8 : decode cX6_seen 8 = .ok (.bipush (-2), 2) := by decide +kernel
theorem dX6_seen_10 : decode cX6_seen 10 = .ok (.invokevirtual 84, 3) := by decide +kernel
theorem dX6_seen_13 : decode cX6_seen 13 = .ok (.ireturn, 1) := by decide +kernel
theorem dX6_seen_14 : decode cX6_seen 14 = .ok (.aload_n 0, 1) := by decide +kernel
theorem dX6_seen_15 : decode cX6_seen 15 = .ok (.getfield 28, 3) := by decide +kernel
theorem dX6_seen_18 : decode cX6_seen 18 = .ok (.iload_n 1, 1) := by decide +kernel
theorem dX6_seen_19 : decode cX6_seen 19 = .ok (.invokevirtual 140, 3) := by decide +kernel
theorem dX6_seen_22 : decode cX6_seen 22 = .ok (.ifCond .eq 7, 3) := by decide +kernel
theorem dX6_seen_25 : decode cX6_seen 25 = .ok (.iconst 1, 1) := by decide +kernel
theorem dX6_seen_26 : decode cX6_seen 26 = .ok (.goto 4, 3) := by decide +kernel
theorem dX6_seen_29 : decode cX6_seen 29 = .ok (.iconst 0, 1) := by decide +kernel
theorem dX6_seen_30 : decode cX6_seen 30 = .ok (.ireturn, 1) := by decide +kernel
theorem dX6_suspects_0 : decode cX6_suspects 0 = .ok (.iload_n 1, 1) := by decide +kernel
theorem dX6_suspects_1 : decode cX6_suspects 1 = .ok (.invokestatic 116, 3) := by decide +kernel
theorem dX6_suspects_4 : decode cX6_suspects 4 = .ok (.ifCond .eq 8, 3) := by decide +kernel
theorem dX6_suspects_7 : decode cX6_suspects 7 = .ok (.iload_n 2, 1) := by decide +kernel
theorem dX6_suspects_8 : decode cX6_suspects 8 = .ok (.iconst (-1), 1) := by decide +kernel
theorem dX6_suspects_9 : decode cX6_suspects 9 = .ok (.if_icmp .ge 10, 3) := by decide +kernel
theorem dX6_suspects_12 : decode cX6_suspects 12 = .ok (.aload_n 0, 1) := by decide +kernel
theorem dX6_suspects_13 : decode cX6_suspects 13 = .ok (.bipush (-2), 2) := by decide +kernel
theorem dX6_suspects_15 : decode cX6_suspects 15 = .ok (.invokevirtual 84, 3) := by decide +kernel
theorem dX6_suspects_18 : decode cX6_suspects 18 = .ok (.ireturn, 1) := by decide +kernel
theorem dX6_suspects_19 : decode cX6_suspects 19 = .ok (.aload_n 0, 1) := by decide +kernel
theorem dX6_suspects_20 : decode cX6_suspects 20 = .ok (.getfield 28, 3) := by decide +kernel
theorem dX6_suspects_23 : decode cX6_suspects 23 = .ok (.iload_n 1, 1) := by decide +kernel
theorem dX6_suspects_24 : decode cX6_suspects 24 = .ok (.invokevirtual 143, 3) := by decide +kernel
theorem dX6_suspects_27 : decode cX6_suspects 27 = .ok (.istore_n 3, 1) := by decide +kernel
theorem dX6_suspects_28 : decode cX6_suspects 28 = .ok (.iload_n 2, 1) := by decide +kernel
theorem dX6_suspects_29 : decode cX6_suspects 29 = .ok (.iconst (-1), 1) := by decide +kernel
theorem dX6_suspects_30 : decode cX6_suspects 30 = .ok (.if_icmp .ne 5, 3) := by decide +kernel
theorem dX6_suspects_33 : decode cX6_suspects 33 = .ok (.iload_n 3, 1) := by decide +kernel
theorem dX6_suspects_34 : decode cX6_suspects 34 = .ok (.ireturn, 1) := by decide +kernel
theorem dX6_suspects_35 : decode cX6_suspects 35 = .ok (.iload_n 2, 1) := by decide +kernel
theorem dX6_suspects_36 : decode cX6_suspects 36 = .ok (.iload_n 3, 1) := by decide +kernel
theorem dX6_suspects_37 : decode cX6_suspects 37 = .ok (.if_icmp .ge 15, 3) := by decide +kernel
theorem dX6_suspects_40 : decode cX6_suspects 40 = .ok (.aload_n 0, 1) := by decide +kernel
theorem dX6_suspects_41 : decode cX6_suspects 41 = .ok (.getfield 28, 3) := by decide +kernel
theorem dX6_suspects_44 : decode cX6_suspects 44 = .ok (.getfield 146, 3) := by decide +kernel
theorem dX6_suspects_47 : decode cX6_suspects 47 = .ok (.iload_n 2, 1) := by decide +kernel
theorem dX6_suspects_48 : decode cX6_suspects 48 = .ok (.iaload, 1) := by decide +kernel
theorem dX6_suspects_49 : decode cX6_suspects 49 = .ok (.goto 5, 3) := by decide +kernel
theorem dX6_suspects_52 : decode cX6_suspects 52 = .ok (.bipush (-5), 2) := by decide +kernel
theorem dX6_suspects_54 : decode cX6_suspects 54 = .ok (.ireturn, 1) := by decide +kernel
theorem dX6_type_0 : decode cX6_type 0 = .ok (.aload_n 0, 1) := by decide +kernel
theorem dX6_type_1 : decode cX6_type 1 = .ok (.aload_n 0, 1) := by decide +kernel
theorem dX6_type_2 : decode cX6_type 2 = .ok (.getfield 42, 3) := by decide +kernel
theorem dX6_type_5 : decode cX6_type 5 = .ok (.iload_n 1, 1) := by decide +kernel
theorem dX6_type_6 : decode cX6_type 6 = .ok (.invokevirtual 149, 3) := by decide +kernel
theorem dX6_type_9 : decode cX6_type 9 = .ok (.invokevirtual 84, 3) := by decide +kernel
theorem dX6_type_12 : decode cX6_type 12 = .ok (.ireturn, 1) := by decide +kernel
theorem dX6_clear_0 : decode cX6_clear 0 = .ok (.aload_n 0, 1) := by decide +kernel
theorem dX6_clear_1 : decode cX6_clear 1 = .ok (.getfield 42, 3) := by decide +kernel
theorem dX6_clear_4 : decode cX6_clear 4 = .ok (.invokevirtual 152, 3) := by decide +kernel
theorem dX6_clear_7 : decode cX6_clear 7 = .ok (.ireturn, 1) := by decide +kernel
theorem dX6_does_0 : decode cX6_does 0 = .ok (.aload_n 0, 1) := by decide +kernel
theorem dX6_does_1 : decode cX6_does 1 = .ok (.getfield 42, 3) := by decide +kernel
theorem dX6_does_4 : decode cX6_does 4 = .ok (.invokevirtual 155, 3) := by decide +kernel
theorem dX6_does_7 : decode cX6_does 7 = .ok (.istore_n 1, 1) := by decide +kernel
theorem dX6_does_8 : decode cX6_does 8 = .ok (.iload_n 1, 1) := by decide +kernel
theorem dX6_does_9 : decode cX6_does 9 = .ok (.iconst (-1), 1) := by decide +kernel
theorem dX6_does_10 : decode cX6_does 10 = .ok (.if_icmp .eq 8, 3) := by decide +kernel
theorem dX6_does_13 : decode cX6_does 13 = .ok (.bipush (-10), 2) := by decide +kernel
theorem dX6_does_15 : decode cX6_does 15 = .ok (.iload_n 1, 1) := by decide +kernel
theorem dX6_does_16 : decode cX6_does 16 = .ok (.isub, 1) := by decide +kernel
theorem dX6_does_17 : decode cX6_does 17 = .ok (.ireturn, 1) := by decide +kernel
theorem dX6_does_18 : decode cX6_does 18 = .ok (.aload_n 0, 1) := by decide +kernel
theorem dX6_does_19 : decode cX6_does 19 = .ok (.getfield 35, 3) := by decide +kernel
theorem dX6_does_22 : decode cX6_does 22 = .ok (.aload_n 0, 1) := by decide +kernel
theorem dX6_does_23 : decode cX6_does 23 = .ok (.getfield 12, 3) := by decide +kernel
theorem dX6_does_26 : decode cX6_does 26 = .ok (.invokevirtual 46, 3) := by decide +kernel
theorem dX6_does_29 : decode cX6_does 29 = .ok (.iconst 0, 1) := by decide +kernel
theorem dX6_does_30 : decode cX6_does 30 = .ok (.istore_n 2, 1) := by decide +kernel
theorem dX6_does_31 : decode cX6_does 31 = .ok (.iload_n 2, 1) := by decide +kernel
theorem dX6_does_32 : decode cX6_does 32 = .ok (.aload_n 0, 1) := by decide +kernel
theorem dX6_does_33 : decode cX6_does 33 = .ok (.getfield 42, 3) := by decide +kernel
theorem dX6_does_36 : decode cX6_does 36 = .ok (.getfield 158, 3) := by decide +kernel
theorem dX6_does_39 : decode cX6_does 39 = .ok (.if_icmp .ge 45, 3) := by decide +kernel
theorem dX6_does_42 : decode cX6_does 42 = .ok (.aload_n 0, 1) := by decide +kernel
theorem dX6_does_43 : decode cX6_does 43 = .ok (.aload_n 0, 1) := by decide +kernel
theorem dX6_does_44 : decode cX6_does 44 = .ok (.getfield 42, 3) := by decide +kernel
theorem dX6_does_47 : decode cX6_does 47 = .ok (.getfield 161, 3) := by decide +kernel
theorem dX6_does_50 : decode cX6_does 50 = .ok (.iload_n 2, 1) := by decide +kernel
theorem dX6_does_51 : decode cX6_does 51 = .ok (.baload, 1) := by decide +kernel
theorem dX6_does_52 : decode cX6_does 52 = .ok (.iload_n 2, 1) := by decide +kernel
theorem dX6_does_53 : decode cX6_does 53 = .ok (.iconst 3, 1) := by decide +kernel
theorem dX6_does_54 : decode cX6_does 54 = .ok (.imul, 1) := by decide +kernel
theorem dX6_does_55 : decode cX6_does 55 = .ok (.invokevirtual 165, 3) := by decide +kernel
theorem dX6_does_58 : decode cX6_does 58 = .ok (.ifCond .ge 20, 3) := by decide +kernel
theorem dX6_does_61 : decode cX6_does 61 = .ok (.aload_n 0, 1) := by decide +kernel
theorem dX6_does_62 : decode cX6_does 62 = .ok (.getfield 35, 3) := by decide +kernel
theorem dX6_does_65 : decode cX6_does 65 = .ok (.aload_n 0, 1) := by decide +kernel
theorem dX6_does_66 : decode cX6_does 66 = .ok (.getfield 12, 3) := by decide +kernel
theorem dX6_does_69 : decode cX6_does 69 = .ok (.invokevirtual 168, 3) := by decide +kernel
theorem dX6_does_72 : decode cX6_does 72 = .ok (.sipush (-1000), 3) := by decide +kernel
theorem dX6_does_75 : decode cX6_does 75 = .ok (.iload_n 2, 1) := by decide +kernel
theorem dX6_does_76 : decode cX6_does 76 = .ok (.isub, 1) := by decide +kernel
theorem dX6_does_77 : decode cX6_does 77 = .ok (.ireturn, 1) := by decide +kernel
theorem dX6_does_78 : decode cX6_does 78 = .ok (.iinc 2 1, 3) := by decide +kernel
theorem dX6_does_81 : decode cX6_does 81 = .ok (.goto (-50), 3) := by decide +kernel
theorem dX6_does_84 : decode cX6_does 84 = .ok (.aload_n 0, 1) := by decide +kernel
theorem dX6_does_85 : decode cX6_does 85 = .ok (.getfield 35, 3) := by decide +kernel
theorem dX6_does_88 : decode cX6_does 88 = .ok (.invokevirtual 171, 3) := by decide +kernel
theorem dX6_does_91 : decode cX6_does 91 = .ok (.aload_n 0, 1) := by decide +kernel
theorem dX6_does_92 : decode cX6_does 92 = .ok (.getfield 42, 3) := by decide +kernel
theorem dX6_does_95 : decode cX6_does 95 = .ok (.getfield 158, 3) := by decide +kernel
theorem dX6_does_98 : decode cX6_does 98 = .ok (.ireturn, 1) := by decide +kernel
theorem dX6_back_0 : decode cX6_back 0 = .ok (.aload_n 0, 1) := by decide +kernel
theorem dX6_back_1 : decode cX6_back 1 = .ok (.aload_n 0, 1) := by decide +kernel
theorem dX6_back_2 : decode cX6_back 2 = .ok (.getfield 35, 3) := by decide +kernel
theorem dX6_back_5 : decode cX6_back 5 = .ok (.aload_n 0, 1) := by decide +kernel
theorem dX6_back_6 : decode cX6_back 6 = .ok (.getfield 12, 3) := by decide +kernel
theorem dX6_back_9 : decode cX6_back 9 = .ok (.invokevirtual 174, 3) := by decide +kernel
theorem dX6_back_12 : decode cX6_back 12 = .ok (.invokevirtual 84, 3) := by decide +kernel
theorem dX6_back_15 : decode cX6_back 15 = .ok (.ireturn, 1) := by decide +kernel
theorem dX6_told_0 : decode cX6_told 0 = .ok (.iload_n 1, 1) := by decide +kernel
theorem dX6_told_1 : decode cX6_told 1 = .ok (.tableswitch 66 0 4 #[35, 40, 45, 50, 58], 35) := by decide +kernel
theorem dX6_told_36 : decode cX6_told 36 = .ok (.aload_n 0, 1) := by decide +kernel
theorem dX6_told_37 : decode cX6_told 37 = .ok (.getfield 178, 3) := by decide +kernel
theorem dX6_told_40 : decode cX6_told 40 = .ok (.ireturn, 1) := by decide +kernel
theorem dX6_told_41 : decode cX6_told 41 = .ok (.aload_n 0, 1) := by decide +kernel
theorem dX6_told_42 : decode cX6_told 42 = .ok (.getfield 181, 3) := by decide +kernel
theorem dX6_told_45 : decode cX6_told 45 = .ok (.ireturn, 1) := by decide +kernel
theorem dX6_told_46 : decode cX6_told 46 = .ok (.aload_n 0, 1) := by decide +kernel
theorem dX6_told_47 : decode cX6_told 47 = .ok (.getfield 184, 3) := by decide +kernel
theorem dX6_told_50 : decode cX6_told 50 = .ok (.ireturn, 1) := by decide +kernel
theorem dX6_told_51 : decode cX6_told 51 = .ok (.aload_n 0, 1) := by decide +kernel
theorem dX6_told_52 : decode cX6_told 52 = .ok (.getfield 42, 3) := by decide +kernel
theorem dX6_told_55 : decode cX6_told 55 = .ok (.getfield 187, 3) := by decide +kernel
theorem dX6_told_58 : decode cX6_told 58 = .ok (.ireturn, 1) := by decide +kernel
theorem dX6_told_59 : decode cX6_told 59 = .ok (.aload_n 0, 1) := by decide +kernel
theorem dX6_told_60 : decode cX6_told 60 = .ok (.getfield 35, 3) := by decide +kernel
theorem dX6_told_63 : decode cX6_told 63 = .ok (.getfield 190, 3) := by decide +kernel
theorem dX6_told_66 : decode cX6_told 66 = .ok (.ireturn, 1) := by decide +kernel
theorem dX6_told_67 : decode cX6_told 67 = .ok (.aload_n 0, 1) := by decide +kernel
theorem dX6_told_68 : decode cX6_told 68 = .ok (.bipush (-2), 2) := by decide +kernel
theorem dX6_told_70 : decode cX6_told 70 = .ok (.invokevirtual 84, 3) := by decide +kernel
theorem dX6_told_73 : decode cX6_told 73 = .ok (.ireturn, 1) := by decide +kernel
theorem dX6_digest_0 : decode cX6_digest 0 = .ok (.ldc2_w 193, 3) := by decide +kernel
theorem dX6_digest_3 : decode cX6_digest 3 = .ok (.lstore_n 1, 1) := by decide +kernel
theorem dX6_digest_4 : decode cX6_digest 4 = .ok (.iconst 0, 1) := by decide +kernel
theorem dX6_digest_5 : decode cX6_digest 5 = .ok (.istore_n 3, 1) := by decide +kernel
theorem dX6_digest_6 : decode cX6_digest 6 = .ok (.iload_n 3, 1) := by decide +kernel
theorem dX6_digest_7 : decode cX6_digest 7 = .ok (.iconst 5, 1) := by decide +kernel
theorem dX6_digest_8 : decode cX6_digest 8 = .ok (.if_icmp .ge 19, 3) := by decide +kernel
theorem dX6_digest_11 : decode cX6_digest 11 = .ok (.lload_n 1, 1) := by decide +kernel
theorem dX6_digest_12 : decode cX6_digest 12 = .ok (.aload_n 0, 1) := by decide +kernel
theorem dX6_digest_13 : decode cX6_digest 13 = .ok (.iload_n 3, 1) := by decide +kernel
theorem dX6_digest_14 : decode cX6_digest 14 = .ok (.invokevirtual 195, 3) := by decide +kernel
theorem dX6_digest_17 : decode cX6_digest 17 = .ok (.invokestatic 198, 3) := by decide +kernel
theorem dX6_digest_20 : decode cX6_digest 20 = .ok (.lstore_n 1, 1) := by decide +kernel
theorem dX6_digest_21 : decode cX6_digest 21 = .ok (.iinc 3 1, 3) := by decide +kernel
theorem dX6_digest_24 : decode cX6_digest 24 = .ok (.goto (-18), 3) := by decide +kernel
theorem dX6_digest_27 : decode cX6_digest 27 = .ok (.iconst 0, 1) := by decide +kernel
theorem dX6_digest_28 : decode cX6_digest 28 = .ok (.istore_n 3, 1) := by decide +kernel
theorem dX6_digest_29 : decode cX6_digest 29 = .ok (.iload_n 3, 1) := by decide +kernel
theorem dX6_digest_30 : decode cX6_digest 30 = .ok (.iconst 5, 1) := by decide +kernel
theorem dX6_digest_31 : decode cX6_digest 31 = .ok (.if_icmp .ge 19, 3) := by decide +kernel
theorem dX6_digest_34 : decode cX6_digest 34 = .ok (.lload_n 1, 1) := by decide +kernel
theorem dX6_digest_35 : decode cX6_digest 35 = .ok (.aload_n 0, 1) := by decide +kernel
theorem dX6_digest_36 : decode cX6_digest 36 = .ok (.iload_n 3, 1) := by decide +kernel
theorem dX6_digest_37 : decode cX6_digest 37 = .ok (.invokevirtual 202, 3) := by decide +kernel
theorem dX6_digest_40 : decode cX6_digest 40 = .ok (.invokestatic 198, 3) := by decide +kernel
theorem dX6_digest_43 : decode cX6_digest 43 = .ok (.lstore_n 1, 1) := by decide +kernel
theorem dX6_digest_44 : decode cX6_digest 44 = .ok (.iinc 3 1, 3) := by decide +kernel
theorem dX6_digest_47 : decode cX6_digest 47 = .ok (.goto (-18), 3) := by decide +kernel
theorem dX6_digest_50 : decode cX6_digest 50 = .ok (.iconst 0, 1) := by decide +kernel
theorem dX6_digest_51 : decode cX6_digest 51 = .ok (.istore_n 3, 1) := by decide +kernel
theorem dX6_digest_52 : decode cX6_digest 52 = .ok (.iload_n 3, 1) := by decide +kernel
theorem dX6_digest_53 : decode cX6_digest 53 = .ok (.iconst 5, 1) := by decide +kernel
theorem dX6_digest_54 : decode cX6_digest 54 = .ok (.if_icmp .ge 19, 3) := by decide +kernel
theorem dX6_digest_57 : decode cX6_digest 57 = .ok (.lload_n 1, 1) := by decide +kernel
theorem dX6_digest_58 : decode cX6_digest 58 = .ok (.aload_n 0, 1) := by decide +kernel
theorem dX6_digest_59 : decode cX6_digest 59 = .ok (.iload_n 3, 1) := by decide +kernel
theorem dX6_digest_60 : decode cX6_digest 60 = .ok (.invokevirtual 205, 3) := by decide +kernel
theorem dX6_digest_63 : decode cX6_digest 63 = .ok (.invokestatic 198, 3) := by decide +kernel
theorem dX6_digest_66 : decode cX6_digest 66 = .ok (.lstore_n 1, 1) := by decide +kernel
theorem dX6_digest_67 : decode cX6_digest 67 = .ok (.iinc 3 1, 3) := by decide +kernel
theorem dX6_digest_70 : decode cX6_digest 70 = .ok (.goto (-18), 3) := by decide +kernel
theorem dX6_digest_73 : decode cX6_digest 73 = .ok (.aload_n 0, 1) := by decide +kernel
theorem dX6_digest_74 : decode cX6_digest 74 = .ok (.lload_n 1, 1) := by decide +kernel
theorem dX6_digest_75 : decode cX6_digest 75 = .ok (.invokevirtual 208, 3) := by decide +kernel
theorem dX6_digest_78 : decode cX6_digest 78 = .ok (.lstore_n 1, 1) := by decide +kernel
theorem dX6_digest_79 : decode cX6_digest 79 = .ok (.iconst 0, 1) := by decide +kernel
theorem dX6_digest_80 : decode cX6_digest 80 = .ok (.istore_n 3, 1) := by decide +kernel
theorem dX6_digest_81 : decode cX6_digest 81 = .ok (.iload_n 3, 1) := by decide +kernel
theorem dX6_digest_82 : decode cX6_digest 82 = .ok (.aload_n 0, 1) := by decide +kernel
theorem dX6_digest_83 : decode cX6_digest 83 = .ok (.getfield 12, 3) := by decide +kernel
theorem dX6_digest_86 : decode cX6_digest 86 = .ok (.getfield 108, 3) := by decide +kernel
theorem dX6_digest_89 : decode cX6_digest 89 = .ok (.if_icmp .ge 23, 3) := by decide +kernel
theorem dX6_digest_92 : decode cX6_digest 92 = .ok (.lload_n 1, 1) := by decide +kernel
theorem dX6_digest_93 : decode cX6_digest 93 = .ok (.aload_n 0, 1) := by decide +kernel
theorem dX6_digest_94 : decode cX6_digest 94 = .ok (.getfield 12, 3) := by decide +kernel
theorem dX6_digest_97 : decode cX6_digest 97 = .ok (.getfield 112, 3) := by decide +kernel
theorem dX6_digest_100 : decode cX6_digest 100 = .ok (.iload_n 3, 1) := by decide +kernel
theorem dX6_digest_101 : decode cX6_digest 101 = .ok (.iaload, 1) := by decide +kernel
theorem dX6_digest_102 : decode cX6_digest 102 = .ok (.invokestatic 198, 3) := by decide +kernel
theorem dX6_digest_105 : decode cX6_digest 105 = .ok (.lstore_n 1, 1) := by decide +kernel
theorem dX6_digest_106 : decode cX6_digest 106 = .ok (.iinc 3 1, 3) := by decide +kernel
theorem dX6_digest_109 : decode cX6_digest 109 = .ok (.goto (-28), 3) := by decide +kernel
theorem dX6_digest_112 : decode cX6_digest 112 = .ok (.lload_n 1, 1) := by decide +kernel
theorem dX6_digest_113 : decode cX6_digest 113 = .ok (.aload_n 0, 1) := by decide +kernel
theorem dX6_digest_114 : decode cX6_digest 114 = .ok (.iconst 0, 1) := by decide +kernel
theorem dX6_digest_115 : decode cX6_digest 115 = .ok (.invokevirtual 212, 3) := by decide +kernel
theorem dX6_digest_118 : decode cX6_digest 118 = .ok (.invokestatic 198, 3) := by decide +kernel
theorem dX6_digest_121 : decode cX6_digest 121 = .ok (.lstore_n 1, 1) := by decide +kernel
theorem dX6_digest_122 : decode cX6_digest 122 = .ok (.lload_n 1, 1) := by decide +kernel
theorem dX6_digest_123 : decode cX6_digest 123 = .ok (.aload_n 0, 1) := by decide +kernel
theorem dX6_digest_124 : decode cX6_digest 124 = .ok (.iconst 0, 1) := by decide +kernel
theorem dX6_digest_125 : decode cX6_digest 125 = .ok (.invokevirtual 215, 3) := by decide +kernel
theorem dX6_digest_128 : decode cX6_digest 128 = .ok (.invokestatic 198, 3) := by decide +kernel
theorem dX6_digest_131 : decode cX6_digest 131 = .ok (.lstore_n 1, 1) := by decide +kernel
theorem dX6_digest_132 : decode cX6_digest 132 = .ok (.lload_n 1, 1) := by decide +kernel
theorem dX6_digest_133 : decode cX6_digest 133 = .ok (.aload_n 0, 1) := by decide +kernel
theorem dX6_digest_134 : decode cX6_digest 134 = .ok (.iconst 1, 1) := by decide +kernel
theorem dX6_digest_135 : decode cX6_digest 135 = .ok (.invokevirtual 215, 3) := by decide +kernel
theorem dX6_digest_138 : decode cX6_digest 138 = .ok (.invokestatic 198, 3) := by decide +kernel
theorem dX6_digest_141 : decode cX6_digest 141 = .ok (.lstore_n 1, 1) := by decide +kernel
theorem dX6_digest_142 : decode cX6_digest 142 = .ok (.lload_n 1, 1) := by decide +kernel
theorem dX6_digest_143 : decode cX6_digest 143 = .ok (.aload_n 0, 1) := by decide +kernel
theorem dX6_digest_144 : decode cX6_digest 144 = .ok (.iconst 0, 1) := by decide +kernel
theorem dX6_digest_145 : decode cX6_digest 145 = .ok (.iconst (-1), 1) := by decide +kernel
theorem dX6_digest_146 : decode cX6_digest 146 = .ok (.invokevirtual 218, 3) := by decide +kernel
theorem dX6_digest_149 : decode cX6_digest 149 = .ok (.invokestatic 198, 3) := by decide +kernel
theorem dX6_digest_152 : decode cX6_digest 152 = .ok (.lstore_n 1, 1) := by decide +kernel
theorem dX6_digest_153 : decode cX6_digest 153 = .ok (.lload_n 1, 1) := by decide +kernel
theorem dX6_digest_154 : decode cX6_digest 154 = .ok (.aload_n 0, 1) := by decide +kernel
theorem dX6_digest_155 : decode cX6_digest 155 = .ok (.iconst 1, 1) := by decide +kernel
theorem dX6_digest_156 : decode cX6_digest 156 = .ok (.iconst (-1), 1) := by decide +kernel
theorem dX6_digest_157 : decode cX6_digest 157 = .ok (.invokevirtual 218, 3) := by decide +kernel
theorem dX6_digest_160 : decode cX6_digest 160 = .ok (.invokestatic 198, 3) := by decide +kernel
theorem dX6_digest_163 : decode cX6_digest 163 = .ok (.lreturn, 1) := by decide +kernel
theorem dX6_isBit_0 : decode cX6_isBit 0 = .ok (.iload_n 0, 1) := by decide +kernel
theorem dX6_isBit_1 : decode cX6_isBit 1 = .ok (.ifCond .eq 8, 3) := by decide +kernel
theorem dX6_isBit_4 : decode cX6_isBit 4 = .ok (.iload_n 0, 1) := by decide +kernel
theorem dX6_isBit_5 : decode cX6_isBit 5 = .ok (.iconst 1, 1) := by decide +kernel
theorem dX6_isBit_6 : decode cX6_isBit 6 = .ok (.if_icmp .ne 7, 3) := by decide +kernel
theorem dX6_isBit_9 : decode cX6_isBit 9 = .ok (.iconst 1, 1) := by decide +kernel
theorem dX6_isBit_10 : decode cX6_isBit 10 = .ok (.goto 4, 3) := by decide +kernel
theorem dX6_isBit_13 : decode cX6_isBit 13 = .ok (.iconst 0, 1) := by decide +kernel
theorem dX6_isBit_14 : decode cX6_isBit 14 = .ok (.ireturn, 1) := by decide +kernel
theorem dX6_isNet_0 : decode cX6_isNet 0 = .ok (.iload_n 0, 1) := by decide +kernel
theorem dX6_isNet_1 : decode cX6_isNet 1 = .ok (.ifCond .lt 13, 3) := by decide +kernel
theorem dX6_isNet_4 : decode cX6_isNet 4 = .ok (.iload_n 0, 1) := by decide +kernel
theorem dX6_isNet_5 : decode cX6_isNet 5 = .ok (.bipush 8, 2) := by decide +kernel
theorem dX6_isNet_7 : decode cX6_isNet 7 = .ok (.if_icmp .ge 7, 3) := by decide +kernel
theorem dX6_isNet_10 : decode cX6_isNet 10 = .ok (.iconst 1, 1) := by decide +kernel
theorem dX6_isNet_11 : decode cX6_isNet 11 = .ok (.goto 4, 3) := by decide +kernel
theorem dX6_isNet_14 : decode cX6_isNet 14 = .ok (.iconst 0, 1) := by decide +kernel
theorem dX6_isNet_15 : decode cX6_isNet 15 = .ok (.ireturn, 1) := by decide +kernel
theorem dX6_isMember_0 : decode cX6_isMember 0 = .ok (.iload_n 0, 1) := by decide +kernel
theorem dX6_isMember_1 : decode cX6_isMember 1 = .ok (.iload_n 1, 1) := by decide +kernel
theorem dX6_isMember_2 : decode cX6_isMember 2 = .ok (.ishr, 1) := by decide +kernel
theorem dX6_isMember_3 : decode cX6_isMember 3 = .ok (.iconst 1, 1) := by decide +kernel
theorem dX6_isMember_4 : decode cX6_isMember 4 = .ok (.iand, 1) := by decide +kernel
theorem dX6_isMember_5 : decode cX6_isMember 5 = .ok (.iconst 1, 1) := by decide +kernel
theorem dX6_isMember_6 : decode cX6_isMember 6 = .ok (.if_icmp .ne 7, 3) := by decide +kernel
theorem dX6_isMember_9 : decode cX6_isMember 9 = .ok (.iconst 1, 1) := by decide +kernel
theorem dX6_isMember_10 : decode cX6_isMember 10 = .ok (.goto 4, 3) := by decide +kernel
theorem dX6_isMember_13 : decode cX6_isMember 13 = .ok (.iconst 0, 1) := by decide +kernel
theorem dX6_isMember_14 : decode cX6_isMember 14 = .ok (.ireturn, 1) := by decide +kernel
theorem dX6_faultCode_0 : decode cX6_faultCode 0 = .ok (.sipush 1000, 3) := by decide +kernel
theorem dX6_faultCode_3 : decode cX6_faultCode 3 = .ok (.iload_n 0, 1) := by decide +kernel
theorem dX6_faultCode_4 : decode cX6_faultCode 4 = .ok (.imul, 1) := by decide +kernel
theorem dX6_faultCode_5 : decode cX6_faultCode 5 = .ok (.bipush 10, 2) := by decide +kernel
theorem dX6_faultCode_7 : decode cX6_faultCode 7 = .ok (.iload_n 1, 1) := by decide +kernel
theorem dX6_faultCode_8 : decode cX6_faultCode 8 = .ok (.imul, 1) := by decide +kernel
theorem dX6_faultCode_9 : decode cX6_faultCode 9 = .ok (.iadd, 1) := by decide +kernel
theorem dX6_faultCode_10 : decode cX6_faultCode 10 = .ok (.iload_n 2, 1) := by decide +kernel
theorem dX6_faultCode_11 : decode cX6_faultCode 11 = .ok (.iadd, 1) := by decide +kernel
theorem dX6_faultCode_12 : decode cX6_faultCode 12 = .ok (.ireturn, 1) := by decide +kernel
theorem dX6_kindOf_0 : decode cX6_kindOf 0 = .ok (.iload_n 0, 1) := by decide +kernel
theorem dX6_kindOf_1 : decode cX6_kindOf 1 = .ok (.sipush 1000, 3) := by decide +kernel
theorem dX6_kindOf_4 : decode cX6_kindOf 4 = .ok (.idiv, 1) := by decide +kernel
theorem dX6_kindOf_5 : decode cX6_kindOf 5 = .ok (.ireturn, 1) := by decide +kernel
theorem dX6_tensOf_0 : decode cX6_tensOf 0 = .ok (.iload_n 0, 1) := by decide +kernel
theorem dX6_tensOf_1 : decode cX6_tensOf 1 = .ok (.bipush 10, 2) := by decide +kernel
theorem dX6_tensOf_3 : decode cX6_tensOf 3 = .ok (.idiv, 1) := by decide +kernel
theorem dX6_tensOf_4 : decode cX6_tensOf 4 = .ok (.bipush 10, 2) := by decide +kernel
theorem dX6_tensOf_6 : decode cX6_tensOf 6 = .ok (.irem, 1) := by decide +kernel
theorem dX6_tensOf_7 : decode cX6_tensOf 7 = .ok (.ireturn, 1) := by decide +kernel
theorem dX6_onesOf_0 : decode cX6_onesOf 0 = .ok (.iload_n 0, 1) := by decide +kernel
theorem dX6_onesOf_1 : decode cX6_onesOf 1 = .ok (.bipush 10, 2) := by decide +kernel
theorem dX6_onesOf_3 : decode cX6_onesOf 3 = .ok (.irem, 1) := by decide +kernel
theorem dX6_onesOf_4 : decode cX6_onesOf 4 = .ok (.ireturn, 1) := by decide +kernel
theorem dX6_mixed_0 : decode cX6_mixed 0 = .ok (.ldc2_w 221, 3) := by decide +kernel
theorem dX6_mixed_3 : decode cX6_mixed 3 = .ok (.lload_n 0, 1) := by decide +kernel
theorem dX6_mixed_4 : decode cX6_mixed 4 = .ok (.lmul, 1) := by decide +kernel
theorem dX6_mixed_5 : decode cX6_mixed 5 = .ok (.iload_n 2, 1) := by decide +kernel
theorem dX6_mixed_6 : decode cX6_mixed 6 = .ok (.i2l, 1) := by decide +kernel
theorem dX6_mixed_7 : decode cX6_mixed 7 = .ok (.ladd, 1) := by decide +kernel
theorem dX6_mixed_8 : decode cX6_mixed 8 = .ok (.lreturn, 1) := by decide +kernel
theorem dX6_counted_0 : decode cX6_counted 0 = .ok (.iload_n 1, 1) := by decide +kernel
theorem dX6_counted_1 : decode cX6_counted 1 = .ok (.bipush (-2), 2) := by decide +kernel
theorem dX6_counted_3 : decode cX6_counted 3 = .ok (.if_icmp .ne 16, 3) := by decide +kernel
theorem dX6_counted_6 : decode cX6_counted 6 = .ok (.aload_n 0, 1) := by decide +kernel
theorem dX6_counted_7 : decode cX6_counted 7 = .ok (.dup, 1) := by decide +kernel
theorem dX6_counted_8 : decode cX6_counted 8 = .ok (.getfield 178, 3) := by decide +kernel
theorem dX6_counted_11 : decode cX6_counted 11 = .ok (.iconst 1, 1) := by decide +kernel
theorem dX6_counted_12 : decode cX6_counted 12 = .ok (.iadd, 1) := by decide +kernel
theorem dX6_counted_13 : decode cX6_counted 13 = .ok (.putfield 178, 3) := by decide +kernel
theorem dX6_counted_16 : decode cX6_counted 16 = .ok (.goto 38, 3) := by decide +kernel
theorem dX6_counted_19 : decode cX6_counted 19 = .ok (.iload_n 1, 1) := by decide +kernel
theorem dX6_counted_20 : decode cX6_counted 20 = .ok (.bipush (-3), 2) := by decide +kernel
theorem dX6_counted_22 : decode cX6_counted 22 = .ok (.if_icmp .ne 16, 3) := by decide +kernel
theorem dX6_counted_25 : decode cX6_counted 25 = .ok (.aload_n 0, 1) := by decide +kernel
theorem dX6_counted_26 : decode cX6_counted 26 = .ok (.dup, 1) := by decide +kernel
theorem dX6_counted_27 : decode cX6_counted 27 = .ok (.getfield 181, 3) := by decide +kernel
theorem dX6_counted_30 : decode cX6_counted 30 = .ok (.iconst 1, 1) := by decide +kernel
theorem dX6_counted_31 : decode cX6_counted 31 = .ok (.iadd, 1) := by decide +kernel
theorem dX6_counted_32 : decode cX6_counted 32 = .ok (.putfield 181, 3) := by decide +kernel
theorem dX6_counted_35 : decode cX6_counted 35 = .ok (.goto 19, 3) := by decide +kernel
theorem dX6_counted_38 : decode cX6_counted 38 = .ok (.iload_n 1, 1) := by decide +kernel
theorem dX6_counted_39 : decode cX6_counted 39 = .ok (.bipush (-4), 2) := by decide +kernel
theorem dX6_counted_41 : decode cX6_counted 41 = .ok (.if_icmp .ne 13, 3) := by decide +kernel
theorem dX6_counted_44 : decode cX6_counted 44 = .ok (.aload_n 0, 1) := by decide +kernel
theorem dX6_counted_45 : decode cX6_counted 45 = .ok (.dup, 1) := by decide +kernel
theorem dX6_counted_46 : decode cX6_counted 46 = .ok (.getfield 184, 3) := by decide +kernel
theorem dX6_counted_49 : decode cX6_counted 49 = .ok (.iconst 1, 1) := by decide +kernel
theorem dX6_counted_50 : decode cX6_counted 50 = .ok (.iadd, 1) := by decide +kernel
theorem dX6_counted_51 : decode cX6_counted 51 = .ok (.putfield 184, 3) := by decide +kernel
theorem dX6_counted_54 : decode cX6_counted 54 = .ok (.iload_n 1, 1) := by decide +kernel
theorem dX6_counted_55 : decode cX6_counted 55 = .ok (.ireturn, 1) := by decide +kernel
theorem dX6_actEnded_0 : decode cX6_actEnded 0 = .ok (.iload_n 1, 1) := by decide +kernel
theorem dX6_actEnded_1 : decode cX6_actEnded 1 = .ok (.ifCond .lt 10, 3) := by decide +kernel
theorem dX6_actEnded_4 : decode cX6_actEnded 4 = .ok (.aload_n 0, 1) := by decide +kernel
theorem dX6_actEnded_5 : decode cX6_actEnded 5 = .ok (.getfield 35, 3) := by decide +kernel
theorem dX6_actEnded_8 : decode cX6_actEnded 8 = .ok (.invokevirtual 171, 3) := by decide +kernel
theorem dX6_actEnded_11 : decode cX6_actEnded 11 = .ok (.aload_n 0, 1) := by decide +kernel
theorem dX6_actEnded_12 : decode cX6_actEnded 12 = .ok (.iload_n 1, 1) := by decide +kernel
theorem dX6_actEnded_13 : decode cX6_actEnded 13 = .ok (.invokevirtual 84, 3) := by decide +kernel
theorem dX6_actEnded_16 : decode cX6_actEnded 16 = .ok (.ireturn, 1) := by decide +kernel
theorem dX6_manyClocks_0 : decode cX6_manyClocks 0 = .ok (.iload_n 1, 1) := by decide +kernel
theorem dX6_manyClocks_1 : decode cX6_manyClocks 1 = .ok (.iconst 1, 1) := by decide +kernel
theorem dX6_manyClocks_2 : decode cX6_manyClocks 2 = .ok (.if_icmp .lt 29, 3) := by decide +kernel
theorem dX6_manyClocks_5 : decode cX6_manyClocks 5 = .ok (.iload_n 1, 1) := by decide +kernel
theorem dX6_manyClocks_6 : decode cX6_manyClocks 6 = .ok (.bipush 16, 2) := by decide +kernel
theorem dX6_manyClocks_8 : decode cX6_manyClocks 8 = .ok (.if_icmp .gt 23, 3) := by decide +kernel
theorem dX6_manyClocks_11 : decode cX6_manyClocks 11 = .ok (.iload_n 2, 1) := by decide +kernel
theorem dX6_manyClocks_12 : decode cX6_manyClocks 12 = .ok (.ifCond .lt 19, 3) := by decide +kernel
theorem dX6_manyClocks_15 : decode cX6_manyClocks 15 = .ok (.iload_n 2, 1) := by decide +kernel
theorem dX6_manyClocks_16 : decode cX6_manyClocks 16 = .ok (.ldc 223, 2) := by decide +kernel
theorem dX6_manyClocks_18 : decode cX6_manyClocks 18 = .ok (.if_icmp .gt 13, 3) := by decide +kernel
theorem dX6_manyClocks_21 : decode cX6_manyClocks 21 = .ok (.iload_n 3, 1) := by decide +kernel
theorem dX6_manyClocks_22 : decode cX6_manyClocks 22 = .ok (.ifCond .lt 9, 3) := by decide +kernel
theorem dX6_manyClocks_25 : decode cX6_manyClocks 25 = .ok (.iload_n 3, 1) := by decide +kernel
theorem dX6_manyClocks_26 : decode cX6_manyClocks 26 = .ok (.ldc 223, 2) := by decide +kernel
theorem dX6_manyClocks_28 : decode cX6_manyClocks 28 = .ok (.if_icmp .le 6, 3) := by decide +kernel
theorem dX6_manyClocks_31 : decode cX6_manyClocks 31 = .ok (.bipush (-2), 2) := by decide +kernel
theorem dX6_manyClocks_33 : decode cX6_manyClocks 33 = .ok (.ireturn, 1) := by decide +kernel
theorem dX6_manyClocks_34 : decode cX6_manyClocks 34 = .ok (.iconst 0, 1) := by decide +kernel
theorem dX6_manyClocks_35 : decode cX6_manyClocks 35 = .ok (.istore 4, 2) := by decide +kernel
theorem dX6_manyClocks_37 : decode cX6_manyClocks 37 = .ok (.iconst 0, 1) := by decide +kernel
theorem dX6_manyClocks_38 : decode cX6_manyClocks 38 = .ok (.istore 5, 2) := by decide +kernel
theorem dX6_manyClocks_40 : decode cX6_manyClocks 40 = .ok (.iconst 0, 1) := by decide +kernel
theorem dX6_manyClocks_41 : decode cX6_manyClocks 41 = .ok (.istore 6, 2) := by decide +kernel
theorem dX6_manyClocks_43 : decode cX6_manyClocks 43 = .ok (.iload 6, 2) := by decide +kernel
theorem dX6_manyClocks_45 : decode cX6_manyClocks 45 = .ok (.iload_n 1, 1) := by decide +kernel
theorem dX6_manyClocks_46 : decode cX6_manyClocks 46 = .ok (.if_icmp .ge 53, 3) := by decide +kernel
theorem dX6_manyClocks_49 : decode cX6_manyClocks 49 = .ok (.aload_n 0, 1) := by decide +kernel
theorem dX6_manyClocks_50 : decode cX6_manyClocks 50 = .ok (.getfield 12, 3) := by decide +kernel
theorem dX6_manyClocks_53 : decode cX6_manyClocks 53 = .ok (.iload_n 2, 1) := by decide +kernel
theorem dX6_manyClocks_54 : decode cX6_manyClocks 54 = .ok (.iload 6, 2) := by decide +kernel
theorem dX6_manyClocks_56 : decode cX6_manyClocks 56 = .ok (.ishr, 1) := by decide +kernel
theorem dX6_manyClocks_57 : decode cX6_manyClocks 57 = .ok (.iconst 1, 1) := by decide +kernel
theorem dX6_manyClocks_58 : decode cX6_manyClocks 58 = .ok (.iand, 1) := by decide +kernel
theorem dX6_manyClocks_59 : decode cX6_manyClocks 59 = .ok (.iload_n 3, 1) := by decide +kernel
theorem dX6_manyClocks_60 : decode cX6_manyClocks 60 = .ok (.iload 6, 2) := by decide +kernel
theorem dX6_manyClocks_62 : decode cX6_manyClocks 62 = .ok (.ishr, 1) := by decide +kernel
theorem dX6_manyClocks_63 : decode cX6_manyClocks 63 = .ok (.iconst 1, 1) := by decide +kernel
theorem dX6_manyClocks_64 : decode cX6_manyClocks 64 = .ok (.iand, 1) := by decide +kernel
theorem dX6_manyClocks_65 : decode cX6_manyClocks 65 = .ok (.aload_n 0, 1) := by decide +kernel
theorem dX6_manyClocks_66 : decode cX6_manyClocks 66 = .ok (.getfield 21, 3) := by decide +kernel
theorem dX6_manyClocks_69 : decode cX6_manyClocks 69 = .ok (.invokevirtual 74, 3) := by decide +kernel
theorem dX6_manyClocks_72 : decode cX6_manyClocks 72 = .ok (.istore 7, 2) := by decide +kernel
theorem dX6_manyClocks_74 : decode cX6_manyClocks 74 = .ok (.iload 7, 2) := by decide +kernel
theorem dX6_manyClocks_76 : decode cX6_manyClocks 76 = .ok (.iconst 2, 1) := by decide +kernel
theorem dX6_manyClocks_77 : decode cX6_manyClocks 77 = .ok (.if_icmp .eq 16, 3) := by decide +kernel
theorem dX6_manyClocks_80 : decode cX6_manyClocks 80 = .ok (.iload 4, 2) := by decide +kernel
theorem dX6_manyClocks_82 : decode cX6_manyClocks 82 = .ok (.iload 7, 2) := by decide +kernel
theorem dX6_manyClocks_84 : decode cX6_manyClocks 84 = .ok (.iload 5, 2) := by decide +kernel
theorem dX6_manyClocks_86 : decode cX6_manyClocks 86 = .ok (.ishl, 1) := by decide +kernel
theorem dX6_manyClocks_87 : decode cX6_manyClocks 87 = .ok (.ior, 1) := by decide +kernel
theorem dX6_manyClocks_88 : decode cX6_manyClocks 88 = .ok (.istore 4, 2) := by decide +kernel
theorem dX6_manyClocks_90 : decode cX6_manyClocks 90 = .ok (.iinc 5 1, 3) := by decide +kernel
theorem dX6_manyClocks_93 : decode cX6_manyClocks 93 = .ok (.iinc 6 1, 3) := by decide +kernel
theorem dX6_manyClocks_96 : decode cX6_manyClocks 96 = .ok (.goto (-53), 3) := by decide +kernel
theorem dX6_manyClocks_99 : decode cX6_manyClocks 99 = .ok (.iload 4, 2) := by decide +kernel
theorem dX6_manyClocks_101 : decode cX6_manyClocks 101 = .ok (.ireturn, 1) := by decide +kernel
theorem dX6_portNumber_0 : decode cX6_portNumber 0 = .ok (.iload_n 1, 1) := by decide +kernel
theorem dX6_portNumber_1 : decode cX6_portNumber 1 = .ok (.tableswitch 89 0 4 #[35, 43, 51, 59, 74], 35) := by decide +kernel
theorem dX6_portNumber_36 : decode cX6_portNumber 36 = .ok (.aload_n 0, 1) := by decide +kernel
theorem dX6_portNumber_37 : decode cX6_portNumber 37 = .ok (.getfield 12, 3) := by decide +kernel
theorem dX6_portNumber_40 : decode cX6_portNumber 40 = .ok (.getfield 224, 3) := by decide +kernel
theorem dX6_portNumber_43 : decode cX6_portNumber 43 = .ok (.ireturn, 1) := by decide +kernel
theorem dX6_portNumber_44 : decode cX6_portNumber 44 = .ok (.aload_n 0, 1) := by decide +kernel
theorem dX6_portNumber_45 : decode cX6_portNumber 45 = .ok (.getfield 12, 3) := by decide +kernel
theorem dX6_portNumber_48 : decode cX6_portNumber 48 = .ok (.invokevirtual 227, 3) := by decide +kernel
theorem dX6_portNumber_51 : decode cX6_portNumber 51 = .ok (.ireturn, 1) := by decide +kernel
theorem dX6_portNumber_52 : decode cX6_portNumber 52 = .ok (.aload_n 0, 1) := by decide +kernel
theorem dX6_portNumber_53 : decode cX6_portNumber 53 = .ok (.getfield 12, 3) := by decide +kernel
theorem dX6_portNumber_56 : decode cX6_portNumber 56 = .ok (.invokevirtual 230, 3) := by decide +kernel
theorem dX6_portNumber_59 : decode cX6_portNumber 59 = .ok (.ireturn, 1) := by decide +kernel
theorem dX6_portNumber_60 : decode cX6_portNumber 60 = .ok (.aload_n 0, 1) := by decide +kernel
theorem dX6_portNumber_61 : decode cX6_portNumber 61 = .ok (.getfield 21, 3) := by decide +kernel
theorem dX6_portNumber_64 : decode cX6_portNumber 64 = .ok (.invokevirtual 233, 3) := by decide +kernel
theorem dX6_portNumber_67 : decode cX6_portNumber 67 = .ok (.aload_n 0, 1) := by decide +kernel
theorem dX6_portNumber_68 : decode cX6_portNumber 68 = .ok (.getfield 21, 3) := by decide +kernel
theorem dX6_portNumber_71 : decode cX6_portNumber 71 = .ok (.getfield 236, 3) := by decide +kernel
theorem dX6_portNumber_74 : decode cX6_portNumber 74 = .ok (.ireturn, 1) := by decide +kernel
theorem dX6_portNumber_75 : decode cX6_portNumber 75 = .ok (.aload_n 0, 1) := by decide +kernel
theorem dX6_portNumber_76 : decode cX6_portNumber 76 = .ok (.getfield 21, 3) := by decide +kernel
theorem dX6_portNumber_79 : decode cX6_portNumber 79 = .ok (.invokevirtual 233, 3) := by decide +kernel
theorem dX6_portNumber_82 : decode cX6_portNumber 82 = .ok (.aload_n 0, 1) := by decide +kernel
theorem dX6_portNumber_83 : decode cX6_portNumber 83 = .ok (.getfield 21, 3) := by decide +kernel
theorem dX6_portNumber_86 : decode cX6_portNumber 86 = .ok (.invokevirtual 239, 3) := by decide +kernel
theorem dX6_portNumber_89 : decode cX6_portNumber 89 = .ok (.ireturn, 1) := by decide +kernel
theorem dX6_portNumber_90 : decode cX6_portNumber 90 = .ok (.bipush (-2), 2) := by decide +kernel
theorem dX6_portNumber_92 : decode cX6_portNumber 92 = .ok (.ireturn, 1) := by decide +kernel
theorem dX6_cellNumber_0 : decode cX6_cellNumber 0 = .ok (.aload_n 0, 1) := by decide +kernel
theorem dX6_cellNumber_1 : decode cX6_cellNumber 1 = .ok (.getfield 12, 3) := by decide +kernel
theorem dX6_cellNumber_4 : decode cX6_cellNumber 4 = .ok (.getfield 91, 3) := by decide +kernel
theorem dX6_cellNumber_7 : decode cX6_cellNumber 7 = .ok (.iload_n 1, 1) := by decide +kernel
theorem dX6_cellNumber_8 : decode cX6_cellNumber 8 = .ok (.aaload, 1) := by decide +kernel
theorem dX6_cellNumber_9 : decode cX6_cellNumber 9 = .ok (.astore 4, 2) := by decide +kernel
theorem dX6_cellNumber_11 : decode cX6_cellNumber 11 = .ok (.iload_n 3, 1) := by decide +kernel
theorem dX6_cellNumber_12 : decode cX6_cellNumber 12 = .ok (.tableswitch 87 0 2 #[28, 43, 51], 28) := by decide +kernel
theorem dX6_cellNumber_40 : decode cX6_cellNumber 40 = .ok (.aload 4, 2) := by decide +kernel
theorem dX6_cellNumber_42 : decode cX6_cellNumber 42 = .ok (.iload_n 2, 1) := by decide +kernel
theorem dX6_cellNumber_43 : decode cX6_cellNumber 43 = .ok (.invokevirtual 134, 3) := by decide +kernel
theorem dX6_cellNumber_46 : decode cX6_cellNumber 46 = .ok (.ifCond .eq 7, 3) := by decide +kernel
theorem dX6_cellNumber_49 : decode cX6_cellNumber 49 = .ok (.iconst 1, 1) := by decide +kernel
theorem dX6_cellNumber_50 : decode cX6_cellNumber 50 = .ok (.goto 4, 3) := by decide +kernel
theorem dX6_cellNumber_53 : decode cX6_cellNumber 53 = .ok (.iconst 0, 1) := by decide +kernel
theorem dX6_cellNumber_54 : decode cX6_cellNumber 54 = .ok (.ireturn, 1) := by decide +kernel
theorem dX6_cellNumber_55 : decode cX6_cellNumber 55 = .ok (.aload 4, 2) := by decide +kernel
theorem dX6_cellNumber_57 : decode cX6_cellNumber 57 = .ok (.getfield 242, 3) := by decide +kernel
theorem dX6_cellNumber_60 : decode cX6_cellNumber 60 = .ok (.iload_n 2, 1) := by decide +kernel
theorem dX6_cellNumber_61 : decode cX6_cellNumber 61 = .ok (.iaload, 1) := by decide +kernel
theorem dX6_cellNumber_62 : decode cX6_cellNumber 62 = .ok (.ireturn, 1) := by decide +kernel
theorem dX6_cellNumber_63 : decode cX6_cellNumber 63 = .ok (.aload 4, 2) := by decide +kernel
theorem dX6_cellNumber_65 : decode cX6_cellNumber 65 = .ok (.iload_n 2, 1) := by decide +kernel
theorem dX6_cellNumber_66 : decode cX6_cellNumber 66 = .ok (.invokevirtual 134, 3) := by decide +kernel
theorem dX6_cellNumber_69 : decode cX6_cellNumber 69 = .ok (.ifCond .eq 13, 3) := by decide +kernel
theorem dX6_cellNumber_72 : decode cX6_cellNumber 72 = .ok (.aload 4, 2) := by decide +kernel
theorem dX6_cellNumber_74 : decode cX6_cellNumber 74 = .ok (.getfield 245, 3) := by decide +kernel
theorem dX6_cellNumber_77 : decode cX6_cellNumber 77 = .ok (.iload_n 2, 1) := by decide +kernel
theorem dX6_cellNumber_78 : decode cX6_cellNumber 78 = .ok (.ishr, 1) := by decide +kernel
theorem dX6_cellNumber_79 : decode cX6_cellNumber 79 = .ok (.iconst 1, 1) := by decide +kernel
theorem dX6_cellNumber_80 : decode cX6_cellNumber 80 = .ok (.iand, 1) := by decide +kernel
theorem dX6_cellNumber_81 : decode cX6_cellNumber 81 = .ok (.ireturn, 1) := by decide +kernel
theorem dX6_cellNumber_82 : decode cX6_cellNumber 82 = .ok (.aload_n 0, 1) := by decide +kernel
theorem dX6_cellNumber_83 : decode cX6_cellNumber 83 = .ok (.getfield 21, 3) := by decide +kernel
theorem dX6_cellNumber_86 : decode cX6_cellNumber 86 = .ok (.invokevirtual 233, 3) := by decide +kernel
theorem dX6_cellNumber_89 : decode cX6_cellNumber 89 = .ok (.aload_n 0, 1) := by decide +kernel
theorem dX6_cellNumber_90 : decode cX6_cellNumber 90 = .ok (.getfield 21, 3) := by decide +kernel
theorem dX6_cellNumber_93 : decode cX6_cellNumber 93 = .ok (.iload_n 1, 1) := by decide +kernel
theorem dX6_cellNumber_94 : decode cX6_cellNumber 94 = .ok (.iload_n 2, 1) := by decide +kernel
theorem dX6_cellNumber_95 : decode cX6_cellNumber 95 = .ok (.invokevirtual 248, 3) := by decide +kernel
theorem dX6_cellNumber_98 : decode cX6_cellNumber 98 = .ok (.ireturn, 1) := by decide +kernel
theorem dX6_cellNumber_99 : decode cX6_cellNumber 99 = .ok (.bipush (-2), 2) := by decide +kernel
theorem dX6_cellNumber_101 : decode cX6_cellNumber 101 = .ok (.ireturn, 1) := by decide +kernel
theorem dX6_carryOut_0 : decode cX6_carryOut 0 = .ok (.aload_n 0, 1) := by decide +kernel
theorem dX6_carryOut_1 : decode cX6_carryOut 1 = .ok (.getfield 42, 3) := by decide +kernel
theorem dX6_carryOut_4 : decode cX6_carryOut 4 = .ok (.getfield 251, 3) := by decide +kernel
theorem dX6_carryOut_7 : decode cX6_carryOut 7 = .ok (.iload_n 2, 1) := by decide +kernel
theorem dX6_carryOut_8 : decode cX6_carryOut 8 = .ok (.iaload, 1) := by decide +kernel
theorem dX6_carryOut_9 : decode cX6_carryOut 9 = .ok (.istore_n 3, 1) := by decide +kernel
theorem dX6_carryOut_10 : decode cX6_carryOut 10 = .ok (.aload_n 0, 1) := by decide +kernel
theorem dX6_carryOut_11 : decode cX6_carryOut 11 = .ok (.getfield 42, 3) := by decide +kernel
theorem dX6_carryOut_14 : decode cX6_carryOut 14 = .ok (.getfield 251, 3) := by decide +kernel
theorem dX6_carryOut_17 : decode cX6_carryOut 17 = .ok (.iload_n 2, 1) := by decide +kernel
theorem dX6_carryOut_18 : decode cX6_carryOut 18 = .ok (.iconst 1, 1) := by decide +kernel
theorem dX6_carryOut_19 : decode cX6_carryOut 19 = .ok (.iadd, 1) := by decide +kernel
theorem dX6_carryOut_20 : decode cX6_carryOut 20 = .ok (.iaload, 1) := by decide +kernel
theorem dX6_carryOut_21 : decode cX6_carryOut 21 = .ok (.istore 4, 2) := by decide +kernel
theorem dX6_carryOut_23 : decode cX6_carryOut 23 = .ok (.aload_n 0, 1) := by decide +kernel
theorem dX6_carryOut_24 : decode cX6_carryOut 24 = .ok (.getfield 42, 3) := by decide +kernel
theorem dX6_carryOut_27 : decode cX6_carryOut 27 = .ok (.getfield 251, 3) := by decide +kernel
theorem dX6_carryOut_30 : decode cX6_carryOut 30 = .ok (.iload_n 2, 1) := by decide +kernel
theorem dX6_carryOut_31 : decode cX6_carryOut 31 = .ok (.iconst 2, 1) := by decide +kernel
theorem dX6_carryOut_32 : decode cX6_carryOut 32 = .ok (.iadd, 1) := by decide +kernel
theorem dX6_carryOut_33 : decode cX6_carryOut 33 = .ok (.iaload, 1) := by decide +kernel
theorem dX6_carryOut_34 : decode cX6_carryOut 34 = .ok (.istore 5, 2) := by decide +kernel
theorem dX6_carryOut_36 : decode cX6_carryOut 36 = .ok (.iload_n 1, 1) := by decide +kernel
theorem dX6_carryOut_37 : decode cX6_carryOut 37 = .ok (.tableswitch 173 99 117 #[91, 173, 173, 173, 173, 165, 173, 173, 115, 173, 173, 173, 130, 102, 173, 173, 152, 173, 141], 91) := by decide +kernel
theorem dX6_carryOut_128 : decode cX6_carryOut 128 = .ok (.aload_n 0, 1) := by decide +kernel
theorem dX6_carryOut_129 : decode cX6_carryOut 129 = .ok (.getfield 12, 3) := by decide +kernel
theorem dX6_carryOut_132 : decode cX6_carryOut 132 = .ok (.iload_n 3, 1) := by decide +kernel
theorem dX6_carryOut_133 : decode cX6_carryOut 133 = .ok (.iload 4, 2) := by decide +kernel
theorem dX6_carryOut_135 : decode cX6_carryOut 135 = .ok (.invokevirtual 49, 3) := by decide +kernel
theorem dX6_carryOut_138 : decode cX6_carryOut 138 = .ok (.ireturn, 1) := by decide +kernel
theorem dX6_carryOut_139 : decode cX6_carryOut 139 = .ok (.aload_n 0, 1) := by decide +kernel
theorem dX6_carryOut_140 : decode cX6_carryOut 140 = .ok (.getfield 12, 3) := by decide +kernel
theorem dX6_carryOut_143 : decode cX6_carryOut 143 = .ok (.iload_n 3, 1) := by decide +kernel
theorem dX6_carryOut_144 : decode cX6_carryOut 144 = .ok (.iload 4, 2) := by decide +kernel
theorem dX6_carryOut_146 : decode cX6_carryOut 146 = .ok (.iload 5, 2) := by decide +kernel
theorem dX6_carryOut_148 : decode cX6_carryOut 148 = .ok (.invokevirtual 57, 3) := by decide +kernel
theorem dX6_carryOut_151 : decode cX6_carryOut 151 = .ok (.ireturn, 1) := by decide +kernel
theorem dX6_carryOut_152 : decode cX6_carryOut 152 = .ok (.aload_n 0, 1) := by decide +kernel
theorem dX6_carryOut_153 : decode cX6_carryOut 153 = .ok (.getfield 12, 3) := by decide +kernel
theorem dX6_carryOut_156 : decode cX6_carryOut 156 = .ok (.iload_n 3, 1) := by decide +kernel
theorem dX6_carryOut_157 : decode cX6_carryOut 157 = .ok (.iload 4, 2) := by decide +kernel
theorem dX6_carryOut_159 : decode cX6_carryOut 159 = .ok (.aload_n 0, 1) := by decide +kernel
theorem dX6_carryOut_160 : decode cX6_carryOut 160 = .ok (.getfield 21, 3) := by decide +kernel
theorem dX6_carryOut_163 : decode cX6_carryOut 163 = .ok (.invokevirtual 74, 3) := by decide +kernel
theorem dX6_carryOut_166 : decode cX6_carryOut 166 = .ok (.ireturn, 1) := by decide +kernel
theorem dX6_carryOut_167 : decode cX6_carryOut 167 = .ok (.aload_n 0, 1) := by decide +kernel
theorem dX6_carryOut_168 : decode cX6_carryOut 168 = .ok (.getfield 12, 3) := by decide +kernel
theorem dX6_carryOut_171 : decode cX6_carryOut 171 = .ok (.iload_n 3, 1) := by decide +kernel
theorem dX6_carryOut_172 : decode cX6_carryOut 172 = .ok (.iload 4, 2) := by decide +kernel
theorem dX6_carryOut_174 : decode cX6_carryOut 174 = .ok (.invokevirtual 61, 3) := by decide +kernel
theorem dX6_carryOut_177 : decode cX6_carryOut 177 = .ok (.ireturn, 1) := by decide +kernel
theorem dX6_carryOut_178 : decode cX6_carryOut 178 = .ok (.aload_n 0, 1) := by decide +kernel
theorem dX6_carryOut_179 : decode cX6_carryOut 179 = .ok (.getfield 12, 3) := by decide +kernel
theorem dX6_carryOut_182 : decode cX6_carryOut 182 = .ok (.iload_n 3, 1) := by decide +kernel
theorem dX6_carryOut_183 : decode cX6_carryOut 183 = .ok (.iload 4, 2) := by decide +kernel
theorem dX6_carryOut_185 : decode cX6_carryOut 185 = .ok (.invokevirtual 64, 3) := by decide +kernel
theorem dX6_carryOut_188 : decode cX6_carryOut 188 = .ok (.ireturn, 1) := by decide +kernel
theorem dX6_carryOut_189 : decode cX6_carryOut 189 = .ok (.aload_n 0, 1) := by decide +kernel
theorem dX6_carryOut_190 : decode cX6_carryOut 190 = .ok (.getfield 12, 3) := by decide +kernel
theorem dX6_carryOut_193 : decode cX6_carryOut 193 = .ok (.iload_n 3, 1) := by decide +kernel
theorem dX6_carryOut_194 : decode cX6_carryOut 194 = .ok (.iload 4, 2) := by decide +kernel
theorem dX6_carryOut_196 : decode cX6_carryOut 196 = .ok (.iload 5, 2) := by decide +kernel
theorem dX6_carryOut_198 : decode cX6_carryOut 198 = .ok (.invokevirtual 67, 3) := by decide +kernel
theorem dX6_carryOut_201 : decode cX6_carryOut 201 = .ok (.ireturn, 1) := by decide +kernel
theorem dX6_carryOut_202 : decode cX6_carryOut 202 = .ok (.aload_n 0, 1) := by decide +kernel
theorem dX6_carryOut_203 : decode cX6_carryOut 203 = .ok (.getfield 12, 3) := by decide +kernel
theorem dX6_carryOut_206 : decode cX6_carryOut 206 = .ok (.invokevirtual 70, 3) := by decide +kernel
theorem dX6_carryOut_209 : decode cX6_carryOut 209 = .ok (.ireturn, 1) := by decide +kernel
theorem dX6_carryOut_210 : decode cX6_carryOut 210 = .ok (.bipush (-2), 2) := by decide +kernel
theorem dX6_carryOut_212 : decode cX6_carryOut 212 = .ok (.ireturn, 1) := by decide +kernel
theorem dX6_mixedChips_0 : decode cX6_mixedChips 0 = .ok (.lload_n 1, 1) := by decide +kernel
theorem dX6_mixedChips_1 : decode cX6_mixedChips 1 = .ok (.lstore_n 3, 1) := by decide +kernel
theorem dX6_mixedChips_2 : decode cX6_mixedChips 2 = .ok (.iconst 0, 1) := by decide +kernel
theorem dX6_mixedChips_3 : decode cX6_mixedChips 3 = .ok (.istore 5, 2) := by decide +kernel
theorem dX6_mixedChips_5 : decode cX6_mixedChips 5 = .ok (.iload 5, 2) := by decide +kernel
theorem dX6_mixedChips_7 : decode cX6_mixedChips 7 = .ok (.aload_n 0, 1) := by decide +kernel
theorem dX6_mixedChips_8 : decode cX6_mixedChips 8 = .ok (.getfield 12, 3) := by decide +kernel
theorem dX6_mixedChips_11 : decode cX6_mixedChips 11 = .ok (.getfield 254, 3) := by decide +kernel
theorem dX6_mixedChips_14 : decode cX6_mixedChips 14 = .ok (.if_icmp .ge 99, 3) := by decide +kernel
theorem dX6_mixedChips_17 : decode cX6_mixedChips 17 = .ok (.iconst 0, 1) := by decide +kernel
theorem dX6_mixedChips_18 : decode cX6_mixedChips 18 = .ok (.istore 6, 2) := by decide +kernel
theorem dX6_mixedChips_20 : decode cX6_mixedChips 20 = .ok (.iload 6, 2) := by decide +kernel
theorem dX6_mixedChips_22 : decode cX6_mixedChips 22 = .ok (.bipush 8, 2) := by decide +kernel
theorem dX6_mixedChips_24 : decode cX6_mixedChips 24 = .ok (.if_icmp .ge 22, 3) := by decide +kernel
theorem dX6_mixedChips_27 : decode cX6_mixedChips 27 = .ok (.lload_n 3, 1) := by decide +kernel
theorem dX6_mixedChips_28 : decode cX6_mixedChips 28 = .ok (.aload_n 0, 1) := by decide +kernel
theorem dX6_mixedChips_29 : decode cX6_mixedChips 29 = .ok (.iload 5, 2) := by decide +kernel
theorem dX6_mixedChips_31 : decode cX6_mixedChips 31 = .ok (.iload 6, 2) := by decide +kernel
theorem dX6_mixedChips_33 : decode cX6_mixedChips 33 = .ok (.invokevirtual 257, 3) := by decide +kernel
theorem dX6_mixedChips_36 : decode cX6_mixedChips 36 = .ok (.invokestatic 198, 3) := by decide +kernel
theorem dX6_mixedChips_39 : decode cX6_mixedChips 39 = .ok (.lstore_n 3, 1) := by decide +kernel
theorem dX6_mixedChips_40 : decode cX6_mixedChips 40 = .ok (.iinc 6 1, 3) := by decide +kernel
theorem dX6_mixedChips_43 : decode cX6_mixedChips 43 = .ok (.goto (-23), 3) := by decide +kernel
theorem dX6_mixedChips_46 : decode cX6_mixedChips 46 = .ok (.aload_n 0, 1) := by decide +kernel
theorem dX6_mixedChips_47 : decode cX6_mixedChips 47 = .ok (.getfield 12, 3) := by decide +kernel
theorem dX6_mixedChips_50 : decode cX6_mixedChips 50 = .ok (.getfield 91, 3) := by decide +kernel
theorem dX6_mixedChips_53 : decode cX6_mixedChips 53 = .ok (.iload 5, 2) := by decide +kernel
theorem dX6_mixedChips_55 : decode cX6_mixedChips 55 = .ok (.aaload, 1) := by decide +kernel
theorem dX6_mixedChips_56 : decode cX6_mixedChips 56 = .ok (.getfield 260, 3) := by decide +kernel
theorem dX6_mixedChips_59 : decode cX6_mixedChips 59 = .ok (.istore 6, 2) := by decide +kernel
theorem dX6_mixedChips_61 : decode cX6_mixedChips 61 = .ok (.iconst 0, 1) := by decide +kernel
theorem dX6_mixedChips_62 : decode cX6_mixedChips 62 = .ok (.istore 7, 2) := by decide +kernel
theorem dX6_mixedChips_64 : decode cX6_mixedChips 64 = .ok (.iload 7, 2) := by decide +kernel
theorem dX6_mixedChips_66 : decode cX6_mixedChips 66 = .ok (.iload 6, 2) := by decide +kernel
theorem dX6_mixedChips_68 : decode cX6_mixedChips 68 = .ok (.if_icmp .ge 39, 3) := by decide +kernel
theorem dX6_mixedChips_71 : decode cX6_mixedChips 71 = .ok (.iconst 0, 1) := by decide +kernel
theorem dX6_mixedChips_72 : decode cX6_mixedChips 72 = .ok (.istore 8, 2) := by decide +kernel
theorem dX6_mixedChips_74 : decode cX6_mixedChips 74 = .ok (.iload 8, 2) := by decide +kernel
theorem dX6_mixedChips_76 : decode cX6_mixedChips 76 = .ok (.iconst 3, 1) := by decide +kernel
theorem dX6_mixedChips_77 : decode cX6_mixedChips 77 = .ok (.if_icmp .ge 24, 3) := by decide +kernel
theorem dX6_mixedChips_80 : decode cX6_mixedChips 80 = .ok (.lload_n 3, 1) := by decide +kernel
theorem dX6_mixedChips_81 : decode cX6_mixedChips 81 = .ok (.aload_n 0, 1) := by decide +kernel
theorem dX6_mixedChips_82 : decode cX6_mixedChips 82 = .ok (.iload 5, 2) := by decide +kernel
theorem dX6_mixedChips_84 : decode cX6_mixedChips 84 = .ok (.iload 7, 2) := by decide +kernel
theorem dX6_mixedChips_86 : decode cX6_mixedChips 86 = .ok (.iload 8, 2) := by decide +kernel
theorem dX6_mixedChips_88 : decode cX6_mixedChips 88 = .ok (.invokevirtual 263, 3) := by decide +kernel
theorem dX6_mixedChips_91 : decode cX6_mixedChips 91 = .ok (.invokestatic 198, 3) := by decide +kernel
theorem dX6_mixedChips_94 : decode cX6_mixedChips 94 = .ok (.lstore_n 3, 1) := by decide +kernel
theorem dX6_mixedChips_95 : decode cX6_mixedChips 95 = .ok (.iinc 8 1, 3) := by decide +kernel
theorem dX6_mixedChips_98 : decode cX6_mixedChips 98 = .ok (.goto (-24), 3) := by decide +kernel
theorem dX6_mixedChips_101 : decode cX6_mixedChips 101 = .ok (.iinc 7 1, 3) := by decide +kernel
theorem dX6_mixedChips_104 : decode cX6_mixedChips 104 = .ok (.goto (-40), 3) := by decide +kernel
theorem dX6_mixedChips_107 : decode cX6_mixedChips 107 = .ok (.iinc 5 1, 3) := by decide +kernel
theorem dX6_mixedChips_110 : decode cX6_mixedChips 110 = .ok (.goto (-105), 3) := by decide +kernel
theorem dX6_mixedChips_113 : decode cX6_mixedChips 113 = .ok (.lload_n 3, 1) := by decide +kernel
theorem dX6_mixedChips_114 : decode cX6_mixedChips 114 = .ok (.lreturn, 1) := by decide +kernel
theorem dJ6_bitCount_0f7a4_0 : decode cJ6_bitCount_0f7a4 0 = .ok (.iload_n 0, 1) := by decide +kernel
theorem dJ6_bitCount_0f7a4_1 : decode cJ6_bitCount_0f7a4 1 = .ok (.iload_n 0, 1) := by decide +kernel
theorem dJ6_bitCount_0f7a4_2 : decode cJ6_bitCount_0f7a4 2 = .ok (.iconst 1, 1) := by decide +kernel
theorem dJ6_bitCount_0f7a4_3 : decode cJ6_bitCount_0f7a4 3 = .ok (.iushr, 1) := by decide +kernel
theorem dJ6_bitCount_0f7a4_4 : decode cJ6_bitCount_0f7a4 4 = .ok (.ldc_w 265, 3) := by decide +kernel
theorem dJ6_bitCount_0f7a4_7 : decode cJ6_bitCount_0f7a4 7 = .ok (.iand, 1) := by decide +kernel
theorem dJ6_bitCount_0f7a4_8 : decode cJ6_bitCount_0f7a4 8 = .ok (.isub, 1) := by decide +kernel
theorem dJ6_bitCount_0f7a4_9 : decode cJ6_bitCount_0f7a4 9 = .ok (.istore_n 0, 1) := by decide +kernel
theorem dJ6_bitCount_0f7a4_10 : decode cJ6_bitCount_0f7a4 10 = .ok (.iload_n 0, 1) := by decide +kernel
theorem dJ6_bitCount_0f7a4_11 : decode cJ6_bitCount_0f7a4 11 = .ok (.ldc_w 266, 3) := by decide +kernel
theorem dJ6_bitCount_0f7a4_14 : decode cJ6_bitCount_0f7a4 14 = .ok (.iand, 1) := by decide +kernel
theorem dJ6_bitCount_0f7a4_15 : decode cJ6_bitCount_0f7a4 15 = .ok (.iload_n 0, 1) := by decide +kernel
theorem dJ6_bitCount_0f7a4_16 : decode cJ6_bitCount_0f7a4 16 = .ok (.iconst 2, 1) := by decide +kernel
theorem dJ6_bitCount_0f7a4_17 : decode cJ6_bitCount_0f7a4 17 = .ok (.iushr, 1) := by decide +kernel
theorem dJ6_bitCount_0f7a4_18 : decode cJ6_bitCount_0f7a4 18 = .ok (.ldc_w 266, 3) := by decide +kernel
theorem dJ6_bitCount_0f7a4_21 : decode cJ6_bitCount_0f7a4 21 = .ok (.iand, 1) := by decide +kernel
theorem dJ6_bitCount_0f7a4_22 : decode cJ6_bitCount_0f7a4 22 = .ok (.iadd, 1) := by decide +kernel
theorem dJ6_bitCount_0f7a4_23 : decode cJ6_bitCount_0f7a4 23 = .ok (.istore_n 0, 1) := by decide +kernel
theorem dJ6_bitCount_0f7a4_24 : decode cJ6_bitCount_0f7a4 24 = .ok (.iload_n 0, 1) := by decide +kernel
theorem dJ6_bitCount_0f7a4_25 : decode cJ6_bitCount_0f7a4 25 = .ok (.iload_n 0, 1) := by decide +kernel
theorem dJ6_bitCount_0f7a4_26 : decode cJ6_bitCount_0f7a4 26 = .ok (.iconst 4, 1) := by decide +kernel
theorem dJ6_bitCount_0f7a4_27 : decode cJ6_bitCount_0f7a4 27 = .ok (.iushr, 1) := by decide +kernel
theorem dJ6_bitCount_0f7a4_28 : decode cJ6_bitCount_0f7a4 28 = .ok (.iadd, 1) := by decide +kernel
theorem dJ6_bitCount_0f7a4_29 : decode cJ6_bitCount_0f7a4 29 = .ok (.ldc_w 267, 3) := by decide +kernel
theorem dJ6_bitCount_0f7a4_32 : decode cJ6_bitCount_0f7a4 32 = .ok (.iand, 1) := by decide +kernel
theorem dJ6_bitCount_0f7a4_33 : decode cJ6_bitCount_0f7a4 33 = .ok (.istore_n 0, 1) := by decide +kernel
theorem dJ6_bitCount_0f7a4_34 : decode cJ6_bitCount_0f7a4 34 = .ok (.iload_n 0, 1) := by decide +kernel
theorem dJ6_bitCount_0f7a4_35 : decode cJ6_bitCount_0f7a4 35 = .ok (.iload_n 0, 1) := by decide +kernel
theorem dJ6_bitCount_0f7a4_36 : decode cJ6_bitCount_0f7a4 36 = .ok (.bipush 8, 2) := by decide +kernel
theorem dJ6_bitCount_0f7a4_38 : decode cJ6_bitCount_0f7a4 38 = .ok (.iushr, 1) := by decide +kernel
theorem dJ6_bitCount_0f7a4_39 : decode cJ6_bitCount_0f7a4 39 = .ok (.iadd, 1) := by decide +kernel
theorem dJ6_bitCount_0f7a4_40 : decode cJ6_bitCount_0f7a4 40 = .ok (.istore_n 0, 1) := by decide +kernel
theorem dJ6_bitCount_0f7a4_41 : decode cJ6_bitCount_0f7a4 41 = .ok (.iload_n 0, 1) := by decide +kernel
theorem dJ6_bitCount_0f7a4_42 : decode cJ6_bitCount_0f7a4 42 = .ok (.iload_n 0, 1) := by decide +kernel
theorem dJ6_bitCount_0f7a4_43 : decode cJ6_bitCount_0f7a4 43 = .ok (.bipush 16, 2) := by decide +kernel
theorem dJ6_bitCount_0f7a4_45 : decode cJ6_bitCount_0f7a4 45 = .ok (.iushr, 1) := by decide +kernel
theorem dJ6_bitCount_0f7a4_46 : decode cJ6_bitCount_0f7a4 46 = .ok (.iadd, 1) := by decide +kernel
theorem dJ6_bitCount_0f7a4_47 : decode cJ6_bitCount_0f7a4 47 = .ok (.istore_n 0, 1) := by decide +kernel
theorem dJ6_bitCount_0f7a4_48 : decode cJ6_bitCount_0f7a4 48 = .ok (.iload_n 0, 1) := by decide +kernel
theorem dJ6_bitCount_0f7a4_49 : decode cJ6_bitCount_0f7a4 49 = .ok (.bipush 63, 2) := by decide +kernel
theorem dJ6_bitCount_0f7a4_51 : decode cJ6_bitCount_0f7a4 51 = .ok (.iand, 1) := by decide +kernel
theorem dJ6_bitCount_0f7a4_52 : decode cJ6_bitCount_0f7a4 52 = .ok (.ireturn, 1) := by decide +kernel
theorem dJ9_max_7cf53_0 : decode cJ9_max_7cf53 0 = .ok (.iload_n 0, 1) := by decide +kernel
theorem dJ9_max_7cf53_1 : decode cJ9_max_7cf53 1 = .ok (.iload_n 1, 1) := by decide +kernel
theorem dJ9_max_7cf53_2 : decode cJ9_max_7cf53 2 = .ok (.if_icmp .lt 7, 3) := by decide +kernel
theorem dJ9_max_7cf53_5 : decode cJ9_max_7cf53 5 = .ok (.iload_n 0, 1) := by decide +kernel
theorem dJ9_max_7cf53_6 : decode cJ9_max_7cf53 6 = .ok (.goto 4, 3) := by decide +kernel
theorem dJ9_max_7cf53_9 : decode cJ9_max_7cf53 9 = .ok (.iload_n 1, 1) := by decide +kernel
theorem dJ9_max_7cf53_10 : decode cJ9_max_7cf53 10 = .ok (.ireturn, 1) := by decide +kernel
theorem dJ9_min_7cf53_0 : decode cJ9_min_7cf53 0 = .ok (.iload_n 0, 1) := by decide +kernel
theorem dJ9_min_7cf53_1 : decode cJ9_min_7cf53 1 = .ok (.iload_n 1, 1) := by decide +kernel
theorem dJ9_min_7cf53_2 : decode cJ9_min_7cf53 2 = .ok (.if_icmp .gt 7, 3) := by decide +kernel
theorem dJ9_min_7cf53_5 : decode cJ9_min_7cf53 5 = .ok (.iload_n 0, 1) := by decide +kernel
theorem dJ9_min_7cf53_6 : decode cJ9_min_7cf53 6 = .ok (.goto 4, 3) := by decide +kernel
theorem dJ9_min_7cf53_9 : decode cJ9_min_7cf53 9 = .ok (.iload_n 1, 1) := by decide +kernel
theorem dJ9_min_7cf53_10 : decode cJ9_min_7cf53 10 = .ok (.ireturn, 1) := by decide +kernel
end
section
theorem dX7_init_0 : decode cX7_init 0 = .ok (.aload_n 0, 1) := by decide +kernel
theorem dX7_init_1 : decode cX7_init 1 = .ok (.invokespecial 1, 3) := by decide +kernel
theorem dX7_init_4 : decode cX7_init 4 = .ok (.aload_n 0, 1) := by decide +kernel
theorem dX7_init_5 : decode cX7_init 5 = .ok (.bipush 83, 2) := by decide +kernel
theorem dX7_init_7 : decode cX7_init 7 = .ok (.newarray .int, 2) := by decide +kernel
theorem dX7_init_9 : decode cX7_init 9 = .ok (.putfield 7, 3) := by decide +kernel
theorem dX7_init_12 : decode cX7_init 12 = .ok (.aload_n 0, 1) := by decide +kernel
theorem dX7_init_13 : decode cX7_init 13 = .ok (.bipush 83, 2) := by decide +kernel
theorem dX7_init_15 : decode cX7_init 15 = .ok (.newarray .int, 2) := by decide +kernel
theorem dX7_init_17 : decode cX7_init 17 = .ok (.putfield 13, 3) := by decide +kernel
theorem dX7_init_20 : decode cX7_init 20 = .ok (.aload_n 0, 1) := by decide +kernel
theorem dX7_init_21 : decode cX7_init 21 = .ok (.sipush 415, 3) := by decide +kernel
theorem dX7_init_24 : decode cX7_init 24 = .ok (.newarray .int, 2) := by decide +kernel
theorem dX7_init_26 : decode cX7_init 26 = .ok (.putfield 16, 3) := by decide +kernel
theorem dX7_init_29 : decode cX7_init 29 = .ok (.aload_n 0, 1) := by decide +kernel
theorem dX7_init_30 : decode cX7_init 30 = .ok (.iconst 3, 1) := by decide +kernel
theorem dX7_init_31 : decode cX7_init 31 = .ok (.newarray .int, 2) := by decide +kernel
theorem dX7_init_33 : decode cX7_init 33 = .ok (.putfield 19, 3) := by decide +kernel
theorem dX7_init_36 : decode cX7_init 36 = .ok (.aload_n 0, 1) := by decide +kernel
theorem dX7_init_37 : decode cX7_init 37 = .ok (.bipush 120, 2) := by decide +kernel
theorem dX7_init_39 : decode cX7_init 39 = .ok (.newarray .int, 2) := by decide +kernel
theorem dX7_init_41 : decode cX7_init 41 = .ok (.putfield 22, 3) := by decide +kernel
theorem dX7_init_44 : decode cX7_init 44 = .ok (.aload_n 0, 1) := by decide +kernel
theorem dX7_init_45 : decode cX7_init 45 = .ok (.iconst 4, 1) := by decide +kernel
theorem dX7_init_46 : decode cX7_init 46 = .ok (.newarray .int, 2) := by decide +kernel
theorem dX7_init_48 : decode cX7_init 48 = .ok (.putfield 25, 3) := by decide +kernel
theorem dX7_init_51 : decode cX7_init 51 = .ok (.aload_n 0, 1) := by decide +kernel
theorem dX7_init_52 : decode cX7_init 52 = .ok (.bipush 8, 2) := by decide +kernel
theorem dX7_init_54 : decode cX7_init 54 = .ok (.newarray .int, 2) := by decide +kernel
theorem dX7_init_56 : decode cX7_init 56 = .ok (.putfield 28, 3) := by decide +kernel
theorem dX7_init_59 : decode cX7_init 59 = .ok (.aload_n 0, 1) := by decide +kernel
theorem dX7_init_60 : decode cX7_init 60 = .ok (.bipush 24, 2) := by decide +kernel
theorem dX7_init_62 : decode cX7_init 62 = .ok (.newarray .int, 2) := by decide +kernel
theorem dX7_init_64 : decode cX7_init 64 = .ok (.putfield 31, 3) := by decide +kernel
theorem dX7_init_67 : decode cX7_init 67 = .ok (.aload_n 0, 1) := by decide +kernel
theorem dX7_init_68 : decode cX7_init 68 = .ok (.bipush 24, 2) := by decide +kernel
theorem dX7_init_70 : decode cX7_init 70 = .ok (.newarray .int, 2) := by decide +kernel
theorem dX7_init_72 : decode cX7_init 72 = .ok (.putfield 34, 3) := by decide +kernel
theorem dX7_init_75 : decode cX7_init 75 = .ok (.aload_n 0, 1) := by decide +kernel
theorem dX7_init_76 : decode cX7_init 76 = .ok (.bipush 61, 2) := by decide +kernel
theorem dX7_init_78 : decode cX7_init 78 = .ok (.newarray .int, 2) := by decide +kernel
theorem dX7_init_80 : decode cX7_init 80 = .ok (.putfield 37, 3) := by decide +kernel
theorem dX7_init_83 : decode cX7_init 83 = .ok (.aload_n 0, 1) := by decide +kernel
theorem dX7_init_84 : decode cX7_init 84 = .ok (.sipush 183, 3) := by decide +kernel
theorem dX7_init_87 : decode cX7_init 87 = .ok (.newarray .int, 2) := by decide +kernel
theorem dX7_init_89 : decode cX7_init 89 = .ok (.putfield 40, 3) := by decide +kernel
theorem dX7_init_92 : decode cX7_init 92 = .ok (.return_, 1) := by decide +kernel
theorem dX7_bad_0 : decode cX7_bad 0 = .ok (.aload_n 0, 1) := by decide +kernel
theorem dX7_bad_1 : decode cX7_bad 1 = .ok (.getfield 19, 3) := by decide +kernel
theorem dX7_bad_4 : decode cX7_bad 4 = .ok (.iconst 0, 1) := by decide +kernel
theorem dX7_bad_5 : decode cX7_bad 5 = .ok (.dup2, 1) := by decide +kernel
theorem dX7_bad_6 : decode cX7_bad 6 = .ok (.iaload, 1) := by decide +kernel
theorem dX7_bad_7 : decode cX7_bad 7 = .ok (.iconst 1, 1) := by decide +kernel
theorem dX7_bad_8 : decode cX7_bad 8 = .ok (.iadd, 1) := by decide +kernel
theorem dX7_bad_9 : decode cX7_bad 9 = .ok (.iastore, 1) := by decide +kernel
theorem dX7_bad_10 : decode cX7_bad 10 = .ok (.bipush (-2), 2) := by decide +kernel
theorem dX7_bad_12 : decode cX7_bad 12 = .ok (.ireturn, 1) := by decide +kernel
theorem dX7_no_0 : decode cX7_no 0 = .ok (.aload_n 0, 1) := by decide +kernel
theorem dX7_no_1 : decode cX7_no 1 = .ok (.getfield 19, 3) := by decide +kernel
theorem dX7_no_4 : decode cX7_no 4 = .ok (.iconst 1, 1) := by decide +kernel
theorem dX7_no_5 : decode cX7_no 5 = .ok (.dup2, 1) := by decide +kernel
theorem dX7_no_6 : decode cX7_no 6 = .ok (.iaload, 1) := by decide +kernel
theorem dX7_no_7 : decode cX7_no 7 = .ok (.iconst 1, 1) := by decide +kernel
theorem dX7_no_8 : decode cX7_no 8 = .ok (.iadd, 1) := by decide +kernel
theorem dX7_no_9 : decode cX7_no 9 = .ok (.iastore, 1) := by decide +kernel
theorem dX7_no_10 : decode cX7_no 10 = .ok (.bipush (-3), 2) := by decide +kernel
theorem dX7_no_12 : decode cX7_no 12 = .ok (.ireturn, 1) := by decide +kernel
theorem dX7_full_0 : decode cX7_full 0 = .ok (.aload_n 0, 1) := by decide +kernel
theorem dX7_full_1 : decode cX7_full 1 = .ok (.getfield 19, 3) := by decide +kernel
theorem dX7_full_4 : decode cX7_full 4 = .ok (.iconst 2, 1) := by decide +kernel
theorem dX7_full_5 : decode cX7_full 5 = .ok (.dup2, 1) := by decide +kernel
theorem dX7_full_6 : decode cX7_full 6 = .ok (.iaload, 1) := by decide +kernel
theorem dX7_full_7 : decode cX7_full 7 = .ok (.iconst 1, 1) := by decide +kernel
theorem dX7_full_8 : decode cX7_full 8 = .ok (.iadd, 1) := by decide +kernel
theorem dX7_full_9 : decode cX7_full 9 = .ok (.iastore, 1) := by decide +kernel
theorem dX7_full_10 : decode cX7_full 10 = .ok (.bipush (-4), 2) := by decide +kernel
theorem dX7_full_12 : decode cX7_full 12 = .ok (.ireturn, 1) := by decide +kernel
theorem dX7_within_0 : decode cX7_within 0 = .ok (.iload_n 0, 1) := by decide +kernel
theorem dX7_within_1 : decode cX7_within 1 = .ok (.iload_n 1, 1) := by decide +kernel
theorem dX7_within_2 : decode cX7_within 2 = .ok (.if_icmp .lt 12, 3) := by decide +kernel
theorem dX7_within_5 : decode cX7_within 5 = .ok (.iload_n 0, 1) := by decide +kernel
theorem dX7_within_6 : decode cX7_within 6 = .ok (.iload_n 2, 1) := by decide +kernel
theorem dX7_within_7 : decode cX7_within 7 = .ok (.if_icmp .gt 7, 3) := by decide +kernel
theorem dX7_within_10 : decode cX7_within 10 = .ok (.iconst 1, 1) := by decide +kernel
theorem dX7_within_11 : decode cX7_within 11 = .ok (.goto 4, 3) := by decide +kernel
theorem dX7_within_14 : decode cX7_within 14 = .ok (.iconst 0, 1) := by decide +kernel
theorem dX7_within_15 : decode cX7_within 15 = .ok (.ireturn, 1) := by decide +kernel
theorem dX7_isBit_0 : decode cX7_isBit 0 = .ok (.iload_n 0, 1) := by decide +kernel
theorem dX7_isBit_1 : decode cX7_isBit 1 = .ok (.ifCond .eq 8, 3) := by decide +kernel
theorem dX7_isBit_4 : decode cX7_isBit 4 = .ok (.iload_n 0, 1) := by decide +kernel
theorem dX7_isBit_5 : decode cX7_isBit 5 = .ok (.iconst 1, 1) := by decide +kernel
theorem dX7_isBit_6 : decode cX7_isBit 6 = .ok (.if_icmp .ne 7, 3) := by decide +kernel
theorem dX7_isBit_9 : decode cX7_isBit 9 = .ok (.iconst 1, 1) := by decide +kernel
theorem dX7_isBit_10 : decode cX7_isBit 10 = .ok (.goto 4, 3) := by decide +kernel
theorem dX7_isBit_13 : decode cX7_isBit 13 = .ok (.iconst 0, 1) := by decide +kernel
theorem dX7_isBit_14 : decode cX7_isBit 14 = .ok (.ireturn, 1) := by decide +kernel
theorem dX7_has_0 : decode cX7_has 0 = .ok (.iload_n 0, 1) := by decide +kernel
theorem dX7_has_1 : decode cX7_has 1 = .ok (.iload_n 1, 1) := by decide +kernel
theorem dX7_has_2 : decode cX7_has 2 = .ok (.ishr, 1) := by decide +kernel
theorem dX7_has_3 : decode cX7_has 3 = .ok (.iconst 1, 1) := by decide +kernel
theorem dX7_has_4 : decode cX7_has 4 = .ok (.iand, 1) := by decide +kernel
theorem dX7_has_5 : decode cX7_has 5 = .ok (.iconst 1, 1) := by decide +kernel
theorem dX7_has_6 : decode cX7_has 6 = .ok (.if_icmp .ne 7, 3) := by decide +kernel
theorem dX7_has_9 : decode cX7_has 9 = .ok (.iconst 1, 1) := by decide +kernel
theorem dX7_has_10 : decode cX7_has 10 = .ok (.goto 4, 3) := by decide +kernel
theorem dX7_has_13 : decode cX7_has 13 = .ok (.iconst 0, 1) := by decide +kernel
theorem dX7_has_14 : decode cX7_has 14 = .ok (.ireturn, 1) := by decide +kernel
theorem dX7_chips_0 : decode cX7_chips 0 = .ok (.aload_n 0, 1) := by decide +kernel
theorem dX7_chips_1 : decode cX7_chips 1 = .ok (.getfield 7, 3) := by decide +kernel
theorem dX7_chips_4 : decode cX7_chips 4 = .ok (.iconst 0, 1) := by decide +kernel
theorem dX7_chips_5 : decode cX7_chips 5 = .ok (.iaload, 1) := by decide +kernel
theorem dX7_chips_6 : decode cX7_chips 6 = .ok (.ireturn, 1) := by decide +kernel
theorem dX7_isChip_0 : decode cX7_isChip 0 = .ok (.iload_n 1, 1) := by decide +kernel
theorem dX7_isChip_1 : decode cX7_isChip 1 = .ok (.iconst 0, 1) := by decide +kernel
theorem dX7_isChip_2 : decode cX7_isChip 2 = .ok (.aload_n 0, 1) := by decide +kernel
theorem dX7_isChip_3 : decode cX7_isChip 3 = .ok (.getfield 7, 3) := by decide +kernel
theorem dX7_isChip_6 : decode cX7_isChip 6 = .ok (.iconst 0, 1) := by decide +kernel
theorem dX7_isChip_7 : decode cX7_isChip 7 = .ok (.iaload, 1) := by decide +kernel
theorem dX7_isChip_8 : decode cX7_isChip 8 = .ok (.iconst 1, 1) := by decide +kernel
theorem dX7_isChip_9 : decode cX7_isChip 9 = .ok (.isub, 1) := by decide +kernel
theorem dX7_isChip_10 : decode cX7_isChip 10 = .ok (.invokestatic 43, 3) := by decide +kernel
theorem dX7_isChip_13 : decode cX7_isChip 13 = .ok (.ireturn, 1) := by decide +kernel
theorem dX7_at_0 : decode cX7_at 0 = .ok (.bipush 7, 2) := by decide +kernel
theorem dX7_at_2 : decode cX7_at 2 = .ok (.bipush 19, 2) := by decide +kernel
theorem dX7_at_4 : decode cX7_at 4 = .ok (.iload_n 0, 1) := by decide +kernel
theorem dX7_at_5 : decode cX7_at 5 = .ok (.imul, 1) := by decide +kernel
theorem dX7_at_6 : decode cX7_at 6 = .ok (.iadd, 1) := by decide +kernel
theorem dX7_at_7 : decode cX7_at 7 = .ok (.iload_n 1, 1) := by decide +kernel
theorem dX7_at_8 : decode cX7_at 8 = .ok (.iadd, 1) := by decide +kernel
theorem dX7_at_9 : decode cX7_at 9 = .ok (.ireturn, 1) := by decide +kernel
theorem dX7_get_0 : decode cX7_get 0 = .ok (.aload_n 0, 1) := by decide +kernel
theorem dX7_get_1 : decode cX7_get 1 = .ok (.getfield 7, 3) := by decide +kernel
theorem dX7_get_4 : decode cX7_get 4 = .ok (.iload_n 1, 1) := by decide +kernel
theorem dX7_get_5 : decode cX7_get 5 = .ok (.iload_n 2, 1) := by decide +kernel
theorem dX7_get_6 : decode cX7_get 6 = .ok (.invokestatic 47, 3) := by decide +kernel
theorem dX7_get_9 : decode cX7_get 9 = .ok (.iaload, 1) := by decide +kernel
theorem dX7_get_10 : decode cX7_get 10 = .ok (.ireturn, 1) := by decide +kernel
theorem dX7_isCell_0 : decode cX7_isCell 0 = .ok (.aload_n 0, 1) := by decide +kernel
theorem dX7_isCell_1 : decode cX7_isCell 1 = .ok (.iload_n 1, 1) := by decide +kernel
theorem dX7_isCell_2 : decode cX7_isCell 2 = .ok (.invokevirtual 51, 3) := by decide +kernel
theorem dX7_isCell_5 : decode cX7_isCell 5 = .ok (.ifCond .eq 23, 3) := by decide +kernel
theorem dX7_isCell_8 : decode cX7_isCell 8 = .ok (.iload_n 2, 1) := by decide +kernel
theorem dX7_isCell_9 : decode cX7_isCell 9 = .ok (.iconst 0, 1) := by decide +kernel
theorem dX7_isCell_10 : decode cX7_isCell 10 = .ok (.aload_n 0, 1) := by decide +kernel
theorem dX7_isCell_11 : decode cX7_isCell 11 = .ok (.iload_n 1, 1) := by decide +kernel
theorem dX7_isCell_12 : decode cX7_isCell 12 = .ok (.iconst 2, 1) := by decide +kernel
theorem dX7_isCell_13 : decode cX7_isCell 13 = .ok (.invokevirtual 55, 3) := by decide +kernel
theorem dX7_isCell_16 : decode cX7_isCell 16 = .ok (.iconst 1, 1) := by decide +kernel
theorem dX7_isCell_17 : decode cX7_isCell 17 = .ok (.isub, 1) := by decide +kernel
theorem dX7_isCell_18 : decode cX7_isCell 18 = .ok (.invokestatic 43, 3) := by decide +kernel
theorem dX7_isCell_21 : decode cX7_isCell 21 = .ok (.ifCond .eq 7, 3) := by decide +kernel
theorem dX7_isCell_24 : decode cX7_isCell 24 = .ok (.iconst 1, 1) := by decide +kernel
theorem dX7_isCell_25 : decode cX7_isCell 25 = .ok (.goto 4, 3) := by decide +kernel
theorem dX7_isCell_28 : decode cX7_isCell 28 = .ok (.iconst 0, 1) := by decide +kernel
theorem dX7_isCell_29 : decode cX7_isCell 29 = .ok (.ireturn, 1) := by decide +kernel
theorem dX7_isOut_0 : decode cX7_isOut 0 = .ok (.aload_n 0, 1) := by decide +kernel
theorem dX7_isOut_1 : decode cX7_isOut 1 = .ok (.iload_n 1, 1) := by decide +kernel
theorem dX7_isOut_2 : decode cX7_isOut 2 = .ok (.bipush 7, 2) := by decide +kernel
theorem dX7_isOut_4 : decode cX7_isOut 4 = .ok (.iconst 2, 1) := by decide +kernel
theorem dX7_isOut_5 : decode cX7_isOut 5 = .ok (.iload_n 2, 1) := by decide +kernel
theorem dX7_isOut_6 : decode cX7_isOut 6 = .ok (.imul, 1) := by decide +kernel
theorem dX7_isOut_7 : decode cX7_isOut 7 = .ok (.iadd, 1) := by decide +kernel
theorem dX7_isOut_8 : decode cX7_isOut 8 = .ok (.invokevirtual 55, 3) := by decide +kernel
theorem dX7_isOut_11 : decode cX7_isOut 11 = .ok (.iconst 1, 1) := by decide +kernel
theorem dX7_isOut_12 : decode cX7_isOut 12 = .ok (.if_icmp .ne 7, 3) := by decide +kernel
theorem dX7_isOut_15 : decode cX7_isOut 15 = .ok (.iconst 1, 1) := by decide +kernel
theorem dX7_isOut_16 : decode cX7_isOut 16 = .ok (.goto 4, 3) := by decide +kernel
theorem dX7_isOut_19 : decode cX7_isOut 19 = .ok (.iconst 0, 1) := by decide +kernel
theorem dX7_isOut_20 : decode cX7_isOut 20 = .ok (.ireturn, 1) := by decide +kernel
theorem dX7_netOf_0 : decode cX7_netOf 0 = .ok (.aload_n 0, 1) := by decide +kernel
theorem dX7_netOf_1 : decode cX7_netOf 1 = .ok (.iload_n 1, 1) := by decide +kernel
theorem dX7_netOf_2 : decode cX7_netOf 2 = .ok (.bipush 7, 2) := by decide +kernel
theorem dX7_netOf_4 : decode cX7_netOf 4 = .ok (.iconst 2, 1) := by decide +kernel
theorem dX7_netOf_5 : decode cX7_netOf 5 = .ok (.iload_n 2, 1) := by decide +kernel
theorem dX7_netOf_6 : decode cX7_netOf 6 = .ok (.imul, 1) := by decide +kernel
theorem dX7_netOf_7 : decode cX7_netOf 7 = .ok (.iadd, 1) := by decide +kernel
theorem dX7_netOf_8 : decode cX7_netOf 8 = .ok (.iconst 1, 1) := by decide +kernel
theorem dX7_netOf_9 : decode cX7_netOf 9 = .ok (.iadd, 1) := by decide +kernel
theorem dX7_netOf_10 : decode cX7_netOf 10 = .ok (.invokevirtual 55, 3) := by decide +kernel
theorem dX7_netOf_13 : decode cX7_netOf 13 = .ok (.ireturn, 1) := by decide +kernel
theorem dX7_isNet_0 : decode cX7_isNet 0 = .ok (.iload_n 0, 1) := by decide +kernel
theorem dX7_isNet_1 : decode cX7_isNet 1 = .ok (.iconst 0, 1) := by decide +kernel
theorem dX7_isNet_2 : decode cX7_isNet 2 = .ok (.bipush 7, 2) := by decide +kernel
theorem dX7_isNet_4 : decode cX7_isNet 4 = .ok (.invokestatic 43, 3) := by decide +kernel
theorem dX7_isNet_7 : decode cX7_isNet 7 = .ok (.ireturn, 1) := by decide +kernel
theorem dX7_laysAside_0 : decode cX7_laysAside 0 = .ok (.iconst 0, 1) := by decide +kernel
theorem dX7_laysAside_1 : decode cX7_laysAside 1 = .ok (.istore_n 1, 1) := by decide +kernel
theorem dX7_laysAside_2 : decode cX7_laysAside 2 = .ok (.iload_n 1, 1) := by decide +kernel
theorem dX7_laysAside_3 : decode cX7_laysAside 3 = .ok (.bipush 83, 2) := by decide +kernel
theorem dX7_laysAside_5 : decode cX7_laysAside 5 = .ok (.if_icmp .ge 21, 3) := by decide +kernel
theorem dX7_laysAside_8 : decode cX7_laysAside 8 = .ok (.aload_n 0, 1) := by decide +kernel
theorem dX7_laysAside_9 : decode cX7_laysAside 9 = .ok (.getfield 13, 3) := by decide +kernel
theorem dX7_laysAside_12 : decode cX7_laysAside 12 = .ok (.iload_n 1, 1) := by decide +kernel
theorem dX7_laysAside_13 : decode cX7_laysAside 13 = .ok (.aload_n 0, 1) := by decide +kernel
theorem dX7_laysAside_14 : decode cX7_laysAside 14 = .ok (.getfield 7, 3) := by decide +kernel
theorem dX7_laysAside_17 : decode cX7_laysAside 17 = .ok (.iload_n 1, 1) := by decide +kernel
theorem dX7_laysAside_18 : decode cX7_laysAside 18 = .ok (.iaload, 1) := by decide +kernel
theorem dX7_laysAside_19 : decode cX7_laysAside 19 = .ok (.iastore, 1) := by decide +kernel
theorem dX7_laysAside_20 : decode cX7_laysAside 20 = .ok (.iinc 1 1, 3) := by decide +kernel
theorem dX7_laysAside_23 : decode cX7_laysAside 23 = .ok (.goto (-21), 3) := by decide +kernel
theorem dX7_laysAside_26 : decode cX7_laysAside 26 = .ok (.return_, 1) := by decide +kernel
theorem dX7_leaves_0 : decode cX7_leaves 0 = .ok (.aload_n 0, 1) := by decide +kernel
theorem dX7_leaves_1 : decode cX7_leaves 1 = .ok (.getfield 58, 3) := by decide +kernel
theorem dX7_leaves_4 : decode cX7_leaves 4 = .ok (.iconst 5, 1) := by decide +kernel
theorem dX7_leaves_5 : decode cX7_leaves 5 = .ok (.if_icmp .ne 43, 3) := by decide +kernel
theorem dX7_leaves_8 : decode cX7_leaves 8 = .ok (.iconst 0, 1) := by decide +kernel
theorem dX7_leaves_9 : decode cX7_leaves 9 = .ok (.istore_n 1, 1) := by decide +kernel
theorem dX7_leaves_10 : decode cX7_leaves 10 = .ok (.iload_n 1, 1) := by decide +kernel
theorem dX7_leaves_11 : decode cX7_leaves 11 = .ok (.sipush 332, 3) := by decide +kernel
theorem dX7_leaves_14 : decode cX7_leaves 14 = .ok (.if_icmp .ge 24, 3) := by decide +kernel
theorem dX7_leaves_17 : decode cX7_leaves 17 = .ok (.aload_n 0, 1) := by decide +kernel
theorem dX7_leaves_18 : decode cX7_leaves 18 = .ok (.getfield 16, 3) := by decide +kernel
theorem dX7_leaves_21 : decode cX7_leaves 21 = .ok (.iload_n 1, 1) := by decide +kernel
theorem dX7_leaves_22 : decode cX7_leaves 22 = .ok (.aload_n 0, 1) := by decide +kernel
theorem dX7_leaves_23 : decode cX7_leaves 23 = .ok (.getfield 16, 3) := by decide +kernel
theorem dX7_leaves_26 : decode cX7_leaves 26 = .ok (.iload_n 1, 1) := by decide +kernel
theorem dX7_leaves_27 : decode cX7_leaves 27 = .ok (.bipush 83, 2) := by decide +kernel
theorem dX7_leaves_29 : decode cX7_leaves 29 = .ok (.iadd, 1) := by decide +kernel
theorem dX7_leaves_30 : decode cX7_leaves 30 = .ok (.iaload, 1) := by decide +kernel
theorem dX7_leaves_31 : decode cX7_leaves 31 = .ok (.iastore, 1) := by decide +kernel
theorem dX7_leaves_32 : decode cX7_leaves 32 = .ok (.iinc 1 1, 3) := by decide +kernel
theorem dX7_leaves_35 : decode cX7_leaves 35 = .ok (.goto (-25), 3) := by decide +kernel
theorem dX7_leaves_38 : decode cX7_leaves 38 = .ok (.aload_n 0, 1) := by decide +kernel
theorem dX7_leaves_39 : decode cX7_leaves 39 = .ok (.dup, 1) := by decide +kernel
theorem dX7_leaves_40 : decode cX7_leaves 40 = .ok (.getfield 58, 3) := by decide +kernel
theorem dX7_leaves_43 : decode cX7_leaves 43 = .ok (.iconst 1, 1) := by decide +kernel
theorem dX7_leaves_44 : decode cX7_leaves 44 = .ok (.isub, 1) := by decide +kernel
theorem dX7_leaves_45 : decode cX7_leaves 45 = .ok (.putfield 58, 3) := by decide +kernel
theorem dX7_leaves_48 : decode cX7_leaves 48 = .ok (.iconst 0, 1) := by decide +kernel
theorem dX7_leaves_49 : decode cX7_leaves 49 = .ok (.istore_n 1, 1) := by decide +kernel
theorem dX7_leaves_50 : decode cX7_leaves 50 = .ok (.iload_n 1, 1) := by decide +kernel
theorem dX7_leaves_51 : decode cX7_leaves 51 = .ok (.bipush 83, 2) := by decide +kernel
theorem dX7_leaves_53 : decode cX7_leaves 53 = .ok (.if_icmp .ge 29, 3) := by decide +kernel
theorem dX7_leaves_56 : decode cX7_leaves 56 = .ok (.aload_n 0, 1) := by decide +kernel
theorem dX7_leaves_57 : decode cX7_leaves 57 = .ok (.getfield 16, 3) := by decide +kernel
theorem dX7_leaves_60 : decode cX7_leaves 60 = .ok (.bipush 83, 2) := by decide +kernel
theorem dX7_leaves_62 : decode cX7_leaves 62 = .ok (.aload_n 0, 1) := by decide +kernel
theorem dX7_leaves_63 : decode cX7_leaves 63 = .ok (.getfield 58, 3) := by decide +kernel
theorem dX7_leaves_66 : decode cX7_leaves 66 = .ok (.imul, 1) := by decide +kernel
theorem dX7_leaves_67 : decode cX7_leaves 67 = .ok (.iload_n 1, 1) := by decide +kernel
theorem dX7_leaves_68 : decode cX7_leaves 68 = .ok (.iadd, 1) := by decide +kernel
theorem dX7_leaves_69 : decode cX7_leaves 69 = .ok (.aload_n 0, 1) := by decide +kernel
theorem dX7_leaves_70 : decode cX7_leaves 70 = .ok (.getfield 13, 3) := by decide +kernel
theorem dX7_leaves_73 : decode cX7_leaves 73 = .ok (.iload_n 1, 1) := by decide +kernel
theorem dX7_leaves_74 : decode cX7_leaves 74 = .ok (.iaload, 1) := by decide +kernel
theorem dX7_leaves_75 : decode cX7_leaves 75 = .ok (.iastore, 1) := by decide +kernel
theorem dX7_leaves_76 : decode cX7_leaves 76 = .ok (.iinc 1 1, 3) := by decide +kernel
theorem dX7_leaves_79 : decode cX7_leaves 79 = .ok (.goto (-29), 3) := by decide +kernel
theorem dX7_leaves_82 : decode cX7_leaves 82 = .ok (.aload_n 0, 1) := by decide +kernel
theorem dX7_leaves_83 : decode cX7_leaves 83 = .ok (.dup, 1) := by decide +kernel
theorem dX7_leaves_84 : decode cX7_leaves 84 = .ok (.getfield 58, 3) := by decide +kernel
theorem dX7_leaves_87 : decode cX7_leaves 87 = .ok (.iconst 1, 1) := by decide +kernel
theorem dX7_leaves_88 : decode cX7_leaves 88 = .ok (.iadd, 1) := by decide +kernel
theorem dX7_leaves_89 : decode cX7_leaves 89 = .ok (.putfield 58, 3) := by decide +kernel
theorem dX7_leaves_92 : decode cX7_leaves 92 = .ok (.return_, 1) := by decide +kernel
theorem dX7_back_0 : decode cX7_back 0 = .ok (.aload_n 0, 1) := by decide +kernel
theorem dX7_back_1 : decode cX7_back 1 = .ok (.getfield 58, 3) := by decide +kernel
theorem dX7_back_4 : decode cX7_back 4 = .ok (.ifCond .ne 8, 3) := by decide +kernel
theorem dX7_back_7 : decode cX7_back 7 = .ok (.aload_n 0, 1) := by decide +kernel
theorem dX7_back_8 : decode cX7_back 8 = .ok (.invokevirtual 62, 3) := by decide +kernel
theorem dX7_back_11 : decode cX7_back 11 = .ok (.ireturn, 1) := by decide +kernel
theorem dX7_back_12 : decode cX7_back 12 = .ok (.aload_n 0, 1) := by decide +kernel
theorem dX7_back_13 : decode cX7_back 13 = .ok (.dup, 1) := by decide +kernel
theorem dX7_back_14 : decode cX7_back 14 = .ok (.getfield 58, 3) := by decide +kernel
theorem dX7_back_17 : decode cX7_back 17 = .ok (.iconst 1, 1) := by decide +kernel
theorem dX7_back_18 : decode cX7_back 18 = .ok (.isub, 1) := by decide +kernel
theorem dX7_back_19 : decode cX7_back 19 = .ok (.putfield 58, 3) := by decide +kernel
theorem dX7_back_22 : decode cX7_back 22 = .ok (.iconst 0, 1) := by decide +kernel
theorem dX7_back_23 : decode cX7_back 23 = .ok (.istore_n 1, 1) := by decide +kernel
theorem dX7_back_24 : decode cX7_back 24 = .ok (.iload_n 1, 1) := by decide +kernel
theorem dX7_back_25 : decode cX7_back 25 = .ok (.bipush 83, 2) := by decide +kernel
theorem dX7_back_27 : decode cX7_back 27 = .ok (.if_icmp .ge 29, 3) := by decide +kernel
theorem dX7_back_30 : decode cX7_back 30 = .ok (.aload_n 0, 1) := by decide +kernel
theorem dX7_back_31 : decode cX7_back 31 = .ok (.getfield 7, 3) := by decide +kernel
theorem dX7_back_34 : decode cX7_back 34 = .ok (.iload_n 1, 1) := by decide +kernel
theorem dX7_back_35 : decode cX7_back 35 = .ok (.aload_n 0, 1) := by decide +kernel
theorem dX7_back_36 : decode cX7_back 36 = .ok (.getfield 16, 3) := by decide +kernel
theorem dX7_back_39 : decode cX7_back 39 = .ok (.bipush 83, 2) := by decide +kernel
theorem dX7_back_41 : decode cX7_back 41 = .ok (.aload_n 0, 1) := by decide +kernel
theorem dX7_back_42 : decode cX7_back 42 = .ok (.getfield 58, 3) := by decide +kernel
theorem dX7_back_45 : decode cX7_back 45 = .ok (.imul, 1) := by decide +kernel
theorem dX7_back_46 : decode cX7_back 46 = .ok (.iload_n 1, 1) := by decide +kernel
theorem dX7_back_47 : decode cX7_back 47 = .ok (.iadd, 1) := by decide +kernel
theorem dX7_back_48 : decode cX7_back 48 = .ok (.iaload, 1) := by decide +kernel
theorem dX7_back_49 : decode cX7_back 49 = .ok (.iastore, 1) := by decide +kernel
theorem dX7_back_50 : decode cX7_back 50 = .ok (.iinc 1 1, 3) := by decide +kernel
theorem dX7_back_53 : decode cX7_back 53 = .ok (.goto (-29), 3) := by decide +kernel
theorem dX7_back_56 : decode cX7_back 56 = .ok (.aload_n 0, 1) := by decide +kernel
theorem dX7_back_57 : decode cX7_back 57 = .ok (.getfield 58, 3) := by decide +kernel
theorem dX7_back_60 : decode cX7_back 60 = .ok (.ireturn, 1) := by decide +kernel
theorem dX7_ends_0 : decode cX7_ends 0 = .ok (.iload_n 1, 1) := by decide +kernel
theorem dX7_ends_1 : decode cX7_ends 1 = .ok (.ifCond .lt 9, 3) := by decide +kernel
theorem dX7_ends_4 : decode cX7_ends 4 = .ok (.aload_n 0, 1) := by decide +kernel
theorem dX7_ends_5 : decode cX7_ends 5 = .ok (.invokevirtual 66, 3) := by decide +kernel
theorem dX7_ends_8 : decode cX7_ends 8 = .ok (.iload_n 1, 1) := by decide +kernel
theorem dX7_ends_9 : decode cX7_ends 9 = .ok (.ireturn, 1) := by decide +kernel
theorem dX7_ends_10 : decode cX7_ends 10 = .ok (.iload_n 1, 1) := by decide +kernel
theorem dX7_ends_11 : decode cX7_ends 11 = .ok (.bipush (-4), 2) := by decide +kernel
theorem dX7_ends_13 : decode cX7_ends 13 = .ok (.if_icmp .ne 10, 3) := by decide +kernel
theorem dX7_ends_16 : decode cX7_ends 16 = .ok (.aload_n 0, 1) := by decide +kernel
theorem dX7_ends_17 : decode cX7_ends 17 = .ok (.invokevirtual 69, 3) := by decide +kernel
theorem dX7_ends_20 : decode cX7_ends 20 = .ok (.goto 7, 3) := by decide +kernel
theorem dX7_ends_23 : decode cX7_ends 23 = .ok (.aload_n 0, 1) := by decide +kernel
theorem dX7_ends_24 : decode cX7_ends 24 = .ok (.invokevirtual 72, 3) := by decide +kernel
theorem dX7_ends_27 : decode cX7_ends 27 = .ok (.ireturn, 1) := by decide +kernel
theorem dX7_firstOf_0 : decode cX7_firstOf 0 = .ok (.aload_n 0, 1) := by decide +kernel
theorem dX7_firstOf_1 : decode cX7_firstOf 1 = .ok (.iload_n 1, 1) := by decide +kernel
theorem dX7_firstOf_2 : decode cX7_firstOf 2 = .ok (.iconst 1, 1) := by decide +kernel
theorem dX7_firstOf_3 : decode cX7_firstOf 3 = .ok (.invokevirtual 55, 3) := by decide +kernel
theorem dX7_firstOf_6 : decode cX7_firstOf 6 = .ok (.sipush 256, 3) := by decide +kernel
theorem dX7_firstOf_9 : decode cX7_firstOf 9 = .ok (.if_icmp .ge 7, 3) := by decide +kernel
theorem dX7_firstOf_12 : decode cX7_firstOf 12 = .ok (.iconst 2, 1) := by decide +kernel
theorem dX7_firstOf_13 : decode cX7_firstOf 13 = .ok (.goto 13, 3) := by decide +kernel
theorem dX7_firstOf_16 : decode cX7_firstOf 16 = .ok (.iconst 1, 1) := by decide +kernel
theorem dX7_firstOf_17 : decode cX7_firstOf 17 = .ok (.aload_n 0, 1) := by decide +kernel
theorem dX7_firstOf_18 : decode cX7_firstOf 18 = .ok (.iload_n 1, 1) := by decide +kernel
theorem dX7_firstOf_19 : decode cX7_firstOf 19 = .ok (.iconst 0, 1) := by decide +kernel
theorem dX7_firstOf_20 : decode cX7_firstOf 20 = .ok (.invokevirtual 55, 3) := by decide +kernel
theorem dX7_firstOf_23 : decode cX7_firstOf 23 = .ok (.ishl, 1) := by decide +kernel
theorem dX7_firstOf_24 : decode cX7_firstOf 24 = .ok (.iconst 1, 1) := by decide +kernel
theorem dX7_firstOf_25 : decode cX7_firstOf 25 = .ok (.isub, 1) := by decide +kernel
theorem dX7_firstOf_26 : decode cX7_firstOf 26 = .ok (.ireturn, 1) := by decide +kernel
theorem dX7_addsChip_0 : decode cX7_addsChip 0 = .ok (.iload_n 1, 1) := by decide +kernel
theorem dX7_addsChip_1 : decode cX7_addsChip 1 = .ok (.iconst 2, 1) := by decide +kernel
theorem dX7_addsChip_2 : decode cX7_addsChip 2 = .ok (.iconst 4, 1) := by decide +kernel
theorem dX7_addsChip_3 : decode cX7_addsChip 3 = .ok (.invokestatic 43, 3) := by decide +kernel
theorem dX7_addsChip_6 : decode cX7_addsChip 6 = .ok (.ifCond .eq 14, 3) := by decide +kernel
theorem dX7_addsChip_9 : decode cX7_addsChip 9 = .ok (.iload_n 2, 1) := by decide +kernel
theorem dX7_addsChip_10 : decode cX7_addsChip 10 = .ok (.iconst 0, 1) := by decide +kernel
theorem dX7_addsChip_11 : decode cX7_addsChip 11 = .ok (.sipush 256, 3) := by decide +kernel
theorem dX7_addsChip_14 : decode cX7_addsChip 14 = .ok (.invokestatic 43, 3) := by decide +kernel
theorem dX7_addsChip_17 : decode cX7_addsChip 17 = .ok (.ifCond .ne 6, 3) := by decide +kernel
theorem dX7_addsChip_20 : decode cX7_addsChip 20 = .ok (.bipush (-2), 2) := by decide +kernel
theorem dX7_addsChip_22 : decode cX7_addsChip 22 = .ok (.ireturn, 1) := by decide +kernel
theorem dX7_addsChip_23 : decode cX7_addsChip 23 = .ok (.aload_n 0, 1) := by decide +kernel
theorem dX7_addsChip_24 : decode cX7_addsChip 24 = .ok (.getfield 7, 3) := by decide +kernel
theorem dX7_addsChip_27 : decode cX7_addsChip 27 = .ok (.iconst 0, 1) := by decide +kernel
theorem dX7_addsChip_28 : decode cX7_addsChip 28 = .ok (.iaload, 1) := by decide +kernel
theorem dX7_addsChip_29 : decode cX7_addsChip 29 = .ok (.iconst 4, 1) := by decide +kernel
theorem dX7_addsChip_30 : decode cX7_addsChip 30 = .ok (.if_icmp .ne 6, 3) := by decide +kernel
theorem dX7_addsChip_33 : decode cX7_addsChip 33 = .ok (.bipush (-4), 2) := by decide +kernel
theorem dX7_addsChip_35 : decode cX7_addsChip 35 = .ok (.ireturn, 1) := by decide +kernel
theorem dX7_addsChip_36 : decode cX7_addsChip 36 = .ok (.aload_n 0, 1) := by decide +kernel
theorem dX7_addsChip_37 : decode cX7_addsChip 37 = .ok (.getfield 7, 3) := by decide +kernel
theorem dX7_addsChip_40 : decode cX7_addsChip 40 = .ok (.iconst 0, 1) := by decide +kernel
theorem dX7_addsChip_41 : decode cX7_addsChip 41 = .ok (.iaload, 1) := by decide +kernel
theorem dX7_addsChip_42 : decode cX7_addsChip 42 = .ok (.istore_n 3, 1) := by decide +kernel
theorem dX7_addsChip_43 : decode cX7_addsChip 43 = .ok (.iconst 0, 1) := by decide +kernel
theorem dX7_addsChip_44 : decode cX7_addsChip 44 = .ok (.istore 4, 2) := by decide +kernel
theorem dX7_addsChip_46 : decode cX7_addsChip 46 = .ok (.iload 4, 2) := by decide +kernel
theorem dX7_addsChip_48 : decode cX7_addsChip 48 = .ok (.bipush 19, 2) := by decide +kernel
theorem dX7_addsChip_50 : decode cX7_addsChip 50 = .ok (.if_icmp .ge 21, 3) := by decide +kernel
theorem dX7_addsChip_53 : decode cX7_addsChip 53 = .ok (.aload_n 0, 1) := by decide +kernel
theorem dX7_addsChip_54 : decode cX7_addsChip 54 = .ok (.getfield 7, 3) := by decide +kernel
theorem dX7_addsChip_57 : decode cX7_addsChip 57 = .ok (.iload_n 3, 1) := by decide +kernel
theorem dX7_addsChip_58 : decode cX7_addsChip 58 = .ok (.iload 4, 2) := by decide +kernel
theorem dX7_addsChip_60 : decode cX7_addsChip 60 = .ok (.invokestatic 47, 3) := by decide +kernel
theorem dX7_addsChip_63 : decode cX7_addsChip 63 = .ok (.iconst 0, 1) := by decide +kernel
theorem dX7_addsChip_64 : decode cX7_addsChip 64 = .ok (.iastore, 1) := by decide +kernel
theorem dX7_addsChip_65 : decode cX7_addsChip 65 = .ok (.iinc 4 1, 3) := by decide +kernel
theorem dX7_addsChip_68 : decode cX7_addsChip 68 = .ok (.goto (-22), 3) := by decide +kernel
theorem dX7_addsChip_71 : decode cX7_addsChip 71 = .ok (.aload_n 0, 1) := by decide +kernel
theorem dX7_addsChip_72 : decode cX7_addsChip 72 = .ok (.getfield 7, 3) := by decide +kernel
theorem dX7_addsChip_75 : decode cX7_addsChip 75 = .ok (.iload_n 3, 1) := by decide +kernel
theorem dX7_addsChip_76 : decode cX7_addsChip 76 = .ok (.iconst 0, 1) := by decide +kernel
theorem dX7_addsChip_77 : decode cX7_addsChip 77 = .ok (.invokestatic 47, 3) := by decide +kernel
theorem dX7_addsChip_80 : decode cX7_addsChip 80 = .ok (.iload_n 1, 1) := by decide +kernel
theorem dX7_addsChip_81 : decode cX7_addsChip 81 = .ok (.iastore, 1) := by decide +kernel
theorem dX7_addsChip_82 : decode cX7_addsChip 82 = .ok (.aload_n 0, 1) := by decide +kernel
theorem dX7_addsChip_83 : decode cX7_addsChip 83 = .ok (.getfield 7, 3) := by decide +kernel
theorem dX7_addsChip_86 : decode cX7_addsChip 86 = .ok (.iload_n 3, 1) := by decide +kernel
theorem dX7_addsChip_87 : decode cX7_addsChip 87 = .ok (.iconst 1, 1) := by decide +kernel
theorem dX7_addsChip_88 : decode cX7_addsChip 88 = .ok (.invokestatic 47, 3) := by decide +kernel
theorem dX7_addsChip_91 : decode cX7_addsChip 91 = .ok (.iload_n 2, 1) := by decide +kernel
theorem dX7_addsChip_92 : decode cX7_addsChip 92 = .ok (.iastore, 1) := by decide +kernel
theorem dX7_addsChip_93 : decode cX7_addsChip 93 = .ok (.aload_n 0, 1) := by decide +kernel
theorem dX7_addsChip_94 : decode cX7_addsChip 94 = .ok (.getfield 7, 3) := by decide +kernel
theorem dX7_addsChip_97 : decode cX7_addsChip 97 = .ok (.iload_n 3, 1) := by decide +kernel
theorem dX7_addsChip_98 : decode cX7_addsChip 98 = .ok (.iconst 3, 1) := by decide +kernel
theorem dX7_addsChip_99 : decode cX7_addsChip 99 = .ok (.invokestatic 47, 3) := by decide +kernel
theorem dX7_addsChip_102 : decode cX7_addsChip 102 = .ok (.aload_n 0, 1) := by decide +kernel
theorem dX7_addsChip_103 : decode cX7_addsChip 103 = .ok (.iload_n 3, 1) := by decide +kernel
theorem dX7_addsChip_104 : decode cX7_addsChip 104 = .ok (.invokevirtual 75, 3) := by decide +kernel
theorem dX7_addsChip_107 : decode cX7_addsChip 107 = .ok (.iastore, 1) := by decide +kernel
theorem dX7_addsChip_108 : decode cX7_addsChip 108 = .ok (.aload_n 0, 1) := by decide +kernel
theorem dX7_addsChip_109 : decode cX7_addsChip 109 = .ok (.getfield 7, 3) := by decide +kernel
theorem dX7_addsChip_112 : decode cX7_addsChip 112 = .ok (.iconst 0, 1) := by decide +kernel
theorem dX7_addsChip_113 : decode cX7_addsChip 113 = .ok (.dup2, 1) := by decide +kernel
theorem dX7_addsChip_114 : decode cX7_addsChip 114 = .ok (.iaload, 1) := by decide +kernel
theorem dX7_addsChip_115 : decode cX7_addsChip 115 = .ok (.iconst 1, 1) := by decide +kernel
theorem dX7_addsChip_116 : decode cX7_addsChip 116 = .ok (.iadd, 1) := by decide +kernel
theorem dX7_addsChip_117 : decode cX7_addsChip 117 = .ok (.iastore, 1) := by decide +kernel
theorem dX7_addsChip_118 : decode cX7_addsChip 118 = .ok (.iload_n 3, 1) := by decide +kernel
theorem dX7_addsChip_119 : decode cX7_addsChip 119 = .ok (.ireturn, 1) := by decide +kernel
theorem dX7_addsCell_0 : decode cX7_addsCell 0 = .ok (.aload_n 0, 1) := by decide +kernel
theorem dX7_addsCell_1 : decode cX7_addsCell 1 = .ok (.iload_n 1, 1) := by decide +kernel
theorem dX7_addsCell_2 : decode cX7_addsCell 2 = .ok (.invokevirtual 51, 3) := by decide +kernel
theorem dX7_addsCell_5 : decode cX7_addsCell 5 = .ok (.ifCond .eq 17, 3) := by decide +kernel
theorem dX7_addsCell_8 : decode cX7_addsCell 8 = .ok (.iload_n 2, 1) := by decide +kernel
theorem dX7_addsCell_9 : decode cX7_addsCell 9 = .ok (.invokestatic 79, 3) := by decide +kernel
theorem dX7_addsCell_12 : decode cX7_addsCell 12 = .ok (.ifCond .eq 10, 3) := by decide +kernel
theorem dX7_addsCell_15 : decode cX7_addsCell 15 = .ok (.iload_n 3, 1) := by decide +kernel
theorem dX7_addsCell_16 : decode cX7_addsCell 16 = .ok (.invokestatic 82, 3) := by decide +kernel
theorem dX7_addsCell_19 : decode cX7_addsCell 19 = .ok (.ifCond .ne 6, 3) := by decide +kernel
theorem dX7_addsCell_22 : decode cX7_addsCell 22 = .ok (.bipush (-2), 2) := by decide +kernel
theorem dX7_addsCell_24 : decode cX7_addsCell 24 = .ok (.ireturn, 1) := by decide +kernel
theorem dX7_addsCell_25 : decode cX7_addsCell 25 = .ok (.aload_n 0, 1) := by decide +kernel
theorem dX7_addsCell_26 : decode cX7_addsCell 26 = .ok (.iload_n 1, 1) := by decide +kernel
theorem dX7_addsCell_27 : decode cX7_addsCell 27 = .ok (.iconst 2, 1) := by decide +kernel
theorem dX7_addsCell_28 : decode cX7_addsCell 28 = .ok (.invokevirtual 55, 3) := by decide +kernel
theorem dX7_addsCell_31 : decode cX7_addsCell 31 = .ok (.istore 4, 2) := by decide +kernel
theorem dX7_addsCell_33 : decode cX7_addsCell 33 = .ok (.iload 4, 2) := by decide +kernel
theorem dX7_addsCell_35 : decode cX7_addsCell 35 = .ok (.bipush 6, 2) := by decide +kernel
theorem dX7_addsCell_37 : decode cX7_addsCell 37 = .ok (.if_icmp .ne 6, 3) := by decide +kernel
theorem dX7_addsCell_40 : decode cX7_addsCell 40 = .ok (.bipush (-4), 2) := by decide +kernel
theorem dX7_addsCell_42 : decode cX7_addsCell 42 = .ok (.ireturn, 1) := by decide +kernel
theorem dX7_addsCell_43 : decode cX7_addsCell 43 = .ok (.aload_n 0, 1) := by decide +kernel
theorem dX7_addsCell_44 : decode cX7_addsCell 44 = .ok (.getfield 7, 3) := by decide +kernel
theorem dX7_addsCell_47 : decode cX7_addsCell 47 = .ok (.iload_n 1, 1) := by decide +kernel
theorem dX7_addsCell_48 : decode cX7_addsCell 48 = .ok (.bipush 7, 2) := by decide +kernel
theorem dX7_addsCell_50 : decode cX7_addsCell 50 = .ok (.iconst 2, 1) := by decide +kernel
theorem dX7_addsCell_51 : decode cX7_addsCell 51 = .ok (.iload 4, 2) := by decide +kernel
theorem dX7_addsCell_53 : decode cX7_addsCell 53 = .ok (.imul, 1) := by decide +kernel
theorem dX7_addsCell_54 : decode cX7_addsCell 54 = .ok (.iadd, 1) := by decide +kernel
theorem dX7_addsCell_55 : decode cX7_addsCell 55 = .ok (.invokestatic 47, 3) := by decide +kernel
theorem dX7_addsCell_58 : decode cX7_addsCell 58 = .ok (.iload_n 2, 1) := by decide +kernel
theorem dX7_addsCell_59 : decode cX7_addsCell 59 = .ok (.iastore, 1) := by decide +kernel
theorem dX7_addsCell_60 : decode cX7_addsCell 60 = .ok (.aload_n 0, 1) := by decide +kernel
theorem dX7_addsCell_61 : decode cX7_addsCell 61 = .ok (.getfield 7, 3) := by decide +kernel
theorem dX7_addsCell_64 : decode cX7_addsCell 64 = .ok (.iload_n 1, 1) := by decide +kernel
theorem dX7_addsCell_65 : decode cX7_addsCell 65 = .ok (.bipush 7, 2) := by decide +kernel
theorem dX7_addsCell_67 : decode cX7_addsCell 67 = .ok (.iconst 2, 1) := by decide +kernel
theorem dX7_addsCell_68 : decode cX7_addsCell 68 = .ok (.iload 4, 2) := by decide +kernel
theorem dX7_addsCell_70 : decode cX7_addsCell 70 = .ok (.imul, 1) := by decide +kernel
theorem dX7_addsCell_71 : decode cX7_addsCell 71 = .ok (.iadd, 1) := by decide +kernel
theorem dX7_addsCell_72 : decode cX7_addsCell 72 = .ok (.iconst 1, 1) := by decide +kernel
theorem dX7_addsCell_73 : decode cX7_addsCell 73 = .ok (.iadd, 1) := by decide +kernel
theorem dX7_addsCell_74 : decode cX7_addsCell 74 = .ok (.invokestatic 47, 3) := by decide +kernel
theorem dX7_addsCell_77 : decode cX7_addsCell 77 = .ok (.iload_n 3, 1) := by decide +kernel
theorem dX7_addsCell_78 : decode cX7_addsCell 78 = .ok (.iastore, 1) := by decide +kernel
theorem dX7_addsCell_79 : decode cX7_addsCell 79 = .ok (.aload_n 0, 1) := by decide +kernel
theorem dX7_addsCell_80 : decode cX7_addsCell 80 = .ok (.getfield 7, 3) := by decide +kernel
theorem dX7_addsCell_83 : decode cX7_addsCell 83 = .ok (.iload_n 1, 1) := by decide +kernel
theorem dX7_addsCell_84 : decode cX7_addsCell 84 = .ok (.iconst 2, 1) := by decide +kernel
theorem dX7_addsCell_85 : decode cX7_addsCell 85 = .ok (.invokestatic 47, 3) := by decide +kernel
theorem dX7_addsCell_88 : decode cX7_addsCell 88 = .ok (.dup2, 1) := by decide +kernel
theorem dX7_addsCell_89 : decode cX7_addsCell 89 = .ok (.iaload, 1) := by decide +kernel
theorem dX7_addsCell_90 : decode cX7_addsCell 90 = .ok (.iconst 1, 1) := by decide +kernel
theorem dX7_addsCell_91 : decode cX7_addsCell 91 = .ok (.iadd, 1) := by decide +kernel
theorem dX7_addsCell_92 : decode cX7_addsCell 92 = .ok (.iastore, 1) := by decide +kernel
theorem dX7_addsCell_93 : decode cX7_addsCell 93 = .ok (.iload 4, 2) := by decide +kernel
theorem dX7_addsCell_95 : decode cX7_addsCell 95 = .ok (.ireturn, 1) := by decide +kernel
theorem dX7_addsFault_0 : decode cX7_addsFault 0 = .ok (.iload_n 1, 1) := by decide +kernel
theorem dX7_addsFault_1 : decode cX7_addsFault 1 = .ok (.ifCond .ne 6, 3) := by decide +kernel
theorem dX7_addsFault_4 : decode cX7_addsFault 4 = .ok (.bipush (-2), 2) := by decide +kernel
theorem dX7_addsFault_6 : decode cX7_addsFault 6 = .ok (.ireturn, 1) := by decide +kernel
theorem dX7_addsFault_7 : decode cX7_addsFault 7 = .ok (.aload_n 0, 1) := by decide +kernel
theorem dX7_addsFault_8 : decode cX7_addsFault 8 = .ok (.getfield 7, 3) := by decide +kernel
theorem dX7_addsFault_11 : decode cX7_addsFault 11 = .ok (.iconst 2, 1) := by decide +kernel
theorem dX7_addsFault_12 : decode cX7_addsFault 12 = .ok (.iaload, 1) := by decide +kernel
theorem dX7_addsFault_13 : decode cX7_addsFault 13 = .ok (.iconst 4, 1) := by decide +kernel
theorem dX7_addsFault_14 : decode cX7_addsFault 14 = .ok (.if_icmp .ne 6, 3) := by decide +kernel
theorem dX7_addsFault_17 : decode cX7_addsFault 17 = .ok (.bipush (-4), 2) := by decide +kernel
theorem dX7_addsFault_19 : decode cX7_addsFault 19 = .ok (.ireturn, 1) := by decide +kernel
theorem dX7_addsFault_20 : decode cX7_addsFault 20 = .ok (.aload_n 0, 1) := by decide +kernel
theorem dX7_addsFault_21 : decode cX7_addsFault 21 = .ok (.getfield 7, 3) := by decide +kernel
theorem dX7_addsFault_24 : decode cX7_addsFault 24 = .ok (.iconst 3, 1) := by decide +kernel
theorem dX7_addsFault_25 : decode cX7_addsFault 25 = .ok (.aload_n 0, 1) := by decide +kernel
theorem dX7_addsFault_26 : decode cX7_addsFault 26 = .ok (.getfield 7, 3) := by decide +kernel
theorem dX7_addsFault_29 : decode cX7_addsFault 29 = .ok (.iconst 2, 1) := by decide +kernel
theorem dX7_addsFault_30 : decode cX7_addsFault 30 = .ok (.iaload, 1) := by decide +kernel
theorem dX7_addsFault_31 : decode cX7_addsFault 31 = .ok (.iadd, 1) := by decide +kernel
theorem dX7_addsFault_32 : decode cX7_addsFault 32 = .ok (.iload_n 2, 1) := by decide +kernel
theorem dX7_addsFault_33 : decode cX7_addsFault 33 = .ok (.iastore, 1) := by decide +kernel
theorem dX7_addsFault_34 : decode cX7_addsFault 34 = .ok (.aload_n 0, 1) := by decide +kernel
theorem dX7_addsFault_35 : decode cX7_addsFault 35 = .ok (.getfield 7, 3) := by decide +kernel
theorem dX7_addsFault_38 : decode cX7_addsFault 38 = .ok (.iconst 2, 1) := by decide +kernel
theorem dX7_addsFault_39 : decode cX7_addsFault 39 = .ok (.dup2, 1) := by decide +kernel
theorem dX7_addsFault_40 : decode cX7_addsFault 40 = .ok (.iaload, 1) := by decide +kernel
theorem dX7_addsFault_41 : decode cX7_addsFault 41 = .ok (.iconst 1, 1) := by decide +kernel
theorem dX7_addsFault_42 : decode cX7_addsFault 42 = .ok (.iadd, 1) := by decide +kernel
theorem dX7_addsFault_43 : decode cX7_addsFault 43 = .ok (.iastore, 1) := by decide +kernel
theorem dX7_addsFault_44 : decode cX7_addsFault 44 = .ok (.aload_n 0, 1) := by decide +kernel
theorem dX7_addsFault_45 : decode cX7_addsFault 45 = .ok (.getfield 7, 3) := by decide +kernel
theorem dX7_addsFault_48 : decode cX7_addsFault 48 = .ok (.iconst 2, 1) := by decide +kernel
theorem dX7_addsFault_49 : decode cX7_addsFault 49 = .ok (.iaload, 1) := by decide +kernel
theorem dX7_addsFault_50 : decode cX7_addsFault 50 = .ok (.ireturn, 1) := by decide +kernel
theorem dX7_opensOne_0 : decode cX7_opensOne 0 = .ok (.aload_n 0, 1) := by decide +kernel
theorem dX7_opensOne_1 : decode cX7_opensOne 1 = .ok (.aload_n 0, 1) := by decide +kernel
theorem dX7_opensOne_2 : decode cX7_opensOne 2 = .ok (.iload_n 1, 1) := by decide +kernel
theorem dX7_opensOne_3 : decode cX7_opensOne 3 = .ok (.iload_n 2, 1) := by decide +kernel
theorem dX7_opensOne_4 : decode cX7_opensOne 4 = .ok (.invokevirtual 85, 3) := by decide +kernel
theorem dX7_opensOne_7 : decode cX7_opensOne 7 = .ok (.sipush 1000, 3) := by decide +kernel
theorem dX7_opensOne_10 : decode cX7_opensOne 10 = .ok (.bipush 10, 2) := by decide +kernel
theorem dX7_opensOne_12 : decode cX7_opensOne 12 = .ok (.iload_n 1, 1) := by decide +kernel
theorem dX7_opensOne_13 : decode cX7_opensOne 13 = .ok (.imul, 1) := by decide +kernel
theorem dX7_opensOne_14 : decode cX7_opensOne 14 = .ok (.iadd, 1) := by decide +kernel
theorem dX7_opensOne_15 : decode cX7_opensOne 15 = .ok (.iload_n 2, 1) := by decide +kernel
theorem dX7_opensOne_16 : decode cX7_opensOne 16 = .ok (.iadd, 1) := by decide +kernel
theorem dX7_opensOne_17 : decode cX7_opensOne 17 = .ok (.invokevirtual 89, 3) := by decide +kernel
theorem dX7_opensOne_20 : decode cX7_opensOne 20 = .ok (.ireturn, 1) := by decide +kernel
theorem dX7_sticksOne_0 : decode cX7_sticksOne 0 = .ok (.aload_n 0, 1) := by decide +kernel
theorem dX7_sticksOne_1 : decode cX7_sticksOne 1 = .ok (.iload_n 1, 1) := by decide +kernel
theorem dX7_sticksOne_2 : decode cX7_sticksOne 2 = .ok (.invokestatic 82, 3) := by decide +kernel
theorem dX7_sticksOne_5 : decode cX7_sticksOne 5 = .ok (.ifCond .eq 14, 3) := by decide +kernel
theorem dX7_sticksOne_8 : decode cX7_sticksOne 8 = .ok (.iload_n 2, 1) := by decide +kernel
theorem dX7_sticksOne_9 : decode cX7_sticksOne 9 = .ok (.invokestatic 79, 3) := by decide +kernel
theorem dX7_sticksOne_12 : decode cX7_sticksOne 12 = .ok (.ifCond .eq 7, 3) := by decide +kernel
theorem dX7_sticksOne_15 : decode cX7_sticksOne 15 = .ok (.iconst 1, 1) := by decide +kernel
theorem dX7_sticksOne_16 : decode cX7_sticksOne 16 = .ok (.goto 4, 3) := by decide +kernel
theorem dX7_sticksOne_19 : decode cX7_sticksOne 19 = .ok (.iconst 0, 1) := by decide +kernel
theorem dX7_sticksOne_20 : decode cX7_sticksOne 20 = .ok (.sipush 2000, 3) := by decide +kernel
theorem dX7_sticksOne_23 : decode cX7_sticksOne 23 = .ok (.bipush 10, 2) := by decide +kernel
theorem dX7_sticksOne_25 : decode cX7_sticksOne 25 = .ok (.iload_n 1, 1) := by decide +kernel
theorem dX7_sticksOne_26 : decode cX7_sticksOne 26 = .ok (.imul, 1) := by decide +kernel
theorem dX7_sticksOne_27 : decode cX7_sticksOne 27 = .ok (.iadd, 1) := by decide +kernel
theorem dX7_sticksOne_28 : decode cX7_sticksOne 28 = .ok (.iload_n 2, 1) := by decide +kernel
theorem dX7_sticksOne_29 : decode cX7_sticksOne 29 = .ok (.iadd, 1) := by decide +kernel
theorem dX7_sticksOne_30 : decode cX7_sticksOne 30 = .ok (.invokevirtual 89, 3) := by decide +kernel
theorem dX7_sticksOne_33 : decode cX7_sticksOne 33 = .ok (.ireturn, 1) := by decide +kernel
theorem dX7_shortsTwo_0 : decode cX7_shortsTwo 0 = .ok (.iload_n 1, 1) := by decide +kernel
theorem dX7_shortsTwo_1 : decode cX7_shortsTwo 1 = .ok (.iload_n 2, 1) := by decide +kernel
theorem dX7_shortsTwo_2 : decode cX7_shortsTwo 2 = .ok (.if_icmp .ge 7, 3) := by decide +kernel
theorem dX7_shortsTwo_5 : decode cX7_shortsTwo 5 = .ok (.iload_n 1, 1) := by decide +kernel
theorem dX7_shortsTwo_6 : decode cX7_shortsTwo 6 = .ok (.goto 4, 3) := by decide +kernel
theorem dX7_shortsTwo_9 : decode cX7_shortsTwo 9 = .ok (.iload_n 2, 1) := by decide +kernel
theorem dX7_shortsTwo_10 : decode cX7_shortsTwo 10 = .ok (.istore 4, 2) := by decide +kernel
theorem dX7_shortsTwo_12 : decode cX7_shortsTwo 12 = .ok (.iload_n 1, 1) := by decide +kernel
theorem dX7_shortsTwo_13 : decode cX7_shortsTwo 13 = .ok (.iload_n 2, 1) := by decide +kernel
theorem dX7_shortsTwo_14 : decode cX7_shortsTwo 14 = .ok (.if_icmp .ge 7, 3) := by decide +kernel
theorem dX7_shortsTwo_17 : decode cX7_shortsTwo 17 = .ok (.iload_n 2, 1) := by decide +kernel
theorem dX7_shortsTwo_18 : decode cX7_shortsTwo 18 = .ok (.goto 4, 3) := by decide +kernel
theorem dX7_shortsTwo_21 : decode cX7_shortsTwo 21 = .ok (.iload_n 1, 1) := by decide +kernel
theorem dX7_shortsTwo_22 : decode cX7_shortsTwo 22 = .ok (.istore 5, 2) := by decide +kernel
theorem dX7_shortsTwo_24 : decode cX7_shortsTwo 24 = .ok (.aload_n 0, 1) := by decide +kernel
theorem dX7_shortsTwo_25 : decode cX7_shortsTwo 25 = .ok (.iload_n 1, 1) := by decide +kernel
theorem dX7_shortsTwo_26 : decode cX7_shortsTwo 26 = .ok (.invokestatic 82, 3) := by decide +kernel
theorem dX7_shortsTwo_29 : decode cX7_shortsTwo 29 = .ok (.ifCond .eq 26, 3) := by decide +kernel
theorem dX7_shortsTwo_32 : decode cX7_shortsTwo 32 = .ok (.iload_n 2, 1) := by decide +kernel
theorem dX7_shortsTwo_33 : decode cX7_shortsTwo 33 = .ok (.invokestatic 82, 3) := by decide +kernel
theorem dX7_shortsTwo_36 : decode cX7_shortsTwo 36 = .ok (.ifCond .eq 19, 3) := by decide +kernel
theorem dX7_shortsTwo_39 : decode cX7_shortsTwo 39 = .ok (.iload_n 1, 1) := by decide +kernel
theorem dX7_shortsTwo_40 : decode cX7_shortsTwo 40 = .ok (.iload_n 2, 1) := by decide +kernel
theorem dX7_shortsTwo_41 : decode cX7_shortsTwo 41 = .ok (.if_icmp .eq 14, 3) := by decide +kernel
theorem dX7_shortsTwo_44 : decode cX7_shortsTwo 44 = .ok (.iload_n 3, 1) := by decide +kernel
theorem dX7_shortsTwo_45 : decode cX7_shortsTwo 45 = .ok (.invokestatic 79, 3) := by decide +kernel
theorem dX7_shortsTwo_48 : decode cX7_shortsTwo 48 = .ok (.ifCond .eq 7, 3) := by decide +kernel
theorem dX7_shortsTwo_51 : decode cX7_shortsTwo 51 = .ok (.iconst 1, 1) := by decide +kernel
theorem dX7_shortsTwo_52 : decode cX7_shortsTwo 52 = .ok (.goto 4, 3) := by decide +kernel
theorem dX7_shortsTwo_55 : decode cX7_shortsTwo 55 = .ok (.iconst 0, 1) := by decide +kernel
theorem dX7_shortsTwo_56 : decode cX7_shortsTwo 56 = .ok (.sipush 3000, 3) := by decide +kernel
theorem dX7_shortsTwo_59 : decode cX7_shortsTwo 59 = .ok (.sipush 1000, 3) := by decide +kernel
theorem dX7_shortsTwo_62 : decode cX7_shortsTwo 62 = .ok (.iload_n 3, 1) := by decide +kernel
theorem dX7_shortsTwo_63 : decode cX7_shortsTwo 63 = .ok (.imul, 1) := by decide +kernel
theorem dX7_shortsTwo_64 : decode cX7_shortsTwo 64 = .ok (.iadd, 1) := by decide +kernel
theorem dX7_shortsTwo_65 : decode cX7_shortsTwo 65 = .ok (.bipush 10, 2) := by decide +kernel
theorem dX7_shortsTwo_67 : decode cX7_shortsTwo 67 = .ok (.iload 4, 2) := by decide +kernel
theorem dX7_shortsTwo_69 : decode cX7_shortsTwo 69 = .ok (.imul, 1) := by decide +kernel
theorem dX7_shortsTwo_70 : decode cX7_shortsTwo 70 = .ok (.iadd, 1) := by decide +kernel
theorem dX7_shortsTwo_71 : decode cX7_shortsTwo 71 = .ok (.iload 5, 2) := by decide +kernel
theorem dX7_shortsTwo_73 : decode cX7_shortsTwo 73 = .ok (.iadd, 1) := by decide +kernel
theorem dX7_shortsTwo_74 : decode cX7_shortsTwo 74 = .ok (.invokevirtual 89, 3) := by decide +kernel
theorem dX7_shortsTwo_77 : decode cX7_shortsTwo 77 = .ok (.ireturn, 1) := by decide +kernel
theorem dX7_healsAll_0 : decode cX7_healsAll 0 = .ok (.aload_n 0, 1) := by decide +kernel
theorem dX7_healsAll_1 : decode cX7_healsAll 1 = .ok (.getfield 7, 3) := by decide +kernel
theorem dX7_healsAll_4 : decode cX7_healsAll 4 = .ok (.iconst 2, 1) := by decide +kernel
theorem dX7_healsAll_5 : decode cX7_healsAll 5 = .ok (.iaload, 1) := by decide +kernel
theorem dX7_healsAll_6 : decode cX7_healsAll 6 = .ok (.istore_n 1, 1) := by decide +kernel
theorem dX7_healsAll_7 : decode cX7_healsAll 7 = .ok (.aload_n 0, 1) := by decide +kernel
theorem dX7_healsAll_8 : decode cX7_healsAll 8 = .ok (.getfield 7, 3) := by decide +kernel
theorem dX7_healsAll_11 : decode cX7_healsAll 11 = .ok (.iconst 2, 1) := by decide +kernel
theorem dX7_healsAll_12 : decode cX7_healsAll 12 = .ok (.iconst 0, 1) := by decide +kernel
theorem dX7_healsAll_13 : decode cX7_healsAll 13 = .ok (.iastore, 1) := by decide +kernel
theorem dX7_healsAll_14 : decode cX7_healsAll 14 = .ok (.iload_n 1, 1) := by decide +kernel
theorem dX7_healsAll_15 : decode cX7_healsAll 15 = .ok (.ireturn, 1) := by decide +kernel
theorem dX7_chip_0 : decode cX7_chip 0 = .ok (.aload_n 0, 1) := by decide +kernel
theorem dX7_chip_1 : decode cX7_chip 1 = .ok (.invokevirtual 93, 3) := by decide +kernel
theorem dX7_chip_4 : decode cX7_chip 4 = .ok (.aload_n 0, 1) := by decide +kernel
theorem dX7_chip_5 : decode cX7_chip 5 = .ok (.aload_n 0, 1) := by decide +kernel
theorem dX7_chip_6 : decode cX7_chip 6 = .ok (.iload_n 1, 1) := by decide +kernel
theorem dX7_chip_7 : decode cX7_chip 7 = .ok (.iload_n 2, 1) := by decide +kernel
theorem dX7_chip_8 : decode cX7_chip 8 = .ok (.invokevirtual 96, 3) := by decide +kernel
theorem dX7_chip_11 : decode cX7_chip 11 = .ok (.invokevirtual 99, 3) := by decide +kernel
theorem dX7_chip_14 : decode cX7_chip 14 = .ok (.ireturn, 1) := by decide +kernel
theorem dX7_cell_0 : decode cX7_cell 0 = .ok (.aload_n 0, 1) := by decide +kernel
theorem dX7_cell_1 : decode cX7_cell 1 = .ok (.invokevirtual 93, 3) := by decide +kernel
theorem dX7_cell_4 : decode cX7_cell 4 = .ok (.aload_n 0, 1) := by decide +kernel
theorem dX7_cell_5 : decode cX7_cell 5 = .ok (.aload_n 0, 1) := by decide +kernel
theorem dX7_cell_6 : decode cX7_cell 6 = .ok (.iload_n 1, 1) := by decide +kernel
theorem dX7_cell_7 : decode cX7_cell 7 = .ok (.iload_n 2, 1) := by decide +kernel
theorem dX7_cell_8 : decode cX7_cell 8 = .ok (.iload_n 3, 1) := by decide +kernel
theorem dX7_cell_9 : decode cX7_cell 9 = .ok (.invokevirtual 102, 3) := by decide +kernel
theorem dX7_cell_12 : decode cX7_cell 12 = .ok (.invokevirtual 99, 3) := by decide +kernel
theorem dX7_cell_15 : decode cX7_cell 15 = .ok (.ireturn, 1) := by decide +kernel
theorem dX7_opens_0 : decode cX7_opens 0 = .ok (.aload_n 0, 1) := by decide +kernel
theorem dX7_opens_1 : decode cX7_opens 1 = .ok (.invokevirtual 93, 3) := by decide +kernel
theorem dX7_opens_4 : decode cX7_opens 4 = .ok (.aload_n 0, 1) := by decide +kernel
theorem dX7_opens_5 : decode cX7_opens 5 = .ok (.aload_n 0, 1) := by decide +kernel
theorem dX7_opens_6 : decode cX7_opens 6 = .ok (.iload_n 1, 1) := by decide +kernel
theorem dX7_opens_7 : decode cX7_opens 7 = .ok (.iload_n 2, 1) := by decide +kernel
theorem dX7_opens_8 : decode cX7_opens 8 = .ok (.invokevirtual 106, 3) := by decide +kernel
theorem dX7_opens_11 : decode cX7_opens 11 = .ok (.invokevirtual 99, 3) := by decide +kernel
theorem dX7_opens_14 : decode cX7_opens 14 = .ok (.ireturn, 1) := by decide +kernel
theorem dX7_sticks_0 : decode cX7_sticks 0 = .ok (.aload_n 0, 1) := by decide +kernel
theorem dX7_sticks_1 : decode cX7_sticks 1 = .ok (.invokevirtual 93, 3) := by decide +kernel
theorem dX7_sticks_4 : decode cX7_sticks 4 = .ok (.aload_n 0, 1) := by decide +kernel
theorem dX7_sticks_5 : decode cX7_sticks 5 = .ok (.aload_n 0, 1) := by decide +kernel
theorem dX7_sticks_6 : decode cX7_sticks 6 = .ok (.iload_n 1, 1) := by decide +kernel
theorem dX7_sticks_7 : decode cX7_sticks 7 = .ok (.iload_n 2, 1) := by decide +kernel
theorem dX7_sticks_8 : decode cX7_sticks 8 = .ok (.invokevirtual 109, 3) := by decide +kernel
theorem dX7_sticks_11 : decode cX7_sticks 11 = .ok (.invokevirtual 99, 3) := by decide +kernel
theorem dX7_sticks_14 : decode cX7_sticks 14 = .ok (.ireturn, 1) := by decide +kernel
theorem dX7_shorts_0 : decode cX7_shorts 0 = .ok (.aload_n 0, 1) := by decide +kernel
theorem dX7_shorts_1 : decode cX7_shorts 1 = .ok (.invokevirtual 93, 3) := by decide +kernel
theorem dX7_shorts_4 : decode cX7_shorts 4 = .ok (.aload_n 0, 1) := by decide +kernel
theorem dX7_shorts_5 : decode cX7_shorts 5 = .ok (.aload_n 0, 1) := by decide +kernel
theorem dX7_shorts_6 : decode cX7_shorts 6 = .ok (.iload_n 1, 1) := by decide +kernel
theorem dX7_shorts_7 : decode cX7_shorts 7 = .ok (.iload_n 2, 1) := by decide +kernel
theorem dX7_shorts_8 : decode cX7_shorts 8 = .ok (.iload_n 3, 1) := by decide +kernel
theorem dX7_shorts_9 : decode cX7_shorts 9 = .ok (.invokevirtual 112, 3) := by decide +kernel
theorem dX7_shorts_12 : decode cX7_shorts 12 = .ok (.invokevirtual 99, 3) := by decide +kernel
theorem dX7_shorts_15 : decode cX7_shorts 15 = .ok (.ireturn, 1) := by decide +kernel
theorem dX7_heals_0 : decode cX7_heals 0 = .ok (.aload_n 0, 1) := by decide +kernel
theorem dX7_heals_1 : decode cX7_heals 1 = .ok (.invokevirtual 93, 3) := by decide +kernel
theorem dX7_heals_4 : decode cX7_heals 4 = .ok (.aload_n 0, 1) := by decide +kernel
theorem dX7_heals_5 : decode cX7_heals 5 = .ok (.aload_n 0, 1) := by decide +kernel
theorem dX7_heals_6 : decode cX7_heals 6 = .ok (.invokevirtual 115, 3) := by decide +kernel
theorem dX7_heals_9 : decode cX7_heals 9 = .ok (.invokevirtual 99, 3) := by decide +kernel
theorem dX7_heals_12 : decode cX7_heals 12 = .ok (.ireturn, 1) := by decide +kernel
theorem dX7_usesAll_0 : decode cX7_usesAll 0 = .ok (.aload_n 0, 1) := by decide +kernel
theorem dX7_usesAll_1 : decode cX7_usesAll 1 = .ok (.aload_n 0, 1) := by decide +kernel
theorem dX7_usesAll_2 : decode cX7_usesAll 2 = .ok (.getfield 7, 3) := by decide +kernel
theorem dX7_usesAll_5 : decode cX7_usesAll 5 = .ok (.iconst 2, 1) := by decide +kernel
theorem dX7_usesAll_6 : decode cX7_usesAll 6 = .ok (.iaload, 1) := by decide +kernel
theorem dX7_usesAll_7 : decode cX7_usesAll 7 = .ok (.putfield 118, 3) := by decide +kernel
theorem dX7_usesAll_10 : decode cX7_usesAll 10 = .ok (.iconst 0, 1) := by decide +kernel
theorem dX7_usesAll_11 : decode cX7_usesAll 11 = .ok (.istore_n 1, 1) := by decide +kernel
theorem dX7_usesAll_12 : decode cX7_usesAll 12 = .ok (.iload_n 1, 1) := by decide +kernel
theorem dX7_usesAll_13 : decode cX7_usesAll 13 = .ok (.aload_n 0, 1) := by decide +kernel
theorem dX7_usesAll_14 : decode cX7_usesAll 14 = .ok (.getfield 118, 3) := by decide +kernel
theorem dX7_usesAll_17 : decode cX7_usesAll 17 = .ok (.if_icmp .ge 23, 3) := by decide +kernel
theorem dX7_usesAll_20 : decode cX7_usesAll 20 = .ok (.aload_n 0, 1) := by decide +kernel
theorem dX7_usesAll_21 : decode cX7_usesAll 21 = .ok (.getfield 25, 3) := by decide +kernel
theorem dX7_usesAll_24 : decode cX7_usesAll 24 = .ok (.iload_n 1, 1) := by decide +kernel
theorem dX7_usesAll_25 : decode cX7_usesAll 25 = .ok (.aload_n 0, 1) := by decide +kernel
theorem dX7_usesAll_26 : decode cX7_usesAll 26 = .ok (.getfield 7, 3) := by decide +kernel
theorem dX7_usesAll_29 : decode cX7_usesAll 29 = .ok (.iconst 3, 1) := by decide +kernel
theorem dX7_usesAll_30 : decode cX7_usesAll 30 = .ok (.iload_n 1, 1) := by decide +kernel
theorem dX7_usesAll_31 : decode cX7_usesAll 31 = .ok (.iadd, 1) := by decide +kernel
theorem dX7_usesAll_32 : decode cX7_usesAll 32 = .ok (.iaload, 1) := by decide +kernel
theorem dX7_usesAll_33 : decode cX7_usesAll 33 = .ok (.iastore, 1) := by decide +kernel
theorem dX7_usesAll_34 : decode cX7_usesAll 34 = .ok (.iinc 1 1, 3) := by decide +kernel
theorem dX7_usesAll_37 : decode cX7_usesAll 37 = .ok (.goto (-25), 3) := by decide +kernel
theorem dX7_usesAll_40 : decode cX7_usesAll 40 = .ok (.return_, 1) := by decide +kernel
theorem dX7_usesOne_0 : decode cX7_usesOne 0 = .ok (.aload_n 0, 1) := by decide +kernel
theorem dX7_usesOne_1 : decode cX7_usesOne 1 = .ok (.iload_n 1, 1) := by decide +kernel
theorem dX7_usesOne_2 : decode cX7_usesOne 2 = .ok (.ifCond .ne 7, 3) := by decide +kernel
theorem dX7_usesOne_5 : decode cX7_usesOne 5 = .ok (.iconst 0, 1) := by decide +kernel
theorem dX7_usesOne_6 : decode cX7_usesOne 6 = .ok (.goto 4, 3) := by decide +kernel
theorem dX7_usesOne_9 : decode cX7_usesOne 9 = .ok (.iconst 1, 1) := by decide +kernel
theorem dX7_usesOne_10 : decode cX7_usesOne 10 = .ok (.putfield 118, 3) := by decide +kernel
theorem dX7_usesOne_13 : decode cX7_usesOne 13 = .ok (.aload_n 0, 1) := by decide +kernel
theorem dX7_usesOne_14 : decode cX7_usesOne 14 = .ok (.getfield 25, 3) := by decide +kernel
theorem dX7_usesOne_17 : decode cX7_usesOne 17 = .ok (.iconst 0, 1) := by decide +kernel
theorem dX7_usesOne_18 : decode cX7_usesOne 18 = .ok (.iload_n 1, 1) := by decide +kernel
theorem dX7_usesOne_19 : decode cX7_usesOne 19 = .ok (.iastore, 1) := by decide +kernel
theorem dX7_usesOne_20 : decode cX7_usesOne 20 = .ok (.return_, 1) := by decide +kernel
theorem dX7_isOpen_0 : decode cX7_isOpen 0 = .ok (.iconst 0, 1) := by decide +kernel
theorem dX7_isOpen_1 : decode cX7_isOpen 1 = .ok (.istore_n 3, 1) := by decide +kernel
theorem dX7_isOpen_2 : decode cX7_isOpen 2 = .ok (.iconst 0, 1) := by decide +kernel
theorem dX7_isOpen_3 : decode cX7_isOpen 3 = .ok (.istore 4, 2) := by decide +kernel
theorem dX7_isOpen_5 : decode cX7_isOpen 5 = .ok (.iload 4, 2) := by decide +kernel
theorem dX7_isOpen_7 : decode cX7_isOpen 7 = .ok (.aload_n 0, 1) := by decide +kernel
theorem dX7_isOpen_8 : decode cX7_isOpen 8 = .ok (.getfield 118, 3) := by decide +kernel
theorem dX7_isOpen_11 : decode cX7_isOpen 11 = .ok (.if_icmp .ge 39, 3) := by decide +kernel
theorem dX7_isOpen_14 : decode cX7_isOpen 14 = .ok (.iload_n 3, 1) := by decide +kernel
theorem dX7_isOpen_15 : decode cX7_isOpen 15 = .ok (.ifCond .ne 23, 3) := by decide +kernel
theorem dX7_isOpen_18 : decode cX7_isOpen 18 = .ok (.aload_n 0, 1) := by decide +kernel
theorem dX7_isOpen_19 : decode cX7_isOpen 19 = .ok (.getfield 25, 3) := by decide +kernel
theorem dX7_isOpen_22 : decode cX7_isOpen 22 = .ok (.iload 4, 2) := by decide +kernel
theorem dX7_isOpen_24 : decode cX7_isOpen 24 = .ok (.iaload, 1) := by decide +kernel
theorem dX7_isOpen_25 : decode cX7_isOpen 25 = .ok (.sipush 1000, 3) := by decide +kernel
theorem dX7_isOpen_28 : decode cX7_isOpen 28 = .ok (.bipush 10, 2) := by decide +kernel
theorem dX7_isOpen_30 : decode cX7_isOpen 30 = .ok (.iload_n 1, 1) := by decide +kernel
theorem dX7_isOpen_31 : decode cX7_isOpen 31 = .ok (.imul, 1) := by decide +kernel
theorem dX7_isOpen_32 : decode cX7_isOpen 32 = .ok (.iadd, 1) := by decide +kernel
theorem dX7_isOpen_33 : decode cX7_isOpen 33 = .ok (.iload_n 2, 1) := by decide +kernel
theorem dX7_isOpen_34 : decode cX7_isOpen 34 = .ok (.iadd, 1) := by decide +kernel
theorem dX7_isOpen_35 : decode cX7_isOpen 35 = .ok (.if_icmp .ne 7, 3) := by decide +kernel
theorem dX7_isOpen_38 : decode cX7_isOpen 38 = .ok (.iconst 1, 1) := by decide +kernel
theorem dX7_isOpen_39 : decode cX7_isOpen 39 = .ok (.goto 4, 3) := by decide +kernel
theorem dX7_isOpen_42 : decode cX7_isOpen 42 = .ok (.iconst 0, 1) := by decide +kernel
theorem dX7_isOpen_43 : decode cX7_isOpen 43 = .ok (.istore_n 3, 1) := by decide +kernel
theorem dX7_isOpen_44 : decode cX7_isOpen 44 = .ok (.iinc 4 1, 3) := by decide +kernel
theorem dX7_isOpen_47 : decode cX7_isOpen 47 = .ok (.goto (-42), 3) := by decide +kernel
theorem dX7_isOpen_50 : decode cX7_isOpen 50 = .ok (.iload_n 3, 1) := by decide +kernel
theorem dX7_isOpen_51 : decode cX7_isOpen 51 = .ok (.ireturn, 1) := by decide +kernel
theorem dX7_outs_0 : decode cX7_outs 0 = .ok (.iconst 0, 1) := by decide +kernel
theorem dX7_outs_1 : decode cX7_outs 1 = .ok (.istore_n 1, 1) := by decide +kernel
theorem dX7_outs_2 : decode cX7_outs 2 = .ok (.iconst 0, 1) := by decide +kernel
theorem dX7_outs_3 : decode cX7_outs 3 = .ok (.istore_n 2, 1) := by decide +kernel
theorem dX7_outs_4 : decode cX7_outs 4 = .ok (.iload_n 2, 1) := by decide +kernel
theorem dX7_outs_5 : decode cX7_outs 5 = .ok (.aload_n 0, 1) := by decide +kernel
theorem dX7_outs_6 : decode cX7_outs 6 = .ok (.invokevirtual 121, 3) := by decide +kernel
theorem dX7_outs_9 : decode cX7_outs 9 = .ok (.if_icmp .ge 51, 3) := by decide +kernel
theorem dX7_outs_12 : decode cX7_outs 12 = .ok (.iconst 0, 1) := by decide +kernel
theorem dX7_outs_13 : decode cX7_outs 13 = .ok (.istore_n 3, 1) := by decide +kernel
theorem dX7_outs_14 : decode cX7_outs 14 = .ok (.iload_n 3, 1) := by decide +kernel
theorem dX7_outs_15 : decode cX7_outs 15 = .ok (.aload_n 0, 1) := by decide +kernel
theorem dX7_outs_16 : decode cX7_outs 16 = .ok (.iload_n 2, 1) := by decide +kernel
theorem dX7_outs_17 : decode cX7_outs 17 = .ok (.iconst 2, 1) := by decide +kernel
theorem dX7_outs_18 : decode cX7_outs 18 = .ok (.invokevirtual 55, 3) := by decide +kernel
theorem dX7_outs_21 : decode cX7_outs 21 = .ok (.if_icmp .ge 33, 3) := by decide +kernel
theorem dX7_outs_24 : decode cX7_outs 24 = .ok (.iload_n 1, 1) := by decide +kernel
theorem dX7_outs_25 : decode cX7_outs 25 = .ok (.aload_n 0, 1) := by decide +kernel
theorem dX7_outs_26 : decode cX7_outs 26 = .ok (.iload_n 2, 1) := by decide +kernel
theorem dX7_outs_27 : decode cX7_outs 27 = .ok (.iload_n 3, 1) := by decide +kernel
theorem dX7_outs_28 : decode cX7_outs 28 = .ok (.invokevirtual 124, 3) := by decide +kernel
theorem dX7_outs_31 : decode cX7_outs 31 = .ok (.ifCond .eq 14, 3) := by decide +kernel
theorem dX7_outs_34 : decode cX7_outs 34 = .ok (.iconst 1, 1) := by decide +kernel
theorem dX7_outs_35 : decode cX7_outs 35 = .ok (.aload_n 0, 1) := by decide +kernel
theorem dX7_outs_36 : decode cX7_outs 36 = .ok (.iload_n 2, 1) := by decide +kernel
theorem dX7_outs_37 : decode cX7_outs 37 = .ok (.iload_n 3, 1) := by decide +kernel
theorem dX7_outs_38 : decode cX7_outs 38 = .ok (.invokevirtual 127, 3) := by decide +kernel
theorem dX7_outs_41 : decode cX7_outs 41 = .ok (.ishl, 1) := by decide +kernel
theorem dX7_outs_42 : decode cX7_outs 42 = .ok (.goto 4, 3) := by decide +kernel
theorem dX7_outs_45 : decode cX7_outs 45 = .ok (.iconst 0, 1) := by decide +kernel
theorem dX7_outs_46 : decode cX7_outs 46 = .ok (.ior, 1) := by decide +kernel
theorem dX7_outs_47 : decode cX7_outs 47 = .ok (.istore_n 1, 1) := by decide +kernel
theorem dX7_outs_48 : decode cX7_outs 48 = .ok (.iinc 3 1, 3) := by decide +kernel
theorem dX7_outs_51 : decode cX7_outs 51 = .ok (.goto (-37), 3) := by decide +kernel
theorem dX7_outs_54 : decode cX7_outs 54 = .ok (.iinc 2 1, 3) := by decide +kernel
theorem dX7_outs_57 : decode cX7_outs 57 = .ok (.goto (-53), 3) := by decide +kernel
theorem dX7_outs_60 : decode cX7_outs 60 = .ok (.iload_n 1, 1) := by decide +kernel
theorem dX7_outs_61 : decode cX7_outs 61 = .ok (.ireturn, 1) := by decide +kernel
theorem dX7_netsWithCells_0 : decode cX7_netsWithCells 0 = .ok (.iconst 0, 1) := by decide +kernel
theorem dX7_netsWithCells_1 : decode cX7_netsWithCells 1 = .ok (.istore_n 1, 1) := by decide +kernel
theorem dX7_netsWithCells_2 : decode cX7_netsWithCells 2 = .ok (.iconst 0, 1) := by decide +kernel
theorem dX7_netsWithCells_3 : decode cX7_netsWithCells 3 = .ok (.istore_n 2, 1) := by decide +kernel
theorem dX7_netsWithCells_4 : decode cX7_netsWithCells 4 = .ok (.iload_n 2, 1) := by decide +kernel
theorem dX7_netsWithCells_5 : decode cX7_netsWithCells 5 = .ok (.aload_n 0, 1) := by decide +kernel
theorem dX7_netsWithCells_6 : decode cX7_netsWithCells 6 = .ok (.invokevirtual 121, 3) := by decide +kernel
theorem dX7_netsWithCells_9 : decode cX7_netsWithCells 9 = .ok (.if_icmp .ge 38, 3) := by decide +kernel
theorem dX7_netsWithCells_12 : decode cX7_netsWithCells 12 = .ok (.iconst 0, 1) := by decide +kernel
theorem dX7_netsWithCells_13 : decode cX7_netsWithCells 13 = .ok (.istore_n 3, 1) := by decide +kernel
theorem dX7_netsWithCells_14 : decode cX7_netsWithCells 14 = .ok (.iload_n 3, 1) := by decide +kernel
theorem dX7_netsWithCells_15 : decode cX7_netsWithCells 15 = .ok (.aload_n 0, 1) := by decide +kernel
theorem dX7_netsWithCells_16 : decode cX7_netsWithCells 16 = .ok (.iload_n 2, 1) := by decide +kernel
theorem dX7_netsWithCells_17 : decode cX7_netsWithCells 17 = .ok (.iconst 2, 1) := by decide +kernel
theorem dX7_netsWithCells_18 : decode cX7_netsWithCells 18 = .ok (.invokevirtual 55, 3) := by decide +kernel
theorem dX7_netsWithCells_21 : decode cX7_netsWithCells 21 = .ok (.if_icmp .ge 20, 3) := by decide +kernel
theorem dX7_netsWithCells_24 : decode cX7_netsWithCells 24 = .ok (.iload_n 1, 1) := by decide +kernel
theorem dX7_netsWithCells_25 : decode cX7_netsWithCells 25 = .ok (.iconst 1, 1) := by decide +kernel
theorem dX7_netsWithCells_26 : decode cX7_netsWithCells 26 = .ok (.aload_n 0, 1) := by decide +kernel
theorem dX7_netsWithCells_27 : decode cX7_netsWithCells 27 = .ok (.iload_n 2, 1) := by decide +kernel
theorem dX7_netsWithCells_28 : decode cX7_netsWithCells 28 = .ok (.iload_n 3, 1) := by decide +kernel
theorem dX7_netsWithCells_29 : decode cX7_netsWithCells 29 = .ok (.invokevirtual 127, 3) := by decide +kernel
theorem dX7_netsWithCells_32 : decode cX7_netsWithCells 32 = .ok (.ishl, 1) := by decide +kernel
theorem dX7_netsWithCells_33 : decode cX7_netsWithCells 33 = .ok (.ior, 1) := by decide +kernel
theorem dX7_netsWithCells_34 : decode cX7_netsWithCells 34 = .ok (.istore_n 1, 1) := by decide +kernel
theorem dX7_netsWithCells_35 : decode cX7_netsWithCells 35 = .ok (.iinc 3 1, 3) := by decide +kernel
theorem dX7_netsWithCells_38 : decode cX7_netsWithCells 38 = .ok (.goto (-24), 3) := by decide +kernel
theorem dX7_netsWithCells_41 : decode cX7_netsWithCells 41 = .ok (.iinc 2 1, 3) := by decide +kernel
theorem dX7_netsWithCells_44 : decode cX7_netsWithCells 44 = .ok (.goto (-40), 3) := by decide +kernel
theorem dX7_netsWithCells_47 : decode cX7_netsWithCells 47 = .ok (.iload_n 1, 1) := by decide +kernel
theorem dX7_netsWithCells_48 : decode cX7_netsWithCells 48 = .ok (.ireturn, 1) := by decide +kernel
theorem dX7_ones_0 : decode cX7_ones 0 = .ok (.iconst 0, 1) := by decide +kernel
theorem dX7_ones_1 : decode cX7_ones 1 = .ok (.istore_n 1, 1) := by decide +kernel
theorem dX7_ones_2 : decode cX7_ones 2 = .ok (.iconst 0, 1) := by decide +kernel
theorem dX7_ones_3 : decode cX7_ones 3 = .ok (.istore_n 2, 1) := by decide +kernel
theorem dX7_ones_4 : decode cX7_ones 4 = .ok (.iload_n 2, 1) := by decide +kernel
theorem dX7_ones_5 : decode cX7_ones 5 = .ok (.bipush 8, 2) := by decide +kernel
theorem dX7_ones_7 : decode cX7_ones 7 = .ok (.if_icmp .ge 17, 3) := by decide +kernel
theorem dX7_ones_10 : decode cX7_ones 10 = .ok (.iload_n 1, 1) := by decide +kernel
theorem dX7_ones_11 : decode cX7_ones 11 = .ok (.iload_n 0, 1) := by decide +kernel
theorem dX7_ones_12 : decode cX7_ones 12 = .ok (.iload_n 2, 1) := by decide +kernel
theorem dX7_ones_13 : decode cX7_ones 13 = .ok (.ishr, 1) := by decide +kernel
theorem dX7_ones_14 : decode cX7_ones 14 = .ok (.iconst 1, 1) := by decide +kernel
theorem dX7_ones_15 : decode cX7_ones 15 = .ok (.iand, 1) := by decide +kernel
theorem dX7_ones_16 : decode cX7_ones 16 = .ok (.iadd, 1) := by decide +kernel
theorem dX7_ones_17 : decode cX7_ones 17 = .ok (.istore_n 1, 1) := by decide +kernel
theorem dX7_ones_18 : decode cX7_ones 18 = .ok (.iinc 2 1, 3) := by decide +kernel
theorem dX7_ones_21 : decode cX7_ones 21 = .ok (.goto (-17), 3) := by decide +kernel
theorem dX7_ones_24 : decode cX7_ones 24 = .ok (.iload_n 1, 1) := by decide +kernel
theorem dX7_ones_25 : decode cX7_ones 25 = .ok (.ireturn, 1) := by decide +kernel
theorem dX7_counting_0 : decode cX7_counting 0 = .ok (.iconst 0, 1) := by decide +kernel
theorem dX7_counting_1 : decode cX7_counting 1 = .ok (.istore_n 1, 1) := by decide +kernel
theorem dX7_counting_2 : decode cX7_counting 2 = .ok (.iconst 1, 1) := by decide +kernel
theorem dX7_counting_3 : decode cX7_counting 3 = .ok (.iload_n 1, 1) := by decide +kernel
theorem dX7_counting_4 : decode cX7_counting 4 = .ok (.ishl, 1) := by decide +kernel
theorem dX7_counting_5 : decode cX7_counting 5 = .ok (.aload_n 0, 1) := by decide +kernel
theorem dX7_counting_6 : decode cX7_counting 6 = .ok (.invokevirtual 130, 3) := by decide +kernel
theorem dX7_counting_9 : decode cX7_counting 9 = .ok (.invokestatic 133, 3) := by decide +kernel
theorem dX7_counting_12 : decode cX7_counting 12 = .ok (.iconst 2, 1) := by decide +kernel
theorem dX7_counting_13 : decode cX7_counting 13 = .ok (.iadd, 1) := by decide +kernel
theorem dX7_counting_14 : decode cX7_counting 14 = .ok (.if_icmp .ge 9, 3) := by decide +kernel
theorem dX7_counting_17 : decode cX7_counting 17 = .ok (.iinc 1 1, 3) := by decide +kernel
theorem dX7_counting_20 : decode cX7_counting 20 = .ok (.goto (-18), 3) := by decide +kernel
theorem dX7_counting_23 : decode cX7_counting 23 = .ok (.iload_n 1, 1) := by decide +kernel
theorem dX7_counting_24 : decode cX7_counting 24 = .ok (.ireturn, 1) := by decide +kernel
theorem dX7_patternAt_0 : decode cX7_patternAt 0 = .ok (.aload_n 0, 1) := by decide +kernel
theorem dX7_patternAt_1 : decode cX7_patternAt 1 = .ok (.invokevirtual 136, 3) := by decide +kernel
theorem dX7_patternAt_4 : decode cX7_patternAt 4 = .ok (.istore_n 3, 1) := by decide +kernel
theorem dX7_patternAt_5 : decode cX7_patternAt 5 = .ok (.aload_n 0, 1) := by decide +kernel
theorem dX7_patternAt_6 : decode cX7_patternAt 6 = .ok (.invokevirtual 130, 3) := by decide +kernel
theorem dX7_patternAt_9 : decode cX7_patternAt 9 = .ok (.iconst 1, 1) := by decide +kernel
theorem dX7_patternAt_10 : decode cX7_patternAt 10 = .ok (.iload_n 2, 1) := by decide +kernel
theorem dX7_patternAt_11 : decode cX7_patternAt 11 = .ok (.ishl, 1) := by decide +kernel
theorem dX7_patternAt_12 : decode cX7_patternAt 12 = .ok (.iconst 1, 1) := by decide +kernel
theorem dX7_patternAt_13 : decode cX7_patternAt 13 = .ok (.isub, 1) := by decide +kernel
theorem dX7_patternAt_14 : decode cX7_patternAt 14 = .ok (.iand, 1) := by decide +kernel
theorem dX7_patternAt_15 : decode cX7_patternAt 15 = .ok (.invokestatic 133, 3) := by decide +kernel
theorem dX7_patternAt_18 : decode cX7_patternAt 18 = .ok (.iconst 1, 1) := by decide +kernel
theorem dX7_patternAt_19 : decode cX7_patternAt 19 = .ok (.iadd, 1) := by decide +kernel
theorem dX7_patternAt_20 : decode cX7_patternAt 20 = .ok (.istore 4, 2) := by decide +kernel
theorem dX7_patternAt_22 : decode cX7_patternAt 22 = .ok (.iload_n 1, 1) := by decide +kernel
theorem dX7_patternAt_23 : decode cX7_patternAt 23 = .ok (.iload_n 3, 1) := by decide +kernel
theorem dX7_patternAt_24 : decode cX7_patternAt 24 = .ok (.if_icmp .ge 12, 3) := by decide +kernel
theorem dX7_patternAt_27 : decode cX7_patternAt 27 = .ok (.iload 4, 2) := by decide +kernel
theorem dX7_patternAt_29 : decode cX7_patternAt 29 = .ok (.iload_n 1, 1) := by decide +kernel
theorem dX7_patternAt_30 : decode cX7_patternAt 30 = .ok (.ishr, 1) := by decide +kernel
theorem dX7_patternAt_31 : decode cX7_patternAt 31 = .ok (.iconst 1, 1) := by decide +kernel
theorem dX7_patternAt_32 : decode cX7_patternAt 32 = .ok (.iand, 1) := by decide +kernel
theorem dX7_patternAt_33 : decode cX7_patternAt 33 = .ok (.goto 13, 3) := by decide +kernel
theorem dX7_patternAt_36 : decode cX7_patternAt 36 = .ok (.iconst 1, 1) := by decide +kernel
theorem dX7_patternAt_37 : decode cX7_patternAt 37 = .ok (.iload 4, 2) := by decide +kernel
theorem dX7_patternAt_39 : decode cX7_patternAt 39 = .ok (.iload_n 1, 1) := by decide +kernel
theorem dX7_patternAt_40 : decode cX7_patternAt 40 = .ok (.iload_n 3, 1) := by decide +kernel
theorem dX7_patternAt_41 : decode cX7_patternAt 41 = .ok (.isub, 1) := by decide +kernel
theorem dX7_patternAt_42 : decode cX7_patternAt 42 = .ok (.ishr, 1) := by decide +kernel
theorem dX7_patternAt_43 : decode cX7_patternAt 43 = .ok (.iconst 1, 1) := by decide +kernel
theorem dX7_patternAt_44 : decode cX7_patternAt 44 = .ok (.iand, 1) := by decide +kernel
theorem dX7_patternAt_45 : decode cX7_patternAt 45 = .ok (.isub, 1) := by decide +kernel
theorem dX7_patternAt_46 : decode cX7_patternAt 46 = .ok (.ireturn, 1) := by decide +kernel
theorem dX7_drives_0 : decode cX7_drives 0 = .ok (.aload_n 0, 1) := by decide +kernel
theorem dX7_drives_1 : decode cX7_drives 1 = .ok (.iload_n 1, 1) := by decide +kernel
theorem dX7_drives_2 : decode cX7_drives 2 = .ok (.iload_n 2, 1) := by decide +kernel
theorem dX7_drives_3 : decode cX7_drives 3 = .ok (.invokevirtual 124, 3) := by decide +kernel
theorem dX7_drives_6 : decode cX7_drives 6 = .ok (.ifCond .eq 25, 3) := by decide +kernel
theorem dX7_drives_9 : decode cX7_drives 9 = .ok (.aload_n 0, 1) := by decide +kernel
theorem dX7_drives_10 : decode cX7_drives 10 = .ok (.iload_n 1, 1) := by decide +kernel
theorem dX7_drives_11 : decode cX7_drives 11 = .ok (.iload_n 2, 1) := by decide +kernel
theorem dX7_drives_12 : decode cX7_drives 12 = .ok (.invokevirtual 139, 3) := by decide +kernel
theorem dX7_drives_15 : decode cX7_drives 15 = .ok (.ifCond .ne 16, 3) := by decide +kernel
theorem dX7_drives_18 : decode cX7_drives 18 = .ok (.iload_n 3, 1) := by decide +kernel
theorem dX7_drives_19 : decode cX7_drives 19 = .ok (.ifCond .ge 14, 3) := by decide +kernel
theorem dX7_drives_22 : decode cX7_drives 22 = .ok (.aload_n 0, 1) := by decide +kernel
theorem dX7_drives_23 : decode cX7_drives 23 = .ok (.iload_n 1, 1) := by decide +kernel
theorem dX7_drives_24 : decode cX7_drives 24 = .ok (.iconst 3, 1) := by decide +kernel
theorem dX7_drives_25 : decode cX7_drives 25 = .ok (.invokevirtual 55, 3) := by decide +kernel
theorem dX7_drives_28 : decode cX7_drives 28 = .ok (.ifCond .eq 5, 3) := by decide +kernel
theorem dX7_drives_31 : decode cX7_drives 31 = .ok (.iconst (-1), 1) := by decide +kernel
theorem dX7_drives_32 : decode cX7_drives 32 = .ok (.ireturn, 1) := by decide +kernel
theorem dX7_drives_33 : decode cX7_drives 33 = .ok (.iload_n 3, 1) := by decide +kernel
theorem dX7_drives_34 : decode cX7_drives 34 = .ok (.ifCond .ge 17, 3) := by decide +kernel
theorem dX7_drives_37 : decode cX7_drives 37 = .ok (.aload_n 0, 1) := by decide +kernel
theorem dX7_drives_38 : decode cX7_drives 38 = .ok (.iload_n 1, 1) := by decide +kernel
theorem dX7_drives_39 : decode cX7_drives 39 = .ok (.bipush 6, 2) := by decide +kernel
theorem dX7_drives_41 : decode cX7_drives 41 = .ok (.invokevirtual 55, 3) := by decide +kernel
theorem dX7_drives_44 : decode cX7_drives 44 = .ok (.iload_n 2, 1) := by decide +kernel
theorem dX7_drives_45 : decode cX7_drives 45 = .ok (.ishr, 1) := by decide +kernel
theorem dX7_drives_46 : decode cX7_drives 46 = .ok (.iconst 1, 1) := by decide +kernel
theorem dX7_drives_47 : decode cX7_drives 47 = .ok (.iand, 1) := by decide +kernel
theorem dX7_drives_48 : decode cX7_drives 48 = .ok (.goto 14, 3) := by decide +kernel
theorem dX7_drives_51 : decode cX7_drives 51 = .ok (.aload_n 0, 1) := by decide +kernel
theorem dX7_drives_52 : decode cX7_drives 52 = .ok (.iload_n 3, 1) := by decide +kernel
theorem dX7_drives_53 : decode cX7_drives 53 = .ok (.aload_n 0, 1) := by decide +kernel
theorem dX7_drives_54 : decode cX7_drives 54 = .ok (.iload_n 1, 1) := by decide +kernel
theorem dX7_drives_55 : decode cX7_drives 55 = .ok (.iload_n 2, 1) := by decide +kernel
theorem dX7_drives_56 : decode cX7_drives 56 = .ok (.invokevirtual 127, 3) := by decide +kernel
theorem dX7_drives_59 : decode cX7_drives 59 = .ok (.invokevirtual 142, 3) := by decide +kernel
theorem dX7_drives_62 : decode cX7_drives 62 = .ok (.ireturn, 1) := by decide +kernel
theorem dX7_laysDrivers_0 : decode cX7_laysDrivers 0 = .ok (.iconst 0, 1) := by decide +kernel
theorem dX7_laysDrivers_1 : decode cX7_laysDrivers 1 = .ok (.istore_n 2, 1) := by decide +kernel
theorem dX7_laysDrivers_2 : decode cX7_laysDrivers 2 = .ok (.iconst 0, 1) := by decide +kernel
theorem dX7_laysDrivers_3 : decode cX7_laysDrivers 3 = .ok (.istore_n 3, 1) := by decide +kernel
theorem dX7_laysDrivers_4 : decode cX7_laysDrivers 4 = .ok (.iconst 0, 1) := by decide +kernel
theorem dX7_laysDrivers_5 : decode cX7_laysDrivers 5 = .ok (.istore 4, 2) := by decide +kernel
theorem dX7_laysDrivers_7 : decode cX7_laysDrivers 7 = .ok (.iload 4, 2) := by decide +kernel
theorem dX7_laysDrivers_9 : decode cX7_laysDrivers 9 = .ok (.aload_n 0, 1) := by decide +kernel
theorem dX7_laysDrivers_10 : decode cX7_laysDrivers 10 = .ok (.invokevirtual 121, 3) := by decide +kernel
theorem dX7_laysDrivers_13 : decode cX7_laysDrivers 13 = .ok (.if_icmp .ge 86, 3) := by decide +kernel
theorem dX7_laysDrivers_16 : decode cX7_laysDrivers 16 = .ok (.iconst 0, 1) := by decide +kernel
theorem dX7_laysDrivers_17 : decode cX7_laysDrivers 17 = .ok (.istore 5, 2) := by decide +kernel
theorem dX7_laysDrivers_19 : decode cX7_laysDrivers 19 = .ok (.iload 5, 2) := by decide +kernel
theorem dX7_laysDrivers_21 : decode cX7_laysDrivers 21 = .ok (.aload_n 0, 1) := by decide +kernel
theorem dX7_laysDrivers_22 : decode cX7_laysDrivers 22 = .ok (.iload 4, 2) := by decide +kernel
theorem dX7_laysDrivers_24 : decode cX7_laysDrivers 24 = .ok (.iconst 2, 1) := by decide +kernel
theorem dX7_laysDrivers_25 : decode cX7_laysDrivers 25 = .ok (.invokevirtual 55, 3) := by decide +kernel
theorem dX7_laysDrivers_28 : decode cX7_laysDrivers 28 = .ok (.if_icmp .ge 65, 3) := by decide +kernel
theorem dX7_laysDrivers_31 : decode cX7_laysDrivers 31 = .ok (.aload_n 0, 1) := by decide +kernel
theorem dX7_laysDrivers_32 : decode cX7_laysDrivers 32 = .ok (.iload 4, 2) := by decide +kernel
theorem dX7_laysDrivers_34 : decode cX7_laysDrivers 34 = .ok (.iload 5, 2) := by decide +kernel
theorem dX7_laysDrivers_36 : decode cX7_laysDrivers 36 = .ok (.iload_n 1, 1) := by decide +kernel
theorem dX7_laysDrivers_37 : decode cX7_laysDrivers 37 = .ok (.invokevirtual 145, 3) := by decide +kernel
theorem dX7_laysDrivers_40 : decode cX7_laysDrivers 40 = .ok (.istore 6, 2) := by decide +kernel
theorem dX7_laysDrivers_42 : decode cX7_laysDrivers 42 = .ok (.iload_n 2, 1) := by decide +kernel
theorem dX7_laysDrivers_43 : decode cX7_laysDrivers 43 = .ok (.iload 6, 2) := by decide +kernel
theorem dX7_laysDrivers_45 : decode cX7_laysDrivers 45 = .ok (.ifCond .ne 16, 3) := by decide +kernel
theorem dX7_laysDrivers_48 : decode cX7_laysDrivers 48 = .ok (.iconst 1, 1) := by decide +kernel
theorem dX7_laysDrivers_49 : decode cX7_laysDrivers 49 = .ok (.aload_n 0, 1) := by decide +kernel
theorem dX7_laysDrivers_50 : decode cX7_laysDrivers 50 = .ok (.iload 4, 2) := by decide +kernel
theorem dX7_laysDrivers_52 : decode cX7_laysDrivers 52 = .ok (.iload 5, 2) := by decide +kernel
theorem dX7_laysDrivers_54 : decode cX7_laysDrivers 54 = .ok (.invokevirtual 127, 3) := by decide +kernel
theorem dX7_laysDrivers_57 : decode cX7_laysDrivers 57 = .ok (.ishl, 1) := by decide +kernel
theorem dX7_laysDrivers_58 : decode cX7_laysDrivers 58 = .ok (.goto 4, 3) := by decide +kernel
theorem dX7_laysDrivers_61 : decode cX7_laysDrivers 61 = .ok (.iconst 0, 1) := by decide +kernel
theorem dX7_laysDrivers_62 : decode cX7_laysDrivers 62 = .ok (.ior, 1) := by decide +kernel
theorem dX7_laysDrivers_63 : decode cX7_laysDrivers 63 = .ok (.istore_n 2, 1) := by decide +kernel
theorem dX7_laysDrivers_64 : decode cX7_laysDrivers 64 = .ok (.iload_n 3, 1) := by decide +kernel
theorem dX7_laysDrivers_65 : decode cX7_laysDrivers 65 = .ok (.iload 6, 2) := by decide +kernel
theorem dX7_laysDrivers_67 : decode cX7_laysDrivers 67 = .ok (.iconst 1, 1) := by decide +kernel
theorem dX7_laysDrivers_68 : decode cX7_laysDrivers 68 = .ok (.if_icmp .ne 16, 3) := by decide +kernel
theorem dX7_laysDrivers_71 : decode cX7_laysDrivers 71 = .ok (.iconst 1, 1) := by decide +kernel
theorem dX7_laysDrivers_72 : decode cX7_laysDrivers 72 = .ok (.aload_n 0, 1) := by decide +kernel
theorem dX7_laysDrivers_73 : decode cX7_laysDrivers 73 = .ok (.iload 4, 2) := by decide +kernel
theorem dX7_laysDrivers_75 : decode cX7_laysDrivers 75 = .ok (.iload 5, 2) := by decide +kernel
theorem dX7_laysDrivers_77 : decode cX7_laysDrivers 77 = .ok (.invokevirtual 127, 3) := by decide +kernel
theorem dX7_laysDrivers_80 : decode cX7_laysDrivers 80 = .ok (.ishl, 1) := by decide +kernel
theorem dX7_laysDrivers_81 : decode cX7_laysDrivers 81 = .ok (.goto 4, 3) := by decide +kernel
theorem dX7_laysDrivers_84 : decode cX7_laysDrivers 84 = .ok (.iconst 0, 1) := by decide +kernel
theorem dX7_laysDrivers_85 : decode cX7_laysDrivers 85 = .ok (.ior, 1) := by decide +kernel
theorem dX7_laysDrivers_86 : decode cX7_laysDrivers 86 = .ok (.istore_n 3, 1) := by decide +kernel
theorem dX7_laysDrivers_87 : decode cX7_laysDrivers 87 = .ok (.iinc 5 1, 3) := by decide +kernel
theorem dX7_laysDrivers_90 : decode cX7_laysDrivers 90 = .ok (.goto (-71), 3) := by decide +kernel
theorem dX7_laysDrivers_93 : decode cX7_laysDrivers 93 = .ok (.iinc 4 1, 3) := by decide +kernel
theorem dX7_laysDrivers_96 : decode cX7_laysDrivers 96 = .ok (.goto (-89), 3) := by decide +kernel
theorem dX7_laysDrivers_99 : decode cX7_laysDrivers 99 = .ok (.aload_n 0, 1) := by decide +kernel
theorem dX7_laysDrivers_100 : decode cX7_laysDrivers 100 = .ok (.iload_n 2, 1) := by decide +kernel
theorem dX7_laysDrivers_101 : decode cX7_laysDrivers 101 = .ok (.iload_n 3, 1) := by decide +kernel
theorem dX7_laysDrivers_102 : decode cX7_laysDrivers 102 = .ok (.iand, 1) := by decide +kernel
theorem dX7_laysDrivers_103 : decode cX7_laysDrivers 103 = .ok (.putfield 148, 3) := by decide +kernel
theorem dX7_laysDrivers_106 : decode cX7_laysDrivers 106 = .ok (.iconst 0, 1) := by decide +kernel
theorem dX7_laysDrivers_107 : decode cX7_laysDrivers 107 = .ok (.istore 4, 2) := by decide +kernel
theorem dX7_laysDrivers_109 : decode cX7_laysDrivers 109 = .ok (.iload 4, 2) := by decide +kernel
theorem dX7_laysDrivers_111 : decode cX7_laysDrivers 111 = .ok (.bipush 8, 2) := by decide +kernel
theorem dX7_laysDrivers_113 : decode cX7_laysDrivers 113 = .ok (.if_icmp .ge 30, 3) := by decide +kernel
theorem dX7_laysDrivers_116 : decode cX7_laysDrivers 116 = .ok (.aload_n 0, 1) := by decide +kernel
theorem dX7_laysDrivers_117 : decode cX7_laysDrivers 117 = .ok (.getfield 28, 3) := by decide +kernel
theorem dX7_laysDrivers_120 : decode cX7_laysDrivers 120 = .ok (.iload 4, 2) := by decide +kernel
theorem dX7_laysDrivers_122 : decode cX7_laysDrivers 122 = .ok (.iload_n 2, 1) := by decide +kernel
theorem dX7_laysDrivers_123 : decode cX7_laysDrivers 123 = .ok (.iload 4, 2) := by decide +kernel
theorem dX7_laysDrivers_125 : decode cX7_laysDrivers 125 = .ok (.invokestatic 151, 3) := by decide +kernel
theorem dX7_laysDrivers_128 : decode cX7_laysDrivers 128 = .ok (.ifCond .eq 7, 3) := by decide +kernel
theorem dX7_laysDrivers_131 : decode cX7_laysDrivers 131 = .ok (.iconst 0, 1) := by decide +kernel
theorem dX7_laysDrivers_132 : decode cX7_laysDrivers 132 = .ok (.goto 4, 3) := by decide +kernel
theorem dX7_laysDrivers_135 : decode cX7_laysDrivers 135 = .ok (.iconst 1, 1) := by decide +kernel
theorem dX7_laysDrivers_136 : decode cX7_laysDrivers 136 = .ok (.iastore, 1) := by decide +kernel
theorem dX7_laysDrivers_137 : decode cX7_laysDrivers 137 = .ok (.iinc 4 1, 3) := by decide +kernel
theorem dX7_laysDrivers_140 : decode cX7_laysDrivers 140 = .ok (.goto (-31), 3) := by decide +kernel
theorem dX7_laysDrivers_143 : decode cX7_laysDrivers 143 = .ok (.return_, 1) := by decide +kernel
theorem dX7_laysNets_0 : decode cX7_laysNets 0 = .ok (.aload_n 0, 1) := by decide +kernel
theorem dX7_laysNets_1 : decode cX7_laysNets 1 = .ok (.iload_n 1, 1) := by decide +kernel
theorem dX7_laysNets_2 : decode cX7_laysNets 2 = .ok (.invokevirtual 154, 3) := by decide +kernel
theorem dX7_laysNets_5 : decode cX7_laysNets 5 = .ok (.iconst 0, 1) := by decide +kernel
theorem dX7_laysNets_6 : decode cX7_laysNets 6 = .ok (.istore_n 2, 1) := by decide +kernel
theorem dX7_laysNets_7 : decode cX7_laysNets 7 = .ok (.iload_n 2, 1) := by decide +kernel
theorem dX7_laysNets_8 : decode cX7_laysNets 8 = .ok (.aload_n 0, 1) := by decide +kernel
theorem dX7_laysNets_9 : decode cX7_laysNets 9 = .ok (.getfield 118, 3) := by decide +kernel
theorem dX7_laysNets_12 : decode cX7_laysNets 12 = .ok (.if_icmp .ge 98, 3) := by decide +kernel
theorem dX7_laysNets_15 : decode cX7_laysNets 15 = .ok (.aload_n 0, 1) := by decide +kernel
theorem dX7_laysNets_16 : decode cX7_laysNets 16 = .ok (.getfield 25, 3) := by decide +kernel
theorem dX7_laysNets_19 : decode cX7_laysNets 19 = .ok (.iload_n 2, 1) := by decide +kernel
theorem dX7_laysNets_20 : decode cX7_laysNets 20 = .ok (.iaload, 1) := by decide +kernel
theorem dX7_laysNets_21 : decode cX7_laysNets 21 = .ok (.istore_n 3, 1) := by decide +kernel
theorem dX7_laysNets_22 : decode cX7_laysNets 22 = .ok (.iload_n 3, 1) := by decide +kernel
theorem dX7_laysNets_23 : decode cX7_laysNets 23 = .ok (.sipush 3000, 3) := by decide +kernel
theorem dX7_laysNets_26 : decode cX7_laysNets 26 = .ok (.if_icmp .lt 78, 3) := by decide +kernel
theorem dX7_laysNets_29 : decode cX7_laysNets 29 = .ok (.iload_n 3, 1) := by decide +kernel
theorem dX7_laysNets_30 : decode cX7_laysNets 30 = .ok (.bipush 10, 2) := by decide +kernel
theorem dX7_laysNets_32 : decode cX7_laysNets 32 = .ok (.idiv, 1) := by decide +kernel
theorem dX7_laysNets_33 : decode cX7_laysNets 33 = .ok (.bipush 10, 2) := by decide +kernel
theorem dX7_laysNets_35 : decode cX7_laysNets 35 = .ok (.irem, 1) := by decide +kernel
theorem dX7_laysNets_36 : decode cX7_laysNets 36 = .ok (.istore 4, 2) := by decide +kernel
theorem dX7_laysNets_38 : decode cX7_laysNets 38 = .ok (.iload_n 3, 1) := by decide +kernel
theorem dX7_laysNets_39 : decode cX7_laysNets 39 = .ok (.bipush 10, 2) := by decide +kernel
theorem dX7_laysNets_41 : decode cX7_laysNets 41 = .ok (.irem, 1) := by decide +kernel
theorem dX7_laysNets_42 : decode cX7_laysNets 42 = .ok (.istore 5, 2) := by decide +kernel
theorem dX7_laysNets_44 : decode cX7_laysNets 44 = .ok (.iload_n 3, 1) := by decide +kernel
theorem dX7_laysNets_45 : decode cX7_laysNets 45 = .ok (.sipush 4000, 3) := by decide +kernel
theorem dX7_laysNets_48 : decode cX7_laysNets 48 = .ok (.if_icmp .ge 21, 3) := by decide +kernel
theorem dX7_laysNets_51 : decode cX7_laysNets 51 = .ok (.aload_n 0, 1) := by decide +kernel
theorem dX7_laysNets_52 : decode cX7_laysNets 52 = .ok (.getfield 28, 3) := by decide +kernel
theorem dX7_laysNets_55 : decode cX7_laysNets 55 = .ok (.iload 4, 2) := by decide +kernel
theorem dX7_laysNets_57 : decode cX7_laysNets 57 = .ok (.iaload, 1) := by decide +kernel
theorem dX7_laysNets_58 : decode cX7_laysNets 58 = .ok (.aload_n 0, 1) := by decide +kernel
theorem dX7_laysNets_59 : decode cX7_laysNets 59 = .ok (.getfield 28, 3) := by decide +kernel
theorem dX7_laysNets_62 : decode cX7_laysNets 62 = .ok (.iload 5, 2) := by decide +kernel
theorem dX7_laysNets_64 : decode cX7_laysNets 64 = .ok (.iaload, 1) := by decide +kernel
theorem dX7_laysNets_65 : decode cX7_laysNets 65 = .ok (.iand, 1) := by decide +kernel
theorem dX7_laysNets_66 : decode cX7_laysNets 66 = .ok (.goto 18, 3) := by decide +kernel
theorem dX7_laysNets_69 : decode cX7_laysNets 69 = .ok (.aload_n 0, 1) := by decide +kernel
theorem dX7_laysNets_70 : decode cX7_laysNets 70 = .ok (.getfield 28, 3) := by decide +kernel
theorem dX7_laysNets_73 : decode cX7_laysNets 73 = .ok (.iload 4, 2) := by decide +kernel
theorem dX7_laysNets_75 : decode cX7_laysNets 75 = .ok (.iaload, 1) := by decide +kernel
theorem dX7_laysNets_76 : decode cX7_laysNets 76 = .ok (.aload_n 0, 1) := by decide +kernel
theorem dX7_laysNets_77 : decode cX7_laysNets 77 = .ok (.getfield 28, 3) := by decide +kernel
theorem dX7_laysNets_80 : decode cX7_laysNets 80 = .ok (.iload 5, 2) := by decide +kernel
theorem dX7_laysNets_82 : decode cX7_laysNets 82 = .ok (.iaload, 1) := by decide +kernel
theorem dX7_laysNets_83 : decode cX7_laysNets 83 = .ok (.ior, 1) := by decide +kernel
theorem dX7_laysNets_84 : decode cX7_laysNets 84 = .ok (.istore 6, 2) := by decide +kernel
theorem dX7_laysNets_86 : decode cX7_laysNets 86 = .ok (.aload_n 0, 1) := by decide +kernel
theorem dX7_laysNets_87 : decode cX7_laysNets 87 = .ok (.getfield 28, 3) := by decide +kernel
theorem dX7_laysNets_90 : decode cX7_laysNets 90 = .ok (.iload 4, 2) := by decide +kernel
theorem dX7_laysNets_92 : decode cX7_laysNets 92 = .ok (.iload 6, 2) := by decide +kernel
theorem dX7_laysNets_94 : decode cX7_laysNets 94 = .ok (.iastore, 1) := by decide +kernel
theorem dX7_laysNets_95 : decode cX7_laysNets 95 = .ok (.aload_n 0, 1) := by decide +kernel
theorem dX7_laysNets_96 : decode cX7_laysNets 96 = .ok (.getfield 28, 3) := by decide +kernel
theorem dX7_laysNets_99 : decode cX7_laysNets 99 = .ok (.iload 5, 2) := by decide +kernel
theorem dX7_laysNets_101 : decode cX7_laysNets 101 = .ok (.iload 6, 2) := by decide +kernel
theorem dX7_laysNets_103 : decode cX7_laysNets 103 = .ok (.iastore, 1) := by decide +kernel
theorem dX7_laysNets_104 : decode cX7_laysNets 104 = .ok (.iinc 2 1, 3) := by decide +kernel
theorem dX7_laysNets_107 : decode cX7_laysNets 107 = .ok (.goto (-100), 3) := by decide +kernel
theorem dX7_laysNets_110 : decode cX7_laysNets 110 = .ok (.iconst 0, 1) := by decide +kernel
theorem dX7_laysNets_111 : decode cX7_laysNets 111 = .ok (.istore_n 2, 1) := by decide +kernel
theorem dX7_laysNets_112 : decode cX7_laysNets 112 = .ok (.iload_n 2, 1) := by decide +kernel
theorem dX7_laysNets_113 : decode cX7_laysNets 113 = .ok (.aload_n 0, 1) := by decide +kernel
theorem dX7_laysNets_114 : decode cX7_laysNets 114 = .ok (.getfield 118, 3) := by decide +kernel
theorem dX7_laysNets_117 : decode cX7_laysNets 117 = .ok (.if_icmp .ge 49, 3) := by decide +kernel
theorem dX7_laysNets_120 : decode cX7_laysNets 120 = .ok (.aload_n 0, 1) := by decide +kernel
theorem dX7_laysNets_121 : decode cX7_laysNets 121 = .ok (.getfield 25, 3) := by decide +kernel
theorem dX7_laysNets_124 : decode cX7_laysNets 124 = .ok (.iload_n 2, 1) := by decide +kernel
theorem dX7_laysNets_125 : decode cX7_laysNets 125 = .ok (.iaload, 1) := by decide +kernel
theorem dX7_laysNets_126 : decode cX7_laysNets 126 = .ok (.sipush 1000, 3) := by decide +kernel
theorem dX7_laysNets_129 : decode cX7_laysNets 129 = .ok (.idiv, 1) := by decide +kernel
theorem dX7_laysNets_130 : decode cX7_laysNets 130 = .ok (.iconst 2, 1) := by decide +kernel
theorem dX7_laysNets_131 : decode cX7_laysNets 131 = .ok (.if_icmp .ne 29, 3) := by decide +kernel
theorem dX7_laysNets_134 : decode cX7_laysNets 134 = .ok (.aload_n 0, 1) := by decide +kernel
theorem dX7_laysNets_135 : decode cX7_laysNets 135 = .ok (.getfield 28, 3) := by decide +kernel
theorem dX7_laysNets_138 : decode cX7_laysNets 138 = .ok (.aload_n 0, 1) := by decide +kernel
theorem dX7_laysNets_139 : decode cX7_laysNets 139 = .ok (.getfield 25, 3) := by decide +kernel
theorem dX7_laysNets_142 : decode cX7_laysNets 142 = .ok (.iload_n 2, 1) := by decide +kernel
theorem dX7_laysNets_143 : decode cX7_laysNets 143 = .ok (.iaload, 1) := by decide +kernel
theorem dX7_laysNets_144 : decode cX7_laysNets 144 = .ok (.bipush 10, 2) := by decide +kernel
theorem dX7_laysNets_146 : decode cX7_laysNets 146 = .ok (.idiv, 1) := by decide +kernel
theorem dX7_laysNets_147 : decode cX7_laysNets 147 = .ok (.bipush 10, 2) := by decide +kernel
theorem dX7_laysNets_149 : decode cX7_laysNets 149 = .ok (.irem, 1) := by decide +kernel
theorem dX7_laysNets_150 : decode cX7_laysNets 150 = .ok (.aload_n 0, 1) := by decide +kernel
theorem dX7_laysNets_151 : decode cX7_laysNets 151 = .ok (.getfield 25, 3) := by decide +kernel
theorem dX7_laysNets_154 : decode cX7_laysNets 154 = .ok (.iload_n 2, 1) := by decide +kernel
theorem dX7_laysNets_155 : decode cX7_laysNets 155 = .ok (.iaload, 1) := by decide +kernel
theorem dX7_laysNets_156 : decode cX7_laysNets 156 = .ok (.bipush 10, 2) := by decide +kernel
theorem dX7_laysNets_158 : decode cX7_laysNets 158 = .ok (.irem, 1) := by decide +kernel
theorem dX7_laysNets_159 : decode cX7_laysNets 159 = .ok (.iastore, 1) := by decide +kernel
theorem dX7_laysNets_160 : decode cX7_laysNets 160 = .ok (.iinc 2 1, 3) := by decide +kernel
theorem dX7_laysNets_163 : decode cX7_laysNets 163 = .ok (.goto (-51), 3) := by decide +kernel
theorem dX7_laysNets_166 : decode cX7_laysNets 166 = .ok (.return_, 1) := by decide +kernel
theorem dX7_sees_0 : decode cX7_sees 0 = .ok (.aload_n 0, 1) := by decide +kernel
theorem dX7_sees_1 : decode cX7_sees 1 = .ok (.iload_n 1, 1) := by decide +kernel
theorem dX7_sees_2 : decode cX7_sees 2 = .ok (.iload_n 2, 1) := by decide +kernel
theorem dX7_sees_3 : decode cX7_sees 3 = .ok (.invokevirtual 139, 3) := by decide +kernel
theorem dX7_sees_6 : decode cX7_sees 6 = .ok (.ifCond .eq 7, 3) := by decide +kernel
theorem dX7_sees_9 : decode cX7_sees 9 = .ok (.iconst 1, 1) := by decide +kernel
theorem dX7_sees_10 : decode cX7_sees 10 = .ok (.goto 14, 3) := by decide +kernel
theorem dX7_sees_13 : decode cX7_sees 13 = .ok (.aload_n 0, 1) := by decide +kernel
theorem dX7_sees_14 : decode cX7_sees 14 = .ok (.getfield 28, 3) := by decide +kernel
theorem dX7_sees_17 : decode cX7_sees 17 = .ok (.aload_n 0, 1) := by decide +kernel
theorem dX7_sees_18 : decode cX7_sees 18 = .ok (.iload_n 1, 1) := by decide +kernel
theorem dX7_sees_19 : decode cX7_sees 19 = .ok (.iload_n 2, 1) := by decide +kernel
theorem dX7_sees_20 : decode cX7_sees 20 = .ok (.invokevirtual 127, 3) := by decide +kernel
theorem dX7_sees_23 : decode cX7_sees 23 = .ok (.iaload, 1) := by decide +kernel
theorem dX7_sees_24 : decode cX7_sees 24 = .ok (.ireturn, 1) := by decide +kernel
theorem dX7_laysNow_0 : decode cX7_laysNow 0 = .ok (.aload_n 0, 1) := by decide +kernel
theorem dX7_laysNow_1 : decode cX7_laysNow 1 = .ok (.invokevirtual 158, 3) := by decide +kernel
theorem dX7_laysNow_4 : decode cX7_laysNow 4 = .ok (.aload_n 0, 1) := by decide +kernel
theorem dX7_laysNow_5 : decode cX7_laysNow 5 = .ok (.iconst (-1), 1) := by decide +kernel
theorem dX7_laysNow_6 : decode cX7_laysNow 6 = .ok (.invokevirtual 161, 3) := by decide +kernel
theorem dX7_laysNow_9 : decode cX7_laysNow 9 = .ok (.return_, 1) := by decide +kernel
theorem dX7_onesNow_0 : decode cX7_onesNow 0 = .ok (.aload_n 0, 1) := by decide +kernel
theorem dX7_onesNow_1 : decode cX7_onesNow 1 = .ok (.invokevirtual 164, 3) := by decide +kernel
theorem dX7_onesNow_4 : decode cX7_onesNow 4 = .ok (.iconst 0, 1) := by decide +kernel
theorem dX7_onesNow_5 : decode cX7_onesNow 5 = .ok (.istore_n 1, 1) := by decide +kernel
theorem dX7_onesNow_6 : decode cX7_onesNow 6 = .ok (.iconst 0, 1) := by decide +kernel
theorem dX7_onesNow_7 : decode cX7_onesNow 7 = .ok (.istore_n 2, 1) := by decide +kernel
theorem dX7_onesNow_8 : decode cX7_onesNow 8 = .ok (.iload_n 2, 1) := by decide +kernel
theorem dX7_onesNow_9 : decode cX7_onesNow 9 = .ok (.bipush 8, 2) := by decide +kernel
theorem dX7_onesNow_11 : decode cX7_onesNow 11 = .ok (.if_icmp .ge 20, 3) := by decide +kernel
theorem dX7_onesNow_14 : decode cX7_onesNow 14 = .ok (.iload_n 1, 1) := by decide +kernel
theorem dX7_onesNow_15 : decode cX7_onesNow 15 = .ok (.aload_n 0, 1) := by decide +kernel
theorem dX7_onesNow_16 : decode cX7_onesNow 16 = .ok (.getfield 28, 3) := by decide +kernel
theorem dX7_onesNow_19 : decode cX7_onesNow 19 = .ok (.iload_n 2, 1) := by decide +kernel
theorem dX7_onesNow_20 : decode cX7_onesNow 20 = .ok (.iaload, 1) := by decide +kernel
theorem dX7_onesNow_21 : decode cX7_onesNow 21 = .ok (.iload_n 2, 1) := by decide +kernel
theorem dX7_onesNow_22 : decode cX7_onesNow 22 = .ok (.ishl, 1) := by decide +kernel
theorem dX7_onesNow_23 : decode cX7_onesNow 23 = .ok (.ior, 1) := by decide +kernel
theorem dX7_onesNow_24 : decode cX7_onesNow 24 = .ok (.istore_n 1, 1) := by decide +kernel
theorem dX7_onesNow_25 : decode cX7_onesNow 25 = .ok (.iinc 2 1, 3) := by decide +kernel
theorem dX7_onesNow_28 : decode cX7_onesNow 28 = .ok (.goto (-20), 3) := by decide +kernel
theorem dX7_onesNow_31 : decode cX7_onesNow 31 = .ok (.iload_n 1, 1) := by decide +kernel
theorem dX7_onesNow_32 : decode cX7_onesNow 32 = .ok (.ireturn, 1) := by decide +kernel
theorem dX7_kindOf_0 : decode cX7_kindOf 0 = .ok (.aload_n 0, 1) := by decide +kernel
theorem dX7_kindOf_1 : decode cX7_kindOf 1 = .ok (.iload_n 1, 1) := by decide +kernel
theorem dX7_kindOf_2 : decode cX7_kindOf 2 = .ok (.iconst 3, 1) := by decide +kernel
theorem dX7_kindOf_3 : decode cX7_kindOf 3 = .ok (.invokevirtual 55, 3) := by decide +kernel
theorem dX7_kindOf_6 : decode cX7_kindOf 6 = .ok (.istore_n 2, 1) := by decide +kernel
theorem dX7_kindOf_7 : decode cX7_kindOf 7 = .ok (.iload_n 2, 1) := by decide +kernel
theorem dX7_kindOf_8 : decode cX7_kindOf 8 = .ok (.iconst 2, 1) := by decide +kernel
theorem dX7_kindOf_9 : decode cX7_kindOf 9 = .ok (.if_icmp .ge 18, 3) := by decide +kernel
theorem dX7_kindOf_12 : decode cX7_kindOf 12 = .ok (.aload_n 0, 1) := by decide +kernel
theorem dX7_kindOf_13 : decode cX7_kindOf 13 = .ok (.iload_n 1, 1) := by decide +kernel
theorem dX7_kindOf_14 : decode cX7_kindOf 14 = .ok (.iconst 2, 1) := by decide +kernel
theorem dX7_kindOf_15 : decode cX7_kindOf 15 = .ok (.invokevirtual 55, 3) := by decide +kernel
theorem dX7_kindOf_18 : decode cX7_kindOf 18 = .ok (.ifCond .le 7, 3) := by decide +kernel
theorem dX7_kindOf_21 : decode cX7_kindOf 21 = .ok (.iload_n 2, 1) := by decide +kernel
theorem dX7_kindOf_22 : decode cX7_kindOf 22 = .ok (.goto 4, 3) := by decide +kernel
theorem dX7_kindOf_25 : decode cX7_kindOf 25 = .ok (.iconst 3, 1) := by decide +kernel
theorem dX7_kindOf_26 : decode cX7_kindOf 26 = .ok (.ireturn, 1) := by decide +kernel
theorem dX7_kindOf_27 : decode cX7_kindOf 27 = .ok (.iload_n 2, 1) := by decide +kernel
theorem dX7_kindOf_28 : decode cX7_kindOf 28 = .ok (.iconst 2, 1) := by decide +kernel
theorem dX7_kindOf_29 : decode cX7_kindOf 29 = .ok (.if_icmp .ne 19, 3) := by decide +kernel
theorem dX7_kindOf_32 : decode cX7_kindOf 32 = .ok (.aload_n 0, 1) := by decide +kernel
theorem dX7_kindOf_33 : decode cX7_kindOf 33 = .ok (.iload_n 1, 1) := by decide +kernel
theorem dX7_kindOf_34 : decode cX7_kindOf 34 = .ok (.iconst 1, 1) := by decide +kernel
theorem dX7_kindOf_35 : decode cX7_kindOf 35 = .ok (.invokevirtual 55, 3) := by decide +kernel
theorem dX7_kindOf_38 : decode cX7_kindOf 38 = .ok (.sipush 256, 3) := by decide +kernel
theorem dX7_kindOf_41 : decode cX7_kindOf 41 = .ok (.if_icmp .ge 7, 3) := by decide +kernel
theorem dX7_kindOf_44 : decode cX7_kindOf 44 = .ok (.iconst 2, 1) := by decide +kernel
theorem dX7_kindOf_45 : decode cX7_kindOf 45 = .ok (.goto 4, 3) := by decide +kernel
theorem dX7_kindOf_48 : decode cX7_kindOf 48 = .ok (.iconst 3, 1) := by decide +kernel
theorem dX7_kindOf_49 : decode cX7_kindOf 49 = .ok (.ireturn, 1) := by decide +kernel
theorem dX7_longOf_0 : decode cX7_longOf 0 = .ok (.aload_n 0, 1) := by decide +kernel
theorem dX7_longOf_1 : decode cX7_longOf 1 = .ok (.iload_n 1, 1) := by decide +kernel
theorem dX7_longOf_2 : decode cX7_longOf 2 = .ok (.invokevirtual 167, 3) := by decide +kernel
theorem dX7_longOf_5 : decode cX7_longOf 5 = .ok (.istore_n 2, 1) := by decide +kernel
theorem dX7_longOf_6 : decode cX7_longOf 6 = .ok (.iload_n 2, 1) := by decide +kernel
theorem dX7_longOf_7 : decode cX7_longOf 7 = .ok (.iconst 2, 1) := by decide +kernel
theorem dX7_longOf_8 : decode cX7_longOf 8 = .ok (.if_icmp .ge 12, 3) := by decide +kernel
theorem dX7_longOf_11 : decode cX7_longOf 11 = .ok (.aload_n 0, 1) := by decide +kernel
theorem dX7_longOf_12 : decode cX7_longOf 12 = .ok (.iload_n 1, 1) := by decide +kernel
theorem dX7_longOf_13 : decode cX7_longOf 13 = .ok (.iconst 2, 1) := by decide +kernel
theorem dX7_longOf_14 : decode cX7_longOf 14 = .ok (.invokevirtual 55, 3) := by decide +kernel
theorem dX7_longOf_17 : decode cX7_longOf 17 = .ok (.goto 14, 3) := by decide +kernel
theorem dX7_longOf_20 : decode cX7_longOf 20 = .ok (.iload_n 2, 1) := by decide +kernel
theorem dX7_longOf_21 : decode cX7_longOf 21 = .ok (.iconst 2, 1) := by decide +kernel
theorem dX7_longOf_22 : decode cX7_longOf 22 = .ok (.if_icmp .ne 8, 3) := by decide +kernel
theorem dX7_longOf_25 : decode cX7_longOf 25 = .ok (.bipush 8, 2) := by decide +kernel
theorem dX7_longOf_27 : decode cX7_longOf 27 = .ok (.goto 4, 3) := by decide +kernel
theorem dX7_longOf_30 : decode cX7_longOf 30 = .ok (.iconst 1, 1) := by decide +kernel
theorem dX7_longOf_31 : decode cX7_longOf 31 = .ok (.ireturn, 1) := by decide +kernel
theorem dX7_captured_0 : decode cX7_captured 0 = .ok (.aload_n 0, 1) := by decide +kernel
theorem dX7_captured_1 : decode cX7_captured 1 = .ok (.iload_n 1, 1) := by decide +kernel
theorem dX7_captured_2 : decode cX7_captured 2 = .ok (.invokevirtual 167, 3) := by decide +kernel
theorem dX7_captured_5 : decode cX7_captured 5 = .ok (.istore_n 2, 1) := by decide +kernel
theorem dX7_captured_6 : decode cX7_captured 6 = .ok (.iload_n 2, 1) := by decide +kernel
theorem dX7_captured_7 : decode cX7_captured 7 = .ok (.iconst 2, 1) := by decide +kernel
theorem dX7_captured_8 : decode cX7_captured 8 = .ok (.if_icmp .lt 19, 3) := by decide +kernel
theorem dX7_captured_11 : decode cX7_captured 11 = .ok (.iload_n 2, 1) := by decide +kernel
theorem dX7_captured_12 : decode cX7_captured 12 = .ok (.iconst 2, 1) := by decide +kernel
theorem dX7_captured_13 : decode cX7_captured 13 = .ok (.if_icmp .ne 12, 3) := by decide +kernel
theorem dX7_captured_16 : decode cX7_captured 16 = .ok (.aload_n 0, 1) := by decide +kernel
theorem dX7_captured_17 : decode cX7_captured 17 = .ok (.iload_n 1, 1) := by decide +kernel
theorem dX7_captured_18 : decode cX7_captured 18 = .ok (.iconst 1, 1) := by decide +kernel
theorem dX7_captured_19 : decode cX7_captured 19 = .ok (.invokevirtual 55, 3) := by decide +kernel
theorem dX7_captured_22 : decode cX7_captured 22 = .ok (.goto 4, 3) := by decide +kernel
theorem dX7_captured_25 : decode cX7_captured 25 = .ok (.iconst 0, 1) := by decide +kernel
theorem dX7_captured_26 : decode cX7_captured 26 = .ok (.ireturn, 1) := by decide +kernel
theorem dX7_captured_27 : decode cX7_captured 27 = .ok (.iconst 0, 1) := by decide +kernel
theorem dX7_captured_28 : decode cX7_captured 28 = .ok (.istore_n 3, 1) := by decide +kernel
theorem dX7_captured_29 : decode cX7_captured 29 = .ok (.iconst 0, 1) := by decide +kernel
theorem dX7_captured_30 : decode cX7_captured 30 = .ok (.istore 4, 2) := by decide +kernel
theorem dX7_captured_32 : decode cX7_captured 32 = .ok (.iload 4, 2) := by decide +kernel
theorem dX7_captured_34 : decode cX7_captured 34 = .ok (.aload_n 0, 1) := by decide +kernel
theorem dX7_captured_35 : decode cX7_captured 35 = .ok (.iload_n 1, 1) := by decide +kernel
theorem dX7_captured_36 : decode cX7_captured 36 = .ok (.iconst 2, 1) := by decide +kernel
theorem dX7_captured_37 : decode cX7_captured 37 = .ok (.invokevirtual 55, 3) := by decide +kernel
theorem dX7_captured_40 : decode cX7_captured 40 = .ok (.if_icmp .ge 47, 3) := by decide +kernel
theorem dX7_captured_43 : decode cX7_captured 43 = .ok (.iload_n 3, 1) := by decide +kernel
theorem dX7_captured_44 : decode cX7_captured 44 = .ok (.aload_n 0, 1) := by decide +kernel
theorem dX7_captured_45 : decode cX7_captured 45 = .ok (.iload_n 1, 1) := by decide +kernel
theorem dX7_captured_46 : decode cX7_captured 46 = .ok (.iload 4, 2) := by decide +kernel
theorem dX7_captured_48 : decode cX7_captured 48 = .ok (.invokevirtual 124, 3) := by decide +kernel
theorem dX7_captured_51 : decode cX7_captured 51 = .ok (.ifCond .eq 18, 3) := by decide +kernel
theorem dX7_captured_54 : decode cX7_captured 54 = .ok (.aload_n 0, 1) := by decide +kernel
theorem dX7_captured_55 : decode cX7_captured 55 = .ok (.iload_n 1, 1) := by decide +kernel
theorem dX7_captured_56 : decode cX7_captured 56 = .ok (.bipush 6, 2) := by decide +kernel
theorem dX7_captured_58 : decode cX7_captured 58 = .ok (.invokevirtual 55, 3) := by decide +kernel
theorem dX7_captured_61 : decode cX7_captured 61 = .ok (.iload 4, 2) := by decide +kernel
theorem dX7_captured_63 : decode cX7_captured 63 = .ok (.ishr, 1) := by decide +kernel
theorem dX7_captured_64 : decode cX7_captured 64 = .ok (.iconst 1, 1) := by decide +kernel
theorem dX7_captured_65 : decode cX7_captured 65 = .ok (.iand, 1) := by decide +kernel
theorem dX7_captured_66 : decode cX7_captured 66 = .ok (.goto 10, 3) := by decide +kernel
theorem dX7_captured_69 : decode cX7_captured 69 = .ok (.aload_n 0, 1) := by decide +kernel
theorem dX7_captured_70 : decode cX7_captured 70 = .ok (.iload_n 1, 1) := by decide +kernel
theorem dX7_captured_71 : decode cX7_captured 71 = .ok (.iload 4, 2) := by decide +kernel
theorem dX7_captured_73 : decode cX7_captured 73 = .ok (.invokevirtual 170, 3) := by decide +kernel
theorem dX7_captured_76 : decode cX7_captured 76 = .ok (.iload 4, 2) := by decide +kernel
theorem dX7_captured_78 : decode cX7_captured 78 = .ok (.ishl, 1) := by decide +kernel
theorem dX7_captured_79 : decode cX7_captured 79 = .ok (.ior, 1) := by decide +kernel
theorem dX7_captured_80 : decode cX7_captured 80 = .ok (.istore_n 3, 1) := by decide +kernel
theorem dX7_captured_81 : decode cX7_captured 81 = .ok (.iinc 4 1, 3) := by decide +kernel
theorem dX7_captured_84 : decode cX7_captured 84 = .ok (.goto (-52), 3) := by decide +kernel
theorem dX7_captured_87 : decode cX7_captured 87 = .ok (.iload_n 3, 1) := by decide +kernel
theorem dX7_captured_88 : decode cX7_captured 88 = .ok (.ireturn, 1) := by decide +kernel
theorem dX7_shifts_0 : decode cX7_shifts 0 = .ok (.iload_n 2, 1) := by decide +kernel
theorem dX7_shifts_1 : decode cX7_shifts 1 = .ok (.istore_n 3, 1) := by decide +kernel
theorem dX7_shifts_2 : decode cX7_shifts 2 = .ok (.iconst 0, 1) := by decide +kernel
theorem dX7_shifts_3 : decode cX7_shifts 3 = .ok (.istore 4, 2) := by decide +kernel
theorem dX7_shifts_5 : decode cX7_shifts 5 = .ok (.iload 4, 2) := by decide +kernel
theorem dX7_shifts_7 : decode cX7_shifts 7 = .ok (.aload_n 0, 1) := by decide +kernel
theorem dX7_shifts_8 : decode cX7_shifts 8 = .ok (.invokevirtual 121, 3) := by decide +kernel
theorem dX7_shifts_11 : decode cX7_shifts 11 = .ok (.if_icmp .ge 68, 3) := by decide +kernel
theorem dX7_shifts_14 : decode cX7_shifts 14 = .ok (.iload_n 1, 1) := by decide +kernel
theorem dX7_shifts_15 : decode cX7_shifts 15 = .ok (.iconst 4, 1) := by decide +kernel
theorem dX7_shifts_16 : decode cX7_shifts 16 = .ok (.if_icmp .ne 13, 3) := by decide +kernel
theorem dX7_shifts_19 : decode cX7_shifts 19 = .ok (.aload_n 0, 1) := by decide +kernel
theorem dX7_shifts_20 : decode cX7_shifts 20 = .ok (.iload 4, 2) := by decide +kernel
theorem dX7_shifts_22 : decode cX7_shifts 22 = .ok (.iconst 0, 1) := by decide +kernel
theorem dX7_shifts_23 : decode cX7_shifts 23 = .ok (.invokevirtual 55, 3) := by decide +kernel
theorem dX7_shifts_26 : decode cX7_shifts 26 = .ok (.goto 9, 3) := by decide +kernel
theorem dX7_shifts_29 : decode cX7_shifts 29 = .ok (.aload_n 0, 1) := by decide +kernel
theorem dX7_shifts_30 : decode cX7_shifts 30 = .ok (.iload 4, 2) := by decide +kernel
theorem dX7_shifts_32 : decode cX7_shifts 32 = .ok (.invokevirtual 173, 3) := by decide +kernel
theorem dX7_shifts_35 : decode cX7_shifts 35 = .ok (.istore 5, 2) := by decide +kernel
theorem dX7_shifts_37 : decode cX7_shifts 37 = .ok (.aload_n 0, 1) := by decide +kernel
theorem dX7_shifts_38 : decode cX7_shifts 38 = .ok (.iload 4, 2) := by decide +kernel
theorem dX7_shifts_40 : decode cX7_shifts 40 = .ok (.iload_n 1, 1) := by decide +kernel
theorem dX7_shifts_41 : decode cX7_shifts 41 = .ok (.invokevirtual 55, 3) := by decide +kernel
theorem dX7_shifts_44 : decode cX7_shifts 44 = .ok (.istore 6, 2) := by decide +kernel
theorem dX7_shifts_46 : decode cX7_shifts 46 = .ok (.aload_n 0, 1) := by decide +kernel
theorem dX7_shifts_47 : decode cX7_shifts 47 = .ok (.getfield 7, 3) := by decide +kernel
theorem dX7_shifts_50 : decode cX7_shifts 50 = .ok (.iload 4, 2) := by decide +kernel
theorem dX7_shifts_52 : decode cX7_shifts 52 = .ok (.iload_n 1, 1) := by decide +kernel
theorem dX7_shifts_53 : decode cX7_shifts 53 = .ok (.invokestatic 47, 3) := by decide +kernel
theorem dX7_shifts_56 : decode cX7_shifts 56 = .ok (.iload 6, 2) := by decide +kernel
theorem dX7_shifts_58 : decode cX7_shifts 58 = .ok (.iconst 1, 1) := by decide +kernel
theorem dX7_shifts_59 : decode cX7_shifts 59 = .ok (.ishr, 1) := by decide +kernel
theorem dX7_shifts_60 : decode cX7_shifts 60 = .ok (.iload_n 3, 1) := by decide +kernel
theorem dX7_shifts_61 : decode cX7_shifts 61 = .ok (.iload 5, 2) := by decide +kernel
theorem dX7_shifts_63 : decode cX7_shifts 63 = .ok (.iconst 1, 1) := by decide +kernel
theorem dX7_shifts_64 : decode cX7_shifts 64 = .ok (.isub, 1) := by decide +kernel
theorem dX7_shifts_65 : decode cX7_shifts 65 = .ok (.ishl, 1) := by decide +kernel
theorem dX7_shifts_66 : decode cX7_shifts 66 = .ok (.ior, 1) := by decide +kernel
theorem dX7_shifts_67 : decode cX7_shifts 67 = .ok (.iastore, 1) := by decide +kernel
theorem dX7_shifts_68 : decode cX7_shifts 68 = .ok (.iload 6, 2) := by decide +kernel
theorem dX7_shifts_70 : decode cX7_shifts 70 = .ok (.iconst 1, 1) := by decide +kernel
theorem dX7_shifts_71 : decode cX7_shifts 71 = .ok (.iand, 1) := by decide +kernel
theorem dX7_shifts_72 : decode cX7_shifts 72 = .ok (.istore_n 3, 1) := by decide +kernel
theorem dX7_shifts_73 : decode cX7_shifts 73 = .ok (.iinc 4 1, 3) := by decide +kernel
theorem dX7_shifts_76 : decode cX7_shifts 76 = .ok (.goto (-71), 3) := by decide +kernel
theorem dX7_shifts_79 : decode cX7_shifts 79 = .ok (.iload_n 3, 1) := by decide +kernel
theorem dX7_shifts_80 : decode cX7_shifts 80 = .ok (.ireturn, 1) := by decide +kernel
theorem dX7_doesPlace_0 : decode cX7_doesPlace 0 = .ok (.aload_n 0, 1) := by decide +kernel
theorem dX7_doesPlace_1 : decode cX7_doesPlace 1 = .ok (.invokevirtual 164, 3) := by decide +kernel
theorem dX7_doesPlace_4 : decode cX7_doesPlace 4 = .ok (.iconst 0, 1) := by decide +kernel
theorem dX7_doesPlace_5 : decode cX7_doesPlace 5 = .ok (.istore_n 2, 1) := by decide +kernel
theorem dX7_doesPlace_6 : decode cX7_doesPlace 6 = .ok (.iload_n 2, 1) := by decide +kernel
theorem dX7_doesPlace_7 : decode cX7_doesPlace 7 = .ok (.aload_n 0, 1) := by decide +kernel
theorem dX7_doesPlace_8 : decode cX7_doesPlace 8 = .ok (.invokevirtual 121, 3) := by decide +kernel
theorem dX7_doesPlace_11 : decode cX7_doesPlace 11 = .ok (.if_icmp .ge 131, 3) := by decide +kernel
theorem dX7_doesPlace_14 : decode cX7_doesPlace 14 = .ok (.iload_n 1, 1) := by decide +kernel
theorem dX7_doesPlace_15 : decode cX7_doesPlace 15 = .ok (.ifCond .ne 21, 3) := by decide +kernel
theorem dX7_doesPlace_18 : decode cX7_doesPlace 18 = .ok (.aload_n 0, 1) := by decide +kernel
theorem dX7_doesPlace_19 : decode cX7_doesPlace 19 = .ok (.getfield 7, 3) := by decide +kernel
theorem dX7_doesPlace_22 : decode cX7_doesPlace 22 = .ok (.iload_n 2, 1) := by decide +kernel
theorem dX7_doesPlace_23 : decode cX7_doesPlace 23 = .ok (.iconst 3, 1) := by decide +kernel
theorem dX7_doesPlace_24 : decode cX7_doesPlace 24 = .ok (.invokestatic 47, 3) := by decide +kernel
theorem dX7_doesPlace_27 : decode cX7_doesPlace 27 = .ok (.aload_n 0, 1) := by decide +kernel
theorem dX7_doesPlace_28 : decode cX7_doesPlace 28 = .ok (.iload_n 2, 1) := by decide +kernel
theorem dX7_doesPlace_29 : decode cX7_doesPlace 29 = .ok (.invokevirtual 75, 3) := by decide +kernel
theorem dX7_doesPlace_32 : decode cX7_doesPlace 32 = .ok (.iastore, 1) := by decide +kernel
theorem dX7_doesPlace_33 : decode cX7_doesPlace 33 = .ok (.goto 103, 3) := by decide +kernel
theorem dX7_doesPlace_36 : decode cX7_doesPlace 36 = .ok (.iload_n 1, 1) := by decide +kernel
theorem dX7_doesPlace_37 : decode cX7_doesPlace 37 = .ok (.bipush 10, 2) := by decide +kernel
theorem dX7_doesPlace_39 : decode cX7_doesPlace 39 = .ok (.if_icmp .ne 17, 3) := by decide +kernel
theorem dX7_doesPlace_42 : decode cX7_doesPlace 42 = .ok (.aload_n 0, 1) := by decide +kernel
theorem dX7_doesPlace_43 : decode cX7_doesPlace 43 = .ok (.getfield 7, 3) := by decide +kernel
theorem dX7_doesPlace_46 : decode cX7_doesPlace 46 = .ok (.iload_n 2, 1) := by decide +kernel
theorem dX7_doesPlace_47 : decode cX7_doesPlace 47 = .ok (.iconst 4, 1) := by decide +kernel
theorem dX7_doesPlace_48 : decode cX7_doesPlace 48 = .ok (.invokestatic 47, 3) := by decide +kernel
theorem dX7_doesPlace_51 : decode cX7_doesPlace 51 = .ok (.iconst 1, 1) := by decide +kernel
theorem dX7_doesPlace_52 : decode cX7_doesPlace 52 = .ok (.iastore, 1) := by decide +kernel
theorem dX7_doesPlace_53 : decode cX7_doesPlace 53 = .ok (.goto 83, 3) := by decide +kernel
theorem dX7_doesPlace_56 : decode cX7_doesPlace 56 = .ok (.iload_n 1, 1) := by decide +kernel
theorem dX7_doesPlace_57 : decode cX7_doesPlace 57 = .ok (.iconst 3, 1) := by decide +kernel
theorem dX7_doesPlace_58 : decode cX7_doesPlace 58 = .ok (.if_icmp .ne 21, 3) := by decide +kernel
theorem dX7_doesPlace_61 : decode cX7_doesPlace 61 = .ok (.aload_n 0, 1) := by decide +kernel
theorem dX7_doesPlace_62 : decode cX7_doesPlace 62 = .ok (.getfield 7, 3) := by decide +kernel
theorem dX7_doesPlace_65 : decode cX7_doesPlace 65 = .ok (.iload_n 2, 1) := by decide +kernel
theorem dX7_doesPlace_66 : decode cX7_doesPlace 66 = .ok (.iconst 5, 1) := by decide +kernel
theorem dX7_doesPlace_67 : decode cX7_doesPlace 67 = .ok (.invokestatic 47, 3) := by decide +kernel
theorem dX7_doesPlace_70 : decode cX7_doesPlace 70 = .ok (.aload_n 0, 1) := by decide +kernel
theorem dX7_doesPlace_71 : decode cX7_doesPlace 71 = .ok (.iload_n 2, 1) := by decide +kernel
theorem dX7_doesPlace_72 : decode cX7_doesPlace 72 = .ok (.invokevirtual 176, 3) := by decide +kernel
theorem dX7_doesPlace_75 : decode cX7_doesPlace 75 = .ok (.iastore, 1) := by decide +kernel
theorem dX7_doesPlace_76 : decode cX7_doesPlace 76 = .ok (.goto 60, 3) := by decide +kernel
theorem dX7_doesPlace_79 : decode cX7_doesPlace 79 = .ok (.iload_n 1, 1) := by decide +kernel
theorem dX7_doesPlace_80 : decode cX7_doesPlace 80 = .ok (.bipush 15, 2) := by decide +kernel
theorem dX7_doesPlace_82 : decode cX7_doesPlace 82 = .ok (.if_icmp .ne 22, 3) := by decide +kernel
theorem dX7_doesPlace_85 : decode cX7_doesPlace 85 = .ok (.aload_n 0, 1) := by decide +kernel
theorem dX7_doesPlace_86 : decode cX7_doesPlace 86 = .ok (.getfield 7, 3) := by decide +kernel
theorem dX7_doesPlace_89 : decode cX7_doesPlace 89 = .ok (.iload_n 2, 1) := by decide +kernel
theorem dX7_doesPlace_90 : decode cX7_doesPlace 90 = .ok (.iconst 3, 1) := by decide +kernel
theorem dX7_doesPlace_91 : decode cX7_doesPlace 91 = .ok (.invokestatic 47, 3) := by decide +kernel
theorem dX7_doesPlace_94 : decode cX7_doesPlace 94 = .ok (.aload_n 0, 1) := by decide +kernel
theorem dX7_doesPlace_95 : decode cX7_doesPlace 95 = .ok (.iload_n 2, 1) := by decide +kernel
theorem dX7_doesPlace_96 : decode cX7_doesPlace 96 = .ok (.iconst 4, 1) := by decide +kernel
theorem dX7_doesPlace_97 : decode cX7_doesPlace 97 = .ok (.invokevirtual 55, 3) := by decide +kernel
theorem dX7_doesPlace_100 : decode cX7_doesPlace 100 = .ok (.iastore, 1) := by decide +kernel
theorem dX7_doesPlace_101 : decode cX7_doesPlace 101 = .ok (.goto 35, 3) := by decide +kernel
theorem dX7_doesPlace_104 : decode cX7_doesPlace 104 = .ok (.iload_n 1, 1) := by decide +kernel
theorem dX7_doesPlace_105 : decode cX7_doesPlace 105 = .ok (.bipush 8, 2) := by decide +kernel
theorem dX7_doesPlace_107 : decode cX7_doesPlace 107 = .ok (.if_icmp .ne 29, 3) := by decide +kernel
theorem dX7_doesPlace_110 : decode cX7_doesPlace 110 = .ok (.aload_n 0, 1) := by decide +kernel
theorem dX7_doesPlace_111 : decode cX7_doesPlace 111 = .ok (.iload_n 2, 1) := by decide +kernel
theorem dX7_doesPlace_112 : decode cX7_doesPlace 112 = .ok (.invokevirtual 167, 3) := by decide +kernel
theorem dX7_doesPlace_115 : decode cX7_doesPlace 115 = .ok (.iconst 2, 1) := by decide +kernel
theorem dX7_doesPlace_116 : decode cX7_doesPlace 116 = .ok (.if_icmp .ge 20, 3) := by decide +kernel
theorem dX7_doesPlace_119 : decode cX7_doesPlace 119 = .ok (.aload_n 0, 1) := by decide +kernel
theorem dX7_doesPlace_120 : decode cX7_doesPlace 120 = .ok (.getfield 7, 3) := by decide +kernel
theorem dX7_doesPlace_123 : decode cX7_doesPlace 123 = .ok (.iload_n 2, 1) := by decide +kernel
theorem dX7_doesPlace_124 : decode cX7_doesPlace 124 = .ok (.bipush 6, 2) := by decide +kernel
theorem dX7_doesPlace_126 : decode cX7_doesPlace 126 = .ok (.invokestatic 47, 3) := by decide +kernel
theorem dX7_doesPlace_129 : decode cX7_doesPlace 129 = .ok (.aload_n 0, 1) := by decide +kernel
theorem dX7_doesPlace_130 : decode cX7_doesPlace 130 = .ok (.iload_n 2, 1) := by decide +kernel
theorem dX7_doesPlace_131 : decode cX7_doesPlace 131 = .ok (.iconst 5, 1) := by decide +kernel
theorem dX7_doesPlace_132 : decode cX7_doesPlace 132 = .ok (.invokevirtual 55, 3) := by decide +kernel
theorem dX7_doesPlace_135 : decode cX7_doesPlace 135 = .ok (.iastore, 1) := by decide +kernel
theorem dX7_doesPlace_136 : decode cX7_doesPlace 136 = .ok (.iinc 2 1, 3) := by decide +kernel
theorem dX7_doesPlace_139 : decode cX7_doesPlace 139 = .ok (.goto (-133), 3) := by decide +kernel
theorem dX7_doesPlace_142 : decode cX7_doesPlace 142 = .ok (.return_, 1) := by decide +kernel
theorem dX7_nextPlace_0 : decode cX7_nextPlace 0 = .ok (.iload_n 0, 1) := by decide +kernel
theorem dX7_nextPlace_1 : decode cX7_nextPlace 1 = .ok (.tableswitch 200 0 14 #[75, 200, 85, 96, 96, 106, 118, 130, 200, 141, 152, 152, 164, 176, 188], 75) := by decide +kernel
theorem dX7_nextPlace_76 : decode cX7_nextPlace 76 = .ok (.iload_n 1, 1) := by decide +kernel
theorem dX7_nextPlace_77 : decode cX7_nextPlace 77 = .ok (.ifCond .ne 7, 3) := by decide +kernel
theorem dX7_nextPlace_80 : decode cX7_nextPlace 80 = .ok (.iconst 1, 1) := by decide +kernel
theorem dX7_nextPlace_81 : decode cX7_nextPlace 81 = .ok (.goto 4, 3) := by decide +kernel
theorem dX7_nextPlace_84 : decode cX7_nextPlace 84 = .ok (.iconst 0, 1) := by decide +kernel
theorem dX7_nextPlace_85 : decode cX7_nextPlace 85 = .ok (.ireturn, 1) := by decide +kernel
theorem dX7_nextPlace_86 : decode cX7_nextPlace 86 = .ok (.iload_n 1, 1) := by decide +kernel
theorem dX7_nextPlace_87 : decode cX7_nextPlace 87 = .ok (.ifCond .ne 7, 3) := by decide +kernel
theorem dX7_nextPlace_90 : decode cX7_nextPlace 90 = .ok (.iconst 3, 1) := by decide +kernel
theorem dX7_nextPlace_91 : decode cX7_nextPlace 91 = .ok (.goto 5, 3) := by decide +kernel
theorem dX7_nextPlace_94 : decode cX7_nextPlace 94 = .ok (.bipush 9, 2) := by decide +kernel
theorem dX7_nextPlace_96 : decode cX7_nextPlace 96 = .ok (.ireturn, 1) := by decide +kernel
theorem dX7_nextPlace_97 : decode cX7_nextPlace 97 = .ok (.iload_n 1, 1) := by decide +kernel
theorem dX7_nextPlace_98 : decode cX7_nextPlace 98 = .ok (.ifCond .ne 7, 3) := by decide +kernel
theorem dX7_nextPlace_101 : decode cX7_nextPlace 101 = .ok (.iconst 4, 1) := by decide +kernel
theorem dX7_nextPlace_102 : decode cX7_nextPlace 102 = .ok (.goto 4, 3) := by decide +kernel
theorem dX7_nextPlace_105 : decode cX7_nextPlace 105 = .ok (.iconst 5, 1) := by decide +kernel
theorem dX7_nextPlace_106 : decode cX7_nextPlace 106 = .ok (.ireturn, 1) := by decide +kernel
theorem dX7_nextPlace_107 : decode cX7_nextPlace 107 = .ok (.iload_n 1, 1) := by decide +kernel
theorem dX7_nextPlace_108 : decode cX7_nextPlace 108 = .ok (.ifCond .ne 8, 3) := by decide +kernel
theorem dX7_nextPlace_111 : decode cX7_nextPlace 111 = .ok (.bipush 6, 2) := by decide +kernel
theorem dX7_nextPlace_113 : decode cX7_nextPlace 113 = .ok (.goto 5, 3) := by decide +kernel
theorem dX7_nextPlace_116 : decode cX7_nextPlace 116 = .ok (.bipush 8, 2) := by decide +kernel
theorem dX7_nextPlace_118 : decode cX7_nextPlace 118 = .ok (.ireturn, 1) := by decide +kernel
theorem dX7_nextPlace_119 : decode cX7_nextPlace 119 = .ok (.iload_n 1, 1) := by decide +kernel
theorem dX7_nextPlace_120 : decode cX7_nextPlace 120 = .ok (.ifCond .ne 8, 3) := by decide +kernel
theorem dX7_nextPlace_123 : decode cX7_nextPlace 123 = .ok (.bipush 6, 2) := by decide +kernel
theorem dX7_nextPlace_125 : decode cX7_nextPlace 125 = .ok (.goto 5, 3) := by decide +kernel
theorem dX7_nextPlace_128 : decode cX7_nextPlace 128 = .ok (.bipush 7, 2) := by decide +kernel
theorem dX7_nextPlace_130 : decode cX7_nextPlace 130 = .ok (.ireturn, 1) := by decide +kernel
theorem dX7_nextPlace_131 : decode cX7_nextPlace 131 = .ok (.iload_n 1, 1) := by decide +kernel
theorem dX7_nextPlace_132 : decode cX7_nextPlace 132 = .ok (.ifCond .ne 7, 3) := by decide +kernel
theorem dX7_nextPlace_135 : decode cX7_nextPlace 135 = .ok (.iconst 4, 1) := by decide +kernel
theorem dX7_nextPlace_136 : decode cX7_nextPlace 136 = .ok (.goto 5, 3) := by decide +kernel
theorem dX7_nextPlace_139 : decode cX7_nextPlace 139 = .ok (.bipush 8, 2) := by decide +kernel
theorem dX7_nextPlace_141 : decode cX7_nextPlace 141 = .ok (.ireturn, 1) := by decide +kernel
theorem dX7_nextPlace_142 : decode cX7_nextPlace 142 = .ok (.iload_n 1, 1) := by decide +kernel
theorem dX7_nextPlace_143 : decode cX7_nextPlace 143 = .ok (.ifCond .ne 8, 3) := by decide +kernel
theorem dX7_nextPlace_146 : decode cX7_nextPlace 146 = .ok (.bipush 10, 2) := by decide +kernel
theorem dX7_nextPlace_148 : decode cX7_nextPlace 148 = .ok (.goto 4, 3) := by decide +kernel
theorem dX7_nextPlace_151 : decode cX7_nextPlace 151 = .ok (.iconst 0, 1) := by decide +kernel
theorem dX7_nextPlace_152 : decode cX7_nextPlace 152 = .ok (.ireturn, 1) := by decide +kernel
theorem dX7_nextPlace_153 : decode cX7_nextPlace 153 = .ok (.iload_n 1, 1) := by decide +kernel
theorem dX7_nextPlace_154 : decode cX7_nextPlace 154 = .ok (.ifCond .ne 8, 3) := by decide +kernel
theorem dX7_nextPlace_157 : decode cX7_nextPlace 157 = .ok (.bipush 11, 2) := by decide +kernel
theorem dX7_nextPlace_159 : decode cX7_nextPlace 159 = .ok (.goto 5, 3) := by decide +kernel
theorem dX7_nextPlace_162 : decode cX7_nextPlace 162 = .ok (.bipush 12, 2) := by decide +kernel
theorem dX7_nextPlace_164 : decode cX7_nextPlace 164 = .ok (.ireturn, 1) := by decide +kernel
theorem dX7_nextPlace_165 : decode cX7_nextPlace 165 = .ok (.iload_n 1, 1) := by decide +kernel
theorem dX7_nextPlace_166 : decode cX7_nextPlace 166 = .ok (.ifCond .ne 8, 3) := by decide +kernel
theorem dX7_nextPlace_169 : decode cX7_nextPlace 169 = .ok (.bipush 13, 2) := by decide +kernel
theorem dX7_nextPlace_171 : decode cX7_nextPlace 171 = .ok (.goto 5, 3) := by decide +kernel
theorem dX7_nextPlace_174 : decode cX7_nextPlace 174 = .ok (.bipush 15, 2) := by decide +kernel
theorem dX7_nextPlace_176 : decode cX7_nextPlace 176 = .ok (.ireturn, 1) := by decide +kernel
theorem dX7_nextPlace_177 : decode cX7_nextPlace 177 = .ok (.iload_n 1, 1) := by decide +kernel
theorem dX7_nextPlace_178 : decode cX7_nextPlace 178 = .ok (.ifCond .ne 8, 3) := by decide +kernel
theorem dX7_nextPlace_181 : decode cX7_nextPlace 181 = .ok (.bipush 13, 2) := by decide +kernel
theorem dX7_nextPlace_183 : decode cX7_nextPlace 183 = .ok (.goto 5, 3) := by decide +kernel
theorem dX7_nextPlace_186 : decode cX7_nextPlace 186 = .ok (.bipush 14, 2) := by decide +kernel
theorem dX7_nextPlace_188 : decode cX7_nextPlace 188 = .ok (.ireturn, 1) := by decide +kernel
theorem dX7_nextPlace_189 : decode cX7_nextPlace 189 = .ok (.iload_n 1, 1) := by decide +kernel
theorem dX7_nextPlace_190 : decode cX7_nextPlace 190 = .ok (.ifCond .ne 8, 3) := by decide +kernel
theorem dX7_nextPlace_193 : decode cX7_nextPlace 193 = .ok (.bipush 11, 2) := by decide +kernel
theorem dX7_nextPlace_195 : decode cX7_nextPlace 195 = .ok (.goto 5, 3) := by decide +kernel
theorem dX7_nextPlace_198 : decode cX7_nextPlace 198 = .ok (.bipush 15, 2) := by decide +kernel
theorem dX7_nextPlace_200 : decode cX7_nextPlace 200 = .ok (.ireturn, 1) := by decide +kernel
theorem dX7_nextPlace_201 : decode cX7_nextPlace 201 = .ok (.iload_n 1, 1) := by decide +kernel
theorem dX7_nextPlace_202 : decode cX7_nextPlace 202 = .ok (.ifCond .ne 7, 3) := by decide +kernel
theorem dX7_nextPlace_205 : decode cX7_nextPlace 205 = .ok (.iconst 1, 1) := by decide +kernel
theorem dX7_nextPlace_206 : decode cX7_nextPlace 206 = .ok (.goto 4, 3) := by decide +kernel
theorem dX7_nextPlace_209 : decode cX7_nextPlace 209 = .ok (.iconst 2, 1) := by decide +kernel
theorem dX7_nextPlace_210 : decode cX7_nextPlace 210 = .ok (.ireturn, 1) := by decide +kernel
theorem dX7_clocksOnce_0 : decode cX7_clocksOnce 0 = .ok (.aload_n 0, 1) := by decide +kernel
theorem dX7_clocksOnce_1 : decode cX7_clocksOnce 1 = .ok (.getfield 7, 3) := by decide +kernel
theorem dX7_clocksOnce_4 : decode cX7_clocksOnce 4 = .ok (.iconst 1, 1) := by decide +kernel
theorem dX7_clocksOnce_5 : decode cX7_clocksOnce 5 = .ok (.iaload, 1) := by decide +kernel
theorem dX7_clocksOnce_6 : decode cX7_clocksOnce 6 = .ok (.istore_n 3, 1) := by decide +kernel
theorem dX7_clocksOnce_7 : decode cX7_clocksOnce 7 = .ok (.iconst 2, 1) := by decide +kernel
theorem dX7_clocksOnce_8 : decode cX7_clocksOnce 8 = .ok (.istore 4, 2) := by decide +kernel
theorem dX7_clocksOnce_10 : decode cX7_clocksOnce 10 = .ok (.iload_n 3, 1) := by decide +kernel
theorem dX7_clocksOnce_11 : decode cX7_clocksOnce 11 = .ok (.iconst 4, 1) := by decide +kernel
theorem dX7_clocksOnce_12 : decode cX7_clocksOnce 12 = .ok (.if_icmp .eq 9, 3) := by decide +kernel
theorem dX7_clocksOnce_15 : decode cX7_clocksOnce 15 = .ok (.iload_n 3, 1) := by decide +kernel
theorem dX7_clocksOnce_16 : decode cX7_clocksOnce 16 = .ok (.bipush 11, 2) := by decide +kernel
theorem dX7_clocksOnce_18 : decode cX7_clocksOnce 18 = .ok (.if_icmp .ne 24, 3) := by decide +kernel
theorem dX7_clocksOnce_21 : decode cX7_clocksOnce 21 = .ok (.aload_n 0, 1) := by decide +kernel
theorem dX7_clocksOnce_22 : decode cX7_clocksOnce 22 = .ok (.iload_n 3, 1) := by decide +kernel
theorem dX7_clocksOnce_23 : decode cX7_clocksOnce 23 = .ok (.bipush 11, 2) := by decide +kernel
theorem dX7_clocksOnce_25 : decode cX7_clocksOnce 25 = .ok (.if_icmp .ne 7, 3) := by decide +kernel
theorem dX7_clocksOnce_28 : decode cX7_clocksOnce 28 = .ok (.iconst 4, 1) := by decide +kernel
theorem dX7_clocksOnce_29 : decode cX7_clocksOnce 29 = .ok (.goto 4, 3) := by decide +kernel
theorem dX7_clocksOnce_32 : decode cX7_clocksOnce 32 = .ok (.iconst 5, 1) := by decide +kernel
theorem dX7_clocksOnce_33 : decode cX7_clocksOnce 33 = .ok (.iload_n 2, 1) := by decide +kernel
theorem dX7_clocksOnce_34 : decode cX7_clocksOnce 34 = .ok (.invokevirtual 179, 3) := by decide +kernel
theorem dX7_clocksOnce_37 : decode cX7_clocksOnce 37 = .ok (.istore 4, 2) := by decide +kernel
theorem dX7_clocksOnce_39 : decode cX7_clocksOnce 39 = .ok (.goto 8, 3) := by decide +kernel
theorem dX7_clocksOnce_42 : decode cX7_clocksOnce 42 = .ok (.aload_n 0, 1) := by decide +kernel
theorem dX7_clocksOnce_43 : decode cX7_clocksOnce 43 = .ok (.iload_n 3, 1) := by decide +kernel
theorem dX7_clocksOnce_44 : decode cX7_clocksOnce 44 = .ok (.invokevirtual 182, 3) := by decide +kernel
theorem dX7_clocksOnce_47 : decode cX7_clocksOnce 47 = .ok (.aload_n 0, 1) := by decide +kernel
theorem dX7_clocksOnce_48 : decode cX7_clocksOnce 48 = .ok (.getfield 7, 3) := by decide +kernel
theorem dX7_clocksOnce_51 : decode cX7_clocksOnce 51 = .ok (.iconst 1, 1) := by decide +kernel
theorem dX7_clocksOnce_52 : decode cX7_clocksOnce 52 = .ok (.iload_n 3, 1) := by decide +kernel
theorem dX7_clocksOnce_53 : decode cX7_clocksOnce 53 = .ok (.iload_n 1, 1) := by decide +kernel
theorem dX7_clocksOnce_54 : decode cX7_clocksOnce 54 = .ok (.invokestatic 185, 3) := by decide +kernel
theorem dX7_clocksOnce_57 : decode cX7_clocksOnce 57 = .ok (.iastore, 1) := by decide +kernel
theorem dX7_clocksOnce_58 : decode cX7_clocksOnce 58 = .ok (.iload 4, 2) := by decide +kernel
theorem dX7_clocksOnce_60 : decode cX7_clocksOnce 60 = .ok (.ireturn, 1) := by decide +kernel
theorem dX7_clocksTo_0 : decode cX7_clocksTo 0 = .ok (.iload_n 1, 1) := by decide +kernel
theorem dX7_clocksTo_1 : decode cX7_clocksTo 1 = .ok (.invokestatic 79, 3) := by decide +kernel
theorem dX7_clocksTo_4 : decode cX7_clocksTo 4 = .ok (.ifCond .eq 19, 3) := by decide +kernel
theorem dX7_clocksTo_7 : decode cX7_clocksTo 7 = .ok (.iload_n 2, 1) := by decide +kernel
theorem dX7_clocksTo_8 : decode cX7_clocksTo 8 = .ok (.invokestatic 79, 3) := by decide +kernel
theorem dX7_clocksTo_11 : decode cX7_clocksTo 11 = .ok (.ifCond .eq 12, 3) := by decide +kernel
theorem dX7_clocksTo_14 : decode cX7_clocksTo 14 = .ok (.aload_n 0, 1) := by decide +kernel
theorem dX7_clocksTo_15 : decode cX7_clocksTo 15 = .ok (.iload_n 1, 1) := by decide +kernel
theorem dX7_clocksTo_16 : decode cX7_clocksTo 16 = .ok (.iload_n 2, 1) := by decide +kernel
theorem dX7_clocksTo_17 : decode cX7_clocksTo 17 = .ok (.invokevirtual 188, 3) := by decide +kernel
theorem dX7_clocksTo_20 : decode cX7_clocksTo 20 = .ok (.goto 5, 3) := by decide +kernel
theorem dX7_clocksTo_23 : decode cX7_clocksTo 23 = .ok (.bipush (-2), 2) := by decide +kernel
theorem dX7_clocksTo_25 : decode cX7_clocksTo 25 = .ok (.ireturn, 1) := by decide +kernel
theorem dX7_clock_0 : decode cX7_clock 0 = .ok (.aload_n 0, 1) := by decide +kernel
theorem dX7_clock_1 : decode cX7_clock 1 = .ok (.invokevirtual 93, 3) := by decide +kernel
theorem dX7_clock_4 : decode cX7_clock 4 = .ok (.aload_n 0, 1) := by decide +kernel
theorem dX7_clock_5 : decode cX7_clock 5 = .ok (.aload_n 0, 1) := by decide +kernel
theorem dX7_clock_6 : decode cX7_clock 6 = .ok (.iload_n 1, 1) := by decide +kernel
theorem dX7_clock_7 : decode cX7_clock 7 = .ok (.iload_n 2, 1) := by decide +kernel
theorem dX7_clock_8 : decode cX7_clock 8 = .ok (.invokevirtual 191, 3) := by decide +kernel
theorem dX7_clock_11 : decode cX7_clock 11 = .ok (.invokevirtual 99, 3) := by decide +kernel
theorem dX7_clock_14 : decode cX7_clock 14 = .ok (.ireturn, 1) := by decide +kernel
theorem dX7_clocks_0 : decode cX7_clocks 0 = .ok (.iload_n 1, 1) := by decide +kernel
theorem dX7_clocks_1 : decode cX7_clocks 1 = .ok (.iconst 1, 1) := by decide +kernel
theorem dX7_clocks_2 : decode cX7_clocks 2 = .ok (.bipush 16, 2) := by decide +kernel
theorem dX7_clocks_4 : decode cX7_clocks 4 = .ok (.invokestatic 43, 3) := by decide +kernel
theorem dX7_clocks_7 : decode cX7_clocks 7 = .ok (.ifCond .eq 23, 3) := by decide +kernel
theorem dX7_clocks_10 : decode cX7_clocks 10 = .ok (.iload_n 2, 1) := by decide +kernel
theorem dX7_clocks_11 : decode cX7_clocks 11 = .ok (.iconst 0, 1) := by decide +kernel
theorem dX7_clocks_12 : decode cX7_clocks 12 = .ok (.ldc 194, 2) := by decide +kernel
theorem dX7_clocks_14 : decode cX7_clocks 14 = .ok (.invokestatic 43, 3) := by decide +kernel
theorem dX7_clocks_17 : decode cX7_clocks 17 = .ok (.ifCond .eq 13, 3) := by decide +kernel
theorem dX7_clocks_20 : decode cX7_clocks 20 = .ok (.iload_n 3, 1) := by decide +kernel
theorem dX7_clocks_21 : decode cX7_clocks 21 = .ok (.iconst 0, 1) := by decide +kernel
theorem dX7_clocks_22 : decode cX7_clocks 22 = .ok (.ldc 194, 2) := by decide +kernel
theorem dX7_clocks_24 : decode cX7_clocks 24 = .ok (.invokestatic 43, 3) := by decide +kernel
theorem dX7_clocks_27 : decode cX7_clocks 27 = .ok (.ifCond .ne 8, 3) := by decide +kernel
theorem dX7_clocks_30 : decode cX7_clocks 30 = .ok (.aload_n 0, 1) := by decide +kernel
theorem dX7_clocks_31 : decode cX7_clocks 31 = .ok (.invokevirtual 72, 3) := by decide +kernel
theorem dX7_clocks_34 : decode cX7_clocks 34 = .ok (.ireturn, 1) := by decide +kernel
theorem dX7_clocks_35 : decode cX7_clocks 35 = .ok (.aload_n 0, 1) := by decide +kernel
theorem dX7_clocks_36 : decode cX7_clocks 36 = .ok (.invokevirtual 93, 3) := by decide +kernel
theorem dX7_clocks_39 : decode cX7_clocks 39 = .ok (.iconst 0, 1) := by decide +kernel
theorem dX7_clocks_40 : decode cX7_clocks 40 = .ok (.istore 4, 2) := by decide +kernel
theorem dX7_clocks_42 : decode cX7_clocks 42 = .ok (.iconst 0, 1) := by decide +kernel
theorem dX7_clocks_43 : decode cX7_clocks 43 = .ok (.istore 5, 2) := by decide +kernel
theorem dX7_clocks_45 : decode cX7_clocks 45 = .ok (.iconst 0, 1) := by decide +kernel
theorem dX7_clocks_46 : decode cX7_clocks 46 = .ok (.istore 6, 2) := by decide +kernel
theorem dX7_clocks_48 : decode cX7_clocks 48 = .ok (.iload 6, 2) := by decide +kernel
theorem dX7_clocks_50 : decode cX7_clocks 50 = .ok (.iload_n 1, 1) := by decide +kernel
theorem dX7_clocks_51 : decode cX7_clocks 51 = .ok (.if_icmp .ge 62, 3) := by decide +kernel
theorem dX7_clocks_54 : decode cX7_clocks 54 = .ok (.aload_n 0, 1) := by decide +kernel
theorem dX7_clocks_55 : decode cX7_clocks 55 = .ok (.iload_n 2, 1) := by decide +kernel
theorem dX7_clocks_56 : decode cX7_clocks 56 = .ok (.iload 6, 2) := by decide +kernel
theorem dX7_clocks_58 : decode cX7_clocks 58 = .ok (.ishr, 1) := by decide +kernel
theorem dX7_clocks_59 : decode cX7_clocks 59 = .ok (.iconst 1, 1) := by decide +kernel
theorem dX7_clocks_60 : decode cX7_clocks 60 = .ok (.iand, 1) := by decide +kernel
theorem dX7_clocks_61 : decode cX7_clocks 61 = .ok (.iload_n 3, 1) := by decide +kernel
theorem dX7_clocks_62 : decode cX7_clocks 62 = .ok (.iload 6, 2) := by decide +kernel
theorem dX7_clocks_64 : decode cX7_clocks 64 = .ok (.ishr, 1) := by decide +kernel
theorem dX7_clocks_65 : decode cX7_clocks 65 = .ok (.iconst 1, 1) := by decide +kernel
theorem dX7_clocks_66 : decode cX7_clocks 66 = .ok (.iand, 1) := by decide +kernel
theorem dX7_clocks_67 : decode cX7_clocks 67 = .ok (.invokevirtual 188, 3) := by decide +kernel
theorem dX7_clocks_70 : decode cX7_clocks 70 = .ok (.istore 7, 2) := by decide +kernel
theorem dX7_clocks_72 : decode cX7_clocks 72 = .ok (.iload 4, 2) := by decide +kernel
theorem dX7_clocks_74 : decode cX7_clocks 74 = .ok (.iload 7, 2) := by decide +kernel
theorem dX7_clocks_76 : decode cX7_clocks 76 = .ok (.iconst 1, 1) := by decide +kernel
theorem dX7_clocks_77 : decode cX7_clocks 77 = .ok (.if_icmp .ne 10, 3) := by decide +kernel
theorem dX7_clocks_80 : decode cX7_clocks 80 = .ok (.iconst 1, 1) := by decide +kernel
theorem dX7_clocks_81 : decode cX7_clocks 81 = .ok (.iload 5, 2) := by decide +kernel
theorem dX7_clocks_83 : decode cX7_clocks 83 = .ok (.ishl, 1) := by decide +kernel
theorem dX7_clocks_84 : decode cX7_clocks 84 = .ok (.goto 4, 3) := by decide +kernel
theorem dX7_clocks_87 : decode cX7_clocks 87 = .ok (.iconst 0, 1) := by decide +kernel
theorem dX7_clocks_88 : decode cX7_clocks 88 = .ok (.ior, 1) := by decide +kernel
theorem dX7_clocks_89 : decode cX7_clocks 89 = .ok (.istore 4, 2) := by decide +kernel
theorem dX7_clocks_91 : decode cX7_clocks 91 = .ok (.iload 5, 2) := by decide +kernel
theorem dX7_clocks_93 : decode cX7_clocks 93 = .ok (.iload 7, 2) := by decide +kernel
theorem dX7_clocks_95 : decode cX7_clocks 95 = .ok (.iconst 2, 1) := by decide +kernel
theorem dX7_clocks_96 : decode cX7_clocks 96 = .ok (.if_icmp .ge 7, 3) := by decide +kernel
theorem dX7_clocks_99 : decode cX7_clocks 99 = .ok (.iconst 1, 1) := by decide +kernel
theorem dX7_clocks_100 : decode cX7_clocks 100 = .ok (.goto 4, 3) := by decide +kernel
theorem dX7_clocks_103 : decode cX7_clocks 103 = .ok (.iconst 0, 1) := by decide +kernel
theorem dX7_clocks_104 : decode cX7_clocks 104 = .ok (.iadd, 1) := by decide +kernel
theorem dX7_clocks_105 : decode cX7_clocks 105 = .ok (.istore 5, 2) := by decide +kernel
theorem dX7_clocks_107 : decode cX7_clocks 107 = .ok (.iinc 6 1, 3) := by decide +kernel
theorem dX7_clocks_110 : decode cX7_clocks 110 = .ok (.goto (-62), 3) := by decide +kernel
theorem dX7_clocks_113 : decode cX7_clocks 113 = .ok (.aload_n 0, 1) := by decide +kernel
theorem dX7_clocks_114 : decode cX7_clocks 114 = .ok (.invokevirtual 66, 3) := by decide +kernel
theorem dX7_clocks_117 : decode cX7_clocks 117 = .ok (.iload 4, 2) := by decide +kernel
theorem dX7_clocks_119 : decode cX7_clocks 119 = .ok (.ireturn, 1) := by decide +kernel
theorem dX7_longAll_0 : decode cX7_longAll 0 = .ok (.iconst 0, 1) := by decide +kernel
theorem dX7_longAll_1 : decode cX7_longAll 1 = .ok (.istore_n 2, 1) := by decide +kernel
theorem dX7_longAll_2 : decode cX7_longAll 2 = .ok (.iconst 0, 1) := by decide +kernel
theorem dX7_longAll_3 : decode cX7_longAll 3 = .ok (.istore_n 3, 1) := by decide +kernel
theorem dX7_longAll_4 : decode cX7_longAll 4 = .ok (.iload_n 3, 1) := by decide +kernel
theorem dX7_longAll_5 : decode cX7_longAll 5 = .ok (.aload_n 0, 1) := by decide +kernel
theorem dX7_longAll_6 : decode cX7_longAll 6 = .ok (.invokevirtual 121, 3) := by decide +kernel
theorem dX7_longAll_9 : decode cX7_longAll 9 = .ok (.if_icmp .ge 30, 3) := by decide +kernel
theorem dX7_longAll_12 : decode cX7_longAll 12 = .ok (.iload_n 2, 1) := by decide +kernel
theorem dX7_longAll_13 : decode cX7_longAll 13 = .ok (.iload_n 1, 1) := by decide +kernel
theorem dX7_longAll_14 : decode cX7_longAll 14 = .ok (.ifCond .eq 12, 3) := by decide +kernel
theorem dX7_longAll_17 : decode cX7_longAll 17 = .ok (.aload_n 0, 1) := by decide +kernel
theorem dX7_longAll_18 : decode cX7_longAll 18 = .ok (.iload_n 3, 1) := by decide +kernel
theorem dX7_longAll_19 : decode cX7_longAll 19 = .ok (.iconst 0, 1) := by decide +kernel
theorem dX7_longAll_20 : decode cX7_longAll 20 = .ok (.invokevirtual 55, 3) := by decide +kernel
theorem dX7_longAll_23 : decode cX7_longAll 23 = .ok (.goto 8, 3) := by decide +kernel
theorem dX7_longAll_26 : decode cX7_longAll 26 = .ok (.aload_n 0, 1) := by decide +kernel
theorem dX7_longAll_27 : decode cX7_longAll 27 = .ok (.iload_n 3, 1) := by decide +kernel
theorem dX7_longAll_28 : decode cX7_longAll 28 = .ok (.invokevirtual 173, 3) := by decide +kernel
theorem dX7_longAll_31 : decode cX7_longAll 31 = .ok (.iadd, 1) := by decide +kernel
theorem dX7_longAll_32 : decode cX7_longAll 32 = .ok (.istore_n 2, 1) := by decide +kernel
theorem dX7_longAll_33 : decode cX7_longAll 33 = .ok (.iinc 3 1, 3) := by decide +kernel
theorem dX7_longAll_36 : decode cX7_longAll 36 = .ok (.goto (-32), 3) := by decide +kernel
theorem dX7_longAll_39 : decode cX7_longAll 39 = .ok (.iload_n 2, 1) := by decide +kernel
theorem dX7_longAll_40 : decode cX7_longAll 40 = .ok (.ireturn, 1) := by decide +kernel
theorem dX7_fightsNow_0 : decode cX7_fightsNow 0 = .ok (.aload_n 0, 1) := by decide +kernel
theorem dX7_fightsNow_1 : decode cX7_fightsNow 1 = .ok (.invokevirtual 164, 3) := by decide +kernel
theorem dX7_fightsNow_4 : decode cX7_fightsNow 4 = .ok (.aload_n 0, 1) := by decide +kernel
theorem dX7_fightsNow_5 : decode cX7_fightsNow 5 = .ok (.getfield 148, 3) := by decide +kernel
theorem dX7_fightsNow_8 : decode cX7_fightsNow 8 = .ok (.ireturn, 1) := by decide +kernel
theorem dX7_tellPort_0 : decode cX7_tellPort 0 = .ok (.iload_n 1, 1) := by decide +kernel
theorem dX7_tellPort_1 : decode cX7_tellPort 1 = .ok (.tableswitch 55 0 3 #[31, 38, 44, 50], 31) := by decide +kernel
theorem dX7_tellPort_32 : decode cX7_tellPort 32 = .ok (.aload_n 0, 1) := by decide +kernel
theorem dX7_tellPort_33 : decode cX7_tellPort 33 = .ok (.getfield 7, 3) := by decide +kernel
theorem dX7_tellPort_36 : decode cX7_tellPort 36 = .ok (.iconst 1, 1) := by decide +kernel
theorem dX7_tellPort_37 : decode cX7_tellPort 37 = .ok (.iaload, 1) := by decide +kernel
theorem dX7_tellPort_38 : decode cX7_tellPort 38 = .ok (.ireturn, 1) := by decide +kernel
theorem dX7_tellPort_39 : decode cX7_tellPort 39 = .ok (.aload_n 0, 1) := by decide +kernel
theorem dX7_tellPort_40 : decode cX7_tellPort 40 = .ok (.iconst 0, 1) := by decide +kernel
theorem dX7_tellPort_41 : decode cX7_tellPort 41 = .ok (.invokevirtual 195, 3) := by decide +kernel
theorem dX7_tellPort_44 : decode cX7_tellPort 44 = .ok (.ireturn, 1) := by decide +kernel
theorem dX7_tellPort_45 : decode cX7_tellPort 45 = .ok (.aload_n 0, 1) := by decide +kernel
theorem dX7_tellPort_46 : decode cX7_tellPort 46 = .ok (.iconst 1, 1) := by decide +kernel
theorem dX7_tellPort_47 : decode cX7_tellPort 47 = .ok (.invokevirtual 195, 3) := by decide +kernel
theorem dX7_tellPort_50 : decode cX7_tellPort 50 = .ok (.ireturn, 1) := by decide +kernel
theorem dX7_tellPort_51 : decode cX7_tellPort 51 = .ok (.aload_n 0, 1) := by decide +kernel
theorem dX7_tellPort_52 : decode cX7_tellPort 52 = .ok (.invokevirtual 199, 3) := by decide +kernel
theorem dX7_tellPort_55 : decode cX7_tellPort 55 = .ok (.ireturn, 1) := by decide +kernel
theorem dX7_tellPort_56 : decode cX7_tellPort 56 = .ok (.aload_n 0, 1) := by decide +kernel
theorem dX7_tellPort_57 : decode cX7_tellPort 57 = .ok (.invokevirtual 202, 3) := by decide +kernel
theorem dX7_tellPort_60 : decode cX7_tellPort 60 = .ok (.ireturn, 1) := by decide +kernel
theorem dX7_port_0 : decode cX7_port 0 = .ok (.iload_n 1, 1) := by decide +kernel
theorem dX7_port_1 : decode cX7_port 1 = .ok (.iconst 0, 1) := by decide +kernel
theorem dX7_port_2 : decode cX7_port 2 = .ok (.iconst 4, 1) := by decide +kernel
theorem dX7_port_3 : decode cX7_port 3 = .ok (.invokestatic 43, 3) := by decide +kernel
theorem dX7_port_6 : decode cX7_port 6 = .ok (.ifCond .eq 11, 3) := by decide +kernel
theorem dX7_port_9 : decode cX7_port 9 = .ok (.aload_n 0, 1) := by decide +kernel
theorem dX7_port_10 : decode cX7_port 10 = .ok (.iload_n 1, 1) := by decide +kernel
theorem dX7_port_11 : decode cX7_port 11 = .ok (.invokevirtual 205, 3) := by decide +kernel
theorem dX7_port_14 : decode cX7_port 14 = .ok (.goto 7, 3) := by decide +kernel
theorem dX7_port_17 : decode cX7_port 17 = .ok (.aload_n 0, 1) := by decide +kernel
theorem dX7_port_18 : decode cX7_port 18 = .ok (.invokevirtual 72, 3) := by decide +kernel
theorem dX7_port_21 : decode cX7_port 21 = .ok (.ireturn, 1) := by decide +kernel
theorem dX7_tellChip_0 : decode cX7_tellChip 0 = .ok (.iload_n 2, 1) := by decide +kernel
theorem dX7_tellChip_1 : decode cX7_tellChip 1 = .ok (.tableswitch 91 0 6 #[43, 50, 57, 64, 71, 77, 84], 43) := by decide +kernel
theorem dX7_tellChip_44 : decode cX7_tellChip 44 = .ok (.aload_n 0, 1) := by decide +kernel
theorem dX7_tellChip_45 : decode cX7_tellChip 45 = .ok (.iload_n 1, 1) := by decide +kernel
theorem dX7_tellChip_46 : decode cX7_tellChip 46 = .ok (.iconst 0, 1) := by decide +kernel
theorem dX7_tellChip_47 : decode cX7_tellChip 47 = .ok (.invokevirtual 55, 3) := by decide +kernel
theorem dX7_tellChip_50 : decode cX7_tellChip 50 = .ok (.ireturn, 1) := by decide +kernel
theorem dX7_tellChip_51 : decode cX7_tellChip 51 = .ok (.aload_n 0, 1) := by decide +kernel
theorem dX7_tellChip_52 : decode cX7_tellChip 52 = .ok (.iload_n 1, 1) := by decide +kernel
theorem dX7_tellChip_53 : decode cX7_tellChip 53 = .ok (.iconst 1, 1) := by decide +kernel
theorem dX7_tellChip_54 : decode cX7_tellChip 54 = .ok (.invokevirtual 55, 3) := by decide +kernel
theorem dX7_tellChip_57 : decode cX7_tellChip 57 = .ok (.ireturn, 1) := by decide +kernel
theorem dX7_tellChip_58 : decode cX7_tellChip 58 = .ok (.aload_n 0, 1) := by decide +kernel
theorem dX7_tellChip_59 : decode cX7_tellChip 59 = .ok (.iload_n 1, 1) := by decide +kernel
theorem dX7_tellChip_60 : decode cX7_tellChip 60 = .ok (.iconst 2, 1) := by decide +kernel
theorem dX7_tellChip_61 : decode cX7_tellChip 61 = .ok (.invokevirtual 55, 3) := by decide +kernel
theorem dX7_tellChip_64 : decode cX7_tellChip 64 = .ok (.ireturn, 1) := by decide +kernel
theorem dX7_tellChip_65 : decode cX7_tellChip 65 = .ok (.aload_n 0, 1) := by decide +kernel
theorem dX7_tellChip_66 : decode cX7_tellChip 66 = .ok (.iload_n 1, 1) := by decide +kernel
theorem dX7_tellChip_67 : decode cX7_tellChip 67 = .ok (.iconst 3, 1) := by decide +kernel
theorem dX7_tellChip_68 : decode cX7_tellChip 68 = .ok (.invokevirtual 55, 3) := by decide +kernel
theorem dX7_tellChip_71 : decode cX7_tellChip 71 = .ok (.ireturn, 1) := by decide +kernel
theorem dX7_tellChip_72 : decode cX7_tellChip 72 = .ok (.aload_n 0, 1) := by decide +kernel
theorem dX7_tellChip_73 : decode cX7_tellChip 73 = .ok (.iload_n 1, 1) := by decide +kernel
theorem dX7_tellChip_74 : decode cX7_tellChip 74 = .ok (.invokevirtual 173, 3) := by decide +kernel
theorem dX7_tellChip_77 : decode cX7_tellChip 77 = .ok (.ireturn, 1) := by decide +kernel
theorem dX7_tellChip_78 : decode cX7_tellChip 78 = .ok (.aload_n 0, 1) := by decide +kernel
theorem dX7_tellChip_79 : decode cX7_tellChip 79 = .ok (.iload_n 1, 1) := by decide +kernel
theorem dX7_tellChip_80 : decode cX7_tellChip 80 = .ok (.iconst 4, 1) := by decide +kernel
theorem dX7_tellChip_81 : decode cX7_tellChip 81 = .ok (.invokevirtual 55, 3) := by decide +kernel
theorem dX7_tellChip_84 : decode cX7_tellChip 84 = .ok (.ireturn, 1) := by decide +kernel
theorem dX7_tellChip_85 : decode cX7_tellChip 85 = .ok (.aload_n 0, 1) := by decide +kernel
theorem dX7_tellChip_86 : decode cX7_tellChip 86 = .ok (.iload_n 1, 1) := by decide +kernel
theorem dX7_tellChip_87 : decode cX7_tellChip 87 = .ok (.iconst 5, 1) := by decide +kernel
theorem dX7_tellChip_88 : decode cX7_tellChip 88 = .ok (.invokevirtual 55, 3) := by decide +kernel
theorem dX7_tellChip_91 : decode cX7_tellChip 91 = .ok (.ireturn, 1) := by decide +kernel
theorem dX7_tellChip_92 : decode cX7_tellChip 92 = .ok (.aload_n 0, 1) := by decide +kernel
theorem dX7_tellChip_93 : decode cX7_tellChip 93 = .ok (.iload_n 1, 1) := by decide +kernel
theorem dX7_tellChip_94 : decode cX7_tellChip 94 = .ok (.bipush 6, 2) := by decide +kernel
theorem dX7_tellChip_96 : decode cX7_tellChip 96 = .ok (.invokevirtual 55, 3) := by decide +kernel
theorem dX7_tellChip_99 : decode cX7_tellChip 99 = .ok (.ireturn, 1) := by decide +kernel
theorem dX7_of_0 : decode cX7_of 0 = .ok (.aload_n 0, 1) := by decide +kernel
theorem dX7_of_1 : decode cX7_of 1 = .ok (.iload_n 1, 1) := by decide +kernel
theorem dX7_of_2 : decode cX7_of 2 = .ok (.invokevirtual 51, 3) := by decide +kernel
theorem dX7_of_5 : decode cX7_of 5 = .ok (.ifCond .eq 22, 3) := by decide +kernel
theorem dX7_of_8 : decode cX7_of 8 = .ok (.iload_n 2, 1) := by decide +kernel
theorem dX7_of_9 : decode cX7_of 9 = .ok (.iconst 0, 1) := by decide +kernel
theorem dX7_of_10 : decode cX7_of 10 = .ok (.bipush 7, 2) := by decide +kernel
theorem dX7_of_12 : decode cX7_of 12 = .ok (.invokestatic 43, 3) := by decide +kernel
theorem dX7_of_15 : decode cX7_of 15 = .ok (.ifCond .eq 12, 3) := by decide +kernel
theorem dX7_of_18 : decode cX7_of 18 = .ok (.aload_n 0, 1) := by decide +kernel
theorem dX7_of_19 : decode cX7_of 19 = .ok (.iload_n 1, 1) := by decide +kernel
theorem dX7_of_20 : decode cX7_of 20 = .ok (.iload_n 2, 1) := by decide +kernel
theorem dX7_of_21 : decode cX7_of 21 = .ok (.invokevirtual 208, 3) := by decide +kernel
theorem dX7_of_24 : decode cX7_of 24 = .ok (.goto 7, 3) := by decide +kernel
theorem dX7_of_27 : decode cX7_of 27 = .ok (.aload_n 0, 1) := by decide +kernel
theorem dX7_of_28 : decode cX7_of 28 = .ok (.invokevirtual 72, 3) := by decide +kernel
theorem dX7_of_31 : decode cX7_of 31 = .ok (.ireturn, 1) := by decide +kernel
theorem dX7_tellCell_0 : decode cX7_tellCell 0 = .ok (.iload_n 3, 1) := by decide +kernel
theorem dX7_tellCell_1 : decode cX7_tellCell 1 = .ok (.iconst 2, 1) := by decide +kernel
theorem dX7_tellCell_2 : decode cX7_tellCell 2 = .ok (.if_icmp .ge 17, 3) := by decide +kernel
theorem dX7_tellCell_5 : decode cX7_tellCell 5 = .ok (.aload_n 0, 1) := by decide +kernel
theorem dX7_tellCell_6 : decode cX7_tellCell 6 = .ok (.iload_n 1, 1) := by decide +kernel
theorem dX7_tellCell_7 : decode cX7_tellCell 7 = .ok (.bipush 7, 2) := by decide +kernel
theorem dX7_tellCell_9 : decode cX7_tellCell 9 = .ok (.iconst 2, 1) := by decide +kernel
theorem dX7_tellCell_10 : decode cX7_tellCell 10 = .ok (.iload_n 2, 1) := by decide +kernel
theorem dX7_tellCell_11 : decode cX7_tellCell 11 = .ok (.imul, 1) := by decide +kernel
theorem dX7_tellCell_12 : decode cX7_tellCell 12 = .ok (.iadd, 1) := by decide +kernel
theorem dX7_tellCell_13 : decode cX7_tellCell 13 = .ok (.iload_n 3, 1) := by decide +kernel
theorem dX7_tellCell_14 : decode cX7_tellCell 14 = .ok (.iadd, 1) := by decide +kernel
theorem dX7_tellCell_15 : decode cX7_tellCell 15 = .ok (.invokevirtual 55, 3) := by decide +kernel
theorem dX7_tellCell_18 : decode cX7_tellCell 18 = .ok (.ireturn, 1) := by decide +kernel
theorem dX7_tellCell_19 : decode cX7_tellCell 19 = .ok (.aload_n 0, 1) := by decide +kernel
theorem dX7_tellCell_20 : decode cX7_tellCell 20 = .ok (.invokevirtual 164, 3) := by decide +kernel
theorem dX7_tellCell_23 : decode cX7_tellCell 23 = .ok (.aload_n 0, 1) := by decide +kernel
theorem dX7_tellCell_24 : decode cX7_tellCell 24 = .ok (.iload_n 1, 1) := by decide +kernel
theorem dX7_tellCell_25 : decode cX7_tellCell 25 = .ok (.iload_n 2, 1) := by decide +kernel
theorem dX7_tellCell_26 : decode cX7_tellCell 26 = .ok (.invokevirtual 124, 3) := by decide +kernel
theorem dX7_tellCell_29 : decode cX7_tellCell 29 = .ok (.ifCond .eq 17, 3) := by decide +kernel
theorem dX7_tellCell_32 : decode cX7_tellCell 32 = .ok (.aload_n 0, 1) := by decide +kernel
theorem dX7_tellCell_33 : decode cX7_tellCell 33 = .ok (.iload_n 1, 1) := by decide +kernel
theorem dX7_tellCell_34 : decode cX7_tellCell 34 = .ok (.bipush 6, 2) := by decide +kernel
theorem dX7_tellCell_36 : decode cX7_tellCell 36 = .ok (.invokevirtual 55, 3) := by decide +kernel
theorem dX7_tellCell_39 : decode cX7_tellCell 39 = .ok (.iload_n 2, 1) := by decide +kernel
theorem dX7_tellCell_40 : decode cX7_tellCell 40 = .ok (.ishr, 1) := by decide +kernel
theorem dX7_tellCell_41 : decode cX7_tellCell 41 = .ok (.iconst 1, 1) := by decide +kernel
theorem dX7_tellCell_42 : decode cX7_tellCell 42 = .ok (.iand, 1) := by decide +kernel
theorem dX7_tellCell_43 : decode cX7_tellCell 43 = .ok (.goto 9, 3) := by decide +kernel
theorem dX7_tellCell_46 : decode cX7_tellCell 46 = .ok (.aload_n 0, 1) := by decide +kernel
theorem dX7_tellCell_47 : decode cX7_tellCell 47 = .ok (.iload_n 1, 1) := by decide +kernel
theorem dX7_tellCell_48 : decode cX7_tellCell 48 = .ok (.iload_n 2, 1) := by decide +kernel
theorem dX7_tellCell_49 : decode cX7_tellCell 49 = .ok (.invokevirtual 170, 3) := by decide +kernel
theorem dX7_tellCell_52 : decode cX7_tellCell 52 = .ok (.ireturn, 1) := by decide +kernel
theorem dX7_about_0 : decode cX7_about 0 = .ok (.aload_n 0, 1) := by decide +kernel
theorem dX7_about_1 : decode cX7_about 1 = .ok (.iload_n 1, 1) := by decide +kernel
theorem dX7_about_2 : decode cX7_about 2 = .ok (.iload_n 2, 1) := by decide +kernel
theorem dX7_about_3 : decode cX7_about 3 = .ok (.invokevirtual 85, 3) := by decide +kernel
theorem dX7_about_6 : decode cX7_about 6 = .ok (.ifCond .eq 22, 3) := by decide +kernel
theorem dX7_about_9 : decode cX7_about 9 = .ok (.iload_n 3, 1) := by decide +kernel
theorem dX7_about_10 : decode cX7_about 10 = .ok (.iconst 0, 1) := by decide +kernel
theorem dX7_about_11 : decode cX7_about 11 = .ok (.iconst 2, 1) := by decide +kernel
theorem dX7_about_12 : decode cX7_about 12 = .ok (.invokestatic 43, 3) := by decide +kernel
theorem dX7_about_15 : decode cX7_about 15 = .ok (.ifCond .eq 13, 3) := by decide +kernel
theorem dX7_about_18 : decode cX7_about 18 = .ok (.aload_n 0, 1) := by decide +kernel
theorem dX7_about_19 : decode cX7_about 19 = .ok (.iload_n 1, 1) := by decide +kernel
theorem dX7_about_20 : decode cX7_about 20 = .ok (.iload_n 2, 1) := by decide +kernel
theorem dX7_about_21 : decode cX7_about 21 = .ok (.iload_n 3, 1) := by decide +kernel
theorem dX7_about_22 : decode cX7_about 22 = .ok (.invokevirtual 211, 3) := by decide +kernel
theorem dX7_about_25 : decode cX7_about 25 = .ok (.goto 7, 3) := by decide +kernel
theorem dX7_about_28 : decode cX7_about 28 = .ok (.aload_n 0, 1) := by decide +kernel
theorem dX7_about_29 : decode cX7_about 29 = .ok (.invokevirtual 72, 3) := by decide +kernel
theorem dX7_about_32 : decode cX7_about 32 = .ok (.ireturn, 1) := by decide +kernel
theorem dX7_cells_0 : decode cX7_cells 0 = .ok (.iconst 0, 1) := by decide +kernel
theorem dX7_cells_1 : decode cX7_cells 1 = .ok (.istore_n 1, 1) := by decide +kernel
theorem dX7_cells_2 : decode cX7_cells 2 = .ok (.iconst 0, 1) := by decide +kernel
theorem dX7_cells_3 : decode cX7_cells 3 = .ok (.istore_n 2, 1) := by decide +kernel
theorem dX7_cells_4 : decode cX7_cells 4 = .ok (.iload_n 2, 1) := by decide +kernel
theorem dX7_cells_5 : decode cX7_cells 5 = .ok (.aload_n 0, 1) := by decide +kernel
theorem dX7_cells_6 : decode cX7_cells 6 = .ok (.invokevirtual 121, 3) := by decide +kernel
theorem dX7_cells_9 : decode cX7_cells 9 = .ok (.if_icmp .ge 18, 3) := by decide +kernel
theorem dX7_cells_12 : decode cX7_cells 12 = .ok (.iload_n 1, 1) := by decide +kernel
theorem dX7_cells_13 : decode cX7_cells 13 = .ok (.aload_n 0, 1) := by decide +kernel
theorem dX7_cells_14 : decode cX7_cells 14 = .ok (.iload_n 2, 1) := by decide +kernel
theorem dX7_cells_15 : decode cX7_cells 15 = .ok (.iconst 2, 1) := by decide +kernel
theorem dX7_cells_16 : decode cX7_cells 16 = .ok (.invokevirtual 55, 3) := by decide +kernel
theorem dX7_cells_19 : decode cX7_cells 19 = .ok (.iadd, 1) := by decide +kernel
theorem dX7_cells_20 : decode cX7_cells 20 = .ok (.istore_n 1, 1) := by decide +kernel
theorem dX7_cells_21 : decode cX7_cells 21 = .ok (.iinc 2 1, 3) := by decide +kernel
theorem dX7_cells_24 : decode cX7_cells 24 = .ok (.goto (-20), 3) := by decide +kernel
theorem dX7_cells_27 : decode cX7_cells 27 = .ok (.iload_n 1, 1) := by decide +kernel
theorem dX7_cells_28 : decode cX7_cells 28 = .ok (.ireturn, 1) := by decide +kernel
theorem dX7_countOf_0 : decode cX7_countOf 0 = .ok (.iload_n 1, 1) := by decide +kernel
theorem dX7_countOf_1 : decode cX7_countOf 1 = .ok (.tableswitch 53 0 3 #[31, 36, 41, 48], 31) := by decide +kernel
theorem dX7_countOf_32 : decode cX7_countOf 32 = .ok (.aload_n 0, 1) := by decide +kernel
theorem dX7_countOf_33 : decode cX7_countOf 33 = .ok (.invokevirtual 121, 3) := by decide +kernel
theorem dX7_countOf_36 : decode cX7_countOf 36 = .ok (.ireturn, 1) := by decide +kernel
theorem dX7_countOf_37 : decode cX7_countOf 37 = .ok (.aload_n 0, 1) := by decide +kernel
theorem dX7_countOf_38 : decode cX7_countOf 38 = .ok (.invokevirtual 214, 3) := by decide +kernel
theorem dX7_countOf_41 : decode cX7_countOf 41 = .ok (.ireturn, 1) := by decide +kernel
theorem dX7_countOf_42 : decode cX7_countOf 42 = .ok (.aload_n 0, 1) := by decide +kernel
theorem dX7_countOf_43 : decode cX7_countOf 43 = .ok (.getfield 7, 3) := by decide +kernel
theorem dX7_countOf_46 : decode cX7_countOf 46 = .ok (.iconst 2, 1) := by decide +kernel
theorem dX7_countOf_47 : decode cX7_countOf 47 = .ok (.iaload, 1) := by decide +kernel
theorem dX7_countOf_48 : decode cX7_countOf 48 = .ok (.ireturn, 1) := by decide +kernel
theorem dX7_countOf_49 : decode cX7_countOf 49 = .ok (.aload_n 0, 1) := by decide +kernel
theorem dX7_countOf_50 : decode cX7_countOf 50 = .ok (.invokevirtual 217, 3) := by decide +kernel
theorem dX7_countOf_53 : decode cX7_countOf 53 = .ok (.ireturn, 1) := by decide +kernel
theorem dX7_countOf_54 : decode cX7_countOf 54 = .ok (.aload_n 0, 1) := by decide +kernel
theorem dX7_countOf_55 : decode cX7_countOf 55 = .ok (.invokevirtual 130, 3) := by decide +kernel
theorem dX7_countOf_58 : decode cX7_countOf 58 = .ok (.ireturn, 1) := by decide +kernel
theorem dX7_count_0 : decode cX7_count 0 = .ok (.iload_n 1, 1) := by decide +kernel
theorem dX7_count_1 : decode cX7_count 1 = .ok (.iconst 0, 1) := by decide +kernel
theorem dX7_count_2 : decode cX7_count 2 = .ok (.iconst 4, 1) := by decide +kernel
theorem dX7_count_3 : decode cX7_count 3 = .ok (.invokestatic 43, 3) := by decide +kernel
theorem dX7_count_6 : decode cX7_count 6 = .ok (.ifCond .eq 11, 3) := by decide +kernel
theorem dX7_count_9 : decode cX7_count 9 = .ok (.aload_n 0, 1) := by decide +kernel
theorem dX7_count_10 : decode cX7_count 10 = .ok (.iload_n 1, 1) := by decide +kernel
theorem dX7_count_11 : decode cX7_count 11 = .ok (.invokevirtual 220, 3) := by decide +kernel
theorem dX7_count_14 : decode cX7_count 14 = .ok (.goto 7, 3) := by decide +kernel
theorem dX7_count_17 : decode cX7_count 17 = .ok (.aload_n 0, 1) := by decide +kernel
theorem dX7_count_18 : decode cX7_count 18 = .ok (.invokevirtual 72, 3) := by decide +kernel
theorem dX7_count_21 : decode cX7_count 21 = .ok (.ireturn, 1) := by decide +kernel
theorem dX7_fault_0 : decode cX7_fault 0 = .ok (.iload_n 1, 1) := by decide +kernel
theorem dX7_fault_1 : decode cX7_fault 1 = .ok (.ifCond .ge 8, 3) := by decide +kernel
theorem dX7_fault_4 : decode cX7_fault 4 = .ok (.aload_n 0, 1) := by decide +kernel
theorem dX7_fault_5 : decode cX7_fault 5 = .ok (.invokevirtual 72, 3) := by decide +kernel
theorem dX7_fault_8 : decode cX7_fault 8 = .ok (.ireturn, 1) := by decide +kernel
theorem dX7_fault_9 : decode cX7_fault 9 = .ok (.iload_n 1, 1) := by decide +kernel
theorem dX7_fault_10 : decode cX7_fault 10 = .ok (.aload_n 0, 1) := by decide +kernel
theorem dX7_fault_11 : decode cX7_fault 11 = .ok (.getfield 7, 3) := by decide +kernel
theorem dX7_fault_14 : decode cX7_fault 14 = .ok (.iconst 2, 1) := by decide +kernel
theorem dX7_fault_15 : decode cX7_fault 15 = .ok (.iaload, 1) := by decide +kernel
theorem dX7_fault_16 : decode cX7_fault 16 = .ok (.if_icmp .ge 14, 3) := by decide +kernel
theorem dX7_fault_19 : decode cX7_fault 19 = .ok (.aload_n 0, 1) := by decide +kernel
theorem dX7_fault_20 : decode cX7_fault 20 = .ok (.getfield 7, 3) := by decide +kernel
theorem dX7_fault_23 : decode cX7_fault 23 = .ok (.iconst 3, 1) := by decide +kernel
theorem dX7_fault_24 : decode cX7_fault 24 = .ok (.iload_n 1, 1) := by decide +kernel
theorem dX7_fault_25 : decode cX7_fault 25 = .ok (.iadd, 1) := by decide +kernel
theorem dX7_fault_26 : decode cX7_fault 26 = .ok (.iaload, 1) := by decide +kernel
theorem dX7_fault_27 : decode cX7_fault 27 = .ok (.goto 4, 3) := by decide +kernel
theorem dX7_fault_30 : decode cX7_fault 30 = .ok (.iconst (-1), 1) := by decide +kernel
theorem dX7_fault_31 : decode cX7_fault 31 = .ok (.ireturn, 1) := by decide +kernel
theorem dX7_patternsOf_0 : decode cX7_patternsOf 0 = .ok (.aload_n 0, 1) := by decide +kernel
theorem dX7_patternsOf_1 : decode cX7_patternsOf 1 = .ok (.invokevirtual 136, 3) := by decide +kernel
theorem dX7_patternsOf_4 : decode cX7_patternsOf 4 = .ok (.iconst 1, 1) := by decide +kernel
theorem dX7_patternsOf_5 : decode cX7_patternsOf 5 = .ok (.iload_n 1, 1) := by decide +kernel
theorem dX7_patternsOf_6 : decode cX7_patternsOf 6 = .ok (.iadd, 1) := by decide +kernel
theorem dX7_patternsOf_7 : decode cX7_patternsOf 7 = .ok (.imul, 1) := by decide +kernel
theorem dX7_patternsOf_8 : decode cX7_patternsOf 8 = .ok (.ireturn, 1) := by decide +kernel
theorem dX7_patterns_0 : decode cX7_patterns 0 = .ok (.iload_n 1, 1) := by decide +kernel
theorem dX7_patterns_1 : decode cX7_patterns 1 = .ok (.invokestatic 79, 3) := by decide +kernel
theorem dX7_patterns_4 : decode cX7_patterns 4 = .ok (.ifCond .eq 11, 3) := by decide +kernel
theorem dX7_patterns_7 : decode cX7_patterns 7 = .ok (.aload_n 0, 1) := by decide +kernel
theorem dX7_patterns_8 : decode cX7_patterns 8 = .ok (.iload_n 1, 1) := by decide +kernel
theorem dX7_patterns_9 : decode cX7_patterns 9 = .ok (.invokevirtual 223, 3) := by decide +kernel
theorem dX7_patterns_12 : decode cX7_patterns 12 = .ok (.goto 7, 3) := by decide +kernel
theorem dX7_patterns_15 : decode cX7_patterns 15 = .ok (.aload_n 0, 1) := by decide +kernel
theorem dX7_patterns_16 : decode cX7_patterns 16 = .ok (.invokevirtual 72, 3) := by decide +kernel
theorem dX7_patterns_19 : decode cX7_patterns 19 = .ok (.ireturn, 1) := by decide +kernel
theorem dX7_pattern_0 : decode cX7_pattern 0 = .ok (.iload_n 1, 1) := by decide +kernel
theorem dX7_pattern_1 : decode cX7_pattern 1 = .ok (.invokestatic 79, 3) := by decide +kernel
theorem dX7_pattern_4 : decode cX7_pattern 4 = .ok (.ifCond .eq 25, 3) := by decide +kernel
theorem dX7_pattern_7 : decode cX7_pattern 7 = .ok (.iload_n 2, 1) := by decide +kernel
theorem dX7_pattern_8 : decode cX7_pattern 8 = .ok (.iconst 0, 1) := by decide +kernel
theorem dX7_pattern_9 : decode cX7_pattern 9 = .ok (.aload_n 0, 1) := by decide +kernel
theorem dX7_pattern_10 : decode cX7_pattern 10 = .ok (.iload_n 1, 1) := by decide +kernel
theorem dX7_pattern_11 : decode cX7_pattern 11 = .ok (.invokevirtual 223, 3) := by decide +kernel
theorem dX7_pattern_14 : decode cX7_pattern 14 = .ok (.iconst 1, 1) := by decide +kernel
theorem dX7_pattern_15 : decode cX7_pattern 15 = .ok (.isub, 1) := by decide +kernel
theorem dX7_pattern_16 : decode cX7_pattern 16 = .ok (.invokestatic 43, 3) := by decide +kernel
theorem dX7_pattern_19 : decode cX7_pattern 19 = .ok (.ifCond .eq 10, 3) := by decide +kernel
theorem dX7_pattern_22 : decode cX7_pattern 22 = .ok (.iload_n 3, 1) := by decide +kernel
theorem dX7_pattern_23 : decode cX7_pattern 23 = .ok (.invokestatic 82, 3) := by decide +kernel
theorem dX7_pattern_26 : decode cX7_pattern 26 = .ok (.ifCond .ne 8, 3) := by decide +kernel
theorem dX7_pattern_29 : decode cX7_pattern 29 = .ok (.aload_n 0, 1) := by decide +kernel
theorem dX7_pattern_30 : decode cX7_pattern 30 = .ok (.invokevirtual 72, 3) := by decide +kernel
theorem dX7_pattern_33 : decode cX7_pattern 33 = .ok (.ireturn, 1) := by decide +kernel
theorem dX7_pattern_34 : decode cX7_pattern 34 = .ok (.aload_n 0, 1) := by decide +kernel
theorem dX7_pattern_35 : decode cX7_pattern 35 = .ok (.invokevirtual 130, 3) := by decide +kernel
theorem dX7_pattern_38 : decode cX7_pattern 38 = .ok (.iload_n 3, 1) := by decide +kernel
theorem dX7_pattern_39 : decode cX7_pattern 39 = .ok (.invokestatic 151, 3) := by decide +kernel
theorem dX7_pattern_42 : decode cX7_pattern 42 = .ok (.ifCond .eq 12, 3) := by decide +kernel
theorem dX7_pattern_45 : decode cX7_pattern 45 = .ok (.aload_n 0, 1) := by decide +kernel
theorem dX7_pattern_46 : decode cX7_pattern 46 = .ok (.iload_n 2, 1) := by decide +kernel
theorem dX7_pattern_47 : decode cX7_pattern 47 = .ok (.iload_n 3, 1) := by decide +kernel
theorem dX7_pattern_48 : decode cX7_pattern 48 = .ok (.invokevirtual 142, 3) := by decide +kernel
theorem dX7_pattern_51 : decode cX7_pattern 51 = .ok (.goto 4, 3) := by decide +kernel
theorem dX7_pattern_54 : decode cX7_pattern 54 = .ok (.iconst (-1), 1) := by decide +kernel
theorem dX7_pattern_55 : decode cX7_pattern 55 = .ok (.ireturn, 1) := by decide +kernel
theorem dX7_laysAnswers_0 : decode cX7_laysAnswers 0 = .ok (.iconst 0, 1) := by decide +kernel
theorem dX7_laysAnswers_1 : decode cX7_laysAnswers 1 = .ok (.istore_n 3, 1) := by decide +kernel
theorem dX7_laysAnswers_2 : decode cX7_laysAnswers 2 = .ok (.iload_n 3, 1) := by decide +kernel
theorem dX7_laysAnswers_3 : decode cX7_laysAnswers 3 = .ok (.bipush 24, 2) := by decide +kernel
theorem dX7_laysAnswers_5 : decode cX7_laysAnswers 5 = .ok (.if_icmp .ge 13, 3) := by decide +kernel
theorem dX7_laysAnswers_8 : decode cX7_laysAnswers 8 = .ok (.aload_n 2, 1) := by decide +kernel
theorem dX7_laysAnswers_9 : decode cX7_laysAnswers 9 = .ok (.iload_n 3, 1) := by decide +kernel
theorem dX7_laysAnswers_10 : decode cX7_laysAnswers 10 = .ok (.iconst 0, 1) := by decide +kernel
theorem dX7_laysAnswers_11 : decode cX7_laysAnswers 11 = .ok (.iastore, 1) := by decide +kernel
theorem dX7_laysAnswers_12 : decode cX7_laysAnswers 12 = .ok (.iinc 3 1, 3) := by decide +kernel
theorem dX7_laysAnswers_15 : decode cX7_laysAnswers 15 = .ok (.goto (-13), 3) := by decide +kernel
theorem dX7_laysAnswers_18 : decode cX7_laysAnswers 18 = .ok (.aload_n 0, 1) := by decide +kernel
theorem dX7_laysAnswers_19 : decode cX7_laysAnswers 19 = .ok (.iload_n 1, 1) := by decide +kernel
theorem dX7_laysAnswers_20 : decode cX7_laysAnswers 20 = .ok (.invokevirtual 223, 3) := by decide +kernel
theorem dX7_laysAnswers_23 : decode cX7_laysAnswers 23 = .ok (.istore_n 3, 1) := by decide +kernel
theorem dX7_laysAnswers_24 : decode cX7_laysAnswers 24 = .ok (.iconst 0, 1) := by decide +kernel
theorem dX7_laysAnswers_25 : decode cX7_laysAnswers 25 = .ok (.istore 4, 2) := by decide +kernel
theorem dX7_laysAnswers_27 : decode cX7_laysAnswers 27 = .ok (.iload 4, 2) := by decide +kernel
theorem dX7_laysAnswers_29 : decode cX7_laysAnswers 29 = .ok (.iload_n 3, 1) := by decide +kernel
theorem dX7_laysAnswers_30 : decode cX7_laysAnswers 30 = .ok (.if_icmp .ge 93, 3) := by decide +kernel
theorem dX7_laysAnswers_33 : decode cX7_laysAnswers 33 = .ok (.aload_n 0, 1) := by decide +kernel
theorem dX7_laysAnswers_34 : decode cX7_laysAnswers 34 = .ok (.iload 4, 2) := by decide +kernel
theorem dX7_laysAnswers_36 : decode cX7_laysAnswers 36 = .ok (.invokevirtual 161, 3) := by decide +kernel
theorem dX7_laysAnswers_39 : decode cX7_laysAnswers 39 = .ok (.iconst 0, 1) := by decide +kernel
theorem dX7_laysAnswers_40 : decode cX7_laysAnswers 40 = .ok (.istore 5, 2) := by decide +kernel
theorem dX7_laysAnswers_42 : decode cX7_laysAnswers 42 = .ok (.iload 5, 2) := by decide +kernel
theorem dX7_laysAnswers_44 : decode cX7_laysAnswers 44 = .ok (.aload_n 0, 1) := by decide +kernel
theorem dX7_laysAnswers_45 : decode cX7_laysAnswers 45 = .ok (.invokevirtual 121, 3) := by decide +kernel
theorem dX7_laysAnswers_48 : decode cX7_laysAnswers 48 = .ok (.if_icmp .ge 69, 3) := by decide +kernel
theorem dX7_laysAnswers_51 : decode cX7_laysAnswers 51 = .ok (.iconst 0, 1) := by decide +kernel
theorem dX7_laysAnswers_52 : decode cX7_laysAnswers 52 = .ok (.istore 6, 2) := by decide +kernel
theorem dX7_laysAnswers_54 : decode cX7_laysAnswers 54 = .ok (.iload 6, 2) := by decide +kernel
theorem dX7_laysAnswers_56 : decode cX7_laysAnswers 56 = .ok (.aload_n 0, 1) := by decide +kernel
theorem dX7_laysAnswers_57 : decode cX7_laysAnswers 57 = .ok (.iload 5, 2) := by decide +kernel
theorem dX7_laysAnswers_59 : decode cX7_laysAnswers 59 = .ok (.iconst 2, 1) := by decide +kernel
theorem dX7_laysAnswers_60 : decode cX7_laysAnswers 60 = .ok (.invokevirtual 55, 3) := by decide +kernel
theorem dX7_laysAnswers_63 : decode cX7_laysAnswers 63 = .ok (.if_icmp .ge 48, 3) := by decide +kernel
theorem dX7_laysAnswers_66 : decode cX7_laysAnswers 66 = .ok (.aload_n 2, 1) := by decide +kernel
theorem dX7_laysAnswers_67 : decode cX7_laysAnswers 67 = .ok (.bipush 6, 2) := by decide +kernel
theorem dX7_laysAnswers_69 : decode cX7_laysAnswers 69 = .ok (.iload 5, 2) := by decide +kernel
theorem dX7_laysAnswers_71 : decode cX7_laysAnswers 71 = .ok (.imul, 1) := by decide +kernel
theorem dX7_laysAnswers_72 : decode cX7_laysAnswers 72 = .ok (.iload 6, 2) := by decide +kernel
theorem dX7_laysAnswers_74 : decode cX7_laysAnswers 74 = .ok (.iadd, 1) := by decide +kernel
theorem dX7_laysAnswers_75 : decode cX7_laysAnswers 75 = .ok (.dup2, 1) := by decide +kernel
theorem dX7_laysAnswers_76 : decode cX7_laysAnswers 76 = .ok (.iaload, 1) := by decide +kernel
theorem dX7_laysAnswers_77 : decode cX7_laysAnswers 77 = .ok (.aload_n 0, 1) := by decide +kernel
theorem dX7_laysAnswers_78 : decode cX7_laysAnswers 78 = .ok (.iload 5, 2) := by decide +kernel
theorem dX7_laysAnswers_80 : decode cX7_laysAnswers 80 = .ok (.iload 6, 2) := by decide +kernel
theorem dX7_laysAnswers_82 : decode cX7_laysAnswers 82 = .ok (.invokevirtual 124, 3) := by decide +kernel
theorem dX7_laysAnswers_85 : decode cX7_laysAnswers 85 = .ok (.ifCond .eq 7, 3) := by decide +kernel
theorem dX7_laysAnswers_88 : decode cX7_laysAnswers 88 = .ok (.iconst 0, 1) := by decide +kernel
theorem dX7_laysAnswers_89 : decode cX7_laysAnswers 89 = .ok (.goto 14, 3) := by decide +kernel
theorem dX7_laysAnswers_92 : decode cX7_laysAnswers 92 = .ok (.aload_n 0, 1) := by decide +kernel
theorem dX7_laysAnswers_93 : decode cX7_laysAnswers 93 = .ok (.iload 5, 2) := by decide +kernel
theorem dX7_laysAnswers_95 : decode cX7_laysAnswers 95 = .ok (.iload 6, 2) := by decide +kernel
theorem dX7_laysAnswers_97 : decode cX7_laysAnswers 97 = .ok (.invokevirtual 170, 3) := by decide +kernel
theorem dX7_laysAnswers_100 : decode cX7_laysAnswers 100 = .ok (.iload 4, 2) := by decide +kernel
theorem dX7_laysAnswers_102 : decode cX7_laysAnswers 102 = .ok (.ishl, 1) := by decide +kernel
theorem dX7_laysAnswers_103 : decode cX7_laysAnswers 103 = .ok (.ior, 1) := by decide +kernel
theorem dX7_laysAnswers_104 : decode cX7_laysAnswers 104 = .ok (.iastore, 1) := by decide +kernel
theorem dX7_laysAnswers_105 : decode cX7_laysAnswers 105 = .ok (.iinc 6 1, 3) := by decide +kernel
theorem dX7_laysAnswers_108 : decode cX7_laysAnswers 108 = .ok (.goto (-54), 3) := by decide +kernel
theorem dX7_laysAnswers_111 : decode cX7_laysAnswers 111 = .ok (.iinc 5 1, 3) := by decide +kernel
theorem dX7_laysAnswers_114 : decode cX7_laysAnswers 114 = .ok (.goto (-72), 3) := by decide +kernel
theorem dX7_laysAnswers_117 : decode cX7_laysAnswers 117 = .ok (.iinc 4 1, 3) := by decide +kernel
theorem dX7_laysAnswers_120 : decode cX7_laysAnswers 120 = .ok (.goto (-93), 3) := by decide +kernel
theorem dX7_laysAnswers_123 : decode cX7_laysAnswers 123 = .ok (.return_, 1) := by decide +kernel
theorem dX7_laysAnswersNow_0 : decode cX7_laysAnswersNow 0 = .ok (.aload_n 0, 1) := by decide +kernel
theorem dX7_laysAnswersNow_1 : decode cX7_laysAnswersNow 1 = .ok (.invokevirtual 158, 3) := by decide +kernel
theorem dX7_laysAnswersNow_4 : decode cX7_laysAnswersNow 4 = .ok (.aload_n 0, 1) := by decide +kernel
theorem dX7_laysAnswersNow_5 : decode cX7_laysAnswersNow 5 = .ok (.iload_n 1, 1) := by decide +kernel
theorem dX7_laysAnswersNow_6 : decode cX7_laysAnswersNow 6 = .ok (.aload_n 0, 1) := by decide +kernel
theorem dX7_laysAnswersNow_7 : decode cX7_laysAnswersNow 7 = .ok (.getfield 31, 3) := by decide +kernel
theorem dX7_laysAnswersNow_10 : decode cX7_laysAnswersNow 10 = .ok (.invokevirtual 226, 3) := by decide +kernel
theorem dX7_laysAnswersNow_13 : decode cX7_laysAnswersNow 13 = .ok (.return_, 1) := by decide +kernel
theorem dX7_answer_0 : decode cX7_answer 0 = .ok (.iload_n 1, 1) := by decide +kernel
theorem dX7_answer_1 : decode cX7_answer 1 = .ok (.invokestatic 79, 3) := by decide +kernel
theorem dX7_answer_4 : decode cX7_answer 4 = .ok (.ifCond .eq 21, 3) := by decide +kernel
theorem dX7_answer_7 : decode cX7_answer 7 = .ok (.aload_n 0, 1) := by decide +kernel
theorem dX7_answer_8 : decode cX7_answer 8 = .ok (.iload_n 2, 1) := by decide +kernel
theorem dX7_answer_9 : decode cX7_answer 9 = .ok (.iload_n 3, 1) := by decide +kernel
theorem dX7_answer_10 : decode cX7_answer 10 = .ok (.invokevirtual 85, 3) := by decide +kernel
theorem dX7_answer_13 : decode cX7_answer 13 = .ok (.ifCond .eq 12, 3) := by decide +kernel
theorem dX7_answer_16 : decode cX7_answer 16 = .ok (.aload_n 0, 1) := by decide +kernel
theorem dX7_answer_17 : decode cX7_answer 17 = .ok (.iload_n 2, 1) := by decide +kernel
theorem dX7_answer_18 : decode cX7_answer 18 = .ok (.iload_n 3, 1) := by decide +kernel
theorem dX7_answer_19 : decode cX7_answer 19 = .ok (.invokevirtual 124, 3) := by decide +kernel
theorem dX7_answer_22 : decode cX7_answer 22 = .ok (.ifCond .eq 8, 3) := by decide +kernel
theorem dX7_answer_25 : decode cX7_answer 25 = .ok (.aload_n 0, 1) := by decide +kernel
theorem dX7_answer_26 : decode cX7_answer 26 = .ok (.invokevirtual 72, 3) := by decide +kernel
theorem dX7_answer_29 : decode cX7_answer 29 = .ok (.ireturn, 1) := by decide +kernel
theorem dX7_answer_30 : decode cX7_answer 30 = .ok (.aload_n 0, 1) := by decide +kernel
theorem dX7_answer_31 : decode cX7_answer 31 = .ok (.iload_n 1, 1) := by decide +kernel
theorem dX7_answer_32 : decode cX7_answer 32 = .ok (.invokevirtual 230, 3) := by decide +kernel
theorem dX7_answer_35 : decode cX7_answer 35 = .ok (.aload_n 0, 1) := by decide +kernel
theorem dX7_answer_36 : decode cX7_answer 36 = .ok (.getfield 31, 3) := by decide +kernel
theorem dX7_answer_39 : decode cX7_answer 39 = .ok (.bipush 6, 2) := by decide +kernel
theorem dX7_answer_41 : decode cX7_answer 41 = .ok (.iload_n 2, 1) := by decide +kernel
theorem dX7_answer_42 : decode cX7_answer 42 = .ok (.imul, 1) := by decide +kernel
theorem dX7_answer_43 : decode cX7_answer 43 = .ok (.iload_n 3, 1) := by decide +kernel
theorem dX7_answer_44 : decode cX7_answer 44 = .ok (.iadd, 1) := by decide +kernel
theorem dX7_answer_45 : decode cX7_answer 45 = .ok (.iaload, 1) := by decide +kernel
theorem dX7_answer_46 : decode cX7_answer 46 = .ok (.ireturn, 1) := by decide +kernel
theorem dX7_answersSo_0 : decode cX7_answersSo 0 = .ok (.aload_n 0, 1) := by decide +kernel
theorem dX7_answersSo_1 : decode cX7_answersSo 1 = .ok (.iload_n 2, 1) := by decide +kernel
theorem dX7_answersSo_2 : decode cX7_answersSo 2 = .ok (.invokevirtual 233, 3) := by decide +kernel
theorem dX7_answersSo_5 : decode cX7_answersSo 5 = .ok (.aload_n 0, 1) := by decide +kernel
theorem dX7_answersSo_6 : decode cX7_answersSo 6 = .ok (.iload_n 1, 1) := by decide +kernel
theorem dX7_answersSo_7 : decode cX7_answersSo 7 = .ok (.aload_n 0, 1) := by decide +kernel
theorem dX7_answersSo_8 : decode cX7_answersSo 8 = .ok (.getfield 34, 3) := by decide +kernel
theorem dX7_answersSo_11 : decode cX7_answersSo 11 = .ok (.invokevirtual 226, 3) := by decide +kernel
theorem dX7_answersSo_14 : decode cX7_answersSo 14 = .ok (.iconst 1, 1) := by decide +kernel
theorem dX7_answersSo_15 : decode cX7_answersSo 15 = .ok (.istore_n 3, 1) := by decide +kernel
theorem dX7_answersSo_16 : decode cX7_answersSo 16 = .ok (.iconst 0, 1) := by decide +kernel
theorem dX7_answersSo_17 : decode cX7_answersSo 17 = .ok (.istore 4, 2) := by decide +kernel
theorem dX7_answersSo_19 : decode cX7_answersSo 19 = .ok (.iload 4, 2) := by decide +kernel
theorem dX7_answersSo_21 : decode cX7_answersSo 21 = .ok (.bipush 24, 2) := by decide +kernel
theorem dX7_answersSo_23 : decode cX7_answersSo 23 = .ok (.if_icmp .ge 36, 3) := by decide +kernel
theorem dX7_answersSo_26 : decode cX7_answersSo 26 = .ok (.iload_n 3, 1) := by decide +kernel
theorem dX7_answersSo_27 : decode cX7_answersSo 27 = .ok (.ifCond .eq 24, 3) := by decide +kernel
theorem dX7_answersSo_30 : decode cX7_answersSo 30 = .ok (.aload_n 0, 1) := by decide +kernel
theorem dX7_answersSo_31 : decode cX7_answersSo 31 = .ok (.getfield 31, 3) := by decide +kernel
theorem dX7_answersSo_34 : decode cX7_answersSo 34 = .ok (.iload 4, 2) := by decide +kernel
theorem dX7_answersSo_36 : decode cX7_answersSo 36 = .ok (.iaload, 1) := by decide +kernel
theorem dX7_answersSo_37 : decode cX7_answersSo 37 = .ok (.aload_n 0, 1) := by decide +kernel
theorem dX7_answersSo_38 : decode cX7_answersSo 38 = .ok (.getfield 34, 3) := by decide +kernel
theorem dX7_answersSo_41 : decode cX7_answersSo 41 = .ok (.iload 4, 2) := by decide +kernel
theorem dX7_answersSo_43 : decode cX7_answersSo 43 = .ok (.iaload, 1) := by decide +kernel
theorem dX7_answersSo_44 : decode cX7_answersSo 44 = .ok (.if_icmp .ne 7, 3) := by decide +kernel
theorem dX7_answersSo_47 : decode cX7_answersSo 47 = .ok (.iconst 1, 1) := by decide +kernel
theorem dX7_answersSo_48 : decode cX7_answersSo 48 = .ok (.goto 4, 3) := by decide +kernel
theorem dX7_answersSo_51 : decode cX7_answersSo 51 = .ok (.iconst 0, 1) := by decide +kernel
theorem dX7_answersSo_52 : decode cX7_answersSo 52 = .ok (.istore_n 3, 1) := by decide +kernel
theorem dX7_answersSo_53 : decode cX7_answersSo 53 = .ok (.iinc 4 1, 3) := by decide +kernel
theorem dX7_answersSo_56 : decode cX7_answersSo 56 = .ok (.goto (-37), 3) := by decide +kernel
theorem dX7_answersSo_59 : decode cX7_answersSo 59 = .ok (.iload_n 3, 1) := by decide +kernel
theorem dX7_answersSo_60 : decode cX7_answersSo 60 = .ok (.ireturn, 1) := by decide +kernel
theorem dX7_seenBy_0 : decode cX7_seenBy 0 = .ok (.aload_n 0, 1) := by decide +kernel
theorem dX7_seenBy_1 : decode cX7_seenBy 1 = .ok (.iload_n 1, 1) := by decide +kernel
theorem dX7_seenBy_2 : decode cX7_seenBy 2 = .ok (.invokevirtual 230, 3) := by decide +kernel
theorem dX7_seenBy_5 : decode cX7_seenBy 5 = .ok (.aload_n 0, 1) := by decide +kernel
theorem dX7_seenBy_6 : decode cX7_seenBy 6 = .ok (.iload_n 1, 1) := by decide +kernel
theorem dX7_seenBy_7 : decode cX7_seenBy 7 = .ok (.iconst 0, 1) := by decide +kernel
theorem dX7_seenBy_8 : decode cX7_seenBy 8 = .ok (.invokevirtual 236, 3) := by decide +kernel
theorem dX7_seenBy_11 : decode cX7_seenBy 11 = .ok (.ifCond .eq 7, 3) := by decide +kernel
theorem dX7_seenBy_14 : decode cX7_seenBy 14 = .ok (.iconst 0, 1) := by decide +kernel
theorem dX7_seenBy_15 : decode cX7_seenBy 15 = .ok (.goto 4, 3) := by decide +kernel
theorem dX7_seenBy_18 : decode cX7_seenBy 18 = .ok (.iconst 1, 1) := by decide +kernel
theorem dX7_seenBy_19 : decode cX7_seenBy 19 = .ok (.ireturn, 1) := by decide +kernel
theorem dX7_seen_0 : decode cX7_seen 0 = .ok (.iload_n 1, 1) := by decide +kernel
theorem dX7_seen_1 : decode cX7_seen 1 = .ok (.invokestatic 79, 3) := by decide +kernel
theorem dX7_seen_4 : decode cX7_seen 4 = .ok (.ifCond .eq 11, 3) := by decide +kernel
theorem dX7_seen_7 : decode cX7_seen 7 = .ok (.aload_n 0, 1) := by decide +kernel
theorem dX7_seen_8 : decode cX7_seen 8 = .ok (.iload_n 1, 1) := by decide +kernel
theorem dX7_seen_9 : decode cX7_seen 9 = .ok (.invokevirtual 239, 3) := by decide +kernel
theorem dX7_seen_12 : decode cX7_seen 12 = .ok (.goto 7, 3) := by decide +kernel
theorem dX7_seen_15 : decode cX7_seen 15 = .ok (.aload_n 0, 1) := by decide +kernel
theorem dX7_seen_16 : decode cX7_seen 16 = .ok (.invokevirtual 72, 3) := by decide +kernel
theorem dX7_seen_19 : decode cX7_seen 19 = .ok (.ireturn, 1) := by decide +kernel
theorem dX7_canBe_0 : decode cX7_canBe 0 = .ok (.iload_n 1, 1) := by decide +kernel
theorem dX7_canBe_1 : decode cX7_canBe 1 = .ok (.bipush 10, 2) := by decide +kernel
theorem dX7_canBe_3 : decode cX7_canBe 3 = .ok (.idiv, 1) := by decide +kernel
theorem dX7_canBe_4 : decode cX7_canBe 4 = .ok (.bipush 10, 2) := by decide +kernel
theorem dX7_canBe_6 : decode cX7_canBe 6 = .ok (.irem, 1) := by decide +kernel
theorem dX7_canBe_7 : decode cX7_canBe 7 = .ok (.istore_n 3, 1) := by decide +kernel
theorem dX7_canBe_8 : decode cX7_canBe 8 = .ok (.iload_n 1, 1) := by decide +kernel
theorem dX7_canBe_9 : decode cX7_canBe 9 = .ok (.bipush 10, 2) := by decide +kernel
theorem dX7_canBe_11 : decode cX7_canBe 11 = .ok (.irem, 1) := by decide +kernel
theorem dX7_canBe_12 : decode cX7_canBe 12 = .ok (.istore 4, 2) := by decide +kernel
theorem dX7_canBe_14 : decode cX7_canBe 14 = .ok (.iload_n 1, 1) := by decide +kernel
theorem dX7_canBe_15 : decode cX7_canBe 15 = .ok (.sipush 1000, 3) := by decide +kernel
theorem dX7_canBe_18 : decode cX7_canBe 18 = .ok (.idiv, 1) := by decide +kernel
theorem dX7_canBe_19 : decode cX7_canBe 19 = .ok (.tableswitch 82 0 2 #[25, 35, 49], 25) := by decide +kernel
theorem dX7_canBe_44 : decode cX7_canBe 44 = .ok (.iload_n 1, 1) := by decide +kernel
theorem dX7_canBe_45 : decode cX7_canBe 45 = .ok (.ifCond .ne 7, 3) := by decide +kernel
theorem dX7_canBe_48 : decode cX7_canBe 48 = .ok (.iconst 1, 1) := by decide +kernel
theorem dX7_canBe_49 : decode cX7_canBe 49 = .ok (.goto 4, 3) := by decide +kernel
theorem dX7_canBe_52 : decode cX7_canBe 52 = .ok (.iconst 0, 1) := by decide +kernel
theorem dX7_canBe_53 : decode cX7_canBe 53 = .ok (.ireturn, 1) := by decide +kernel
theorem dX7_canBe_54 : decode cX7_canBe 54 = .ok (.aload_n 0, 1) := by decide +kernel
theorem dX7_canBe_55 : decode cX7_canBe 55 = .ok (.iload_n 1, 1) := by decide +kernel
theorem dX7_canBe_56 : decode cX7_canBe 56 = .ok (.bipush 10, 2) := by decide +kernel
theorem dX7_canBe_58 : decode cX7_canBe 58 = .ok (.idiv, 1) := by decide +kernel
theorem dX7_canBe_59 : decode cX7_canBe 59 = .ok (.bipush 100, 2) := by decide +kernel
theorem dX7_canBe_61 : decode cX7_canBe 61 = .ok (.isub, 1) := by decide +kernel
theorem dX7_canBe_62 : decode cX7_canBe 62 = .ok (.iload 4, 2) := by decide +kernel
theorem dX7_canBe_64 : decode cX7_canBe 64 = .ok (.invokevirtual 85, 3) := by decide +kernel
theorem dX7_canBe_67 : decode cX7_canBe 67 = .ok (.ireturn, 1) := by decide +kernel
theorem dX7_canBe_68 : decode cX7_canBe 68 = .ok (.iload_n 3, 1) := by decide +kernel
theorem dX7_canBe_69 : decode cX7_canBe 69 = .ok (.bipush 8, 2) := by decide +kernel
theorem dX7_canBe_71 : decode cX7_canBe 71 = .ok (.if_icmp .ge 28, 3) := by decide +kernel
theorem dX7_canBe_74 : decode cX7_canBe 74 = .ok (.iload_n 2, 1) := by decide +kernel
theorem dX7_canBe_75 : decode cX7_canBe 75 = .ok (.iload_n 3, 1) := by decide +kernel
theorem dX7_canBe_76 : decode cX7_canBe 76 = .ok (.invokestatic 151, 3) := by decide +kernel
theorem dX7_canBe_79 : decode cX7_canBe 79 = .ok (.ifCond .eq 20, 3) := by decide +kernel
theorem dX7_canBe_82 : decode cX7_canBe 82 = .ok (.iload 4, 2) := by decide +kernel
theorem dX7_canBe_84 : decode cX7_canBe 84 = .ok (.iconst 2, 1) := by decide +kernel
theorem dX7_canBe_85 : decode cX7_canBe 85 = .ok (.if_icmp .ge 14, 3) := by decide +kernel
theorem dX7_canBe_88 : decode cX7_canBe 88 = .ok (.iload_n 1, 1) := by decide +kernel
theorem dX7_canBe_89 : decode cX7_canBe 89 = .ok (.sipush 2100, 3) := by decide +kernel
theorem dX7_canBe_92 : decode cX7_canBe 92 = .ok (.if_icmp .ge 7, 3) := by decide +kernel
theorem dX7_canBe_95 : decode cX7_canBe 95 = .ok (.iconst 1, 1) := by decide +kernel
theorem dX7_canBe_96 : decode cX7_canBe 96 = .ok (.goto 4, 3) := by decide +kernel
theorem dX7_canBe_99 : decode cX7_canBe 99 = .ok (.iconst 0, 1) := by decide +kernel
theorem dX7_canBe_100 : decode cX7_canBe 100 = .ok (.ireturn, 1) := by decide +kernel
theorem dX7_canBe_101 : decode cX7_canBe 101 = .ok (.iload_n 1, 1) := by decide +kernel
theorem dX7_canBe_102 : decode cX7_canBe 102 = .ok (.sipush 1000, 3) := by decide +kernel
theorem dX7_canBe_105 : decode cX7_canBe 105 = .ok (.irem, 1) := by decide +kernel
theorem dX7_canBe_106 : decode cX7_canBe 106 = .ok (.bipush 100, 2) := by decide +kernel
theorem dX7_canBe_108 : decode cX7_canBe 108 = .ok (.if_icmp .ge 37, 3) := by decide +kernel
theorem dX7_canBe_111 : decode cX7_canBe 111 = .ok (.iload_n 3, 1) := by decide +kernel
theorem dX7_canBe_112 : decode cX7_canBe 112 = .ok (.iload 4, 2) := by decide +kernel
theorem dX7_canBe_114 : decode cX7_canBe 114 = .ok (.if_icmp .ge 31, 3) := by decide +kernel
theorem dX7_canBe_117 : decode cX7_canBe 117 = .ok (.iload 4, 2) := by decide +kernel
theorem dX7_canBe_119 : decode cX7_canBe 119 = .ok (.bipush 8, 2) := by decide +kernel
theorem dX7_canBe_121 : decode cX7_canBe 121 = .ok (.if_icmp .ge 24, 3) := by decide +kernel
theorem dX7_canBe_124 : decode cX7_canBe 124 = .ok (.iload_n 2, 1) := by decide +kernel
theorem dX7_canBe_125 : decode cX7_canBe 125 = .ok (.iload_n 3, 1) := by decide +kernel
theorem dX7_canBe_126 : decode cX7_canBe 126 = .ok (.invokestatic 151, 3) := by decide +kernel
theorem dX7_canBe_129 : decode cX7_canBe 129 = .ok (.ifCond .eq 16, 3) := by decide +kernel
theorem dX7_canBe_132 : decode cX7_canBe 132 = .ok (.iload_n 2, 1) := by decide +kernel
theorem dX7_canBe_133 : decode cX7_canBe 133 = .ok (.iload 4, 2) := by decide +kernel
theorem dX7_canBe_135 : decode cX7_canBe 135 = .ok (.invokestatic 151, 3) := by decide +kernel
theorem dX7_canBe_138 : decode cX7_canBe 138 = .ok (.ifCond .eq 7, 3) := by decide +kernel
theorem dX7_canBe_141 : decode cX7_canBe 141 = .ok (.iconst 1, 1) := by decide +kernel
theorem dX7_canBe_142 : decode cX7_canBe 142 = .ok (.goto 4, 3) := by decide +kernel
theorem dX7_canBe_145 : decode cX7_canBe 145 = .ok (.iconst 0, 1) := by decide +kernel
theorem dX7_canBe_146 : decode cX7_canBe 146 = .ok (.ireturn, 1) := by decide +kernel
theorem dX7_suspectsBy_0 : decode cX7_suspectsBy 0 = .ok (.aload_n 0, 1) := by decide +kernel
theorem dX7_suspectsBy_1 : decode cX7_suspectsBy 1 = .ok (.iload_n 1, 1) := by decide +kernel
theorem dX7_suspectsBy_2 : decode cX7_suspectsBy 2 = .ok (.invokevirtual 230, 3) := by decide +kernel
theorem dX7_suspectsBy_5 : decode cX7_suspectsBy 5 = .ok (.aload_n 0, 1) := by decide +kernel
theorem dX7_suspectsBy_6 : decode cX7_suspectsBy 6 = .ok (.invokevirtual 217, 3) := by decide +kernel
theorem dX7_suspectsBy_9 : decode cX7_suspectsBy 9 = .ok (.istore_n 3, 1) := by decide +kernel
theorem dX7_suspectsBy_10 : decode cX7_suspectsBy 10 = .ok (.iconst 0, 1) := by decide +kernel
theorem dX7_suspectsBy_11 : decode cX7_suspectsBy 11 = .ok (.istore 4, 2) := by decide +kernel
theorem dX7_suspectsBy_13 : decode cX7_suspectsBy 13 = .ok (.iconst 0, 1) := by decide +kernel
theorem dX7_suspectsBy_14 : decode cX7_suspectsBy 14 = .ok (.istore 5, 2) := by decide +kernel
theorem dX7_suspectsBy_16 : decode cX7_suspectsBy 16 = .ok (.iload 5, 2) := by decide +kernel
theorem dX7_suspectsBy_18 : decode cX7_suspectsBy 18 = .ok (.sipush 4100, 3) := by decide +kernel
theorem dX7_suspectsBy_21 : decode cX7_suspectsBy 21 = .ok (.if_icmp .ge 78, 3) := by decide +kernel
theorem dX7_suspectsBy_24 : decode cX7_suspectsBy 24 = .ok (.aload_n 0, 1) := by decide +kernel
theorem dX7_suspectsBy_25 : decode cX7_suspectsBy 25 = .ok (.iload 5, 2) := by decide +kernel
theorem dX7_suspectsBy_27 : decode cX7_suspectsBy 27 = .ok (.iload_n 3, 1) := by decide +kernel
theorem dX7_suspectsBy_28 : decode cX7_suspectsBy 28 = .ok (.invokevirtual 242, 3) := by decide +kernel
theorem dX7_suspectsBy_31 : decode cX7_suspectsBy 31 = .ok (.ifCond .eq 25, 3) := by decide +kernel
theorem dX7_suspectsBy_34 : decode cX7_suspectsBy 34 = .ok (.aload_n 0, 1) := by decide +kernel
theorem dX7_suspectsBy_35 : decode cX7_suspectsBy 35 = .ok (.iload_n 1, 1) := by decide +kernel
theorem dX7_suspectsBy_36 : decode cX7_suspectsBy 36 = .ok (.iload 5, 2) := by decide +kernel
theorem dX7_suspectsBy_38 : decode cX7_suspectsBy 38 = .ok (.invokevirtual 236, 3) := by decide +kernel
theorem dX7_suspectsBy_41 : decode cX7_suspectsBy 41 = .ok (.ifCond .eq 15, 3) := by decide +kernel
theorem dX7_suspectsBy_44 : decode cX7_suspectsBy 44 = .ok (.iload 4, 2) := by decide +kernel
theorem dX7_suspectsBy_46 : decode cX7_suspectsBy 46 = .ok (.iload_n 2, 1) := by decide +kernel
theorem dX7_suspectsBy_47 : decode cX7_suspectsBy 47 = .ok (.if_icmp .ne 6, 3) := by decide +kernel
theorem dX7_suspectsBy_50 : decode cX7_suspectsBy 50 = .ok (.iload 5, 2) := by decide +kernel
theorem dX7_suspectsBy_52 : decode cX7_suspectsBy 52 = .ok (.ireturn, 1) := by decide +kernel
theorem dX7_suspectsBy_53 : decode cX7_suspectsBy 53 = .ok (.iinc 4 1, 3) := by decide +kernel
theorem dX7_suspectsBy_56 : decode cX7_suspectsBy 56 = .ok (.iload 5, 2) := by decide +kernel
theorem dX7_suspectsBy_58 : decode cX7_suspectsBy 58 = .ok (.sipush 1000, 3) := by decide +kernel
theorem dX7_suspectsBy_61 : decode cX7_suspectsBy 61 = .ok (.irem, 1) := by decide +kernel
theorem dX7_suspectsBy_62 : decode cX7_suspectsBy 62 = .ok (.bipush 99, 2) := by decide +kernel
theorem dX7_suspectsBy_64 : decode cX7_suspectsBy 64 = .ok (.if_icmp .eq 8, 3) := by decide +kernel
theorem dX7_suspectsBy_67 : decode cX7_suspectsBy 67 = .ok (.iload 5, 2) := by decide +kernel
theorem dX7_suspectsBy_69 : decode cX7_suspectsBy 69 = .ok (.ifCond .ne 20, 3) := by decide +kernel
theorem dX7_suspectsBy_72 : decode cX7_suspectsBy 72 = .ok (.iload 5, 2) := by decide +kernel
theorem dX7_suspectsBy_74 : decode cX7_suspectsBy 74 = .ok (.sipush 1000, 3) := by decide +kernel
theorem dX7_suspectsBy_77 : decode cX7_suspectsBy 77 = .ok (.idiv, 1) := by decide +kernel
theorem dX7_suspectsBy_78 : decode cX7_suspectsBy 78 = .ok (.sipush 1000, 3) := by decide +kernel
theorem dX7_suspectsBy_81 : decode cX7_suspectsBy 81 = .ok (.imul, 1) := by decide +kernel
theorem dX7_suspectsBy_82 : decode cX7_suspectsBy 82 = .ok (.sipush 999, 3) := by decide +kernel
theorem dX7_suspectsBy_85 : decode cX7_suspectsBy 85 = .ok (.iadd, 1) := by decide +kernel
theorem dX7_suspectsBy_86 : decode cX7_suspectsBy 86 = .ok (.goto 5, 3) := by decide +kernel
theorem dX7_suspectsBy_89 : decode cX7_suspectsBy 89 = .ok (.iload 5, 2) := by decide +kernel
theorem dX7_suspectsBy_91 : decode cX7_suspectsBy 91 = .ok (.istore 5, 2) := by decide +kernel
theorem dX7_suspectsBy_93 : decode cX7_suspectsBy 93 = .ok (.iinc 5 1, 3) := by decide +kernel
theorem dX7_suspectsBy_96 : decode cX7_suspectsBy 96 = .ok (.goto (-80), 3) := by decide +kernel
theorem dX7_suspectsBy_99 : decode cX7_suspectsBy 99 = .ok (.iload_n 2, 1) := by decide +kernel
theorem dX7_suspectsBy_100 : decode cX7_suspectsBy 100 = .ok (.ifCond .ge 8, 3) := by decide +kernel
theorem dX7_suspectsBy_103 : decode cX7_suspectsBy 103 = .ok (.iload 4, 2) := by decide +kernel
theorem dX7_suspectsBy_105 : decode cX7_suspectsBy 105 = .ok (.goto 5, 3) := by decide +kernel
theorem dX7_suspectsBy_108 : decode cX7_suspectsBy 108 = .ok (.bipush (-5), 2) := by decide +kernel
theorem dX7_suspectsBy_110 : decode cX7_suspectsBy 110 = .ok (.ireturn, 1) := by decide +kernel
theorem dX7_suspects_0 : decode cX7_suspects 0 = .ok (.iload_n 1, 1) := by decide +kernel
theorem dX7_suspects_1 : decode cX7_suspects 1 = .ok (.invokestatic 79, 3) := by decide +kernel
theorem dX7_suspects_4 : decode cX7_suspects 4 = .ok (.ifCond .eq 17, 3) := by decide +kernel
theorem dX7_suspects_7 : decode cX7_suspects 7 = .ok (.iload_n 2, 1) := by decide +kernel
theorem dX7_suspects_8 : decode cX7_suspects 8 = .ok (.iconst (-1), 1) := by decide +kernel
theorem dX7_suspects_9 : decode cX7_suspects 9 = .ok (.if_icmp .lt 12, 3) := by decide +kernel
theorem dX7_suspects_12 : decode cX7_suspects 12 = .ok (.aload_n 0, 1) := by decide +kernel
theorem dX7_suspects_13 : decode cX7_suspects 13 = .ok (.iload_n 1, 1) := by decide +kernel
theorem dX7_suspects_14 : decode cX7_suspects 14 = .ok (.iload_n 2, 1) := by decide +kernel
theorem dX7_suspects_15 : decode cX7_suspects 15 = .ok (.invokevirtual 245, 3) := by decide +kernel
theorem dX7_suspects_18 : decode cX7_suspects 18 = .ok (.goto 7, 3) := by decide +kernel
theorem dX7_suspects_21 : decode cX7_suspects 21 = .ok (.aload_n 0, 1) := by decide +kernel
theorem dX7_suspects_22 : decode cX7_suspects 22 = .ok (.invokevirtual 72, 3) := by decide +kernel
theorem dX7_suspects_25 : decode cX7_suspects 25 = .ok (.ireturn, 1) := by decide +kernel
theorem dX7_type_0 : decode cX7_type 0 = .ok (.iload_n 1, 1) := by decide +kernel
theorem dX7_type_1 : decode cX7_type 1 = .ok (.iconst 0, 1) := by decide +kernel
theorem dX7_type_2 : decode cX7_type 2 = .ok (.bipush 127, 2) := by decide +kernel
theorem dX7_type_4 : decode cX7_type 4 = .ok (.invokestatic 43, 3) := by decide +kernel
theorem dX7_type_7 : decode cX7_type 7 = .ok (.ifCond .ne 8, 3) := by decide +kernel
theorem dX7_type_10 : decode cX7_type 10 = .ok (.aload_n 0, 1) := by decide +kernel
theorem dX7_type_11 : decode cX7_type 11 = .ok (.invokevirtual 72, 3) := by decide +kernel
theorem dX7_type_14 : decode cX7_type 14 = .ok (.ireturn, 1) := by decide +kernel
theorem dX7_type_15 : decode cX7_type 15 = .ok (.aload_n 0, 1) := by decide +kernel
theorem dX7_type_16 : decode cX7_type 16 = .ok (.getfield 248, 3) := by decide +kernel
theorem dX7_type_19 : decode cX7_type 19 = .ok (.bipush 120, 2) := by decide +kernel
theorem dX7_type_21 : decode cX7_type 21 = .ok (.if_icmp .ne 8, 3) := by decide +kernel
theorem dX7_type_24 : decode cX7_type 24 = .ok (.aload_n 0, 1) := by decide +kernel
theorem dX7_type_25 : decode cX7_type 25 = .ok (.invokevirtual 69, 3) := by decide +kernel
theorem dX7_type_28 : decode cX7_type 28 = .ok (.ireturn, 1) := by decide +kernel
theorem dX7_type_29 : decode cX7_type 29 = .ok (.aload_n 0, 1) := by decide +kernel
theorem dX7_type_30 : decode cX7_type 30 = .ok (.getfield 22, 3) := by decide +kernel
theorem dX7_type_33 : decode cX7_type 33 = .ok (.aload_n 0, 1) := by decide +kernel
theorem dX7_type_34 : decode cX7_type 34 = .ok (.getfield 248, 3) := by decide +kernel
theorem dX7_type_37 : decode cX7_type 37 = .ok (.iload_n 1, 1) := by decide +kernel
theorem dX7_type_38 : decode cX7_type 38 = .ok (.iastore, 1) := by decide +kernel
theorem dX7_type_39 : decode cX7_type 39 = .ok (.aload_n 0, 1) := by decide +kernel
theorem dX7_type_40 : decode cX7_type 40 = .ok (.dup, 1) := by decide +kernel
theorem dX7_type_41 : decode cX7_type 41 = .ok (.getfield 248, 3) := by decide +kernel
theorem dX7_type_44 : decode cX7_type 44 = .ok (.iconst 1, 1) := by decide +kernel
theorem dX7_type_45 : decode cX7_type 45 = .ok (.iadd, 1) := by decide +kernel
theorem dX7_type_46 : decode cX7_type 46 = .ok (.putfield 248, 3) := by decide +kernel
theorem dX7_type_49 : decode cX7_type 49 = .ok (.aload_n 0, 1) := by decide +kernel
theorem dX7_type_50 : decode cX7_type 50 = .ok (.getfield 248, 3) := by decide +kernel
theorem dX7_type_53 : decode cX7_type 53 = .ok (.ireturn, 1) := by decide +kernel
theorem dX7_clear_0 : decode cX7_clear 0 = .ok (.aload_n 0, 1) := by decide +kernel
theorem dX7_clear_1 : decode cX7_clear 1 = .ok (.getfield 248, 3) := by decide +kernel
theorem dX7_clear_4 : decode cX7_clear 4 = .ok (.istore_n 1, 1) := by decide +kernel
theorem dX7_clear_5 : decode cX7_clear 5 = .ok (.aload_n 0, 1) := by decide +kernel
theorem dX7_clear_6 : decode cX7_clear 6 = .ok (.iconst 0, 1) := by decide +kernel
theorem dX7_clear_7 : decode cX7_clear 7 = .ok (.putfield 248, 3) := by decide +kernel
theorem dX7_clear_10 : decode cX7_clear 10 = .ok (.iload_n 1, 1) := by decide +kernel
theorem dX7_clear_11 : decode cX7_clear 11 = .ok (.ireturn, 1) := by decide +kernel
theorem dX7_isAt_0 : decode cX7_isAt 0 = .ok (.aload_n 0, 1) := by decide +kernel
theorem dX7_isAt_1 : decode cX7_isAt 1 = .ok (.getfield 251, 3) := by decide +kernel
theorem dX7_isAt_4 : decode cX7_isAt 4 = .ok (.aload_n 0, 1) := by decide +kernel
theorem dX7_isAt_5 : decode cX7_isAt 5 = .ok (.getfield 248, 3) := by decide +kernel
theorem dX7_isAt_8 : decode cX7_isAt 8 = .ok (.if_icmp .ge 24, 3) := by decide +kernel
theorem dX7_isAt_11 : decode cX7_isAt 11 = .ok (.aload_n 0, 1) := by decide +kernel
theorem dX7_isAt_12 : decode cX7_isAt 12 = .ok (.getfield 22, 3) := by decide +kernel
theorem dX7_isAt_15 : decode cX7_isAt 15 = .ok (.aload_n 0, 1) := by decide +kernel
theorem dX7_isAt_16 : decode cX7_isAt 16 = .ok (.getfield 251, 3) := by decide +kernel
theorem dX7_isAt_19 : decode cX7_isAt 19 = .ok (.iaload, 1) := by decide +kernel
theorem dX7_isAt_20 : decode cX7_isAt 20 = .ok (.iload_n 1, 1) := by decide +kernel
theorem dX7_isAt_21 : decode cX7_isAt 21 = .ok (.iload_n 2, 1) := by decide +kernel
theorem dX7_isAt_22 : decode cX7_isAt 22 = .ok (.invokestatic 43, 3) := by decide +kernel
theorem dX7_isAt_25 : decode cX7_isAt 25 = .ok (.ifCond .eq 7, 3) := by decide +kernel
theorem dX7_isAt_28 : decode cX7_isAt 28 = .ok (.iconst 1, 1) := by decide +kernel
theorem dX7_isAt_29 : decode cX7_isAt 29 = .ok (.goto 4, 3) := by decide +kernel
theorem dX7_isAt_32 : decode cX7_isAt 32 = .ok (.iconst 0, 1) := by decide +kernel
theorem dX7_isAt_33 : decode cX7_isAt 33 = .ok (.ireturn, 1) := by decide +kernel
theorem dX7_blanks_0 : decode cX7_blanks 0 = .ok (.aload_n 0, 1) := by decide +kernel
theorem dX7_blanks_1 : decode cX7_blanks 1 = .ok (.bipush 32, 2) := by decide +kernel
theorem dX7_blanks_3 : decode cX7_blanks 3 = .ok (.bipush 32, 2) := by decide +kernel
theorem dX7_blanks_5 : decode cX7_blanks 5 = .ok (.invokevirtual 254, 3) := by decide +kernel
theorem dX7_blanks_8 : decode cX7_blanks 8 = .ok (.ifCond .eq 16, 3) := by decide +kernel
theorem dX7_blanks_11 : decode cX7_blanks 11 = .ok (.aload_n 0, 1) := by decide +kernel
theorem dX7_blanks_12 : decode cX7_blanks 12 = .ok (.dup, 1) := by decide +kernel
theorem dX7_blanks_13 : decode cX7_blanks 13 = .ok (.getfield 251, 3) := by decide +kernel
theorem dX7_blanks_16 : decode cX7_blanks 16 = .ok (.iconst 1, 1) := by decide +kernel
theorem dX7_blanks_17 : decode cX7_blanks 17 = .ok (.iadd, 1) := by decide +kernel
theorem dX7_blanks_18 : decode cX7_blanks 18 = .ok (.putfield 251, 3) := by decide +kernel
theorem dX7_blanks_21 : decode cX7_blanks 21 = .ok (.goto (-21), 3) := by decide +kernel
theorem dX7_blanks_24 : decode cX7_blanks 24 = .ok (.return_, 1) := by decide +kernel
theorem dX7_number_0 : decode cX7_number 0 = .ok (.aload_n 0, 1) := by decide +kernel
theorem dX7_number_1 : decode cX7_number 1 = .ok (.invokevirtual 257, 3) := by decide +kernel
theorem dX7_number_4 : decode cX7_number 4 = .ok (.iconst 0, 1) := by decide +kernel
theorem dX7_number_5 : decode cX7_number 5 = .ok (.istore_n 1, 1) := by decide +kernel
theorem dX7_number_6 : decode cX7_number 6 = .ok (.iconst 0, 1) := by decide +kernel
theorem dX7_number_7 : decode cX7_number 7 = .ok (.istore_n 2, 1) := by decide +kernel
theorem dX7_number_8 : decode cX7_number 8 = .ok (.aload_n 0, 1) := by decide +kernel
theorem dX7_number_9 : decode cX7_number 9 = .ok (.aload_n 0, 1) := by decide +kernel
theorem dX7_number_10 : decode cX7_number 10 = .ok (.getfield 260, 3) := by decide +kernel
theorem dX7_number_13 : decode cX7_number 13 = .ok (.ifCond .ne 14, 3) := by decide +kernel
theorem dX7_number_16 : decode cX7_number 16 = .ok (.aload_n 0, 1) := by decide +kernel
theorem dX7_number_17 : decode cX7_number 17 = .ok (.bipush 48, 2) := by decide +kernel
theorem dX7_number_19 : decode cX7_number 19 = .ok (.bipush 57, 2) := by decide +kernel
theorem dX7_number_21 : decode cX7_number 21 = .ok (.invokevirtual 254, 3) := by decide +kernel
theorem dX7_number_24 : decode cX7_number 24 = .ok (.ifCond .ne 7, 3) := by decide +kernel
theorem dX7_number_27 : decode cX7_number 27 = .ok (.iconst 1, 1) := by decide +kernel
theorem dX7_number_28 : decode cX7_number 28 = .ok (.goto 4, 3) := by decide +kernel
theorem dX7_number_31 : decode cX7_number 31 = .ok (.iconst 0, 1) := by decide +kernel
theorem dX7_number_32 : decode cX7_number 32 = .ok (.putfield 260, 3) := by decide +kernel
theorem dX7_number_35 : decode cX7_number 35 = .ok (.aload_n 0, 1) := by decide +kernel
theorem dX7_number_36 : decode cX7_number 36 = .ok (.getfield 260, 3) := by decide +kernel
theorem dX7_number_39 : decode cX7_number 39 = .ok (.ifCond .ne 84, 3) := by decide +kernel
theorem dX7_number_42 : decode cX7_number 42 = .ok (.aload_n 0, 1) := by decide +kernel
theorem dX7_number_43 : decode cX7_number 43 = .ok (.bipush 48, 2) := by decide +kernel
theorem dX7_number_45 : decode cX7_number 45 = .ok (.bipush 57, 2) := by decide +kernel
theorem dX7_number_47 : decode cX7_number 47 = .ok (.invokevirtual 254, 3) := by decide +kernel
theorem dX7_number_50 : decode cX7_number 50 = .ok (.ifCond .eq 73, 3) := by decide +kernel
theorem dX7_number_53 : decode cX7_number 53 = .ok (.iinc 2 1, 3) := by decide +kernel
theorem dX7_number_56 : decode cX7_number 56 = .ok (.aload_n 0, 1) := by decide +kernel
theorem dX7_number_57 : decode cX7_number 57 = .ok (.iload_n 2, 1) := by decide +kernel
theorem dX7_number_58 : decode cX7_number 58 = .ok (.iconst 3, 1) := by decide +kernel
theorem dX7_number_59 : decode cX7_number 59 = .ok (.if_icmp .le 7, 3) := by decide +kernel
theorem dX7_number_62 : decode cX7_number 62 = .ok (.iconst 1, 1) := by decide +kernel
theorem dX7_number_63 : decode cX7_number 63 = .ok (.goto 4, 3) := by decide +kernel
theorem dX7_number_66 : decode cX7_number 66 = .ok (.iconst 0, 1) := by decide +kernel
theorem dX7_number_67 : decode cX7_number 67 = .ok (.putfield 260, 3) := by decide +kernel
theorem dX7_number_70 : decode cX7_number 70 = .ok (.aload_n 0, 1) := by decide +kernel
theorem dX7_number_71 : decode cX7_number 71 = .ok (.getfield 260, 3) := by decide +kernel
theorem dX7_number_74 : decode cX7_number 74 = .ok (.ifCond .eq 7, 3) := by decide +kernel
theorem dX7_number_77 : decode cX7_number 77 = .ok (.iload_n 1, 1) := by decide +kernel
theorem dX7_number_78 : decode cX7_number 78 = .ok (.goto 20, 3) := by decide +kernel
theorem dX7_number_81 : decode cX7_number 81 = .ok (.bipush 10, 2) := by decide +kernel
theorem dX7_number_83 : decode cX7_number 83 = .ok (.iload_n 1, 1) := by decide +kernel
theorem dX7_number_84 : decode cX7_number 84 = .ok (.imul, 1) := by decide +kernel
theorem dX7_number_85 : decode cX7_number 85 = .ok (.aload_n 0, 1) := by decide +kernel
theorem dX7_number_86 : decode cX7_number 86 = .ok (.getfield 22, 3) := by decide +kernel
theorem dX7_number_89 : decode cX7_number 89 = .ok (.aload_n 0, 1) := by decide +kernel
theorem dX7_number_90 : decode cX7_number 90 = .ok (.getfield 251, 3) := by decide +kernel
theorem dX7_number_93 : decode cX7_number 93 = .ok (.iaload, 1) := by decide +kernel
theorem dX7_number_94 : decode cX7_number 94 = .ok (.iadd, 1) := by decide +kernel
theorem dX7_number_95 : decode cX7_number 95 = .ok (.bipush 48, 2) := by decide +kernel
theorem dX7_number_97 : decode cX7_number 97 = .ok (.isub, 1) := by decide +kernel
theorem dX7_number_98 : decode cX7_number 98 = .ok (.istore_n 1, 1) := by decide +kernel
theorem dX7_number_99 : decode cX7_number 99 = .ok (.aload_n 0, 1) := by decide +kernel
theorem dX7_number_100 : decode cX7_number 100 = .ok (.dup, 1) := by decide +kernel
theorem dX7_number_101 : decode cX7_number 101 = .ok (.getfield 251, 3) := by decide +kernel
theorem dX7_number_104 : decode cX7_number 104 = .ok (.aload_n 0, 1) := by decide +kernel
theorem dX7_number_105 : decode cX7_number 105 = .ok (.getfield 260, 3) := by decide +kernel
theorem dX7_number_108 : decode cX7_number 108 = .ok (.ifCond .eq 7, 3) := by decide +kernel
theorem dX7_number_111 : decode cX7_number 111 = .ok (.iconst 0, 1) := by decide +kernel
theorem dX7_number_112 : decode cX7_number 112 = .ok (.goto 4, 3) := by decide +kernel
theorem dX7_number_115 : decode cX7_number 115 = .ok (.iconst 1, 1) := by decide +kernel
theorem dX7_number_116 : decode cX7_number 116 = .ok (.iadd, 1) := by decide +kernel
theorem dX7_number_117 : decode cX7_number 117 = .ok (.putfield 251, 3) := by decide +kernel
theorem dX7_number_120 : decode cX7_number 120 = .ok (.goto (-85), 3) := by decide +kernel
theorem dX7_number_123 : decode cX7_number 123 = .ok (.iload_n 1, 1) := by decide +kernel
theorem dX7_number_124 : decode cX7_number 124 = .ok (.ireturn, 1) := by decide +kernel
theorem dX7_manyOf_0 : decode cX7_manyOf 0 = .ok (.iload_n 0, 1) := by decide +kernel
theorem dX7_manyOf_1 : decode cX7_manyOf 1 = .ok (.tableswitch 97 99 117 #[93, 97, 97, 97, 97, 91, 97, 97, 93, 97, 97, 97, 93, 95, 97, 97, 95, 97, 93], 91) := by decide +kernel
theorem dX7_manyOf_92 : decode cX7_manyOf 92 = .ok (.iconst 0, 1) := by decide +kernel
theorem dX7_manyOf_93 : decode cX7_manyOf 93 = .ok (.ireturn, 1) := by decide +kernel
theorem dX7_manyOf_94 : decode cX7_manyOf 94 = .ok (.iconst 2, 1) := by decide +kernel
theorem dX7_manyOf_95 : decode cX7_manyOf 95 = .ok (.ireturn, 1) := by decide +kernel
theorem dX7_manyOf_96 : decode cX7_manyOf 96 = .ok (.iconst 3, 1) := by decide +kernel
theorem dX7_manyOf_97 : decode cX7_manyOf 97 = .ok (.ireturn, 1) := by decide +kernel
theorem dX7_manyOf_98 : decode cX7_manyOf 98 = .ok (.iconst (-1), 1) := by decide +kernel
theorem dX7_manyOf_99 : decode cX7_manyOf 99 = .ok (.ireturn, 1) := by decide +kernel
theorem dX7_readsOrder_0 : decode cX7_readsOrder 0 = .ok (.aload_n 0, 1) := by decide +kernel
theorem dX7_readsOrder_1 : decode cX7_readsOrder 1 = .ok (.getfield 22, 3) := by decide +kernel
theorem dX7_readsOrder_4 : decode cX7_readsOrder 4 = .ok (.aload_n 0, 1) := by decide +kernel
theorem dX7_readsOrder_5 : decode cX7_readsOrder 5 = .ok (.getfield 251, 3) := by decide +kernel
theorem dX7_readsOrder_8 : decode cX7_readsOrder 8 = .ok (.iaload, 1) := by decide +kernel
theorem dX7_readsOrder_9 : decode cX7_readsOrder 9 = .ok (.istore_n 1, 1) := by decide +kernel
theorem dX7_readsOrder_10 : decode cX7_readsOrder 10 = .ok (.iload_n 1, 1) := by decide +kernel
theorem dX7_readsOrder_11 : decode cX7_readsOrder 11 = .ok (.invokestatic 264, 3) := by decide +kernel
theorem dX7_readsOrder_14 : decode cX7_readsOrder 14 = .ok (.istore_n 2, 1) := by decide +kernel
theorem dX7_readsOrder_15 : decode cX7_readsOrder 15 = .ok (.aload_n 0, 1) := by decide +kernel
theorem dX7_readsOrder_16 : decode cX7_readsOrder 16 = .ok (.iload_n 2, 1) := by decide +kernel
theorem dX7_readsOrder_17 : decode cX7_readsOrder 17 = .ok (.ifCond .ge 7, 3) := by decide +kernel
theorem dX7_readsOrder_20 : decode cX7_readsOrder 20 = .ok (.iconst 1, 1) := by decide +kernel
theorem dX7_readsOrder_21 : decode cX7_readsOrder 21 = .ok (.goto 4, 3) := by decide +kernel
theorem dX7_readsOrder_24 : decode cX7_readsOrder 24 = .ok (.iconst 0, 1) := by decide +kernel
theorem dX7_readsOrder_25 : decode cX7_readsOrder 25 = .ok (.putfield 260, 3) := by decide +kernel
theorem dX7_readsOrder_28 : decode cX7_readsOrder 28 = .ok (.aload_n 0, 1) := by decide +kernel
theorem dX7_readsOrder_29 : decode cX7_readsOrder 29 = .ok (.dup, 1) := by decide +kernel
theorem dX7_readsOrder_30 : decode cX7_readsOrder 30 = .ok (.getfield 251, 3) := by decide +kernel
theorem dX7_readsOrder_33 : decode cX7_readsOrder 33 = .ok (.aload_n 0, 1) := by decide +kernel
theorem dX7_readsOrder_34 : decode cX7_readsOrder 34 = .ok (.getfield 260, 3) := by decide +kernel
theorem dX7_readsOrder_37 : decode cX7_readsOrder 37 = .ok (.ifCond .eq 7, 3) := by decide +kernel
theorem dX7_readsOrder_40 : decode cX7_readsOrder 40 = .ok (.iconst 0, 1) := by decide +kernel
theorem dX7_readsOrder_41 : decode cX7_readsOrder 41 = .ok (.goto 4, 3) := by decide +kernel
theorem dX7_readsOrder_44 : decode cX7_readsOrder 44 = .ok (.iconst 1, 1) := by decide +kernel
theorem dX7_readsOrder_45 : decode cX7_readsOrder 45 = .ok (.iadd, 1) := by decide +kernel
theorem dX7_readsOrder_46 : decode cX7_readsOrder 46 = .ok (.putfield 251, 3) := by decide +kernel
theorem dX7_readsOrder_49 : decode cX7_readsOrder 49 = .ok (.iconst 0, 1) := by decide +kernel
theorem dX7_readsOrder_50 : decode cX7_readsOrder 50 = .ok (.istore_n 3, 1) := by decide +kernel
theorem dX7_readsOrder_51 : decode cX7_readsOrder 51 = .ok (.iload_n 3, 1) := by decide +kernel
theorem dX7_readsOrder_52 : decode cX7_readsOrder 52 = .ok (.iload_n 2, 1) := by decide +kernel
theorem dX7_readsOrder_53 : decode cX7_readsOrder 53 = .ok (.if_icmp .ge 33, 3) := by decide +kernel
theorem dX7_readsOrder_56 : decode cX7_readsOrder 56 = .ok (.aload_n 0, 1) := by decide +kernel
theorem dX7_readsOrder_57 : decode cX7_readsOrder 57 = .ok (.getfield 260, 3) := by decide +kernel
theorem dX7_readsOrder_60 : decode cX7_readsOrder 60 = .ok (.ifCond .ne 26, 3) := by decide +kernel
theorem dX7_readsOrder_63 : decode cX7_readsOrder 63 = .ok (.aload_n 0, 1) := by decide +kernel
theorem dX7_readsOrder_64 : decode cX7_readsOrder 64 = .ok (.getfield 40, 3) := by decide +kernel
theorem dX7_readsOrder_67 : decode cX7_readsOrder 67 = .ok (.iconst 3, 1) := by decide +kernel
theorem dX7_readsOrder_68 : decode cX7_readsOrder 68 = .ok (.aload_n 0, 1) := by decide +kernel
theorem dX7_readsOrder_69 : decode cX7_readsOrder 69 = .ok (.getfield 267, 3) := by decide +kernel
theorem dX7_readsOrder_72 : decode cX7_readsOrder 72 = .ok (.imul, 1) := by decide +kernel
theorem dX7_readsOrder_73 : decode cX7_readsOrder 73 = .ok (.iload_n 3, 1) := by decide +kernel
theorem dX7_readsOrder_74 : decode cX7_readsOrder 74 = .ok (.iadd, 1) := by decide +kernel
theorem dX7_readsOrder_75 : decode cX7_readsOrder 75 = .ok (.aload_n 0, 1) := by decide +kernel
theorem dX7_readsOrder_76 : decode cX7_readsOrder 76 = .ok (.invokevirtual 270, 3) := by decide +kernel
theorem dX7_readsOrder_79 : decode cX7_readsOrder 79 = .ok (.iastore, 1) := by decide +kernel
theorem dX7_readsOrder_80 : decode cX7_readsOrder 80 = .ok (.iinc 3 1, 3) := by decide +kernel
theorem dX7_readsOrder_83 : decode cX7_readsOrder 83 = .ok (.goto (-32), 3) := by decide +kernel
theorem dX7_readsOrder_86 : decode cX7_readsOrder 86 = .ok (.aload_n 0, 1) := by decide +kernel
theorem dX7_readsOrder_87 : decode cX7_readsOrder 87 = .ok (.getfield 260, 3) := by decide +kernel
theorem dX7_readsOrder_90 : decode cX7_readsOrder 90 = .ok (.ifCond .ne 48, 3) := by decide +kernel
theorem dX7_readsOrder_93 : decode cX7_readsOrder 93 = .ok (.aload_n 0, 1) := by decide +kernel
theorem dX7_readsOrder_94 : decode cX7_readsOrder 94 = .ok (.invokevirtual 257, 3) := by decide +kernel
theorem dX7_readsOrder_97 : decode cX7_readsOrder 97 = .ok (.aload_n 0, 1) := by decide +kernel
theorem dX7_readsOrder_98 : decode cX7_readsOrder 98 = .ok (.aload_n 0, 1) := by decide +kernel
theorem dX7_readsOrder_99 : decode cX7_readsOrder 99 = .ok (.bipush 59, 2) := by decide +kernel
theorem dX7_readsOrder_101 : decode cX7_readsOrder 101 = .ok (.bipush 59, 2) := by decide +kernel
theorem dX7_readsOrder_103 : decode cX7_readsOrder 103 = .ok (.invokevirtual 254, 3) := by decide +kernel
theorem dX7_readsOrder_106 : decode cX7_readsOrder 106 = .ok (.ifCond .ne 7, 3) := by decide +kernel
theorem dX7_readsOrder_109 : decode cX7_readsOrder 109 = .ok (.iconst 1, 1) := by decide +kernel
theorem dX7_readsOrder_110 : decode cX7_readsOrder 110 = .ok (.goto 4, 3) := by decide +kernel
theorem dX7_readsOrder_113 : decode cX7_readsOrder 113 = .ok (.iconst 0, 1) := by decide +kernel
theorem dX7_readsOrder_114 : decode cX7_readsOrder 114 = .ok (.putfield 260, 3) := by decide +kernel
theorem dX7_readsOrder_117 : decode cX7_readsOrder 117 = .ok (.aload_n 0, 1) := by decide +kernel
theorem dX7_readsOrder_118 : decode cX7_readsOrder 118 = .ok (.dup, 1) := by decide +kernel
theorem dX7_readsOrder_119 : decode cX7_readsOrder 119 = .ok (.getfield 251, 3) := by decide +kernel
theorem dX7_readsOrder_122 : decode cX7_readsOrder 122 = .ok (.aload_n 0, 1) := by decide +kernel
theorem dX7_readsOrder_123 : decode cX7_readsOrder 123 = .ok (.getfield 260, 3) := by decide +kernel
theorem dX7_readsOrder_126 : decode cX7_readsOrder 126 = .ok (.ifCond .eq 7, 3) := by decide +kernel
theorem dX7_readsOrder_129 : decode cX7_readsOrder 129 = .ok (.iconst 0, 1) := by decide +kernel
theorem dX7_readsOrder_130 : decode cX7_readsOrder 130 = .ok (.goto 4, 3) := by decide +kernel
theorem dX7_readsOrder_133 : decode cX7_readsOrder 133 = .ok (.iconst 1, 1) := by decide +kernel
theorem dX7_readsOrder_134 : decode cX7_readsOrder 134 = .ok (.iadd, 1) := by decide +kernel
theorem dX7_readsOrder_135 : decode cX7_readsOrder 135 = .ok (.putfield 251, 3) := by decide +kernel
theorem dX7_readsOrder_138 : decode cX7_readsOrder 138 = .ok (.aload_n 0, 1) := by decide +kernel
theorem dX7_readsOrder_139 : decode cX7_readsOrder 139 = .ok (.getfield 260, 3) := by decide +kernel
theorem dX7_readsOrder_142 : decode cX7_readsOrder 142 = .ok (.ifCond .ne 23, 3) := by decide +kernel
theorem dX7_readsOrder_145 : decode cX7_readsOrder 145 = .ok (.aload_n 0, 1) := by decide +kernel
theorem dX7_readsOrder_146 : decode cX7_readsOrder 146 = .ok (.getfield 37, 3) := by decide +kernel
theorem dX7_readsOrder_149 : decode cX7_readsOrder 149 = .ok (.aload_n 0, 1) := by decide +kernel
theorem dX7_readsOrder_150 : decode cX7_readsOrder 150 = .ok (.getfield 267, 3) := by decide +kernel
theorem dX7_readsOrder_153 : decode cX7_readsOrder 153 = .ok (.iload_n 1, 1) := by decide +kernel
theorem dX7_readsOrder_154 : decode cX7_readsOrder 154 = .ok (.iastore, 1) := by decide +kernel
theorem dX7_readsOrder_155 : decode cX7_readsOrder 155 = .ok (.aload_n 0, 1) := by decide +kernel
theorem dX7_readsOrder_156 : decode cX7_readsOrder 156 = .ok (.dup, 1) := by decide +kernel
theorem dX7_readsOrder_157 : decode cX7_readsOrder 157 = .ok (.getfield 267, 3) := by decide +kernel
theorem dX7_readsOrder_160 : decode cX7_readsOrder 160 = .ok (.iconst 1, 1) := by decide +kernel
theorem dX7_readsOrder_161 : decode cX7_readsOrder 161 = .ok (.iadd, 1) := by decide +kernel
theorem dX7_readsOrder_162 : decode cX7_readsOrder 162 = .ok (.putfield 267, 3) := by decide +kernel
theorem dX7_readsOrder_165 : decode cX7_readsOrder 165 = .ok (.return_, 1) := by decide +kernel
theorem dX7_reads_0 : decode cX7_reads 0 = .ok (.aload_n 0, 1) := by decide +kernel
theorem dX7_reads_1 : decode cX7_reads 1 = .ok (.iconst 0, 1) := by decide +kernel
theorem dX7_reads_2 : decode cX7_reads 2 = .ok (.putfield 251, 3) := by decide +kernel
theorem dX7_reads_5 : decode cX7_reads 5 = .ok (.aload_n 0, 1) := by decide +kernel
theorem dX7_reads_6 : decode cX7_reads 6 = .ok (.iconst 0, 1) := by decide +kernel
theorem dX7_reads_7 : decode cX7_reads 7 = .ok (.putfield 267, 3) := by decide +kernel
theorem dX7_reads_10 : decode cX7_reads 10 = .ok (.aload_n 0, 1) := by decide +kernel
theorem dX7_reads_11 : decode cX7_reads 11 = .ok (.invokevirtual 257, 3) := by decide +kernel
theorem dX7_reads_14 : decode cX7_reads 14 = .ok (.aload_n 0, 1) := by decide +kernel
theorem dX7_reads_15 : decode cX7_reads 15 = .ok (.aload_n 0, 1) := by decide +kernel
theorem dX7_reads_16 : decode cX7_reads 16 = .ok (.getfield 251, 3) := by decide +kernel
theorem dX7_reads_19 : decode cX7_reads 19 = .ok (.aload_n 0, 1) := by decide +kernel
theorem dX7_reads_20 : decode cX7_reads 20 = .ok (.getfield 248, 3) := by decide +kernel
theorem dX7_reads_23 : decode cX7_reads 23 = .ok (.if_icmp .ne 7, 3) := by decide +kernel
theorem dX7_reads_26 : decode cX7_reads 26 = .ok (.iconst 1, 1) := by decide +kernel
theorem dX7_reads_27 : decode cX7_reads 27 = .ok (.goto 4, 3) := by decide +kernel
theorem dX7_reads_30 : decode cX7_reads 30 = .ok (.iconst 0, 1) := by decide +kernel
theorem dX7_reads_31 : decode cX7_reads 31 = .ok (.putfield 260, 3) := by decide +kernel
theorem dX7_reads_34 : decode cX7_reads 34 = .ok (.aload_n 0, 1) := by decide +kernel
theorem dX7_reads_35 : decode cX7_reads 35 = .ok (.getfield 260, 3) := by decide +kernel
theorem dX7_reads_38 : decode cX7_reads 38 = .ok (.ifCond .ne 32, 3) := by decide +kernel
theorem dX7_reads_41 : decode cX7_reads 41 = .ok (.aload_n 0, 1) := by decide +kernel
theorem dX7_reads_42 : decode cX7_reads 42 = .ok (.getfield 251, 3) := by decide +kernel
theorem dX7_reads_45 : decode cX7_reads 45 = .ok (.aload_n 0, 1) := by decide +kernel
theorem dX7_reads_46 : decode cX7_reads 46 = .ok (.getfield 248, 3) := by decide +kernel
theorem dX7_reads_49 : decode cX7_reads 49 = .ok (.if_icmp .ge 21, 3) := by decide +kernel
theorem dX7_reads_52 : decode cX7_reads 52 = .ok (.aload_n 0, 1) := by decide +kernel
theorem dX7_reads_53 : decode cX7_reads 53 = .ok (.invokevirtual 273, 3) := by decide +kernel
theorem dX7_reads_56 : decode cX7_reads 56 = .ok (.aload_n 0, 1) := by decide +kernel
theorem dX7_reads_57 : decode cX7_reads 57 = .ok (.getfield 260, 3) := by decide +kernel
theorem dX7_reads_60 : decode cX7_reads 60 = .ok (.ifCond .ne (-26), 3) := by decide +kernel
theorem dX7_reads_63 : decode cX7_reads 63 = .ok (.aload_n 0, 1) := by decide +kernel
theorem dX7_reads_64 : decode cX7_reads 64 = .ok (.invokevirtual 257, 3) := by decide +kernel
theorem dX7_reads_67 : decode cX7_reads 67 = .ok (.goto (-33), 3) := by decide +kernel
theorem dX7_reads_70 : decode cX7_reads 70 = .ok (.aload_n 0, 1) := by decide +kernel
theorem dX7_reads_71 : decode cX7_reads 71 = .ok (.getfield 260, 3) := by decide +kernel
theorem dX7_reads_74 : decode cX7_reads 74 = .ok (.ifCond .ne 7, 3) := by decide +kernel
theorem dX7_reads_77 : decode cX7_reads 77 = .ok (.iconst 1, 1) := by decide +kernel
theorem dX7_reads_78 : decode cX7_reads 78 = .ok (.goto 4, 3) := by decide +kernel
theorem dX7_reads_81 : decode cX7_reads 81 = .ok (.iconst 0, 1) := by decide +kernel
theorem dX7_reads_82 : decode cX7_reads 82 = .ok (.ireturn, 1) := by decide +kernel
theorem dX7_doesOrder_0 : decode cX7_doesOrder 0 = .ok (.aload_n 0, 1) := by decide +kernel
theorem dX7_doesOrder_1 : decode cX7_doesOrder 1 = .ok (.getfield 40, 3) := by decide +kernel
theorem dX7_doesOrder_4 : decode cX7_doesOrder 4 = .ok (.iconst 3, 1) := by decide +kernel
theorem dX7_doesOrder_5 : decode cX7_doesOrder 5 = .ok (.iload_n 1, 1) := by decide +kernel
theorem dX7_doesOrder_6 : decode cX7_doesOrder 6 = .ok (.imul, 1) := by decide +kernel
theorem dX7_doesOrder_7 : decode cX7_doesOrder 7 = .ok (.iaload, 1) := by decide +kernel
theorem dX7_doesOrder_8 : decode cX7_doesOrder 8 = .ok (.istore_n 2, 1) := by decide +kernel
theorem dX7_doesOrder_9 : decode cX7_doesOrder 9 = .ok (.aload_n 0, 1) := by decide +kernel
theorem dX7_doesOrder_10 : decode cX7_doesOrder 10 = .ok (.getfield 40, 3) := by decide +kernel
theorem dX7_doesOrder_13 : decode cX7_doesOrder 13 = .ok (.iconst 3, 1) := by decide +kernel
theorem dX7_doesOrder_14 : decode cX7_doesOrder 14 = .ok (.iload_n 1, 1) := by decide +kernel
theorem dX7_doesOrder_15 : decode cX7_doesOrder 15 = .ok (.imul, 1) := by decide +kernel
theorem dX7_doesOrder_16 : decode cX7_doesOrder 16 = .ok (.iconst 1, 1) := by decide +kernel
theorem dX7_doesOrder_17 : decode cX7_doesOrder 17 = .ok (.iadd, 1) := by decide +kernel
theorem dX7_doesOrder_18 : decode cX7_doesOrder 18 = .ok (.iaload, 1) := by decide +kernel
theorem dX7_doesOrder_19 : decode cX7_doesOrder 19 = .ok (.istore_n 3, 1) := by decide +kernel
theorem dX7_doesOrder_20 : decode cX7_doesOrder 20 = .ok (.aload_n 0, 1) := by decide +kernel
theorem dX7_doesOrder_21 : decode cX7_doesOrder 21 = .ok (.getfield 40, 3) := by decide +kernel
theorem dX7_doesOrder_24 : decode cX7_doesOrder 24 = .ok (.iconst 3, 1) := by decide +kernel
theorem dX7_doesOrder_25 : decode cX7_doesOrder 25 = .ok (.iload_n 1, 1) := by decide +kernel
theorem dX7_doesOrder_26 : decode cX7_doesOrder 26 = .ok (.imul, 1) := by decide +kernel
theorem dX7_doesOrder_27 : decode cX7_doesOrder 27 = .ok (.iconst 2, 1) := by decide +kernel
theorem dX7_doesOrder_28 : decode cX7_doesOrder 28 = .ok (.iadd, 1) := by decide +kernel
theorem dX7_doesOrder_29 : decode cX7_doesOrder 29 = .ok (.iaload, 1) := by decide +kernel
theorem dX7_doesOrder_30 : decode cX7_doesOrder 30 = .ok (.istore 4, 2) := by decide +kernel
theorem dX7_doesOrder_32 : decode cX7_doesOrder 32 = .ok (.aload_n 0, 1) := by decide +kernel
theorem dX7_doesOrder_33 : decode cX7_doesOrder 33 = .ok (.getfield 37, 3) := by decide +kernel
theorem dX7_doesOrder_36 : decode cX7_doesOrder 36 = .ok (.iload_n 1, 1) := by decide +kernel
theorem dX7_doesOrder_37 : decode cX7_doesOrder 37 = .ok (.iaload, 1) := by decide +kernel
theorem dX7_doesOrder_38 : decode cX7_doesOrder 38 = .ok (.tableswitch 136 99 117 #[90, 136, 136, 136, 136, 136, 136, 136, 106, 136, 136, 136, 113, 97, 136, 136, 127, 136, 120], 90) := by decide +kernel
theorem dX7_doesOrder_128 : decode cX7_doesOrder 128 = .ok (.aload_n 0, 1) := by decide +kernel
theorem dX7_doesOrder_129 : decode cX7_doesOrder 129 = .ok (.iload_n 2, 1) := by decide +kernel
theorem dX7_doesOrder_130 : decode cX7_doesOrder 130 = .ok (.iload_n 3, 1) := by decide +kernel
theorem dX7_doesOrder_131 : decode cX7_doesOrder 131 = .ok (.invokevirtual 96, 3) := by decide +kernel
theorem dX7_doesOrder_134 : decode cX7_doesOrder 134 = .ok (.ireturn, 1) := by decide +kernel
theorem dX7_doesOrder_135 : decode cX7_doesOrder 135 = .ok (.aload_n 0, 1) := by decide +kernel
theorem dX7_doesOrder_136 : decode cX7_doesOrder 136 = .ok (.iload_n 2, 1) := by decide +kernel
theorem dX7_doesOrder_137 : decode cX7_doesOrder 137 = .ok (.iload_n 3, 1) := by decide +kernel
theorem dX7_doesOrder_138 : decode cX7_doesOrder 138 = .ok (.iload 4, 2) := by decide +kernel
theorem dX7_doesOrder_140 : decode cX7_doesOrder 140 = .ok (.invokevirtual 102, 3) := by decide +kernel
theorem dX7_doesOrder_143 : decode cX7_doesOrder 143 = .ok (.ireturn, 1) := by decide +kernel
theorem dX7_doesOrder_144 : decode cX7_doesOrder 144 = .ok (.aload_n 0, 1) := by decide +kernel
theorem dX7_doesOrder_145 : decode cX7_doesOrder 145 = .ok (.iload_n 2, 1) := by decide +kernel
theorem dX7_doesOrder_146 : decode cX7_doesOrder 146 = .ok (.iload_n 3, 1) := by decide +kernel
theorem dX7_doesOrder_147 : decode cX7_doesOrder 147 = .ok (.invokevirtual 191, 3) := by decide +kernel
theorem dX7_doesOrder_150 : decode cX7_doesOrder 150 = .ok (.ireturn, 1) := by decide +kernel
theorem dX7_doesOrder_151 : decode cX7_doesOrder 151 = .ok (.aload_n 0, 1) := by decide +kernel
theorem dX7_doesOrder_152 : decode cX7_doesOrder 152 = .ok (.iload_n 2, 1) := by decide +kernel
theorem dX7_doesOrder_153 : decode cX7_doesOrder 153 = .ok (.iload_n 3, 1) := by decide +kernel
theorem dX7_doesOrder_154 : decode cX7_doesOrder 154 = .ok (.invokevirtual 106, 3) := by decide +kernel
theorem dX7_doesOrder_157 : decode cX7_doesOrder 157 = .ok (.ireturn, 1) := by decide +kernel
theorem dX7_doesOrder_158 : decode cX7_doesOrder 158 = .ok (.aload_n 0, 1) := by decide +kernel
theorem dX7_doesOrder_159 : decode cX7_doesOrder 159 = .ok (.iload_n 2, 1) := by decide +kernel
theorem dX7_doesOrder_160 : decode cX7_doesOrder 160 = .ok (.iload_n 3, 1) := by decide +kernel
theorem dX7_doesOrder_161 : decode cX7_doesOrder 161 = .ok (.invokevirtual 109, 3) := by decide +kernel
theorem dX7_doesOrder_164 : decode cX7_doesOrder 164 = .ok (.ireturn, 1) := by decide +kernel
theorem dX7_doesOrder_165 : decode cX7_doesOrder 165 = .ok (.aload_n 0, 1) := by decide +kernel
theorem dX7_doesOrder_166 : decode cX7_doesOrder 166 = .ok (.iload_n 2, 1) := by decide +kernel
theorem dX7_doesOrder_167 : decode cX7_doesOrder 167 = .ok (.iload_n 3, 1) := by decide +kernel
theorem dX7_doesOrder_168 : decode cX7_doesOrder 168 = .ok (.iload 4, 2) := by decide +kernel
theorem dX7_doesOrder_170 : decode cX7_doesOrder 170 = .ok (.invokevirtual 112, 3) := by decide +kernel
theorem dX7_doesOrder_173 : decode cX7_doesOrder 173 = .ok (.ireturn, 1) := by decide +kernel
theorem dX7_doesOrder_174 : decode cX7_doesOrder 174 = .ok (.aload_n 0, 1) := by decide +kernel
theorem dX7_doesOrder_175 : decode cX7_doesOrder 175 = .ok (.invokevirtual 115, 3) := by decide +kernel
theorem dX7_doesOrder_178 : decode cX7_doesOrder 178 = .ok (.ireturn, 1) := by decide +kernel
theorem dX7_does_0 : decode cX7_does 0 = .ok (.aload_n 0, 1) := by decide +kernel
theorem dX7_does_1 : decode cX7_does 1 = .ok (.invokevirtual 276, 3) := by decide +kernel
theorem dX7_does_4 : decode cX7_does 4 = .ok (.ifCond .ne 11, 3) := by decide +kernel
theorem dX7_does_7 : decode cX7_does 7 = .ok (.bipush (-10), 2) := by decide +kernel
theorem dX7_does_9 : decode cX7_does 9 = .ok (.aload_n 0, 1) := by decide +kernel
theorem dX7_does_10 : decode cX7_does 10 = .ok (.getfield 251, 3) := by decide +kernel
theorem dX7_does_13 : decode cX7_does 13 = .ok (.isub, 1) := by decide +kernel
theorem dX7_does_14 : decode cX7_does 14 = .ok (.ireturn, 1) := by decide +kernel
theorem dX7_does_15 : decode cX7_does 15 = .ok (.aload_n 0, 1) := by decide +kernel
theorem dX7_does_16 : decode cX7_does 16 = .ok (.invokevirtual 93, 3) := by decide +kernel
theorem dX7_does_19 : decode cX7_does 19 = .ok (.iconst 0, 1) := by decide +kernel
theorem dX7_does_20 : decode cX7_does 20 = .ok (.istore_n 1, 1) := by decide +kernel
theorem dX7_does_21 : decode cX7_does 21 = .ok (.iload_n 1, 1) := by decide +kernel
theorem dX7_does_22 : decode cX7_does 22 = .ok (.aload_n 0, 1) := by decide +kernel
theorem dX7_does_23 : decode cX7_does 23 = .ok (.getfield 267, 3) := by decide +kernel
theorem dX7_does_26 : decode cX7_does 26 = .ok (.if_icmp .ge 49, 3) := by decide +kernel
theorem dX7_does_29 : decode cX7_does 29 = .ok (.aload_n 0, 1) := by decide +kernel
theorem dX7_does_30 : decode cX7_does 30 = .ok (.iload_n 1, 1) := by decide +kernel
theorem dX7_does_31 : decode cX7_does 31 = .ok (.invokevirtual 280, 3) := by decide +kernel
theorem dX7_does_34 : decode cX7_does 34 = .ok (.ifCond .ge 35, 3) := by decide +kernel
theorem dX7_does_37 : decode cX7_does 37 = .ok (.iconst 0, 1) := by decide +kernel
theorem dX7_does_38 : decode cX7_does 38 = .ok (.istore_n 2, 1) := by decide +kernel
theorem dX7_does_39 : decode cX7_does 39 = .ok (.iload_n 2, 1) := by decide +kernel
theorem dX7_does_40 : decode cX7_does 40 = .ok (.bipush 83, 2) := by decide +kernel
theorem dX7_does_42 : decode cX7_does 42 = .ok (.if_icmp .ge 21, 3) := by decide +kernel
theorem dX7_does_45 : decode cX7_does 45 = .ok (.aload_n 0, 1) := by decide +kernel
theorem dX7_does_46 : decode cX7_does 46 = .ok (.getfield 7, 3) := by decide +kernel
theorem dX7_does_49 : decode cX7_does 49 = .ok (.iload_n 2, 1) := by decide +kernel
theorem dX7_does_50 : decode cX7_does 50 = .ok (.aload_n 0, 1) := by decide +kernel
theorem dX7_does_51 : decode cX7_does 51 = .ok (.getfield 13, 3) := by decide +kernel
theorem dX7_does_54 : decode cX7_does 54 = .ok (.iload_n 2, 1) := by decide +kernel
theorem dX7_does_55 : decode cX7_does 55 = .ok (.iaload, 1) := by decide +kernel
theorem dX7_does_56 : decode cX7_does 56 = .ok (.iastore, 1) := by decide +kernel
theorem dX7_does_57 : decode cX7_does 57 = .ok (.iinc 2 1, 3) := by decide +kernel
theorem dX7_does_60 : decode cX7_does 60 = .ok (.goto (-21), 3) := by decide +kernel
theorem dX7_does_63 : decode cX7_does 63 = .ok (.sipush (-1000), 3) := by decide +kernel
theorem dX7_does_66 : decode cX7_does 66 = .ok (.iload_n 1, 1) := by decide +kernel
theorem dX7_does_67 : decode cX7_does 67 = .ok (.isub, 1) := by decide +kernel
theorem dX7_does_68 : decode cX7_does 68 = .ok (.ireturn, 1) := by decide +kernel
theorem dX7_does_69 : decode cX7_does 69 = .ok (.iinc 1 1, 3) := by decide +kernel
theorem dX7_does_72 : decode cX7_does 72 = .ok (.goto (-51), 3) := by decide +kernel
theorem dX7_does_75 : decode cX7_does 75 = .ok (.aload_n 0, 1) := by decide +kernel
theorem dX7_does_76 : decode cX7_does 76 = .ok (.invokevirtual 66, 3) := by decide +kernel
theorem dX7_does_79 : decode cX7_does 79 = .ok (.aload_n 0, 1) := by decide +kernel
theorem dX7_does_80 : decode cX7_does 80 = .ok (.getfield 267, 3) := by decide +kernel
theorem dX7_does_83 : decode cX7_does 83 = .ok (.ireturn, 1) := by decide +kernel
theorem dX7_toldOf_0 : decode cX7_toldOf 0 = .ok (.iload_n 1, 1) := by decide +kernel
theorem dX7_toldOf_1 : decode cX7_toldOf 1 = .ok (.iconst 3, 1) := by decide +kernel
theorem dX7_toldOf_2 : decode cX7_toldOf 2 = .ok (.if_icmp .ge 12, 3) := by decide +kernel
theorem dX7_toldOf_5 : decode cX7_toldOf 5 = .ok (.aload_n 0, 1) := by decide +kernel
theorem dX7_toldOf_6 : decode cX7_toldOf 6 = .ok (.getfield 19, 3) := by decide +kernel
theorem dX7_toldOf_9 : decode cX7_toldOf 9 = .ok (.iload_n 1, 1) := by decide +kernel
theorem dX7_toldOf_10 : decode cX7_toldOf 10 = .ok (.iaload, 1) := by decide +kernel
theorem dX7_toldOf_11 : decode cX7_toldOf 11 = .ok (.goto 19, 3) := by decide +kernel
theorem dX7_toldOf_14 : decode cX7_toldOf 14 = .ok (.iload_n 1, 1) := by decide +kernel
theorem dX7_toldOf_15 : decode cX7_toldOf 15 = .ok (.iconst 3, 1) := by decide +kernel
theorem dX7_toldOf_16 : decode cX7_toldOf 16 = .ok (.if_icmp .ne 10, 3) := by decide +kernel
theorem dX7_toldOf_19 : decode cX7_toldOf 19 = .ok (.aload_n 0, 1) := by decide +kernel
theorem dX7_toldOf_20 : decode cX7_toldOf 20 = .ok (.getfield 248, 3) := by decide +kernel
theorem dX7_toldOf_23 : decode cX7_toldOf 23 = .ok (.goto 7, 3) := by decide +kernel
theorem dX7_toldOf_26 : decode cX7_toldOf 26 = .ok (.aload_n 0, 1) := by decide +kernel
theorem dX7_toldOf_27 : decode cX7_toldOf 27 = .ok (.getfield 58, 3) := by decide +kernel
theorem dX7_toldOf_30 : decode cX7_toldOf 30 = .ok (.ireturn, 1) := by decide +kernel
theorem dX7_told_0 : decode cX7_told 0 = .ok (.iload_n 1, 1) := by decide +kernel
theorem dX7_told_1 : decode cX7_told 1 = .ok (.iconst 0, 1) := by decide +kernel
theorem dX7_told_2 : decode cX7_told 2 = .ok (.iconst 4, 1) := by decide +kernel
theorem dX7_told_3 : decode cX7_told 3 = .ok (.invokestatic 43, 3) := by decide +kernel
theorem dX7_told_6 : decode cX7_told 6 = .ok (.ifCond .eq 11, 3) := by decide +kernel
theorem dX7_told_9 : decode cX7_told 9 = .ok (.aload_n 0, 1) := by decide +kernel
theorem dX7_told_10 : decode cX7_told 10 = .ok (.iload_n 1, 1) := by decide +kernel
theorem dX7_told_11 : decode cX7_told 11 = .ok (.invokevirtual 283, 3) := by decide +kernel
theorem dX7_told_14 : decode cX7_told 14 = .ok (.goto 7, 3) := by decide +kernel
theorem dX7_told_17 : decode cX7_told 17 = .ok (.aload_n 0, 1) := by decide +kernel
theorem dX7_told_18 : decode cX7_told 18 = .ok (.invokevirtual 72, 3) := by decide +kernel
theorem dX7_told_21 : decode cX7_told 21 = .ok (.ireturn, 1) := by decide +kernel
theorem dX7_mix_0 : decode cX7_mix 0 = .ok (.aload_n 0, 1) := by decide +kernel
theorem dX7_mix_1 : decode cX7_mix 1 = .ok (.ldc2_w 286, 3) := by decide +kernel
theorem dX7_mix_4 : decode cX7_mix 4 = .ok (.aload_n 0, 1) := by decide +kernel
theorem dX7_mix_5 : decode cX7_mix 5 = .ok (.getfield 288, 3) := by decide +kernel
theorem dX7_mix_8 : decode cX7_mix 8 = .ok (.lmul, 1) := by decide +kernel
theorem dX7_mix_9 : decode cX7_mix 9 = .ok (.iload_n 1, 1) := by decide +kernel
theorem dX7_mix_10 : decode cX7_mix 10 = .ok (.i2l, 1) := by decide +kernel
theorem dX7_mix_11 : decode cX7_mix 11 = .ok (.ladd, 1) := by decide +kernel
theorem dX7_mix_12 : decode cX7_mix 12 = .ok (.putfield 288, 3) := by decide +kernel
theorem dX7_mix_15 : decode cX7_mix 15 = .ok (.return_, 1) := by decide +kernel
theorem dX7_mixChip_0 : decode cX7_mixChip 0 = .ok (.iconst 0, 1) := by decide +kernel
theorem dX7_mixChip_1 : decode cX7_mixChip 1 = .ok (.istore_n 2, 1) := by decide +kernel
theorem dX7_mixChip_2 : decode cX7_mixChip 2 = .ok (.iload_n 2, 1) := by decide +kernel
theorem dX7_mixChip_3 : decode cX7_mixChip 3 = .ok (.bipush 8, 2) := by decide +kernel
theorem dX7_mixChip_5 : decode cX7_mixChip 5 = .ok (.if_icmp .ge 19, 3) := by decide +kernel
theorem dX7_mixChip_8 : decode cX7_mixChip 8 = .ok (.aload_n 0, 1) := by decide +kernel
theorem dX7_mixChip_9 : decode cX7_mixChip 9 = .ok (.aload_n 0, 1) := by decide +kernel
theorem dX7_mixChip_10 : decode cX7_mixChip 10 = .ok (.iload_n 1, 1) := by decide +kernel
theorem dX7_mixChip_11 : decode cX7_mixChip 11 = .ok (.iload_n 2, 1) := by decide +kernel
theorem dX7_mixChip_12 : decode cX7_mixChip 12 = .ok (.invokevirtual 208, 3) := by decide +kernel
theorem dX7_mixChip_15 : decode cX7_mixChip 15 = .ok (.invokevirtual 292, 3) := by decide +kernel
theorem dX7_mixChip_18 : decode cX7_mixChip 18 = .ok (.iinc 2 1, 3) := by decide +kernel
theorem dX7_mixChip_21 : decode cX7_mixChip 21 = .ok (.goto (-19), 3) := by decide +kernel
theorem dX7_mixChip_24 : decode cX7_mixChip 24 = .ok (.iconst 0, 1) := by decide +kernel
theorem dX7_mixChip_25 : decode cX7_mixChip 25 = .ok (.istore_n 2, 1) := by decide +kernel
theorem dX7_mixChip_26 : decode cX7_mixChip 26 = .ok (.iload_n 2, 1) := by decide +kernel
theorem dX7_mixChip_27 : decode cX7_mixChip 27 = .ok (.iconst 3, 1) := by decide +kernel
theorem dX7_mixChip_28 : decode cX7_mixChip 28 = .ok (.aload_n 0, 1) := by decide +kernel
theorem dX7_mixChip_29 : decode cX7_mixChip 29 = .ok (.iload_n 1, 1) := by decide +kernel
theorem dX7_mixChip_30 : decode cX7_mixChip 30 = .ok (.iconst 2, 1) := by decide +kernel
theorem dX7_mixChip_31 : decode cX7_mixChip 31 = .ok (.invokevirtual 55, 3) := by decide +kernel
theorem dX7_mixChip_34 : decode cX7_mixChip 34 = .ok (.imul, 1) := by decide +kernel
theorem dX7_mixChip_35 : decode cX7_mixChip 35 = .ok (.if_icmp .ge 24, 3) := by decide +kernel
theorem dX7_mixChip_38 : decode cX7_mixChip 38 = .ok (.aload_n 0, 1) := by decide +kernel
theorem dX7_mixChip_39 : decode cX7_mixChip 39 = .ok (.aload_n 0, 1) := by decide +kernel
theorem dX7_mixChip_40 : decode cX7_mixChip 40 = .ok (.iload_n 1, 1) := by decide +kernel
theorem dX7_mixChip_41 : decode cX7_mixChip 41 = .ok (.iload_n 2, 1) := by decide +kernel
theorem dX7_mixChip_42 : decode cX7_mixChip 42 = .ok (.iconst 3, 1) := by decide +kernel
theorem dX7_mixChip_43 : decode cX7_mixChip 43 = .ok (.idiv, 1) := by decide +kernel
theorem dX7_mixChip_44 : decode cX7_mixChip 44 = .ok (.iload_n 2, 1) := by decide +kernel
theorem dX7_mixChip_45 : decode cX7_mixChip 45 = .ok (.iconst 3, 1) := by decide +kernel
theorem dX7_mixChip_46 : decode cX7_mixChip 46 = .ok (.irem, 1) := by decide +kernel
theorem dX7_mixChip_47 : decode cX7_mixChip 47 = .ok (.invokevirtual 211, 3) := by decide +kernel
theorem dX7_mixChip_50 : decode cX7_mixChip 50 = .ok (.invokevirtual 292, 3) := by decide +kernel
theorem dX7_mixChip_53 : decode cX7_mixChip 53 = .ok (.iinc 2 1, 3) := by decide +kernel
theorem dX7_mixChip_56 : decode cX7_mixChip 56 = .ok (.goto (-30), 3) := by decide +kernel
theorem dX7_mixChip_59 : decode cX7_mixChip 59 = .ok (.return_, 1) := by decide +kernel
theorem dX7_digest_0 : decode cX7_digest 0 = .ok (.aload_n 0, 1) := by decide +kernel
theorem dX7_digest_1 : decode cX7_digest 1 = .ok (.ldc2_w 295, 3) := by decide +kernel
theorem dX7_digest_4 : decode cX7_digest 4 = .ok (.putfield 288, 3) := by decide +kernel
theorem dX7_digest_7 : decode cX7_digest 7 = .ok (.iconst 0, 1) := by decide +kernel
theorem dX7_digest_8 : decode cX7_digest 8 = .ok (.istore_n 1, 1) := by decide +kernel
theorem dX7_digest_9 : decode cX7_digest 9 = .ok (.iload_n 1, 1) := by decide +kernel
theorem dX7_digest_10 : decode cX7_digest 10 = .ok (.iconst 5, 1) := by decide +kernel
theorem dX7_digest_11 : decode cX7_digest 11 = .ok (.if_icmp .ge 18, 3) := by decide +kernel
theorem dX7_digest_14 : decode cX7_digest 14 = .ok (.aload_n 0, 1) := by decide +kernel
theorem dX7_digest_15 : decode cX7_digest 15 = .ok (.aload_n 0, 1) := by decide +kernel
theorem dX7_digest_16 : decode cX7_digest 16 = .ok (.iload_n 1, 1) := by decide +kernel
theorem dX7_digest_17 : decode cX7_digest 17 = .ok (.invokevirtual 283, 3) := by decide +kernel
theorem dX7_digest_20 : decode cX7_digest 20 = .ok (.invokevirtual 292, 3) := by decide +kernel
theorem dX7_digest_23 : decode cX7_digest 23 = .ok (.iinc 1 1, 3) := by decide +kernel
theorem dX7_digest_26 : decode cX7_digest 26 = .ok (.goto (-17), 3) := by decide +kernel
theorem dX7_digest_29 : decode cX7_digest 29 = .ok (.iconst 0, 1) := by decide +kernel
theorem dX7_digest_30 : decode cX7_digest 30 = .ok (.istore_n 1, 1) := by decide +kernel
theorem dX7_digest_31 : decode cX7_digest 31 = .ok (.iload_n 1, 1) := by decide +kernel
theorem dX7_digest_32 : decode cX7_digest 32 = .ok (.iconst 5, 1) := by decide +kernel
theorem dX7_digest_33 : decode cX7_digest 33 = .ok (.if_icmp .ge 18, 3) := by decide +kernel
theorem dX7_digest_36 : decode cX7_digest 36 = .ok (.aload_n 0, 1) := by decide +kernel
theorem dX7_digest_37 : decode cX7_digest 37 = .ok (.aload_n 0, 1) := by decide +kernel
theorem dX7_digest_38 : decode cX7_digest 38 = .ok (.iload_n 1, 1) := by decide +kernel
theorem dX7_digest_39 : decode cX7_digest 39 = .ok (.invokevirtual 220, 3) := by decide +kernel
theorem dX7_digest_42 : decode cX7_digest 42 = .ok (.invokevirtual 292, 3) := by decide +kernel
theorem dX7_digest_45 : decode cX7_digest 45 = .ok (.iinc 1 1, 3) := by decide +kernel
theorem dX7_digest_48 : decode cX7_digest 48 = .ok (.goto (-17), 3) := by decide +kernel
theorem dX7_digest_51 : decode cX7_digest 51 = .ok (.iconst 0, 1) := by decide +kernel
theorem dX7_digest_52 : decode cX7_digest 52 = .ok (.istore_n 1, 1) := by decide +kernel
theorem dX7_digest_53 : decode cX7_digest 53 = .ok (.iload_n 1, 1) := by decide +kernel
theorem dX7_digest_54 : decode cX7_digest 54 = .ok (.iconst 5, 1) := by decide +kernel
theorem dX7_digest_55 : decode cX7_digest 55 = .ok (.if_icmp .ge 18, 3) := by decide +kernel
theorem dX7_digest_58 : decode cX7_digest 58 = .ok (.aload_n 0, 1) := by decide +kernel
theorem dX7_digest_59 : decode cX7_digest 59 = .ok (.aload_n 0, 1) := by decide +kernel
theorem dX7_digest_60 : decode cX7_digest 60 = .ok (.iload_n 1, 1) := by decide +kernel
theorem dX7_digest_61 : decode cX7_digest 61 = .ok (.invokevirtual 205, 3) := by decide +kernel
theorem dX7_digest_64 : decode cX7_digest 64 = .ok (.invokevirtual 292, 3) := by decide +kernel
theorem dX7_digest_67 : decode cX7_digest 67 = .ok (.iinc 1 1, 3) := by decide +kernel
theorem dX7_digest_70 : decode cX7_digest 70 = .ok (.goto (-17), 3) := by decide +kernel
theorem dX7_digest_73 : decode cX7_digest 73 = .ok (.iconst 0, 1) := by decide +kernel
theorem dX7_digest_74 : decode cX7_digest 74 = .ok (.istore_n 1, 1) := by decide +kernel
theorem dX7_digest_75 : decode cX7_digest 75 = .ok (.iload_n 1, 1) := by decide +kernel
theorem dX7_digest_76 : decode cX7_digest 76 = .ok (.aload_n 0, 1) := by decide +kernel
theorem dX7_digest_77 : decode cX7_digest 77 = .ok (.invokevirtual 121, 3) := by decide +kernel
theorem dX7_digest_80 : decode cX7_digest 80 = .ok (.if_icmp .ge 14, 3) := by decide +kernel
theorem dX7_digest_83 : decode cX7_digest 83 = .ok (.aload_n 0, 1) := by decide +kernel
theorem dX7_digest_84 : decode cX7_digest 84 = .ok (.iload_n 1, 1) := by decide +kernel
theorem dX7_digest_85 : decode cX7_digest 85 = .ok (.invokevirtual 297, 3) := by decide +kernel
theorem dX7_digest_88 : decode cX7_digest 88 = .ok (.iinc 1 1, 3) := by decide +kernel
theorem dX7_digest_91 : decode cX7_digest 91 = .ok (.goto (-16), 3) := by decide +kernel
theorem dX7_digest_94 : decode cX7_digest 94 = .ok (.iconst 0, 1) := by decide +kernel
theorem dX7_digest_95 : decode cX7_digest 95 = .ok (.istore_n 1, 1) := by decide +kernel
theorem dX7_digest_96 : decode cX7_digest 96 = .ok (.iload_n 1, 1) := by decide +kernel
theorem dX7_digest_97 : decode cX7_digest 97 = .ok (.aload_n 0, 1) := by decide +kernel
theorem dX7_digest_98 : decode cX7_digest 98 = .ok (.getfield 7, 3) := by decide +kernel
theorem dX7_digest_101 : decode cX7_digest 101 = .ok (.iconst 2, 1) := by decide +kernel
theorem dX7_digest_102 : decode cX7_digest 102 = .ok (.iaload, 1) := by decide +kernel
theorem dX7_digest_103 : decode cX7_digest 103 = .ok (.if_icmp .ge 21, 3) := by decide +kernel
theorem dX7_digest_106 : decode cX7_digest 106 = .ok (.aload_n 0, 1) := by decide +kernel
theorem dX7_digest_107 : decode cX7_digest 107 = .ok (.aload_n 0, 1) := by decide +kernel
theorem dX7_digest_108 : decode cX7_digest 108 = .ok (.getfield 7, 3) := by decide +kernel
theorem dX7_digest_111 : decode cX7_digest 111 = .ok (.iconst 3, 1) := by decide +kernel
theorem dX7_digest_112 : decode cX7_digest 112 = .ok (.iload_n 1, 1) := by decide +kernel
theorem dX7_digest_113 : decode cX7_digest 113 = .ok (.iadd, 1) := by decide +kernel
theorem dX7_digest_114 : decode cX7_digest 114 = .ok (.iaload, 1) := by decide +kernel
theorem dX7_digest_115 : decode cX7_digest 115 = .ok (.invokevirtual 292, 3) := by decide +kernel
theorem dX7_digest_118 : decode cX7_digest 118 = .ok (.iinc 1 1, 3) := by decide +kernel
theorem dX7_digest_121 : decode cX7_digest 121 = .ok (.goto (-25), 3) := by decide +kernel
theorem dX7_digest_124 : decode cX7_digest 124 = .ok (.aload_n 0, 1) := by decide +kernel
theorem dX7_digest_125 : decode cX7_digest 125 = .ok (.aload_n 0, 1) := by decide +kernel
theorem dX7_digest_126 : decode cX7_digest 126 = .ok (.iconst 0, 1) := by decide +kernel
theorem dX7_digest_127 : decode cX7_digest 127 = .ok (.invokevirtual 223, 3) := by decide +kernel
theorem dX7_digest_130 : decode cX7_digest 130 = .ok (.invokevirtual 292, 3) := by decide +kernel
theorem dX7_digest_133 : decode cX7_digest 133 = .ok (.aload_n 0, 1) := by decide +kernel
theorem dX7_digest_134 : decode cX7_digest 134 = .ok (.aload_n 0, 1) := by decide +kernel
theorem dX7_digest_135 : decode cX7_digest 135 = .ok (.iconst 0, 1) := by decide +kernel
theorem dX7_digest_136 : decode cX7_digest 136 = .ok (.invokevirtual 239, 3) := by decide +kernel
theorem dX7_digest_139 : decode cX7_digest 139 = .ok (.invokevirtual 292, 3) := by decide +kernel
theorem dX7_digest_142 : decode cX7_digest 142 = .ok (.aload_n 0, 1) := by decide +kernel
theorem dX7_digest_143 : decode cX7_digest 143 = .ok (.aload_n 0, 1) := by decide +kernel
theorem dX7_digest_144 : decode cX7_digest 144 = .ok (.iconst 1, 1) := by decide +kernel
theorem dX7_digest_145 : decode cX7_digest 145 = .ok (.invokevirtual 239, 3) := by decide +kernel
theorem dX7_digest_148 : decode cX7_digest 148 = .ok (.invokevirtual 292, 3) := by decide +kernel
theorem dX7_digest_151 : decode cX7_digest 151 = .ok (.aload_n 0, 1) := by decide +kernel
theorem dX7_digest_152 : decode cX7_digest 152 = .ok (.aload_n 0, 1) := by decide +kernel
theorem dX7_digest_153 : decode cX7_digest 153 = .ok (.iconst 0, 1) := by decide +kernel
theorem dX7_digest_154 : decode cX7_digest 154 = .ok (.iconst (-1), 1) := by decide +kernel
theorem dX7_digest_155 : decode cX7_digest 155 = .ok (.invokevirtual 245, 3) := by decide +kernel
theorem dX7_digest_158 : decode cX7_digest 158 = .ok (.invokevirtual 292, 3) := by decide +kernel
theorem dX7_digest_161 : decode cX7_digest 161 = .ok (.aload_n 0, 1) := by decide +kernel
theorem dX7_digest_162 : decode cX7_digest 162 = .ok (.aload_n 0, 1) := by decide +kernel
theorem dX7_digest_163 : decode cX7_digest 163 = .ok (.iconst 1, 1) := by decide +kernel
theorem dX7_digest_164 : decode cX7_digest 164 = .ok (.iconst (-1), 1) := by decide +kernel
theorem dX7_digest_165 : decode cX7_digest 165 = .ok (.invokevirtual 245, 3) := by decide +kernel
theorem dX7_digest_168 : decode cX7_digest 168 = .ok (.invokevirtual 292, 3) := by decide +kernel
theorem dX7_digest_171 : decode cX7_digest 171 = .ok (.aload_n 0, 1) := by decide +kernel
theorem dX7_digest_172 : decode cX7_digest 172 = .ok (.getfield 288, 3) := by decide +kernel
theorem dX7_digest_175 : decode cX7_digest 175 = .ok (.lreturn, 1) := by decide +kernel
end
section
theorem dL_law_0 : decode cL_law 0 = .ok (.new 7, 3) := by decide +kernel
theorem dL_law_3 : decode cL_law 3 = .ok (.dup, 1) := by decide +kernel
theorem dL_law_4 : decode cL_law 4 = .ok (.invokespecial 9, 3) := by decide +kernel
theorem dL_law_7 : decode cL_law 7 = .ok (.astore_n 1, 1) := by decide +kernel
theorem dL_law_8 : decode cL_law 8 = .ok (.new 10, 3) := by decide +kernel
theorem dL_law_11 : decode cL_law 11 = .ok (.dup, 1) := by decide +kernel
theorem dL_law_12 : decode cL_law 12 = .ok (.invokespecial 12, 3) := by decide +kernel
theorem dL_law_15 : decode cL_law 15 = .ok (.astore_n 2, 1) := by decide +kernel
theorem dL_law_16 : decode cL_law 16 = .ok (.iconst 0, 1) := by decide +kernel
theorem dL_law_17 : decode cL_law 17 = .ok (.istore_n 3, 1) := by decide +kernel
theorem dL_law_18 : decode cL_law 18 = .ok (.iload_n 3, 1) := by decide +kernel
theorem dL_law_19 : decode cL_law 19 = .ok (.aload_n 0, 1) := by decide +kernel
theorem dL_law_20 : decode cL_law 20 = .ok (.arraylength, 1) := by decide +kernel
theorem dL_law_21 : decode cL_law 21 = .ok (.iconst 4, 1) := by decide +kernel
theorem dL_law_22 : decode cL_law 22 = .ok (.isub, 1) := by decide +kernel
theorem dL_law_23 : decode cL_law 23 = .ok (.if_icmp .gt 810, 3) := by decide +kernel
theorem dL_law_26 : decode cL_law 26 = .ok (.aload_n 0, 1) := by decide +kernel
theorem dL_law_27 : decode cL_law 27 = .ok (.iload_n 3, 1) := by decide +kernel
theorem dL_law_28 : decode cL_law 28 = .ok (.iaload, 1) := by decide +kernel
theorem dL_law_29 : decode cL_law 29 = .ok (.bipush 31, 2) := by decide +kernel
theorem dL_law_31 : decode cL_law 31 = .ok (.iand, 1) := by decide +kernel
theorem dL_law_32 : decode cL_law 32 = .ok (.tableswitch 795 0 23 #[112, 145, 188, 221, 254, 297, 310, 343, 386, 409, 442, 485, 508, 531, 554, 597, 640, 663, 696, 719, 732, 745, 758, 781], 112) := by decide +kernel
theorem dL_law_144 : decode cL_law 144 = .ok (.aload_n 1, 1) := by decide +kernel
theorem dL_law_145 : decode cL_law 145 = .ok (.aload_n 0, 1) := by decide +kernel
theorem dL_law_146 : decode cL_law 146 = .ok (.iload_n 3, 1) := by decide +kernel
theorem dL_law_147 : decode cL_law 147 = .ok (.iconst 1, 1) := by decide +kernel
theorem dL_law_148 : decode cL_law 148 = .ok (.iadd, 1) := by decide +kernel
theorem dL_law_149 : decode cL_law 149 = .ok (.iaload, 1) := by decide +kernel
theorem dL_law_150 : decode cL_law 150 = .ok (.aload_n 0, 1) := by decide +kernel
theorem dL_law_151 : decode cL_law 151 = .ok (.iload_n 3, 1) := by decide +kernel
theorem dL_law_152 : decode cL_law 152 = .ok (.iconst 2, 1) := by decide +kernel
theorem dL_law_153 : decode cL_law 153 = .ok (.iadd, 1) := by decide +kernel
theorem dL_law_154 : decode cL_law 154 = .ok (.iaload, 1) := by decide +kernel
theorem dL_law_155 : decode cL_law 155 = .ok (.invokevirtual 13, 3) := by decide +kernel
theorem dL_law_158 : decode cL_law 158 = .ok (.aload_n 2, 1) := by decide +kernel
theorem dL_law_159 : decode cL_law 159 = .ok (.aload_n 0, 1) := by decide +kernel
theorem dL_law_160 : decode cL_law 160 = .ok (.iload_n 3, 1) := by decide +kernel
theorem dL_law_161 : decode cL_law 161 = .ok (.iconst 1, 1) := by decide +kernel
theorem dL_law_162 : decode cL_law 162 = .ok (.iadd, 1) := by decide +kernel
theorem dL_law_163 : decode cL_law 163 = .ok (.iaload, 1) := by decide +kernel
theorem dL_law_164 : decode cL_law 164 = .ok (.aload_n 0, 1) := by decide +kernel
theorem dL_law_165 : decode cL_law 165 = .ok (.iload_n 3, 1) := by decide +kernel
theorem dL_law_166 : decode cL_law 166 = .ok (.iconst 2, 1) := by decide +kernel
theorem dL_law_167 : decode cL_law 167 = .ok (.iadd, 1) := by decide +kernel
theorem dL_law_168 : decode cL_law 168 = .ok (.iaload, 1) := by decide +kernel
theorem dL_law_169 : decode cL_law 169 = .ok (.invokevirtual 17, 3) := by decide +kernel
theorem dL_law_172 : decode cL_law 172 = .ok (.if_icmp .eq 655, 3) := by decide +kernel
theorem dL_law_175 : decode cL_law 175 = .ok (.iconst 0, 1) := by decide +kernel
theorem dL_law_176 : decode cL_law 176 = .ok (.ireturn, 1) := by decide +kernel
theorem dL_law_177 : decode cL_law 177 = .ok (.aload_n 1, 1) := by decide +kernel
theorem dL_law_178 : decode cL_law 178 = .ok (.aload_n 0, 1) := by decide +kernel
theorem dL_law_179 : decode cL_law 179 = .ok (.iload_n 3, 1) := by decide +kernel
theorem dL_law_180 : decode cL_law 180 = .ok (.iconst 1, 1) := by decide +kernel
theorem dL_law_181 : decode cL_law 181 = .ok (.iadd, 1) := by decide +kernel
theorem dL_law_182 : decode cL_law 182 = .ok (.iaload, 1) := by decide +kernel
theorem dL_law_183 : decode cL_law 183 = .ok (.aload_n 0, 1) := by decide +kernel
theorem dL_law_184 : decode cL_law 184 = .ok (.iload_n 3, 1) := by decide +kernel
theorem dL_law_185 : decode cL_law 185 = .ok (.iconst 2, 1) := by decide +kernel
theorem dL_law_186 : decode cL_law 186 = .ok (.iadd, 1) := by decide +kernel
theorem dL_law_187 : decode cL_law 187 = .ok (.iaload, 1) := by decide +kernel
theorem dL_law_188 : decode cL_law 188 = .ok (.aload_n 0, 1) := by decide +kernel
theorem dL_law_189 : decode cL_law 189 = .ok (.iload_n 3, 1) := by decide +kernel
theorem dL_law_190 : decode cL_law 190 = .ok (.iconst 3, 1) := by decide +kernel
theorem dL_law_191 : decode cL_law 191 = .ok (.iadd, 1) := by decide +kernel
theorem dL_law_192 : decode cL_law 192 = .ok (.iaload, 1) := by decide +kernel
theorem dL_law_193 : decode cL_law 193 = .ok (.invokevirtual 18, 3) := by decide +kernel
theorem dL_law_196 : decode cL_law 196 = .ok (.aload_n 2, 1) := by decide +kernel
theorem dL_law_197 : decode cL_law 197 = .ok (.aload_n 0, 1) := by decide +kernel
theorem dL_law_198 : decode cL_law 198 = .ok (.iload_n 3, 1) := by decide +kernel
theorem dL_law_199 : decode cL_law 199 = .ok (.iconst 1, 1) := by decide +kernel
theorem dL_law_200 : decode cL_law 200 = .ok (.iadd, 1) := by decide +kernel
theorem dL_law_201 : decode cL_law 201 = .ok (.iaload, 1) := by decide +kernel
theorem dL_law_202 : decode cL_law 202 = .ok (.aload_n 0, 1) := by decide +kernel
theorem dL_law_203 : decode cL_law 203 = .ok (.iload_n 3, 1) := by decide +kernel
theorem dL_law_204 : decode cL_law 204 = .ok (.iconst 2, 1) := by decide +kernel
theorem dL_law_205 : decode cL_law 205 = .ok (.iadd, 1) := by decide +kernel
theorem dL_law_206 : decode cL_law 206 = .ok (.iaload, 1) := by decide +kernel
theorem dL_law_207 : decode cL_law 207 = .ok (.aload_n 0, 1) := by decide +kernel
theorem dL_law_208 : decode cL_law 208 = .ok (.iload_n 3, 1) := by decide +kernel
theorem dL_law_209 : decode cL_law 209 = .ok (.iconst 3, 1) := by decide +kernel
theorem dL_law_210 : decode cL_law 210 = .ok (.iadd, 1) := by decide +kernel
theorem dL_law_211 : decode cL_law 211 = .ok (.iaload, 1) := by decide +kernel
theorem dL_law_212 : decode cL_law 212 = .ok (.invokevirtual 22, 3) := by decide +kernel
theorem dL_law_215 : decode cL_law 215 = .ok (.if_icmp .eq 612, 3) := by decide +kernel
theorem dL_law_218 : decode cL_law 218 = .ok (.iconst 0, 1) := by decide +kernel
theorem dL_law_219 : decode cL_law 219 = .ok (.ireturn, 1) := by decide +kernel
theorem dL_law_220 : decode cL_law 220 = .ok (.aload_n 1, 1) := by decide +kernel
theorem dL_law_221 : decode cL_law 221 = .ok (.aload_n 0, 1) := by decide +kernel
theorem dL_law_222 : decode cL_law 222 = .ok (.iload_n 3, 1) := by decide +kernel
theorem dL_law_223 : decode cL_law 223 = .ok (.iconst 1, 1) := by decide +kernel
theorem dL_law_224 : decode cL_law 224 = .ok (.iadd, 1) := by decide +kernel
theorem dL_law_225 : decode cL_law 225 = .ok (.iaload, 1) := by decide +kernel
theorem dL_law_226 : decode cL_law 226 = .ok (.aload_n 0, 1) := by decide +kernel
theorem dL_law_227 : decode cL_law 227 = .ok (.iload_n 3, 1) := by decide +kernel
theorem dL_law_228 : decode cL_law 228 = .ok (.iconst 2, 1) := by decide +kernel
theorem dL_law_229 : decode cL_law 229 = .ok (.iadd, 1) := by decide +kernel
theorem dL_law_230 : decode cL_law 230 = .ok (.iaload, 1) := by decide +kernel
theorem dL_law_231 : decode cL_law 231 = .ok (.invokevirtual 23, 3) := by decide +kernel
theorem dL_law_234 : decode cL_law 234 = .ok (.aload_n 2, 1) := by decide +kernel
theorem dL_law_235 : decode cL_law 235 = .ok (.aload_n 0, 1) := by decide +kernel
theorem dL_law_236 : decode cL_law 236 = .ok (.iload_n 3, 1) := by decide +kernel
theorem dL_law_237 : decode cL_law 237 = .ok (.iconst 1, 1) := by decide +kernel
theorem dL_law_238 : decode cL_law 238 = .ok (.iadd, 1) := by decide +kernel
theorem dL_law_239 : decode cL_law 239 = .ok (.iaload, 1) := by decide +kernel
theorem dL_law_240 : decode cL_law 240 = .ok (.aload_n 0, 1) := by decide +kernel
theorem dL_law_241 : decode cL_law 241 = .ok (.iload_n 3, 1) := by decide +kernel
theorem dL_law_242 : decode cL_law 242 = .ok (.iconst 2, 1) := by decide +kernel
theorem dL_law_243 : decode cL_law 243 = .ok (.iadd, 1) := by decide +kernel
theorem dL_law_244 : decode cL_law 244 = .ok (.iaload, 1) := by decide +kernel
theorem dL_law_245 : decode cL_law 245 = .ok (.invokevirtual 26, 3) := by decide +kernel
theorem dL_law_248 : decode cL_law 248 = .ok (.if_icmp .eq 579, 3) := by decide +kernel
theorem dL_law_251 : decode cL_law 251 = .ok (.iconst 0, 1) := by decide +kernel
theorem dL_law_252 : decode cL_law 252 = .ok (.ireturn, 1) := by decide +kernel
theorem dL_law_253 : decode cL_law 253 = .ok (.aload_n 1, 1) := by decide +kernel
theorem dL_law_254 : decode cL_law 254 = .ok (.aload_n 0, 1) := by decide +kernel
theorem dL_law_255 : decode cL_law 255 = .ok (.iload_n 3, 1) := by decide +kernel
theorem dL_law_256 : decode cL_law 256 = .ok (.iconst 1, 1) := by decide +kernel
theorem dL_law_257 : decode cL_law 257 = .ok (.iadd, 1) := by decide +kernel
theorem dL_law_258 : decode cL_law 258 = .ok (.iaload, 1) := by decide +kernel
theorem dL_law_259 : decode cL_law 259 = .ok (.aload_n 0, 1) := by decide +kernel
theorem dL_law_260 : decode cL_law 260 = .ok (.iload_n 3, 1) := by decide +kernel
theorem dL_law_261 : decode cL_law 261 = .ok (.iconst 2, 1) := by decide +kernel
theorem dL_law_262 : decode cL_law 262 = .ok (.iadd, 1) := by decide +kernel
theorem dL_law_263 : decode cL_law 263 = .ok (.iaload, 1) := by decide +kernel
theorem dL_law_264 : decode cL_law 264 = .ok (.invokevirtual 27, 3) := by decide +kernel
theorem dL_law_267 : decode cL_law 267 = .ok (.aload_n 2, 1) := by decide +kernel
theorem dL_law_268 : decode cL_law 268 = .ok (.aload_n 0, 1) := by decide +kernel
theorem dL_law_269 : decode cL_law 269 = .ok (.iload_n 3, 1) := by decide +kernel
theorem dL_law_270 : decode cL_law 270 = .ok (.iconst 1, 1) := by decide +kernel
theorem dL_law_271 : decode cL_law 271 = .ok (.iadd, 1) := by decide +kernel
theorem dL_law_272 : decode cL_law 272 = .ok (.iaload, 1) := by decide +kernel
theorem dL_law_273 : decode cL_law 273 = .ok (.aload_n 0, 1) := by decide +kernel
theorem dL_law_274 : decode cL_law 274 = .ok (.iload_n 3, 1) := by decide +kernel
theorem dL_law_275 : decode cL_law 275 = .ok (.iconst 2, 1) := by decide +kernel
theorem dL_law_276 : decode cL_law 276 = .ok (.iadd, 1) := by decide +kernel
theorem dL_law_277 : decode cL_law 277 = .ok (.iaload, 1) := by decide +kernel
theorem dL_law_278 : decode cL_law 278 = .ok (.invokevirtual 30, 3) := by decide +kernel
theorem dL_law_281 : decode cL_law 281 = .ok (.if_icmp .eq 546, 3) := by decide +kernel
theorem dL_law_284 : decode cL_law 284 = .ok (.iconst 0, 1) := by decide +kernel
theorem dL_law_285 : decode cL_law 285 = .ok (.ireturn, 1) := by decide +kernel
theorem dL_law_286 : decode cL_law 286 = .ok (.aload_n 1, 1) := by decide +kernel
theorem dL_law_287 : decode cL_law 287 = .ok (.aload_n 0, 1) := by decide +kernel
theorem dL_law_288 : decode cL_law 288 = .ok (.iload_n 3, 1) := by decide +kernel
theorem dL_law_289 : decode cL_law 289 = .ok (.iconst 1, 1) := by decide +kernel
theorem dL_law_290 : decode cL_law 290 = .ok (.iadd, 1) := by decide +kernel
theorem dL_law_291 : decode cL_law 291 = .ok (.iaload, 1) := by decide +kernel
theorem dL_law_292 : decode cL_law 292 = .ok (.aload_n 0, 1) := by decide +kernel
theorem dL_law_293 : decode cL_law 293 = .ok (.iload_n 3, 1) := by decide +kernel
theorem dL_law_294 : decode cL_law 294 = .ok (.iconst 2, 1) := by decide +kernel
theorem dL_law_295 : decode cL_law 295 = .ok (.iadd, 1) := by decide +kernel
theorem dL_law_296 : decode cL_law 296 = .ok (.iaload, 1) := by decide +kernel
theorem dL_law_297 : decode cL_law 297 = .ok (.aload_n 0, 1) := by decide +kernel
theorem dL_law_298 : decode cL_law 298 = .ok (.iload_n 3, 1) := by decide +kernel
theorem dL_law_299 : decode cL_law 299 = .ok (.iconst 3, 1) := by decide +kernel
theorem dL_law_300 : decode cL_law 300 = .ok (.iadd, 1) := by decide +kernel
theorem dL_law_301 : decode cL_law 301 = .ok (.iaload, 1) := by decide +kernel
theorem dL_law_302 : decode cL_law 302 = .ok (.invokevirtual 31, 3) := by decide +kernel
theorem dL_law_305 : decode cL_law 305 = .ok (.aload_n 2, 1) := by decide +kernel
theorem dL_law_306 : decode cL_law 306 = .ok (.aload_n 0, 1) := by decide +kernel
theorem dL_law_307 : decode cL_law 307 = .ok (.iload_n 3, 1) := by decide +kernel
theorem dL_law_308 : decode cL_law 308 = .ok (.iconst 1, 1) := by decide +kernel
theorem dL_law_309 : decode cL_law 309 = .ok (.iadd, 1) := by decide +kernel
theorem dL_law_310 : decode cL_law 310 = .ok (.iaload, 1) := by decide +kernel
theorem dL_law_311 : decode cL_law 311 = .ok (.aload_n 0, 1) := by decide +kernel
theorem dL_law_312 : decode cL_law 312 = .ok (.iload_n 3, 1) := by decide +kernel
theorem dL_law_313 : decode cL_law 313 = .ok (.iconst 2, 1) := by decide +kernel
theorem dL_law_314 : decode cL_law 314 = .ok (.iadd, 1) := by decide +kernel
theorem dL_law_315 : decode cL_law 315 = .ok (.iaload, 1) := by decide +kernel
theorem dL_law_316 : decode cL_law 316 = .ok (.aload_n 0, 1) := by decide +kernel
theorem dL_law_317 : decode cL_law 317 = .ok (.iload_n 3, 1) := by decide +kernel
theorem dL_law_318 : decode cL_law 318 = .ok (.iconst 3, 1) := by decide +kernel
theorem dL_law_319 : decode cL_law 319 = .ok (.iadd, 1) := by decide +kernel
theorem dL_law_320 : decode cL_law 320 = .ok (.iaload, 1) := by decide +kernel
theorem dL_law_321 : decode cL_law 321 = .ok (.invokevirtual 34, 3) := by decide +kernel
theorem dL_law_324 : decode cL_law 324 = .ok (.if_icmp .eq 503, 3) := by decide +kernel
theorem dL_law_327 : decode cL_law 327 = .ok (.iconst 0, 1) := by decide +kernel
theorem dL_law_328 : decode cL_law 328 = .ok (.ireturn, 1) := by decide +kernel
theorem dL_law_329 : decode cL_law 329 = .ok (.aload_n 1, 1) := by decide +kernel
theorem dL_law_330 : decode cL_law 330 = .ok (.invokevirtual 35, 3) := by decide +kernel
theorem dL_law_333 : decode cL_law 333 = .ok (.aload_n 2, 1) := by decide +kernel
theorem dL_law_334 : decode cL_law 334 = .ok (.invokevirtual 39, 3) := by decide +kernel
theorem dL_law_337 : decode cL_law 337 = .ok (.if_icmp .eq 490, 3) := by decide +kernel
theorem dL_law_340 : decode cL_law 340 = .ok (.iconst 0, 1) := by decide +kernel
theorem dL_law_341 : decode cL_law 341 = .ok (.ireturn, 1) := by decide +kernel
theorem dL_law_342 : decode cL_law 342 = .ok (.aload_n 1, 1) := by decide +kernel
theorem dL_law_343 : decode cL_law 343 = .ok (.aload_n 0, 1) := by decide +kernel
theorem dL_law_344 : decode cL_law 344 = .ok (.iload_n 3, 1) := by decide +kernel
theorem dL_law_345 : decode cL_law 345 = .ok (.iconst 1, 1) := by decide +kernel
theorem dL_law_346 : decode cL_law 346 = .ok (.iadd, 1) := by decide +kernel
theorem dL_law_347 : decode cL_law 347 = .ok (.iaload, 1) := by decide +kernel
theorem dL_law_348 : decode cL_law 348 = .ok (.aload_n 0, 1) := by decide +kernel
theorem dL_law_349 : decode cL_law 349 = .ok (.iload_n 3, 1) := by decide +kernel
theorem dL_law_350 : decode cL_law 350 = .ok (.iconst 2, 1) := by decide +kernel
theorem dL_law_351 : decode cL_law 351 = .ok (.iadd, 1) := by decide +kernel
theorem dL_law_352 : decode cL_law 352 = .ok (.iaload, 1) := by decide +kernel
theorem dL_law_353 : decode cL_law 353 = .ok (.invokevirtual 40, 3) := by decide +kernel
theorem dL_law_356 : decode cL_law 356 = .ok (.aload_n 2, 1) := by decide +kernel
theorem dL_law_357 : decode cL_law 357 = .ok (.aload_n 0, 1) := by decide +kernel
theorem dL_law_358 : decode cL_law 358 = .ok (.iload_n 3, 1) := by decide +kernel
theorem dL_law_359 : decode cL_law 359 = .ok (.iconst 1, 1) := by decide +kernel
theorem dL_law_360 : decode cL_law 360 = .ok (.iadd, 1) := by decide +kernel
theorem dL_law_361 : decode cL_law 361 = .ok (.iaload, 1) := by decide +kernel
theorem dL_law_362 : decode cL_law 362 = .ok (.aload_n 0, 1) := by decide +kernel
theorem dL_law_363 : decode cL_law 363 = .ok (.iload_n 3, 1) := by decide +kernel
theorem dL_law_364 : decode cL_law 364 = .ok (.iconst 2, 1) := by decide +kernel
theorem dL_law_365 : decode cL_law 365 = .ok (.iadd, 1) := by decide +kernel
theorem dL_law_366 : decode cL_law 366 = .ok (.iaload, 1) := by decide +kernel
theorem dL_law_367 : decode cL_law 367 = .ok (.invokevirtual 43, 3) := by decide +kernel
theorem dL_law_370 : decode cL_law 370 = .ok (.if_icmp .eq 457, 3) := by decide +kernel
theorem dL_law_373 : decode cL_law 373 = .ok (.iconst 0, 1) := by decide +kernel
theorem dL_law_374 : decode cL_law 374 = .ok (.ireturn, 1) := by decide +kernel
theorem dL_law_375 : decode cL_law 375 = .ok (.aload_n 1, 1) := by decide +kernel
theorem dL_law_376 : decode cL_law 376 = .ok (.aload_n 0, 1) := by decide +kernel
theorem dL_law_377 : decode cL_law 377 = .ok (.iload_n 3, 1) := by decide +kernel
theorem dL_law_378 : decode cL_law 378 = .ok (.iconst 1, 1) := by decide +kernel
theorem dL_law_379 : decode cL_law 379 = .ok (.iadd, 1) := by decide +kernel
theorem dL_law_380 : decode cL_law 380 = .ok (.iaload, 1) := by decide +kernel
theorem dL_law_381 : decode cL_law 381 = .ok (.aload_n 0, 1) := by decide +kernel
theorem dL_law_382 : decode cL_law 382 = .ok (.iload_n 3, 1) := by decide +kernel
theorem dL_law_383 : decode cL_law 383 = .ok (.iconst 2, 1) := by decide +kernel
theorem dL_law_384 : decode cL_law 384 = .ok (.iadd, 1) := by decide +kernel
theorem dL_law_385 : decode cL_law 385 = .ok (.iaload, 1) := by decide +kernel
theorem dL_law_386 : decode cL_law 386 = .ok (.aload_n 0, 1) := by decide +kernel
theorem dL_law_387 : decode cL_law 387 = .ok (.iload_n 3, 1) := by decide +kernel
theorem dL_law_388 : decode cL_law 388 = .ok (.iconst 3, 1) := by decide +kernel
theorem dL_law_389 : decode cL_law 389 = .ok (.iadd, 1) := by decide +kernel
theorem dL_law_390 : decode cL_law 390 = .ok (.iaload, 1) := by decide +kernel
theorem dL_law_391 : decode cL_law 391 = .ok (.invokevirtual 44, 3) := by decide +kernel
theorem dL_law_394 : decode cL_law 394 = .ok (.aload_n 2, 1) := by decide +kernel
theorem dL_law_395 : decode cL_law 395 = .ok (.aload_n 0, 1) := by decide +kernel
theorem dL_law_396 : decode cL_law 396 = .ok (.iload_n 3, 1) := by decide +kernel
theorem dL_law_397 : decode cL_law 397 = .ok (.iconst 1, 1) := by decide +kernel
theorem dL_law_398 : decode cL_law 398 = .ok (.iadd, 1) := by decide +kernel
theorem dL_law_399 : decode cL_law 399 = .ok (.iaload, 1) := by decide +kernel
theorem dL_law_400 : decode cL_law 400 = .ok (.aload_n 0, 1) := by decide +kernel
theorem dL_law_401 : decode cL_law 401 = .ok (.iload_n 3, 1) := by decide +kernel
theorem dL_law_402 : decode cL_law 402 = .ok (.iconst 2, 1) := by decide +kernel
theorem dL_law_403 : decode cL_law 403 = .ok (.iadd, 1) := by decide +kernel
theorem dL_law_404 : decode cL_law 404 = .ok (.iaload, 1) := by decide +kernel
theorem dL_law_405 : decode cL_law 405 = .ok (.aload_n 0, 1) := by decide +kernel
theorem dL_law_406 : decode cL_law 406 = .ok (.iload_n 3, 1) := by decide +kernel
theorem dL_law_407 : decode cL_law 407 = .ok (.iconst 3, 1) := by decide +kernel
theorem dL_law_408 : decode cL_law 408 = .ok (.iadd, 1) := by decide +kernel
theorem dL_law_409 : decode cL_law 409 = .ok (.iaload, 1) := by decide +kernel
theorem dL_law_410 : decode cL_law 410 = .ok (.invokevirtual 47, 3) := by decide +kernel
theorem dL_law_413 : decode cL_law 413 = .ok (.if_icmp .eq 414, 3) := by decide +kernel
theorem dL_law_416 : decode cL_law 416 = .ok (.iconst 0, 1) := by decide +kernel
theorem dL_law_417 : decode cL_law 417 = .ok (.ireturn, 1) := by decide +kernel
theorem dL_law_418 : decode cL_law 418 = .ok (.aload_n 1, 1) := by decide +kernel
theorem dL_law_419 : decode cL_law 419 = .ok (.aload_n 0, 1) := by decide +kernel
theorem dL_law_420 : decode cL_law 420 = .ok (.iload_n 3, 1) := by decide +kernel
theorem dL_law_421 : decode cL_law 421 = .ok (.iconst 1, 1) := by decide +kernel
theorem dL_law_422 : decode cL_law 422 = .ok (.iadd, 1) := by decide +kernel
theorem dL_law_423 : decode cL_law 423 = .ok (.iaload, 1) := by decide +kernel
theorem dL_law_424 : decode cL_law 424 = .ok (.invokevirtual 48, 3) := by decide +kernel
theorem dL_law_427 : decode cL_law 427 = .ok (.aload_n 2, 1) := by decide +kernel
theorem dL_law_428 : decode cL_law 428 = .ok (.aload_n 0, 1) := by decide +kernel
theorem dL_law_429 : decode cL_law 429 = .ok (.iload_n 3, 1) := by decide +kernel
theorem dL_law_430 : decode cL_law 430 = .ok (.iconst 1, 1) := by decide +kernel
theorem dL_law_431 : decode cL_law 431 = .ok (.iadd, 1) := by decide +kernel
theorem dL_law_432 : decode cL_law 432 = .ok (.iaload, 1) := by decide +kernel
theorem dL_law_433 : decode cL_law 433 = .ok (.invokevirtual 52, 3) := by decide +kernel
theorem dL_law_436 : decode cL_law 436 = .ok (.if_icmp .eq 391, 3) := by decide +kernel
theorem dL_law_439 : decode cL_law 439 = .ok (.iconst 0, 1) := by decide +kernel
theorem dL_law_440 : decode cL_law 440 = .ok (.ireturn, 1) := by decide +kernel
theorem dL_law_441 : decode cL_law 441 = .ok (.aload_n 1, 1) := by decide +kernel
theorem dL_law_442 : decode cL_law 442 = .ok (.aload_n 0, 1) := by decide +kernel
theorem dL_law_443 : decode cL_law 443 = .ok (.iload_n 3, 1) := by decide +kernel
theorem dL_law_444 : decode cL_law 444 = .ok (.iconst 1, 1) := by decide +kernel
theorem dL_law_445 : decode cL_law 445 = .ok (.iadd, 1) := by decide +kernel
theorem dL_law_446 : decode cL_law 446 = .ok (.iaload, 1) := by decide +kernel
theorem dL_law_447 : decode cL_law 447 = .ok (.aload_n 0, 1) := by decide +kernel
theorem dL_law_448 : decode cL_law 448 = .ok (.iload_n 3, 1) := by decide +kernel
theorem dL_law_449 : decode cL_law 449 = .ok (.iconst 2, 1) := by decide +kernel
theorem dL_law_450 : decode cL_law 450 = .ok (.iadd, 1) := by decide +kernel
theorem dL_law_451 : decode cL_law 451 = .ok (.iaload, 1) := by decide +kernel
theorem dL_law_452 : decode cL_law 452 = .ok (.invokevirtual 53, 3) := by decide +kernel
theorem dL_law_455 : decode cL_law 455 = .ok (.aload_n 2, 1) := by decide +kernel
theorem dL_law_456 : decode cL_law 456 = .ok (.aload_n 0, 1) := by decide +kernel
theorem dL_law_457 : decode cL_law 457 = .ok (.iload_n 3, 1) := by decide +kernel
theorem dL_law_458 : decode cL_law 458 = .ok (.iconst 1, 1) := by decide +kernel
theorem dL_law_459 : decode cL_law 459 = .ok (.iadd, 1) := by decide +kernel
theorem dL_law_460 : decode cL_law 460 = .ok (.iaload, 1) := by decide +kernel
theorem dL_law_461 : decode cL_law 461 = .ok (.aload_n 0, 1) := by decide +kernel
theorem dL_law_462 : decode cL_law 462 = .ok (.iload_n 3, 1) := by decide +kernel
theorem dL_law_463 : decode cL_law 463 = .ok (.iconst 2, 1) := by decide +kernel
theorem dL_law_464 : decode cL_law 464 = .ok (.iadd, 1) := by decide +kernel
theorem dL_law_465 : decode cL_law 465 = .ok (.iaload, 1) := by decide +kernel
theorem dL_law_466 : decode cL_law 466 = .ok (.invokevirtual 56, 3) := by decide +kernel
theorem dL_law_469 : decode cL_law 469 = .ok (.if_icmp .eq 358, 3) := by decide +kernel
theorem dL_law_472 : decode cL_law 472 = .ok (.iconst 0, 1) := by decide +kernel
theorem dL_law_473 : decode cL_law 473 = .ok (.ireturn, 1) := by decide +kernel
theorem dL_law_474 : decode cL_law 474 = .ok (.aload_n 1, 1) := by decide +kernel
theorem dL_law_475 : decode cL_law 475 = .ok (.aload_n 0, 1) := by decide +kernel
theorem dL_law_476 : decode cL_law 476 = .ok (.iload_n 3, 1) := by decide +kernel
theorem dL_law_477 : decode cL_law 477 = .ok (.iconst 1, 1) := by decide +kernel
theorem dL_law_478 : decode cL_law 478 = .ok (.iadd, 1) := by decide +kernel
theorem dL_law_479 : decode cL_law 479 = .ok (.iaload, 1) := by decide +kernel
theorem dL_law_480 : decode cL_law 480 = .ok (.aload_n 0, 1) := by decide +kernel
theorem dL_law_481 : decode cL_law 481 = .ok (.iload_n 3, 1) := by decide +kernel
theorem dL_law_482 : decode cL_law 482 = .ok (.iconst 2, 1) := by decide +kernel
theorem dL_law_483 : decode cL_law 483 = .ok (.iadd, 1) := by decide +kernel
theorem dL_law_484 : decode cL_law 484 = .ok (.iaload, 1) := by decide +kernel
theorem dL_law_485 : decode cL_law 485 = .ok (.aload_n 0, 1) := by decide +kernel
theorem dL_law_486 : decode cL_law 486 = .ok (.iload_n 3, 1) := by decide +kernel
theorem dL_law_487 : decode cL_law 487 = .ok (.iconst 3, 1) := by decide +kernel
theorem dL_law_488 : decode cL_law 488 = .ok (.iadd, 1) := by decide +kernel
theorem dL_law_489 : decode cL_law 489 = .ok (.iaload, 1) := by decide +kernel
theorem dL_law_490 : decode cL_law 490 = .ok (.invokevirtual 57, 3) := by decide +kernel
theorem dL_law_493 : decode cL_law 493 = .ok (.aload_n 2, 1) := by decide +kernel
theorem dL_law_494 : decode cL_law 494 = .ok (.aload_n 0, 1) := by decide +kernel
theorem dL_law_495 : decode cL_law 495 = .ok (.iload_n 3, 1) := by decide +kernel
theorem dL_law_496 : decode cL_law 496 = .ok (.iconst 1, 1) := by decide +kernel
theorem dL_law_497 : decode cL_law 497 = .ok (.iadd, 1) := by decide +kernel
theorem dL_law_498 : decode cL_law 498 = .ok (.iaload, 1) := by decide +kernel
theorem dL_law_499 : decode cL_law 499 = .ok (.aload_n 0, 1) := by decide +kernel
theorem dL_law_500 : decode cL_law 500 = .ok (.iload_n 3, 1) := by decide +kernel
theorem dL_law_501 : decode cL_law 501 = .ok (.iconst 2, 1) := by decide +kernel
theorem dL_law_502 : decode cL_law 502 = .ok (.iadd, 1) := by decide +kernel
theorem dL_law_503 : decode cL_law 503 = .ok (.iaload, 1) := by decide +kernel
theorem dL_law_504 : decode cL_law 504 = .ok (.aload_n 0, 1) := by decide +kernel
theorem dL_law_505 : decode cL_law 505 = .ok (.iload_n 3, 1) := by decide +kernel
theorem dL_law_506 : decode cL_law 506 = .ok (.iconst 3, 1) := by decide +kernel
theorem dL_law_507 : decode cL_law 507 = .ok (.iadd, 1) := by decide +kernel
theorem dL_law_508 : decode cL_law 508 = .ok (.iaload, 1) := by decide +kernel
theorem dL_law_509 : decode cL_law 509 = .ok (.invokevirtual 60, 3) := by decide +kernel
theorem dL_law_512 : decode cL_law 512 = .ok (.if_icmp .eq 315, 3) := by decide +kernel
theorem dL_law_515 : decode cL_law 515 = .ok (.iconst 0, 1) := by decide +kernel
theorem dL_law_516 : decode cL_law 516 = .ok (.ireturn, 1) := by decide +kernel
theorem dL_law_517 : decode cL_law 517 = .ok (.aload_n 1, 1) := by decide +kernel
theorem dL_law_518 : decode cL_law 518 = .ok (.aload_n 0, 1) := by decide +kernel
theorem dL_law_519 : decode cL_law 519 = .ok (.iload_n 3, 1) := by decide +kernel
theorem dL_law_520 : decode cL_law 520 = .ok (.iconst 1, 1) := by decide +kernel
theorem dL_law_521 : decode cL_law 521 = .ok (.iadd, 1) := by decide +kernel
theorem dL_law_522 : decode cL_law 522 = .ok (.iaload, 1) := by decide +kernel
theorem dL_law_523 : decode cL_law 523 = .ok (.invokevirtual 61, 3) := by decide +kernel
theorem dL_law_526 : decode cL_law 526 = .ok (.aload_n 2, 1) := by decide +kernel
theorem dL_law_527 : decode cL_law 527 = .ok (.aload_n 0, 1) := by decide +kernel
theorem dL_law_528 : decode cL_law 528 = .ok (.iload_n 3, 1) := by decide +kernel
theorem dL_law_529 : decode cL_law 529 = .ok (.iconst 1, 1) := by decide +kernel
theorem dL_law_530 : decode cL_law 530 = .ok (.iadd, 1) := by decide +kernel
theorem dL_law_531 : decode cL_law 531 = .ok (.iaload, 1) := by decide +kernel
theorem dL_law_532 : decode cL_law 532 = .ok (.invokevirtual 64, 3) := by decide +kernel
theorem dL_law_535 : decode cL_law 535 = .ok (.if_icmp .eq 292, 3) := by decide +kernel
theorem dL_law_538 : decode cL_law 538 = .ok (.iconst 0, 1) := by decide +kernel
theorem dL_law_539 : decode cL_law 539 = .ok (.ireturn, 1) := by decide +kernel
theorem dL_law_540 : decode cL_law 540 = .ok (.aload_n 1, 1) := by decide +kernel
theorem dL_law_541 : decode cL_law 541 = .ok (.aload_n 0, 1) := by decide +kernel
theorem dL_law_542 : decode cL_law 542 = .ok (.iload_n 3, 1) := by decide +kernel
theorem dL_law_543 : decode cL_law 543 = .ok (.iconst 1, 1) := by decide +kernel
theorem dL_law_544 : decode cL_law 544 = .ok (.iadd, 1) := by decide +kernel
theorem dL_law_545 : decode cL_law 545 = .ok (.iaload, 1) := by decide +kernel
theorem dL_law_546 : decode cL_law 546 = .ok (.invokevirtual 65, 3) := by decide +kernel
theorem dL_law_549 : decode cL_law 549 = .ok (.aload_n 2, 1) := by decide +kernel
theorem dL_law_550 : decode cL_law 550 = .ok (.aload_n 0, 1) := by decide +kernel
theorem dL_law_551 : decode cL_law 551 = .ok (.iload_n 3, 1) := by decide +kernel
theorem dL_law_552 : decode cL_law 552 = .ok (.iconst 1, 1) := by decide +kernel
theorem dL_law_553 : decode cL_law 553 = .ok (.iadd, 1) := by decide +kernel
theorem dL_law_554 : decode cL_law 554 = .ok (.iaload, 1) := by decide +kernel
theorem dL_law_555 : decode cL_law 555 = .ok (.invokevirtual 68, 3) := by decide +kernel
theorem dL_law_558 : decode cL_law 558 = .ok (.if_icmp .eq 269, 3) := by decide +kernel
theorem dL_law_561 : decode cL_law 561 = .ok (.iconst 0, 1) := by decide +kernel
theorem dL_law_562 : decode cL_law 562 = .ok (.ireturn, 1) := by decide +kernel
theorem dL_law_563 : decode cL_law 563 = .ok (.aload_n 1, 1) := by decide +kernel
theorem dL_law_564 : decode cL_law 564 = .ok (.aload_n 0, 1) := by decide +kernel
theorem dL_law_565 : decode cL_law 565 = .ok (.iload_n 3, 1) := by decide +kernel
theorem dL_law_566 : decode cL_law 566 = .ok (.iconst 1, 1) := by decide +kernel
theorem dL_law_567 : decode cL_law 567 = .ok (.iadd, 1) := by decide +kernel
theorem dL_law_568 : decode cL_law 568 = .ok (.iaload, 1) := by decide +kernel
theorem dL_law_569 : decode cL_law 569 = .ok (.invokevirtual 69, 3) := by decide +kernel
theorem dL_law_572 : decode cL_law 572 = .ok (.aload_n 2, 1) := by decide +kernel
theorem dL_law_573 : decode cL_law 573 = .ok (.aload_n 0, 1) := by decide +kernel
theorem dL_law_574 : decode cL_law 574 = .ok (.iload_n 3, 1) := by decide +kernel
theorem dL_law_575 : decode cL_law 575 = .ok (.iconst 1, 1) := by decide +kernel
theorem dL_law_576 : decode cL_law 576 = .ok (.iadd, 1) := by decide +kernel
theorem dL_law_577 : decode cL_law 577 = .ok (.iaload, 1) := by decide +kernel
theorem dL_law_578 : decode cL_law 578 = .ok (.invokevirtual 72, 3) := by decide +kernel
theorem dL_law_581 : decode cL_law 581 = .ok (.if_icmp .eq 246, 3) := by decide +kernel
theorem dL_law_584 : decode cL_law 584 = .ok (.iconst 0, 1) := by decide +kernel
theorem dL_law_585 : decode cL_law 585 = .ok (.ireturn, 1) := by decide +kernel
theorem dL_law_586 : decode cL_law 586 = .ok (.aload_n 1, 1) := by decide +kernel
theorem dL_law_587 : decode cL_law 587 = .ok (.aload_n 0, 1) := by decide +kernel
theorem dL_law_588 : decode cL_law 588 = .ok (.iload_n 3, 1) := by decide +kernel
theorem dL_law_589 : decode cL_law 589 = .ok (.iconst 1, 1) := by decide +kernel
theorem dL_law_590 : decode cL_law 590 = .ok (.iadd, 1) := by decide +kernel
theorem dL_law_591 : decode cL_law 591 = .ok (.iaload, 1) := by decide +kernel
theorem dL_law_592 : decode cL_law 592 = .ok (.aload_n 0, 1) := by decide +kernel
theorem dL_law_593 : decode cL_law 593 = .ok (.iload_n 3, 1) := by decide +kernel
theorem dL_law_594 : decode cL_law 594 = .ok (.iconst 2, 1) := by decide +kernel
theorem dL_law_595 : decode cL_law 595 = .ok (.iadd, 1) := by decide +kernel
theorem dL_law_596 : decode cL_law 596 = .ok (.iaload, 1) := by decide +kernel
theorem dL_law_597 : decode cL_law 597 = .ok (.aload_n 0, 1) := by decide +kernel
theorem dL_law_598 : decode cL_law 598 = .ok (.iload_n 3, 1) := by decide +kernel
theorem dL_law_599 : decode cL_law 599 = .ok (.iconst 3, 1) := by decide +kernel
theorem dL_law_600 : decode cL_law 600 = .ok (.iadd, 1) := by decide +kernel
theorem dL_law_601 : decode cL_law 601 = .ok (.iaload, 1) := by decide +kernel
theorem dL_law_602 : decode cL_law 602 = .ok (.invokevirtual 73, 3) := by decide +kernel
theorem dL_law_605 : decode cL_law 605 = .ok (.aload_n 2, 1) := by decide +kernel
theorem dL_law_606 : decode cL_law 606 = .ok (.aload_n 0, 1) := by decide +kernel
theorem dL_law_607 : decode cL_law 607 = .ok (.iload_n 3, 1) := by decide +kernel
theorem dL_law_608 : decode cL_law 608 = .ok (.iconst 1, 1) := by decide +kernel
theorem dL_law_609 : decode cL_law 609 = .ok (.iadd, 1) := by decide +kernel
theorem dL_law_610 : decode cL_law 610 = .ok (.iaload, 1) := by decide +kernel
theorem dL_law_611 : decode cL_law 611 = .ok (.aload_n 0, 1) := by decide +kernel
theorem dL_law_612 : decode cL_law 612 = .ok (.iload_n 3, 1) := by decide +kernel
theorem dL_law_613 : decode cL_law 613 = .ok (.iconst 2, 1) := by decide +kernel
theorem dL_law_614 : decode cL_law 614 = .ok (.iadd, 1) := by decide +kernel
theorem dL_law_615 : decode cL_law 615 = .ok (.iaload, 1) := by decide +kernel
theorem dL_law_616 : decode cL_law 616 = .ok (.aload_n 0, 1) := by decide +kernel
theorem dL_law_617 : decode cL_law 617 = .ok (.iload_n 3, 1) := by decide +kernel
theorem dL_law_618 : decode cL_law 618 = .ok (.iconst 3, 1) := by decide +kernel
theorem dL_law_619 : decode cL_law 619 = .ok (.iadd, 1) := by decide +kernel
theorem dL_law_620 : decode cL_law 620 = .ok (.iaload, 1) := by decide +kernel
theorem dL_law_621 : decode cL_law 621 = .ok (.invokevirtual 76, 3) := by decide +kernel
theorem dL_law_624 : decode cL_law 624 = .ok (.if_icmp .eq 203, 3) := by decide +kernel
theorem dL_law_627 : decode cL_law 627 = .ok (.iconst 0, 1) := by decide +kernel
theorem dL_law_628 : decode cL_law 628 = .ok (.ireturn, 1) := by decide +kernel
theorem dL_law_629 : decode cL_law 629 = .ok (.aload_n 1, 1) := by decide +kernel
theorem dL_law_630 : decode cL_law 630 = .ok (.aload_n 0, 1) := by decide +kernel
theorem dL_law_631 : decode cL_law 631 = .ok (.iload_n 3, 1) := by decide +kernel
theorem dL_law_632 : decode cL_law 632 = .ok (.iconst 1, 1) := by decide +kernel
theorem dL_law_633 : decode cL_law 633 = .ok (.iadd, 1) := by decide +kernel
theorem dL_law_634 : decode cL_law 634 = .ok (.iaload, 1) := by decide +kernel
theorem dL_law_635 : decode cL_law 635 = .ok (.aload_n 0, 1) := by decide +kernel
theorem dL_law_636 : decode cL_law 636 = .ok (.iload_n 3, 1) := by decide +kernel
theorem dL_law_637 : decode cL_law 637 = .ok (.iconst 2, 1) := by decide +kernel
theorem dL_law_638 : decode cL_law 638 = .ok (.iadd, 1) := by decide +kernel
theorem dL_law_639 : decode cL_law 639 = .ok (.iaload, 1) := by decide +kernel
theorem dL_law_640 : decode cL_law 640 = .ok (.aload_n 0, 1) := by decide +kernel
theorem dL_law_641 : decode cL_law 641 = .ok (.iload_n 3, 1) := by decide +kernel
theorem dL_law_642 : decode cL_law 642 = .ok (.iconst 3, 1) := by decide +kernel
theorem dL_law_643 : decode cL_law 643 = .ok (.iadd, 1) := by decide +kernel
theorem dL_law_644 : decode cL_law 644 = .ok (.iaload, 1) := by decide +kernel
theorem dL_law_645 : decode cL_law 645 = .ok (.invokevirtual 77, 3) := by decide +kernel
theorem dL_law_648 : decode cL_law 648 = .ok (.aload_n 2, 1) := by decide +kernel
theorem dL_law_649 : decode cL_law 649 = .ok (.aload_n 0, 1) := by decide +kernel
theorem dL_law_650 : decode cL_law 650 = .ok (.iload_n 3, 1) := by decide +kernel
theorem dL_law_651 : decode cL_law 651 = .ok (.iconst 1, 1) := by decide +kernel
theorem dL_law_652 : decode cL_law 652 = .ok (.iadd, 1) := by decide +kernel
theorem dL_law_653 : decode cL_law 653 = .ok (.iaload, 1) := by decide +kernel
theorem dL_law_654 : decode cL_law 654 = .ok (.aload_n 0, 1) := by decide +kernel
theorem dL_law_655 : decode cL_law 655 = .ok (.iload_n 3, 1) := by decide +kernel
theorem dL_law_656 : decode cL_law 656 = .ok (.iconst 2, 1) := by decide +kernel
theorem dL_law_657 : decode cL_law 657 = .ok (.iadd, 1) := by decide +kernel
theorem dL_law_658 : decode cL_law 658 = .ok (.iaload, 1) := by decide +kernel
theorem dL_law_659 : decode cL_law 659 = .ok (.aload_n 0, 1) := by decide +kernel
theorem dL_law_660 : decode cL_law 660 = .ok (.iload_n 3, 1) := by decide +kernel
theorem dL_law_661 : decode cL_law 661 = .ok (.iconst 3, 1) := by decide +kernel
theorem dL_law_662 : decode cL_law 662 = .ok (.iadd, 1) := by decide +kernel
theorem dL_law_663 : decode cL_law 663 = .ok (.iaload, 1) := by decide +kernel
theorem dL_law_664 : decode cL_law 664 = .ok (.invokevirtual 80, 3) := by decide +kernel
theorem dL_law_667 : decode cL_law 667 = .ok (.if_icmp .eq 160, 3) := by decide +kernel
theorem dL_law_670 : decode cL_law 670 = .ok (.iconst 0, 1) := by decide +kernel
theorem dL_law_671 : decode cL_law 671 = .ok (.ireturn, 1) := by decide +kernel
theorem dL_law_672 : decode cL_law 672 = .ok (.aload_n 1, 1) := by decide +kernel
theorem dL_law_673 : decode cL_law 673 = .ok (.aload_n 0, 1) := by decide +kernel
theorem dL_law_674 : decode cL_law 674 = .ok (.iload_n 3, 1) := by decide +kernel
theorem dL_law_675 : decode cL_law 675 = .ok (.iconst 1, 1) := by decide +kernel
theorem dL_law_676 : decode cL_law 676 = .ok (.iadd, 1) := by decide +kernel
theorem dL_law_677 : decode cL_law 677 = .ok (.iaload, 1) := by decide +kernel
theorem dL_law_678 : decode cL_law 678 = .ok (.invokevirtual 81, 3) := by decide +kernel
theorem dL_law_681 : decode cL_law 681 = .ok (.aload_n 2, 1) := by decide +kernel
theorem dL_law_682 : decode cL_law 682 = .ok (.aload_n 0, 1) := by decide +kernel
theorem dL_law_683 : decode cL_law 683 = .ok (.iload_n 3, 1) := by decide +kernel
theorem dL_law_684 : decode cL_law 684 = .ok (.iconst 1, 1) := by decide +kernel
theorem dL_law_685 : decode cL_law 685 = .ok (.iadd, 1) := by decide +kernel
theorem dL_law_686 : decode cL_law 686 = .ok (.iaload, 1) := by decide +kernel
theorem dL_law_687 : decode cL_law 687 = .ok (.invokevirtual 84, 3) := by decide +kernel
theorem dL_law_690 : decode cL_law 690 = .ok (.if_icmp .eq 137, 3) := by decide +kernel
theorem dL_law_693 : decode cL_law 693 = .ok (.iconst 0, 1) := by decide +kernel
theorem dL_law_694 : decode cL_law 694 = .ok (.ireturn, 1) := by decide +kernel
theorem dL_law_695 : decode cL_law 695 = .ok (.aload_n 1, 1) := by decide +kernel
theorem dL_law_696 : decode cL_law 696 = .ok (.aload_n 0, 1) := by decide +kernel
theorem dL_law_697 : decode cL_law 697 = .ok (.iload_n 3, 1) := by decide +kernel
theorem dL_law_698 : decode cL_law 698 = .ok (.iconst 1, 1) := by decide +kernel
theorem dL_law_699 : decode cL_law 699 = .ok (.iadd, 1) := by decide +kernel
theorem dL_law_700 : decode cL_law 700 = .ok (.iaload, 1) := by decide +kernel
theorem dL_law_701 : decode cL_law 701 = .ok (.aload_n 0, 1) := by decide +kernel
theorem dL_law_702 : decode cL_law 702 = .ok (.iload_n 3, 1) := by decide +kernel
theorem dL_law_703 : decode cL_law 703 = .ok (.iconst 2, 1) := by decide +kernel
theorem dL_law_704 : decode cL_law 704 = .ok (.iadd, 1) := by decide +kernel
theorem dL_law_705 : decode cL_law 705 = .ok (.iaload, 1) := by decide +kernel
theorem dL_law_706 : decode cL_law 706 = .ok (.invokevirtual 85, 3) := by decide +kernel
theorem dL_law_709 : decode cL_law 709 = .ok (.aload_n 2, 1) := by decide +kernel
theorem dL_law_710 : decode cL_law 710 = .ok (.aload_n 0, 1) := by decide +kernel
theorem dL_law_711 : decode cL_law 711 = .ok (.iload_n 3, 1) := by decide +kernel
theorem dL_law_712 : decode cL_law 712 = .ok (.iconst 1, 1) := by decide +kernel
theorem dL_law_713 : decode cL_law 713 = .ok (.iadd, 1) := by decide +kernel
theorem dL_law_714 : decode cL_law 714 = .ok (.iaload, 1) := by decide +kernel
theorem dL_law_715 : decode cL_law 715 = .ok (.aload_n 0, 1) := by decide +kernel
theorem dL_law_716 : decode cL_law 716 = .ok (.iload_n 3, 1) := by decide +kernel
theorem dL_law_717 : decode cL_law 717 = .ok (.iconst 2, 1) := by decide +kernel
theorem dL_law_718 : decode cL_law 718 = .ok (.iadd, 1) := by decide +kernel
theorem dL_law_719 : decode cL_law 719 = .ok (.iaload, 1) := by decide +kernel
theorem dL_law_720 : decode cL_law 720 = .ok (.invokevirtual 88, 3) := by decide +kernel
theorem dL_law_723 : decode cL_law 723 = .ok (.if_icmp .eq 104, 3) := by decide +kernel
theorem dL_law_726 : decode cL_law 726 = .ok (.iconst 0, 1) := by decide +kernel
theorem dL_law_727 : decode cL_law 727 = .ok (.ireturn, 1) := by decide +kernel
theorem dL_law_728 : decode cL_law 728 = .ok (.aload_n 1, 1) := by decide +kernel
theorem dL_law_729 : decode cL_law 729 = .ok (.aload_n 0, 1) := by decide +kernel
theorem dL_law_730 : decode cL_law 730 = .ok (.iload_n 3, 1) := by decide +kernel
theorem dL_law_731 : decode cL_law 731 = .ok (.iconst 1, 1) := by decide +kernel
theorem dL_law_732 : decode cL_law 732 = .ok (.iadd, 1) := by decide +kernel
theorem dL_law_733 : decode cL_law 733 = .ok (.iaload, 1) := by decide +kernel
theorem dL_law_734 : decode cL_law 734 = .ok (.invokevirtual 89, 3) := by decide +kernel
theorem dL_law_737 : decode cL_law 737 = .ok (.aload_n 2, 1) := by decide +kernel
theorem dL_law_738 : decode cL_law 738 = .ok (.aload_n 0, 1) := by decide +kernel
theorem dL_law_739 : decode cL_law 739 = .ok (.iload_n 3, 1) := by decide +kernel
theorem dL_law_740 : decode cL_law 740 = .ok (.iconst 1, 1) := by decide +kernel
theorem dL_law_741 : decode cL_law 741 = .ok (.iadd, 1) := by decide +kernel
theorem dL_law_742 : decode cL_law 742 = .ok (.iaload, 1) := by decide +kernel
theorem dL_law_743 : decode cL_law 743 = .ok (.invokevirtual 92, 3) := by decide +kernel
theorem dL_law_746 : decode cL_law 746 = .ok (.if_icmp .eq 81, 3) := by decide +kernel
theorem dL_law_749 : decode cL_law 749 = .ok (.iconst 0, 1) := by decide +kernel
theorem dL_law_750 : decode cL_law 750 = .ok (.ireturn, 1) := by decide +kernel
theorem dL_law_751 : decode cL_law 751 = .ok (.aload_n 1, 1) := by decide +kernel
theorem dL_law_752 : decode cL_law 752 = .ok (.invokevirtual 93, 3) := by decide +kernel
theorem dL_law_755 : decode cL_law 755 = .ok (.aload_n 2, 1) := by decide +kernel
theorem dL_law_756 : decode cL_law 756 = .ok (.invokevirtual 96, 3) := by decide +kernel
theorem dL_law_759 : decode cL_law 759 = .ok (.if_icmp .eq 68, 3) := by decide +kernel
theorem dL_law_762 : decode cL_law 762 = .ok (.iconst 0, 1) := by decide +kernel
theorem dL_law_763 : decode cL_law 763 = .ok (.ireturn, 1) := by decide +kernel
theorem dL_law_764 : decode cL_law 764 = .ok (.aload_n 1, 1) := by decide +kernel
theorem dL_law_765 : decode cL_law 765 = .ok (.invokevirtual 97, 3) := by decide +kernel
theorem dL_law_768 : decode cL_law 768 = .ok (.aload_n 2, 1) := by decide +kernel
theorem dL_law_769 : decode cL_law 769 = .ok (.invokevirtual 100, 3) := by decide +kernel
theorem dL_law_772 : decode cL_law 772 = .ok (.if_icmp .eq 55, 3) := by decide +kernel
theorem dL_law_775 : decode cL_law 775 = .ok (.iconst 0, 1) := by decide +kernel
theorem dL_law_776 : decode cL_law 776 = .ok (.ireturn, 1) := by decide +kernel
theorem dL_law_777 : decode cL_law 777 = .ok (.aload_n 1, 1) := by decide +kernel
theorem dL_law_778 : decode cL_law 778 = .ok (.invokevirtual 101, 3) := by decide +kernel
theorem dL_law_781 : decode cL_law 781 = .ok (.aload_n 2, 1) := by decide +kernel
theorem dL_law_782 : decode cL_law 782 = .ok (.invokevirtual 104, 3) := by decide +kernel
theorem dL_law_785 : decode cL_law 785 = .ok (.if_icmp .eq 42, 3) := by decide +kernel
theorem dL_law_788 : decode cL_law 788 = .ok (.iconst 0, 1) := by decide +kernel
theorem dL_law_789 : decode cL_law 789 = .ok (.ireturn, 1) := by decide +kernel
theorem dL_law_790 : decode cL_law 790 = .ok (.aload_n 1, 1) := by decide +kernel
theorem dL_law_791 : decode cL_law 791 = .ok (.aload_n 0, 1) := by decide +kernel
theorem dL_law_792 : decode cL_law 792 = .ok (.iload_n 3, 1) := by decide +kernel
theorem dL_law_793 : decode cL_law 793 = .ok (.iconst 1, 1) := by decide +kernel
theorem dL_law_794 : decode cL_law 794 = .ok (.iadd, 1) := by decide +kernel
theorem dL_law_795 : decode cL_law 795 = .ok (.iaload, 1) := by decide +kernel
theorem dL_law_796 : decode cL_law 796 = .ok (.invokevirtual 105, 3) := by decide +kernel
theorem dL_law_799 : decode cL_law 799 = .ok (.aload_n 2, 1) := by decide +kernel
theorem dL_law_800 : decode cL_law 800 = .ok (.aload_n 0, 1) := by decide +kernel
theorem dL_law_801 : decode cL_law 801 = .ok (.iload_n 3, 1) := by decide +kernel
theorem dL_law_802 : decode cL_law 802 = .ok (.iconst 1, 1) := by decide +kernel
theorem dL_law_803 : decode cL_law 803 = .ok (.iadd, 1) := by decide +kernel
theorem dL_law_804 : decode cL_law 804 = .ok (.iaload, 1) := by decide +kernel
theorem dL_law_805 : decode cL_law 805 = .ok (.invokevirtual 108, 3) := by decide +kernel
theorem dL_law_808 : decode cL_law 808 = .ok (.if_icmp .eq 19, 3) := by decide +kernel
theorem dL_law_811 : decode cL_law 811 = .ok (.iconst 0, 1) := by decide +kernel
theorem dL_law_812 : decode cL_law 812 = .ok (.ireturn, 1) := by decide +kernel
theorem dL_law_813 : decode cL_law 813 = .ok (.aload_n 1, 1) := by decide +kernel
theorem dL_law_814 : decode cL_law 814 = .ok (.invokevirtual 109, 3) := by decide +kernel
theorem dL_law_817 : decode cL_law 817 = .ok (.aload_n 2, 1) := by decide +kernel
theorem dL_law_818 : decode cL_law 818 = .ok (.invokevirtual 113, 3) := by decide +kernel
theorem dL_law_821 : decode cL_law 821 = .ok (.lcmp, 1) := by decide +kernel
theorem dL_law_822 : decode cL_law 822 = .ok (.ifCond .eq 5, 3) := by decide +kernel
theorem dL_law_825 : decode cL_law 825 = .ok (.iconst 0, 1) := by decide +kernel
theorem dL_law_826 : decode cL_law 826 = .ok (.ireturn, 1) := by decide +kernel
theorem dL_law_827 : decode cL_law 827 = .ok (.iinc 3 4, 3) := by decide +kernel
theorem dL_law_830 : decode cL_law 830 = .ok (.goto (-812), 3) := by decide +kernel
theorem dL_law_833 : decode cL_law 833 = .ok (.iconst 1, 1) := by decide +kernel
theorem dL_law_834 : decode cL_law 834 = .ok (.ireturn, 1) := by decide +kernel
end
section
/-! the state of the system as numbers: object number, slot; one long beside -/
abbrev ASt : Type := (Nat → Nat → Int32) × Int64
def agt (u : ASt) (o k : Nat) : Int32 := u.1 o k
def apt (u : ASt) (o k : Nat) (v : Int32) : ASt := (fun a => if a = o then upd (u.1 a) k v else u.1 a, u.2)
def aptR (u : ASt) (o : Nat) (f : Nat → Int32) : ASt := (fun a => if a = o then f else u.1 a, u.2)
def agtL (u : ASt) : Int64 := u.2
def aptL (u : ASt) (v : Int64) : ASt := (u.1, v)
/-- kinds of the objects: 0 Board, 1 Chip, 2 History, 3 Nets, 4 Tester, 5 Text, 6 ChipRing, 7 ChipRingModel, 8 bytes, 9 ints, 10 Board[], 11 Chip[], 12 ints of the model -/
def akdB : List Nat := [0, 11, 9, 1, 1, 1, 1, 9, 9, 9, 9]
def akdl : List Nat := akdB ++ akdB ++ akdB ++ akdB ++ akdB ++ akdB ++ akdB ++ [6, 3, 9, 9, 4, 9, 9, 9, 9, 3, 9, 9, 2, 10, 5, 8, 8, 9, 7, 12, 12, 12, 12, 12, 12, 12, 12, 12, 12, 12]
def akd (o : Nat) : Nat := akdl.getD o 99
def alnB : List Nat := [0, 4, 4, 0, 0, 0, 0, 6, 6, 6, 6]
def alnl : List Nat := alnB ++ alnB ++ alnB ++ alnB ++ alnB ++ alnB ++ alnB ++ [0, 0, 8, 4, 0, 8, 24, 1, 97, 0, 8, 4, 0, 6, 0, 120, 60, 180, 0, 83, 83, 415, 3, 120, 4, 8, 24, 24, 61, 183]
def aln (o : Nat) : Nat := alnl.getD o 0
def arfB (b : Nat) : List (List Nat) := [[b + 1, 0, b + 2], [b + 3, b + 4, b + 5, b + 6], [], [0, 0, 0, 0, 0, 0, 0, 0, b + 7], [0, 0, 0, 0, 0, 0, 0, 0, b + 8], [0, 0, 0, 0, 0, 0, 0, 0, b + 9], [0, 0, 0, 0, 0, 0, 0, 0, b + 10], [], [], [], []]
def arfl : List (List Nat) := arfB 0 ++ arfB 11 ++ arfB 22 ++ arfB 33 ++ arfB 44 ++ arfB 55 ++ arfB 66 ++ [[0, 78, 81, 89, 91], [0, 79, 80], [], [], [0, 86, 82, 83, 84, 85], [], [], [], [], [0, 87, 88], [], [], [90], [11, 22, 33, 44, 55, 66], [92, 0, 93, 94], [], [], [], [96, 97, 98, 0, 99, 100, 0, 101, 0, 102, 0, 103, 104, 0, 0, 0, 105, 106]]
def arf (o k : Nat) : Nat := (arfl.getD o []).getD k 0
def aftl : List (List Nat) := [[1, 0, 1, 0, 0, 0, 0], [0, 0, 0, 0, 0, 0, 0, 0, 1], [1, 0, 0], [1, 1, 1, 0, 0, 0], [1, 1, 1, 1, 1, 1, 0, 0], [1, 0, 1, 1, 0, 0, 0, 0, 0], [1, 1, 1, 1, 1, 0, 0, 0], [1, 1, 1, 0, 1, 1, 0, 1, 0, 1, 0, 1, 1, 0, 0, 0, 1, 1, 2]]
def aft (ci k : Nat) : Nat := (aftl.getD ci []).getD k 3
def anf (ci : Nat) : Nat := (aftl.getD ci []).length
/-- the objects of a world: 0 the class's, 1 the model's -/
def aol (w : Nat) : List Nat := if w = 0 then List.range 95 else List.range' 95 12
/-- the next states of the port -/
def anxl : List Int32 := [1, 0, 1, 2, 3, 9, 4, 5, 4, 5, 6, 8, 6, 7, 4, 8, 1, 2, 10, 0, 11, 12, 11, 12, 13, 15, 13, 14, 11, 15, 1, 2]
def anx (j : Nat) : Int32 := anxl.getD j 0
abbrev Wx : Type := va_G × (Nat → Nat) × (ClassId × ClassId × ClassId × ClassId) × Nat
abbrev Mx : Type := Program × Launch × Env × Room × State × MethodId × Array Value × List Frame × Method × Code
def afv (X : Wx) (u : ASt) (o ci k : Nat) : Value := match aft ci k with
  | 0 => .int (u.1 o k)
  | 1 => .ref (X.2.1 (arf o k))
  | _ => .long u.2
def acell (X : Wx) (u : ASt) (o : Nat) : va_E :=
  if akd o = 8 then .inl (X.2.2.1.1, aln o, .inl (u.1 o))
  else if akd o = 9 then .inl (X.2.2.1.2.1, aln o, .inl (u.1 o))
  else if akd o = 12 then .inl (X.2.2.1.2.1, aln o, .inl (u.1 o))
  else if akd o = 10 then .inl (X.2.2.1.2.2.1, aln o, .inr (.inr (.inr (.inr (fun j => some (X.2.1 (arf o j)))))))
  else if akd o = 11 then .inl (X.2.2.1.2.2.2, aln o, .inr (.inr (.inr (.inr (fun j => some (X.2.1 (arf o j)))))))
  else .inr (akd o, (List.range (anf (akd o))).map (afv X u o (akd o)))
def acells (w : Nat) (X : Wx) (u : ASt) : va_W := (aol w).map (fun o => (X.2.1 o, acell X u o))
def PW (w : Nat) (X : Wx) (u : ASt) (H : Heap) : Prop := va_P X.1 vwCl (acells w X u) H
def Aw (w : Nat) (X : Wx) : Nat → Prop := fun q => ∃ o, o ∈ aol w ∧ q = X.2.1 o
def atys (X : Wx) : List (ClassId × FieldType) := [(X.2.2.1.1, .byte), (X.2.2.1.2.1, .int), (X.2.2.1.2.2.1, .object "ChipRing$Board"), (X.2.2.1.2.2.2, .object "ChipRing$Chip")]
/-- links among nest mates -/
def anest : List (String × Nat × MethodName) := [(RX0, 59, yX6_isBit), (RX0, 62, yX6_isNet), (RX0, 73, yX6_faultCode), (RX3, 61, yX6_kindOf), (RX3, 65, yX6_tensOf), (RX3, 68, yX6_onesOf), (RX3, 95, yX6_isMember), (RX1, 49, yX6_isMember), (RX4, 121, yX6_faultCode), (RX4, 124, yX6_isMember)]
def XN (U : State) : Prop := (∀ q ∈ anest, va_Nw (.methodLinkNest q.1 q.2.1 q.2.2 RX6) U) ∧ va_Nw (.fieldLinkNest RX0 111 RX6 "NEXT_STATE" "[I" RX6) U
def XK (w : Nat) (X : Wx) (U : State) : Prop := va_K X.1 vwCl (atys X) U ∧ (∀ a b, a < 107 → b < 107 → X.2.1 a = X.2.1 b → a = b) ∧ XN U ∧ va_Z "ChipRing" "NEXT_STATE" "[I" (.ref X.2.2.2) (Aw w X) U U.heap ∧ va_T .int X.2.2.2 32 (fun j => .int (anx j)) (Aw w X) U U.heap
theorem XN.warm {s U : State} (h : XN s) (hW : s.WarmedH U.vm) : XN U := ⟨fun q hq => va_Nw.warmM hW (h.1 q hq), va_Nw.warmF hW h.2⟩
theorem XK.moved {w : Nat} {X : Wx} {s U : State} {H : Heap} {locs : List Loc} (h : XK w X s) (hW : s.WarmedH U.vm) (hU : U.heap = H) (hS : va_S (Aw w X) s.heap H locs) : XK w X U := by
  obtain ⟨h1, h2, h3, h4, h5⟩ := h
  subst hU
  exact ⟨va_K.moved hW.alike h1, h2, h3.warm hW, (h4.moved hW.alike).kept hS.2.1, (h5.moved hW.alike).kept hS.2.1⟩
def lw_good : List Cond := lw_tbl.filter goodWord
def ws_ (y : MethodName) (bytes : ByteArray) (maxL : Nat) (ret : Option FieldType) : List Cond := Cond.code y bytes maxL ret :: lw_good
theorem lw_good_in {w : Cond} (h : w ∈ lw_good) : w ∈ lw_tbl := (List.mem_filter.mp h).1
theorem lw_gd {w : Cond} (i : Nat) (h : lw_tbl[i]? = some w) (hg : goodWord w = true) : w ∈ lw_good := List.mem_filter.mpr ⟨List.mem_of_getElem? h, hg⟩
theorem lw_goodIn : GoodIn lw_good lw_good := fun w hw => ⟨hw, good_of_word (List.mem_filter.mp hw).2⟩
theorem ws_good {y : MethodName} {bytes : ByteArray} {maxL : Nat} {ret : Option FieldType} (h : Cond.code y bytes maxL ret ∈ lw_good) : GoodIn lw_good (ws_ y bytes maxL ret) := fun w hw => by
  rcases List.mem_cons.mp hw with e | e
  · rw [e]; exact lw_goodIn _ h
  · exact lw_goodIn _ e
def Pg (w : Nat) (X : Wx) (u : ASt) (av : List Value) : Array Value → State → Prop := fun v U => v = av.toArray ∧ PW w X u U.heap ∧ XK w X U
def Qg (w : Nat) (X : Wx) (v : Option Value) (u : ASt) : Array Value → State → Outcome → State → Prop := fun _ st oc t => (oc = .returned v ∧ PW w X u t.heap) ∧ va_F (Aw w X) st t
theorem Pg.blind {w : Nat} {X : Wx} {u : ASt} {av : List Value} : FrameBlind (Pg w X u av) := by
  intro a U g mk h
  obtain ⟨h1, h2, h3, h4, h5, h6, h7⟩ := h
  exact ⟨h1, h2, va_K.moved (u := U) (U := U.calling g mk a) (Vm.Alike.refl U.vm) h3, h4, ⟨fun q hq => va_Nw.same rfl (u := U) (U := U.calling g mk a) rfl (h5.1 q hq), va_Nw.same rfl (u := U) (U := U.calling g mk a) rfl h5.2⟩, h6.moved (U := U.calling g mk a) (Vm.Alike.refl U.vm), h7.moved (U := U.calling g mk a) (Vm.Alike.refl U.vm)⟩
/-- from any heap that holds u, at pc, with these locals and this stack: the method ends with res -/
def V (w : Nat) (M : Mx) (X : Wx) (res : Option Value × ASt) (nL pc : Nat) (ls : List (Nat × Value)) (stk : List Value) (u : ASt) : Prop := match M with
  | (p, l, e, R, s, m, args, below, meth, c) => ∀ (H : Heap) (locs : List Loc) (L : Array Slot), PW w X u H → va_S (Aw w X) s.heap H locs → lv_has L nL ls → W p l e R s m args below meth c H locs 0 0 (MQ below (Qg w X res.1 res.2) args s 0 0 (Aw w X)) (F0 m pc L stk)
def OkM (w : Nat) (M : Mx) (X : Wx) (cc : ByteArray) (nL : Nat) (own : String) (rm : Room) (ret : Option FieldType) : Prop := match M with
  | (p, _, _, R, s, m, args, _, meth, c) => p.tables.exec = Jvm.exec ∧ c.code = cc ∧ c.maxLocals = nL ∧ s.vm.findClass own = some m.cls ∧ (∀ w ∈ lw_good, w.before args s = true) ∧ XK w X s ∧ R = rm ∧ meth.locks = false ∧ meth.sig.returnType = ret
/-- a method's contract out of its walk -/
theorem v_met {w : Nat} {X : Wx} {u : ASt} {av : List Value} {res : Option Value × ASt} {l : Launch} {y : MethodName} {cc : ByteArray} {nL : Nat} {rm : Room} {ret : Option FieldType} (hy : plainName y.cls = true) (hlen : (lg_sl av).length ≤ nL)
    (h : ∀ M : Mx, OkM w M X cc nL y.cls rm ret → V w M X res nL 0 (lv_args 0 av) [] u) : Met l y (ws_ y cc nL ret) rm (Pg w X u av) (Qg w X res.1 res.2) 0 0 (Aw w X) := by
  refine Met.ofW (cc := cc) (maxL := nL) (ret := ret) hy rfl ?_
  intro p e s m args below meth c s₁ B hml hv
  obtain ⟨rfl, hP, hK⟩ := hv
  have hts := atoms_spec (ws := ws_ y cc nL ret) B.pre
  have hl := lv_entry av (n := nL) hlen
  rw [lg_entry_eq]
  exact h (p, l, e, rm, s, m, av.toArray, below, meth, c) ⟨B.exec, B.bytes, hml, findClass_of_methodNamed B.named, fun w hw => hts w (List.mem_cons_of_mem _ hw), hK, rfl, B.notSynchronized, B.returns⟩ s.heap [] _ hP va_S.rf hl
theorem v_sub {w : Nat} {M : Mx} {X : Wx} {res : Option Value × ASt} {nL pc : Nat} {ls ls' : List (Nat × Value)} {stk : List Value} {u : ASt} (ks : List Nat) (hl : lv_pick ls ks = ls') (h : V w M X res nL pc ls' stk u) : V w M X res nL pc ls stk u := by
  obtain ⟨p, l, e, R, s, m, args, below, meth, c⟩ := M
  intro H locs L hP hS hL
  exact h H locs L hP hS (lv_sub hL ks hl)
end
section
section ROWS
variable {w : Nat} {M : Mx} {X : Wx} {res : Option Value × ASt} {cc : ByteArray} {nL pc : Nat} {own : String} {rm : Room} {ret : Option FieldType} {ls : List (Nat × Value)} {stk : List Value} {u : ASt}
theorem v_iconst (K : OkM w M X cc nL own rm ret) {n : Int} {v : Int32} (hv : Int32.ofInt n = v) (d : decode cc pc = .ok (.iconst n, 1)) (k : V w M X res nL (pc + 1) ls (.int v :: stk) u) : V w M X res nL pc ls (stk) u := by
  obtain ⟨p, l, e, R, s, m, args, below, meth, c⟩ := M
  obtain ⟨hx, hb, hml, hown, hts, hK, hR, hlk, hrt⟩ := K
  intro H locs L hP hS hl
  exact lv_iconst hx hb d hv (k H locs L hP hS hl)
theorem v_bipush (K : OkM w M X cc nL own rm ret) {n : Int} {v : Int32} (hv : (Int8.ofInt n).toInt32 = v) (d : decode cc pc = .ok (.bipush n, 2)) (k : V w M X res nL (pc + 2) ls (.int v :: stk) u) : V w M X res nL pc ls (stk) u := by
  obtain ⟨p, l, e, R, s, m, args, below, meth, c⟩ := M
  obtain ⟨hx, hb, hml, hown, hts, hK, hR, hlk, hrt⟩ := K
  intro H locs L hP hS hl
  exact lv_bipush hx hb d hv (k H locs L hP hS hl)
theorem v_sipush (K : OkM w M X cc nL own rm ret) {n : Int} {v : Int32} (hv : (Int16.ofInt n).toInt32 = v) (d : decode cc pc = .ok (.sipush n, 3)) (k : V w M X res nL (pc + 3) ls (.int v :: stk) u) : V w M X res nL pc ls (stk) u := by
  obtain ⟨p, l, e, R, s, m, args, below, meth, c⟩ := M
  obtain ⟨hx, hb, hml, hown, hts, hK, hR, hlk, hrt⟩ := K
  intro H locs L hP hS hl
  exact lv_sipush hx hb d hv (k H locs L hP hS hl)
theorem v_ldc (K : OkM w M X cc nL own rm ret) {i : Nat} {v : Int32} (hw : Cond.constant own i v ∈ lw_good) (d : decode cc pc = .ok (.ldc i, 2)) (k : V w M X res nL (pc + 2) ls (.int v :: stk) u) : V w M X res nL pc ls (stk) u := by
  obtain ⟨p, l, e, R, s, m, args, below, meth, c⟩ := M
  obtain ⟨hx, hb, hml, hown, hts, hK, hR, hlk, hrt⟩ := K
  intro H locs L hP hS hl
  exact lv_ldc hx hb hown (hts _ hw) d (k H locs L hP hS hl)
theorem v_ldcw (K : OkM w M X cc nL own rm ret) {i : Nat} {v : Int32} (hw : Cond.constant own i v ∈ lw_good) (d : decode cc pc = .ok (.ldc_w i, 3)) (k : V w M X res nL (pc + 3) ls (.int v :: stk) u) : V w M X res nL pc ls (stk) u := by
  obtain ⟨p, l, e, R, s, m, args, below, meth, c⟩ := M
  obtain ⟨hx, hb, hml, hown, hts, hK, hR, hlk, hrt⟩ := K
  intro H locs L hP hS hl
  exact lv_ldcw hx hb hown (hts _ hw) d (k H locs L hP hS hl)
theorem v_ldc2 (K : OkM w M X cc nL own rm ret) {i : Nat} {v : Int64} (hw : Cond.constantLong own i v ∈ lw_good) (d : decode cc pc = .ok (.ldc2_w i, 3)) (k : V w M X res nL (pc + 3) ls (.long v :: stk) u) : V w M X res nL pc ls (stk) u := by
  obtain ⟨p, l, e, R, s, m, args, below, meth, c⟩ := M
  obtain ⟨hx, hb, hml, hown, hts, hK, hR, hlk, hrt⟩ := K
  intro H locs L hP hS hl
  exact lv_ldc2 hx hb hown (hts _ hw) d (k H locs L hP hS hl)
theorem v_iload_n (K : OkM w M X cc nL own rm ret) (j : Nat) {n : Fin 4} {i : Nat} {x : Int32} (hi : (n : Nat) = i) (hj : ls[j]? = some (i, .int x)) (d : decode cc pc = .ok (.iload_n n, 1)) (k : V w M X res nL (pc + 1) ls (.int x :: stk) u) : V w M X res nL pc ls (stk) u := by
  obtain ⟨p, l, e, R, s, m, args, below, meth, c⟩ := M
  obtain ⟨hx, hb, hml, hown, hts, hK, hR, hlk, hrt⟩ := K
  intro H locs L hP hS hl
  exact lv_iload_n hx hb d hi (lv_at hl j hj) (k H locs L hP hS hl)
theorem v_iload (K : OkM w M X cc nL own rm ret) (j : Nat) {i : Nat} {x : Int32} (hj : ls[j]? = some (i, .int x)) (d : decode cc pc = .ok (.iload i, 2)) (k : V w M X res nL (pc + 2) ls (.int x :: stk) u) : V w M X res nL pc ls (stk) u := by
  obtain ⟨p, l, e, R, s, m, args, below, meth, c⟩ := M
  obtain ⟨hx, hb, hml, hown, hts, hK, hR, hlk, hrt⟩ := K
  intro H locs L hP hS hl
  exact lv_iload hx hb d (lv_at hl j hj) (k H locs L hP hS hl)
theorem v_istore_n (K : OkM w M X cc nL own rm ret) {n : Fin 4} {i : Nat} {x : Int32} {ls' : List (Nat × Value)} (hi : (n : Nat) = i) (hn : i < nL) (he : (i, Value.int x) :: ls.filter (fun q => !(q.1 == i) && !(q.1 + 1 == i && q.2.category == 2)) = ls') (d : decode cc pc = .ok (.istore_n n, 1)) (k : V w M X res nL (pc + 1) ls' (stk) u) : V w M X res nL pc ls (.int x :: stk) u := by
  obtain ⟨p, l, e, R, s, m, args, below, meth, c⟩ := M
  obtain ⟨hx, hb, hml, hown, hts, hK, hR, hlk, hrt⟩ := K
  intro H locs L hP hS hl
  exact lv_istore_n hx hb d hi hl hn he (fun L hl => k H locs L hP hS hl)
theorem v_istore (K : OkM w M X cc nL own rm ret) {i : Nat} {x : Int32} {ls' : List (Nat × Value)} (hn : i < nL) (he : (i, Value.int x) :: ls.filter (fun q => !(q.1 == i) && !(q.1 + 1 == i && q.2.category == 2)) = ls') (d : decode cc pc = .ok (.istore i, 2)) (k : V w M X res nL (pc + 2) ls' (stk) u) : V w M X res nL pc ls (.int x :: stk) u := by
  obtain ⟨p, l, e, R, s, m, args, below, meth, c⟩ := M
  obtain ⟨hx, hb, hml, hown, hts, hK, hR, hlk, hrt⟩ := K
  intro H locs L hP hS hl
  exact lv_istore hx hb d hl hn he (fun L hl => k H locs L hP hS hl)
theorem v_lload_n (K : OkM w M X cc nL own rm ret) (j : Nat) {n : Fin 4} {i : Nat} {x : Int64} (hi : (n : Nat) = i) (hj : ls[j]? = some (i, .long x)) (d : decode cc pc = .ok (.lload_n n, 1)) (k : V w M X res nL (pc + 1) ls (.long x :: stk) u) : V w M X res nL pc ls (stk) u := by
  obtain ⟨p, l, e, R, s, m, args, below, meth, c⟩ := M
  obtain ⟨hx, hb, hml, hown, hts, hK, hR, hlk, hrt⟩ := K
  intro H locs L hP hS hl
  exact lv_lload_n hx hb d hi (lv_at hl j hj) (k H locs L hP hS hl)
theorem v_lload (K : OkM w M X cc nL own rm ret) (j : Nat) {i : Nat} {x : Int64} (hj : ls[j]? = some (i, .long x)) (d : decode cc pc = .ok (.lload i, 2)) (k : V w M X res nL (pc + 2) ls (.long x :: stk) u) : V w M X res nL pc ls (stk) u := by
  obtain ⟨p, l, e, R, s, m, args, below, meth, c⟩ := M
  obtain ⟨hx, hb, hml, hown, hts, hK, hR, hlk, hrt⟩ := K
  intro H locs L hP hS hl
  exact lv_lload hx hb d (lv_at hl j hj) (k H locs L hP hS hl)
theorem v_lstore_n (K : OkM w M X cc nL own rm ret) {n : Fin 4} {i : Nat} {x : Int64} {ls' : List (Nat × Value)} (hi : (n : Nat) = i) (hn : i + 1 < nL) (he : (i, Value.long x) :: ls.filter (fun q => !(q.1 == i) && (!(q.1 == i + 1) && !(q.1 + 1 == i && q.2.category == 2))) = ls') (d : decode cc pc = .ok (.lstore_n n, 1)) (k : V w M X res nL (pc + 1) ls' (stk) u) : V w M X res nL pc ls (.long x :: stk) u := by
  obtain ⟨p, l, e, R, s, m, args, below, meth, c⟩ := M
  obtain ⟨hx, hb, hml, hown, hts, hK, hR, hlk, hrt⟩ := K
  intro H locs L hP hS hl
  exact lv_lstore_n hx hb d hi hl hn he (fun L hl => k H locs L hP hS hl)
theorem v_lstore (K : OkM w M X cc nL own rm ret) {i : Nat} {x : Int64} {ls' : List (Nat × Value)} (hn : i + 1 < nL) (he : (i, Value.long x) :: ls.filter (fun q => !(q.1 == i) && (!(q.1 == i + 1) && !(q.1 + 1 == i && q.2.category == 2))) = ls') (d : decode cc pc = .ok (.lstore i, 2)) (k : V w M X res nL (pc + 2) ls' (stk) u) : V w M X res nL pc ls (.long x :: stk) u := by
  obtain ⟨p, l, e, R, s, m, args, below, meth, c⟩ := M
  obtain ⟨hx, hb, hml, hown, hts, hK, hR, hlk, hrt⟩ := K
  intro H locs L hP hS hl
  exact lv_lstore hx hb d hl hn he (fun L hl => k H locs L hP hS hl)
theorem v_aload_n (K : OkM w M X cc nL own rm ret) (j : Nat) {n : Fin 4} {i : Nat} {x : Nat} (hi : (n : Nat) = i) (hj : ls[j]? = some (i, .ref x)) (d : decode cc pc = .ok (.aload_n n, 1)) (k : V w M X res nL (pc + 1) ls (.ref x :: stk) u) : V w M X res nL pc ls (stk) u := by
  obtain ⟨p, l, e, R, s, m, args, below, meth, c⟩ := M
  obtain ⟨hx, hb, hml, hown, hts, hK, hR, hlk, hrt⟩ := K
  intro H locs L hP hS hl
  exact lv_aload_n hx hb d hi (lv_at hl j hj) (k H locs L hP hS hl)
theorem v_aload (K : OkM w M X cc nL own rm ret) (j : Nat) {i : Nat} {x : Nat} (hj : ls[j]? = some (i, .ref x)) (d : decode cc pc = .ok (.aload i, 2)) (k : V w M X res nL (pc + 2) ls (.ref x :: stk) u) : V w M X res nL pc ls (stk) u := by
  obtain ⟨p, l, e, R, s, m, args, below, meth, c⟩ := M
  obtain ⟨hx, hb, hml, hown, hts, hK, hR, hlk, hrt⟩ := K
  intro H locs L hP hS hl
  exact lv_aload hx hb d (lv_at hl j hj) (k H locs L hP hS hl)
theorem v_astore_n (K : OkM w M X cc nL own rm ret) {n : Fin 4} {i : Nat} {x : Nat} {ls' : List (Nat × Value)} (hi : (n : Nat) = i) (hn : i < nL) (he : (i, Value.ref x) :: ls.filter (fun q => !(q.1 == i) && !(q.1 + 1 == i && q.2.category == 2)) = ls') (d : decode cc pc = .ok (.astore_n n, 1)) (k : V w M X res nL (pc + 1) ls' (stk) u) : V w M X res nL pc ls (.ref x :: stk) u := by
  obtain ⟨p, l, e, R, s, m, args, below, meth, c⟩ := M
  obtain ⟨hx, hb, hml, hown, hts, hK, hR, hlk, hrt⟩ := K
  intro H locs L hP hS hl
  exact lv_astore_n hx hb d hi hl hn he (fun L hl => k H locs L hP hS hl)
theorem v_astore (K : OkM w M X cc nL own rm ret) {i : Nat} {x : Nat} {ls' : List (Nat × Value)} (hn : i < nL) (he : (i, Value.ref x) :: ls.filter (fun q => !(q.1 == i) && !(q.1 + 1 == i && q.2.category == 2)) = ls') (d : decode cc pc = .ok (.astore i, 2)) (k : V w M X res nL (pc + 2) ls' (stk) u) : V w M X res nL pc ls (.ref x :: stk) u := by
  obtain ⟨p, l, e, R, s, m, args, below, meth, c⟩ := M
  obtain ⟨hx, hb, hml, hown, hts, hK, hR, hlk, hrt⟩ := K
  intro H locs L hP hS hl
  exact lv_astore hx hb d hl hn he (fun L hl => k H locs L hP hS hl)
theorem v_iinc (K : OkM w M X cc nL own rm ret) (j : Nat) {i : Nat} {n : Int} {x v : Int32} {ls' : List (Nat × Value)} (hj : ls[j]? = some (i, .int x)) (hv : x + Int32.ofInt n = v) (hn : i < nL) (he : (i, Value.int v) :: ls.filter (fun q => !(q.1 == i) && !(q.1 + 1 == i && q.2.category == 2)) = ls') (d : decode cc pc = .ok (.iinc i n, 3)) (k : V w M X res nL (pc + 3) ls' (stk) u) : V w M X res nL pc ls (stk) u := by
  obtain ⟨p, l, e, R, s, m, args, below, meth, c⟩ := M
  obtain ⟨hx, hb, hml, hown, hts, hK, hR, hlk, hrt⟩ := K
  intro H locs L hP hS hl
  exact lv_iinc hx hb d hl hj hv hn he (fun L hl => k H locs L hP hS hl)
theorem v_iadd (K : OkM w M X cc nL own rm ret) {x y : Int32} (d : decode cc pc = .ok (.iadd, 1)) (k : V w M X res nL (pc + 1) ls (.int (x + y) :: stk) u) : V w M X res nL pc ls (.int y :: .int x :: stk) u := by
  obtain ⟨p, l, e, R, s, m, args, below, meth, c⟩ := M
  obtain ⟨hx, hb, hml, hown, hts, hK, hR, hlk, hrt⟩ := K
  intro H locs L hP hS hl
  exact lv_iadd hx hb d (k H locs L hP hS hl)
theorem v_isub (K : OkM w M X cc nL own rm ret) {x y : Int32} (d : decode cc pc = .ok (.isub, 1)) (k : V w M X res nL (pc + 1) ls (.int (x - y) :: stk) u) : V w M X res nL pc ls (.int y :: .int x :: stk) u := by
  obtain ⟨p, l, e, R, s, m, args, below, meth, c⟩ := M
  obtain ⟨hx, hb, hml, hown, hts, hK, hR, hlk, hrt⟩ := K
  intro H locs L hP hS hl
  exact lv_isub hx hb d (k H locs L hP hS hl)
theorem v_imul (K : OkM w M X cc nL own rm ret) {x y : Int32} (d : decode cc pc = .ok (.imul, 1)) (k : V w M X res nL (pc + 1) ls (.int (x * y) :: stk) u) : V w M X res nL pc ls (.int y :: .int x :: stk) u := by
  obtain ⟨p, l, e, R, s, m, args, below, meth, c⟩ := M
  obtain ⟨hx, hb, hml, hown, hts, hK, hR, hlk, hrt⟩ := K
  intro H locs L hP hS hl
  exact lv_imul hx hb d (k H locs L hP hS hl)
theorem v_iand (K : OkM w M X cc nL own rm ret) {x y : Int32} (d : decode cc pc = .ok (.iand, 1)) (k : V w M X res nL (pc + 1) ls (.int (x &&& y) :: stk) u) : V w M X res nL pc ls (.int y :: .int x :: stk) u := by
  obtain ⟨p, l, e, R, s, m, args, below, meth, c⟩ := M
  obtain ⟨hx, hb, hml, hown, hts, hK, hR, hlk, hrt⟩ := K
  intro H locs L hP hS hl
  exact lv_iand hx hb d (k H locs L hP hS hl)
theorem v_ior (K : OkM w M X cc nL own rm ret) {x y : Int32} (d : decode cc pc = .ok (.ior, 1)) (k : V w M X res nL (pc + 1) ls (.int (x ||| y) :: stk) u) : V w M X res nL pc ls (.int y :: .int x :: stk) u := by
  obtain ⟨p, l, e, R, s, m, args, below, meth, c⟩ := M
  obtain ⟨hx, hb, hml, hown, hts, hK, hR, hlk, hrt⟩ := K
  intro H locs L hP hS hl
  exact lv_ior hx hb d (k H locs L hP hS hl)
theorem v_ixor (K : OkM w M X cc nL own rm ret) {x y : Int32} (d : decode cc pc = .ok (.ixor, 1)) (k : V w M X res nL (pc + 1) ls (.int (x ^^^ y) :: stk) u) : V w M X res nL pc ls (.int y :: .int x :: stk) u := by
  obtain ⟨p, l, e, R, s, m, args, below, meth, c⟩ := M
  obtain ⟨hx, hb, hml, hown, hts, hK, hR, hlk, hrt⟩ := K
  intro H locs L hP hS hl
  exact lv_ixor hx hb d (k H locs L hP hS hl)
theorem v_ishl (K : OkM w M X cc nL own rm ret) {x y : Int32} (d : decode cc pc = .ok (.ishl, 1)) (k : V w M X res nL (pc + 1) ls (.int (x <<< (y &&& 31)) :: stk) u) : V w M X res nL pc ls (.int y :: .int x :: stk) u := by
  obtain ⟨p, l, e, R, s, m, args, below, meth, c⟩ := M
  obtain ⟨hx, hb, hml, hown, hts, hK, hR, hlk, hrt⟩ := K
  intro H locs L hP hS hl
  exact lv_ishl hx hb d (k H locs L hP hS hl)
theorem v_ishr (K : OkM w M X cc nL own rm ret) {x y : Int32} (d : decode cc pc = .ok (.ishr, 1)) (k : V w M X res nL (pc + 1) ls (.int (x >>> (y &&& 31)) :: stk) u) : V w M X res nL pc ls (.int y :: .int x :: stk) u := by
  obtain ⟨p, l, e, R, s, m, args, below, meth, c⟩ := M
  obtain ⟨hx, hb, hml, hown, hts, hK, hR, hlk, hrt⟩ := K
  intro H locs L hP hS hl
  exact lv_ishr hx hb d (k H locs L hP hS hl)
theorem v_iushr (K : OkM w M X cc nL own rm ret) {x y : Int32} (d : decode cc pc = .ok (.iushr, 1)) (k : V w M X res nL (pc + 1) ls (.int (x.toUInt32 >>> (y.toUInt32 &&& Int32.toUInt32 31)).toInt32 :: stk) u) : V w M X res nL pc ls (.int y :: .int x :: stk) u := by
  obtain ⟨p, l, e, R, s, m, args, below, meth, c⟩ := M
  obtain ⟨hx, hb, hml, hown, hts, hK, hR, hlk, hrt⟩ := K
  intro H locs L hP hS hl
  exact lv_iushr hx hb d rfl (k H locs L hP hS hl)
theorem v_idiv (K : OkM w M X cc nL own rm ret) {x y : Int32} (hy : ¬ y = 0) (d : decode cc pc = .ok (.idiv, 1)) (k : V w M X res nL (pc + 1) ls (.int (x / y) :: stk) u) : V w M X res nL pc ls (.int y :: .int x :: stk) u := by
  obtain ⟨p, l, e, R, s, m, args, below, meth, c⟩ := M
  obtain ⟨hx, hb, hml, hown, hts, hK, hR, hlk, hrt⟩ := K
  intro H locs L hP hS hl
  exact lv_idiv hx hb d hy (k H locs L hP hS hl)
theorem v_irem (K : OkM w M X cc nL own rm ret) {x y : Int32} (hy : ¬ y = 0) (d : decode cc pc = .ok (.irem, 1)) (k : V w M X res nL (pc + 1) ls (.int (x - x / y * y) :: stk) u) : V w M X res nL pc ls (.int y :: .int x :: stk) u := by
  obtain ⟨p, l, e, R, s, m, args, below, meth, c⟩ := M
  obtain ⟨hx, hb, hml, hown, hts, hK, hR, hlk, hrt⟩ := K
  intro H locs L hP hS hl
  exact lv_irem hx hb d hy (k H locs L hP hS hl)
theorem v_ladd (K : OkM w M X cc nL own rm ret) {x y : Int64} (d : decode cc pc = .ok (.ladd, 1)) (k : V w M X res nL (pc + 1) ls (.long (x + y) :: stk) u) : V w M X res nL pc ls (.long y :: .long x :: stk) u := by
  obtain ⟨p, l, e, R, s, m, args, below, meth, c⟩ := M
  obtain ⟨hx, hb, hml, hown, hts, hK, hR, hlk, hrt⟩ := K
  intro H locs L hP hS hl
  exact lv_ladd hx hb d (k H locs L hP hS hl)
theorem v_lmul (K : OkM w M X cc nL own rm ret) {x y : Int64} (d : decode cc pc = .ok (.lmul, 1)) (k : V w M X res nL (pc + 1) ls (.long (x * y) :: stk) u) : V w M X res nL pc ls (.long y :: .long x :: stk) u := by
  obtain ⟨p, l, e, R, s, m, args, below, meth, c⟩ := M
  obtain ⟨hx, hb, hml, hown, hts, hK, hR, hlk, hrt⟩ := K
  intro H locs L hP hS hl
  exact lv_lmul hx hb d (k H locs L hP hS hl)
theorem v_i2l (K : OkM w M X cc nL own rm ret) {x : Int32} (d : decode cc pc = .ok (.i2l, 1)) (k : V w M X res nL (pc + 1) ls (.long x.toInt64 :: stk) u) : V w M X res nL pc ls (.int x :: stk) u := by
  obtain ⟨p, l, e, R, s, m, args, below, meth, c⟩ := M
  obtain ⟨hx, hb, hml, hown, hts, hK, hR, hlk, hrt⟩ := K
  intro H locs L hP hS hl
  exact lv_i2l hx hb d rfl (k H locs L hP hS hl)
theorem v_i2b (K : OkM w M X cc nL own rm ret) {x : Int32} (d : decode cc pc = .ok (.i2b, 1)) (k : V w M X res nL (pc + 1) ls (.int x.toInt8.toInt32 :: stk) u) : V w M X res nL pc ls (.int x :: stk) u := by
  obtain ⟨p, l, e, R, s, m, args, below, meth, c⟩ := M
  obtain ⟨hx, hb, hml, hown, hts, hK, hR, hlk, hrt⟩ := K
  intro H locs L hP hS hl
  exact lv_i2b hx hb d rfl (k H locs L hP hS hl)
theorem v_dup (K : OkM w M X cc nL own rm ret) {a : Value} (ha : a.category = 1) (d : decode cc pc = .ok (.dup, 1)) (k : V w M X res nL (pc + 1) ls (a :: a :: stk) u) : V w M X res nL pc ls (a :: stk) u := by
  obtain ⟨p, l, e, R, s, m, args, below, meth, c⟩ := M
  obtain ⟨hx, hb, hml, hown, hts, hK, hR, hlk, hrt⟩ := K
  intro H locs L hP hS hl
  exact lv_dup hx hb d ha (k H locs L hP hS hl)
theorem v_dup2 (K : OkM w M X cc nL own rm ret) {a b : Value} (ha : a.category = 1) (hb1 : b.category = 1) (d : decode cc pc = .ok (.dup2, 1)) (k : V w M X res nL (pc + 1) ls (a :: b :: a :: b :: stk) u) : V w M X res nL pc ls (a :: b :: stk) u := by
  obtain ⟨p, l, e, R, s, m, args, below, meth, c⟩ := M
  obtain ⟨hx, hb, hml, hown, hts, hK, hR, hlk, hrt⟩ := K
  intro H locs L hP hS hl
  exact lv_dup2_11 hx hb d ha hb1 (k H locs L hP hS hl)
theorem v_if_eq (K : OkM w M X cc nL own rm ret) {x : Int32} {off : Int} (tgt : Nat) (ht : (pc : Int) + off = (tgt : Int)) (d : decode cc pc = .ok (.ifCond .eq off, 3)) (kt : x = 0 → V w M X res nL tgt ls stk u) (kf : ¬ x = 0 → V w M X res nL (pc + 3) ls stk u) : V w M X res nL pc ls (.int x :: stk) u := by
  obtain ⟨p, l, e, R, s, m, args, below, meth, c⟩ := M
  obtain ⟨hx, hb, hml, hown, hts, hK, hR, hlk, hrt⟩ := K
  intro H locs L hP hS hl
  exact lv_if_eq hx hb d ht (fun h => kt h H locs L hP hS hl) (fun h => kf h H locs L hP hS hl)
theorem v_icmp_eq (K : OkM w M X cc nL own rm ret) {x y : Int32} {off : Int} (tgt : Nat) (ht : (pc : Int) + off = (tgt : Int)) (d : decode cc pc = .ok (.if_icmp .eq off, 3)) (kt : x = y → V w M X res nL tgt ls stk u) (kf : ¬ x = y → V w M X res nL (pc + 3) ls stk u) : V w M X res nL pc ls (.int y :: .int x :: stk) u := by
  obtain ⟨p, l, e, R, s, m, args, below, meth, c⟩ := M
  obtain ⟨hx, hb, hml, hown, hts, hK, hR, hlk, hrt⟩ := K
  intro H locs L hP hS hl
  exact lv_icmp_eq hx hb d ht (fun h => kt h H locs L hP hS hl) (fun h => kf h H locs L hP hS hl)
theorem v_if_ne (K : OkM w M X cc nL own rm ret) {x : Int32} {off : Int} (tgt : Nat) (ht : (pc : Int) + off = (tgt : Int)) (d : decode cc pc = .ok (.ifCond .ne off, 3)) (kt : ¬ x = 0 → V w M X res nL tgt ls stk u) (kf : x = 0 → V w M X res nL (pc + 3) ls stk u) : V w M X res nL pc ls (.int x :: stk) u := by
  obtain ⟨p, l, e, R, s, m, args, below, meth, c⟩ := M
  obtain ⟨hx, hb, hml, hown, hts, hK, hR, hlk, hrt⟩ := K
  intro H locs L hP hS hl
  exact lv_if_ne hx hb d ht (fun h => kt h H locs L hP hS hl) (fun h => kf h H locs L hP hS hl)
theorem v_icmp_ne (K : OkM w M X cc nL own rm ret) {x y : Int32} {off : Int} (tgt : Nat) (ht : (pc : Int) + off = (tgt : Int)) (d : decode cc pc = .ok (.if_icmp .ne off, 3)) (kt : ¬ x = y → V w M X res nL tgt ls stk u) (kf : x = y → V w M X res nL (pc + 3) ls stk u) : V w M X res nL pc ls (.int y :: .int x :: stk) u := by
  obtain ⟨p, l, e, R, s, m, args, below, meth, c⟩ := M
  obtain ⟨hx, hb, hml, hown, hts, hK, hR, hlk, hrt⟩ := K
  intro H locs L hP hS hl
  exact lv_icmp_ne hx hb d ht (fun h => kt h H locs L hP hS hl) (fun h => kf h H locs L hP hS hl)
theorem v_if_lt (K : OkM w M X cc nL own rm ret) {x : Int32} {off : Int} (tgt : Nat) (ht : (pc : Int) + off = (tgt : Int)) (d : decode cc pc = .ok (.ifCond .lt off, 3)) (kt : x < 0 → V w M X res nL tgt ls stk u) (kf : ¬ x < 0 → V w M X res nL (pc + 3) ls stk u) : V w M X res nL pc ls (.int x :: stk) u := by
  obtain ⟨p, l, e, R, s, m, args, below, meth, c⟩ := M
  obtain ⟨hx, hb, hml, hown, hts, hK, hR, hlk, hrt⟩ := K
  intro H locs L hP hS hl
  exact lv_if_lt hx hb d ht (fun h => kt h H locs L hP hS hl) (fun h => kf h H locs L hP hS hl)
theorem v_icmp_lt (K : OkM w M X cc nL own rm ret) {x y : Int32} {off : Int} (tgt : Nat) (ht : (pc : Int) + off = (tgt : Int)) (d : decode cc pc = .ok (.if_icmp .lt off, 3)) (kt : x < y → V w M X res nL tgt ls stk u) (kf : ¬ x < y → V w M X res nL (pc + 3) ls stk u) : V w M X res nL pc ls (.int y :: .int x :: stk) u := by
  obtain ⟨p, l, e, R, s, m, args, below, meth, c⟩ := M
  obtain ⟨hx, hb, hml, hown, hts, hK, hR, hlk, hrt⟩ := K
  intro H locs L hP hS hl
  exact lv_icmp_lt hx hb d ht (fun h => kt h H locs L hP hS hl) (fun h => kf h H locs L hP hS hl)
theorem v_if_ge (K : OkM w M X cc nL own rm ret) {x : Int32} {off : Int} (tgt : Nat) (ht : (pc : Int) + off = (tgt : Int)) (d : decode cc pc = .ok (.ifCond .ge off, 3)) (kt : 0 ≤ x → V w M X res nL tgt ls stk u) (kf : ¬ 0 ≤ x → V w M X res nL (pc + 3) ls stk u) : V w M X res nL pc ls (.int x :: stk) u := by
  obtain ⟨p, l, e, R, s, m, args, below, meth, c⟩ := M
  obtain ⟨hx, hb, hml, hown, hts, hK, hR, hlk, hrt⟩ := K
  intro H locs L hP hS hl
  exact lv_if_ge hx hb d ht (fun h => kt h H locs L hP hS hl) (fun h => kf h H locs L hP hS hl)
theorem v_icmp_ge (K : OkM w M X cc nL own rm ret) {x y : Int32} {off : Int} (tgt : Nat) (ht : (pc : Int) + off = (tgt : Int)) (d : decode cc pc = .ok (.if_icmp .ge off, 3)) (kt : y ≤ x → V w M X res nL tgt ls stk u) (kf : ¬ y ≤ x → V w M X res nL (pc + 3) ls stk u) : V w M X res nL pc ls (.int y :: .int x :: stk) u := by
  obtain ⟨p, l, e, R, s, m, args, below, meth, c⟩ := M
  obtain ⟨hx, hb, hml, hown, hts, hK, hR, hlk, hrt⟩ := K
  intro H locs L hP hS hl
  exact lv_icmp_ge hx hb d ht (fun h => kt h H locs L hP hS hl) (fun h => kf h H locs L hP hS hl)
theorem v_if_gt (K : OkM w M X cc nL own rm ret) {x : Int32} {off : Int} (tgt : Nat) (ht : (pc : Int) + off = (tgt : Int)) (d : decode cc pc = .ok (.ifCond .gt off, 3)) (kt : 0 < x → V w M X res nL tgt ls stk u) (kf : ¬ 0 < x → V w M X res nL (pc + 3) ls stk u) : V w M X res nL pc ls (.int x :: stk) u := by
  obtain ⟨p, l, e, R, s, m, args, below, meth, c⟩ := M
  obtain ⟨hx, hb, hml, hown, hts, hK, hR, hlk, hrt⟩ := K
  intro H locs L hP hS hl
  exact lv_if_gt hx hb d ht (fun h => kt h H locs L hP hS hl) (fun h => kf h H locs L hP hS hl)
theorem v_icmp_gt (K : OkM w M X cc nL own rm ret) {x y : Int32} {off : Int} (tgt : Nat) (ht : (pc : Int) + off = (tgt : Int)) (d : decode cc pc = .ok (.if_icmp .gt off, 3)) (kt : y < x → V w M X res nL tgt ls stk u) (kf : ¬ y < x → V w M X res nL (pc + 3) ls stk u) : V w M X res nL pc ls (.int y :: .int x :: stk) u := by
  obtain ⟨p, l, e, R, s, m, args, below, meth, c⟩ := M
  obtain ⟨hx, hb, hml, hown, hts, hK, hR, hlk, hrt⟩ := K
  intro H locs L hP hS hl
  exact lv_icmp_gt hx hb d ht (fun h => kt h H locs L hP hS hl) (fun h => kf h H locs L hP hS hl)
theorem v_if_le (K : OkM w M X cc nL own rm ret) {x : Int32} {off : Int} (tgt : Nat) (ht : (pc : Int) + off = (tgt : Int)) (d : decode cc pc = .ok (.ifCond .le off, 3)) (kt : x ≤ 0 → V w M X res nL tgt ls stk u) (kf : ¬ x ≤ 0 → V w M X res nL (pc + 3) ls stk u) : V w M X res nL pc ls (.int x :: stk) u := by
  obtain ⟨p, l, e, R, s, m, args, below, meth, c⟩ := M
  obtain ⟨hx, hb, hml, hown, hts, hK, hR, hlk, hrt⟩ := K
  intro H locs L hP hS hl
  exact lv_if_le hx hb d ht (fun h => kt h H locs L hP hS hl) (fun h => kf h H locs L hP hS hl)
theorem v_icmp_le (K : OkM w M X cc nL own rm ret) {x y : Int32} {off : Int} (tgt : Nat) (ht : (pc : Int) + off = (tgt : Int)) (d : decode cc pc = .ok (.if_icmp .le off, 3)) (kt : x ≤ y → V w M X res nL tgt ls stk u) (kf : ¬ x ≤ y → V w M X res nL (pc + 3) ls stk u) : V w M X res nL pc ls (.int y :: .int x :: stk) u := by
  obtain ⟨p, l, e, R, s, m, args, below, meth, c⟩ := M
  obtain ⟨hx, hb, hml, hown, hts, hK, hR, hlk, hrt⟩ := K
  intro H locs L hP hS hl
  exact lv_icmp_le hx hb d ht (fun h => kt h H locs L hP hS hl) (fun h => kf h H locs L hP hS hl)
theorem v_goto (K : OkM w M X cc nL own rm ret) {off : Int} (tgt : Nat) (ht : (pc : Int) + off = (tgt : Int)) (d : decode cc pc = .ok (.goto off, 3)) (k : V w M X res nL tgt ls stk u) : V w M X res nL pc ls (stk) u := by
  obtain ⟨p, l, e, R, s, m, args, below, meth, c⟩ := M
  obtain ⟨hx, hb, hml, hown, hts, hK, hR, hlk, hrt⟩ := K
  intro H locs L hP hS hl
  exact lv_goto hx hb d ht (k H locs L hP hS hl)
theorem v_tabOut (K : OkM w M X cc nL own rm ret) {dflt lo hi : Int} {offs : Array Int} {len : Nat} {x : Int32} (tgt : Nat) (h : x.toInt < lo ∨ hi < x.toInt) (ht : (pc : Int) + dflt = (tgt : Int)) (d : decode cc pc = .ok (.tableswitch dflt lo hi offs, len)) (k : V w M X res nL tgt ls stk u) : V w M X res nL pc ls (.int x :: stk) u := by
  obtain ⟨p, l, e, R, s, m, args, below, meth, c⟩ := M
  obtain ⟨hx, hb, hml, hown, hts, hK, hR, hlk, hrt⟩ := K
  intro H locs L hP hS hl
  exact lv_tableOut hx hb d h ht (k H locs L hP hS hl)
theorem v_tabIn (K : OkM w M X cc nL own rm ret) {dflt lo hi : Int} {offs : Array Int} {len : Nat} {x : Int32} {off : Int} (tgt : Nat) (h1 : ¬ x.toInt < lo) (h2 : ¬ hi < x.toInt) (ho : offs[(x.toInt - lo).toNat]? = some off) (ht : (pc : Int) + off = (tgt : Int)) (d : decode cc pc = .ok (.tableswitch dflt lo hi offs, len)) (k : V w M X res nL tgt ls stk u) : V w M X res nL pc ls (.int x :: stk) u := by
  obtain ⟨p, l, e, R, s, m, args, below, meth, c⟩ := M
  obtain ⟨hx, hb, hml, hown, hts, hK, hR, hlk, hrt⟩ := K
  intro H locs L hP hS hl
  exact lv_tableIn hx hb d h1 h2 ho ht (k H locs L hP hS hl)
theorem v_look (K : OkM w M X cc nL own rm ret) {dflt : Int} {ps : Array (Int × Int)} {len : Nat} {x : Int32} {off : Int} (tgt : Nat) (hp : (ps.toList.zip (ps.toList.drop 1)).all (fun (a, next) => a.1 < next.1) = true) (ho : Op.lookupswitch.offset ps.toList dflt x.toInt = off) (ht : (pc : Int) + off = (tgt : Int)) (d : decode cc pc = .ok (.lookupswitch dflt ps, len)) (k : V w M X res nL tgt ls stk u) : V w M X res nL pc ls (.int x :: stk) u := by
  obtain ⟨p, l, e, R, s, m, args, below, meth, c⟩ := M
  obtain ⟨hx, hb, hml, hown, hts, hK, hR, hlk, hrt⟩ := K
  intro H locs L hP hS hl
  exact lv_lookup hx hb d hp ho ht (k H locs L hP hS hl)
theorem v_topi {x : Int32} (k : ∀ y : Int32, y = x → V w M X res nL pc ls (.int y :: stk) u) : V w M X res nL pc ls (.int x :: stk) u := k x rfl
theorem v_topl {x : Int64} (k : ∀ y : Int64, y = x → V w M X res nL pc ls (.long y :: stk) u) : V w M X res nL pc ls (.long x :: stk) u := k x rfl
theorem v_st (k : ∀ v : ASt, v = u → V w M X res nL pc ls stk v) : V w M X res nL pc ls stk u := k u rfl
end ROWS
end
section
/-! places of the world's cells -/
theorem aol_nodup (w : Nat) : (aol w).Nodup := by
  unfold aol
  split
  · exact List.nodup_range
  · exact List.nodup_range'
theorem aol_lt {w o : Nat} (h : o ∈ aol w) : o < 107 := by
  unfold aol at h
  split at h
  · have := List.mem_range.mp h; omega
  · have := List.mem_range'.mp h; omega
theorem map_set {α β : Type} (l : List α) (nd : l.Nodup) (g g' : α → β) (i : Nat) (o : α) (hi : l[i]? = some o) (hne : ∀ a, a ∈ l → a ≠ o → g' a = g a) : (l.map g).set i (g' o) = l.map g' := by
  apply List.ext_getElem?
  intro j
  rw [List.getElem?_set]
  by_cases hj : i = j
  · subst hj
    have hlt : i < l.length := (List.getElem?_eq_some_iff.mp hi).1
    rw [if_pos rfl, if_pos (by rw [List.length_map]; exact hlt), List.getElem?_map, hi]
    rfl
  · simp only [hj, if_false, List.getElem?_map]
    cases hq : l[j]? with
    | none => rfl
    | some a =>
      have : a ≠ o := by
        intro e
        subst e
        exact hj ((List.getElem?_inj (List.getElem?_eq_some_iff.mp hi).1 nd).mp (hi.trans hq.symm))
      simp [hne a (List.mem_of_getElem? hq) this]
theorem acells_at {w : Nat} {X : Wx} {u : ASt} {o : Nat} (h : o ∈ aol w) : ∃ i : Nat, (aol w)[i]? = some o ∧ (acells w X u)[i]? = some (X.2.1 o, acell X u o) := by
  obtain ⟨i, hi⟩ := List.getElem?_of_mem h
  exact ⟨i, hi, by simp [acells, List.getElem?_map, hi]⟩
theorem acells_set {w : Nat} {X : Wx} {u u' : ASt} {o i : Nat} {e : va_E} (hi : (aol w)[i]? = some o) (he : acell X u' o = e) (hne : ∀ a, a ≠ o → acell X u' a = acell X u a) : (acells w X u).set i (X.2.1 o, e) = acells w X u' := by
  subst he
  exact map_set (aol w) (aol_nodup w) (fun o => (X.2.1 o, acell X u o)) (fun o => (X.2.1 o, acell X u' o)) i o hi (fun a _ ha => by show (X.2.1 a, _) = _; rw [hne a ha])
theorem acells_D {w : Nat} {X : Wx} {u : ASt} (hinj : ∀ a b, a < 107 → b < 107 → X.2.1 a = X.2.1 b → a = b) : va_D (Aw w X) (acells w X u) := by
  constructor
  · intro i j p q hi hj e
    simp only [acells, List.getElem?_map, Option.map_eq_some_iff] at hi hj
    obtain ⟨a, ha, rfl⟩ := hi
    obtain ⟨b, hb, rfl⟩ := hj
    have hab := hinj a b (aol_lt (List.mem_of_getElem? ha)) (aol_lt (List.mem_of_getElem? hb)) e
    subst hab
    exact (List.getElem?_inj (List.getElem?_eq_some_iff.mp ha).1 (aol_nodup w)).mp (ha.trans hb.symm)
  · intro k q hk
    simp only [acells, List.getElem?_map, Option.map_eq_some_iff] at hk
    obtain ⟨a, ha, rfl⟩ := hk
    exact ⟨a, List.mem_of_getElem? ha, rfl⟩
/-! what a cell is, by its kind -/
theorem acell_o {X : Wx} {u : ASt} {o ci : Nat} (h : akd o = ci) (hc : ci < 8) : acell X u o = .inr (ci, (List.range (anf ci)).map (afv X u o ci)) := by
  subst h
  unfold acell
  rw [if_neg (by omega), if_neg (by omega), if_neg (by omega), if_neg (by omega), if_neg (by omega)]
theorem acell_8 {X : Wx} {u : ASt} {o : Nat} (h : akd o = 8) : acell X u o = .inl (X.2.2.1.1, aln o, .inl (u.1 o)) := by
  unfold acell; rw [if_pos h]
theorem acell_9 {X : Wx} {u : ASt} {o : Nat} (h : akd o = 9) : acell X u o = .inl (X.2.2.1.2.1, aln o, .inl (u.1 o)) := by
  unfold acell; rw [if_neg (by omega), if_pos h]
theorem acell_12 {X : Wx} {u : ASt} {o : Nat} (h : akd o = 12) : acell X u o = .inl (X.2.2.1.2.1, aln o, .inl (u.1 o)) := by
  unfold acell; rw [if_neg (by omega), if_neg (by omega), if_pos h]
theorem acell_I {X : Wx} {u : ASt} {o : Nat} (h : akd o = 9 ∨ akd o = 12) : acell X u o = .inl (X.2.2.1.2.1, aln o, .inl (u.1 o)) := h.elim acell_9 acell_12
theorem acell_10 {X : Wx} {u : ASt} {o : Nat} (h : akd o = 10) : acell X u o = .inl (X.2.2.1.2.2.1, aln o, .inr (.inr (.inr (.inr (fun j => some (X.2.1 (arf o j))))))) := by
  unfold acell; rw [if_neg (by omega), if_neg (by omega), if_neg (by omega), if_pos h]
theorem acell_11 {X : Wx} {u : ASt} {o : Nat} (h : akd o = 11) : acell X u o = .inl (X.2.2.1.2.2.2, aln o, .inr (.inr (.inr (.inr (fun j => some (X.2.1 (arf o j))))))) := by
  unfold acell; rw [if_neg (by omega), if_neg (by omega), if_neg (by omega), if_neg (by omega), if_pos h]
theorem apt_ne {u : ASt} {o k : Nat} {v : Int32} {a : Nat} (h : a ≠ o) : (apt u o k v).1 a = u.1 a := by
  show (if a = o then _ else _) = _
  rw [if_neg h]
theorem apt_eq {u : ASt} {o k : Nat} {v : Int32} : (apt u o k v).1 o = upd (u.1 o) k v := by
  show (if o = o then _ else _) = _
  rw [if_pos rfl]
theorem acell_ne {X : Wx} {u u' : ASt} {o a : Nat} (h1 : u'.1 a = u.1 a) (h2 : u'.2 = u.2) : acell X u' a = acell X u a := by
  unfold acell
  rw [h1]
  have : afv X u' a (akd a) = afv X u a (akd a) := by
    funext k
    unfold afv
    rw [h1, h2]
  rw [this]
theorem map_range_set {n k : Nat} {f g : Nat → Value} {v : Value} (hk : k < n) (hv : g k = v) (hne : ∀ j, j < n → j ≠ k → g j = f j) : ((List.range n).map f).set k v = (List.range n).map g := by
  subst hv
  exact map_set (List.range n) List.nodup_range f g k k (by simp [hk]) (fun a ha => hne a (List.mem_range.mp ha))
theorem akd_lt {o k : Nat} (h : akd o = k) (hk : k ≠ 99) : o < 107 := by
  rcases Nat.lt_or_ge o 107 with q | q
  · exact q
  · exfalso
    apply hk
    rw [← h]
    unfold akd
    rw [List.getD_eq_getElem?_getD, List.getElem?_eq_none (show akdl.length ≤ o from q)]
    rfl
theorem akd_all {P : Nat → Prop} {o k : Nat} (h : akd o = k) (hk : k ≠ 99) (hP : ∀ o, o < 107 → akd o = k → P o) : P o := hP o (akd_lt h hk) h
theorem akd_7 {o : Nat} (h : akd o = 7) : o = 95 := akd_all (P := fun o => o = 95) h (by decide) (by decide)
theorem aft_01 {ci k : Nat} (h : ci ≠ 7) (hk : k < anf ci) : aft ci k = 0 ∨ aft ci k = 1 := by
  rcases Nat.lt_or_ge ci 8 with q | q
  · have : ∀ ci, ci < 8 → ci ≠ 7 → ∀ k, k < anf ci → aft ci k = 0 ∨ aft ci k = 1 := by decide
    exact this ci q h k hk
  · exfalso
    have : anf ci = 0 := by
      unfold anf
      rw [List.getD_eq_getElem?_getD, List.getElem?_eq_none (show aftl.length ≤ ci from q)]
      rfl
    omega
theorem acell_L {X : Wx} {u : ASt} {v : Int64} {a : Nat} (h : a ≠ 95) : acell X (aptL u v) a = acell X u a := by
  unfold acell
  have : (List.range (anf (akd a))).map (afv X (aptL u v) a (akd a)) = (List.range (anf (akd a))).map (afv X u a (akd a)) := by
    apply List.map_congr_left
    intro k hk
    unfold afv
    rcases aft_01 (fun e => h (akd_7 e)) (List.mem_range.mp hk) with h0 | h0 <;> rw [h0] <;> rfl
  rw [this]
  rfl
section HEAP
variable {w : Nat} {M : Mx} {X : Wx} {res : Option Value × ASt} {cc : ByteArray} {nL pc : Nat} {own : String} {rm : Room} {ret : Option FieldType} {ls : List (Nat × Value)} {stk : List Value} {u : ASt}
/-- what the tables say of the fields of a kind: its name, fields, types -/
def Kd (ci : Nat) (C : String) (T : u_T) (N : Nat) (ty : Nat → FieldType) : Prop := ci < 8 ∧ vwCl[ci]? = some (C, T, N) ∧ anf ci = N ∧ (∀ w ∈ u_ws C T N, w ∈ lw_good) ∧ (∀ k, k < N → parseFieldDescriptor (T k).2.2.1 = some (ty k)) ∧ (∀ a, a < N → ∀ b, b < N → a ≠ b → (T a).2.1 ≠ (T b).2.1)
theorem v_get (K : OkM w M X cc nL own rm ret) {o ci N k i : Nat} {C : String} {T : u_T} {ty : Nat → FieldType} {v : Value} (hm : o ∈ aol w) (hk : akd o = ci) (kd : Kd ci C T N ty) (hkN : k < N) (hw : Cond.fieldLink own i C (T k).2.1 (T k).2.2.1 ∈ lw_good) (hC : (T k).1 = C) (hv : afv X u o ci k = v) (d : decode cc pc = .ok (.getfield i, 3)) (kk : V w M X res nL (pc + 3) ls (v :: stk) u) : V w M X res nL pc ls (.ref (X.2.1 o) :: stk) u := by
  obtain ⟨p, l, e, R, s, m, args, below, meth, c⟩ := M
  obtain ⟨hx, hb, hml, hown, hts, hK, hR, hlk, hrt⟩ := K
  obtain ⟨k1, k2, k3, k4, k5, k6⟩ := kd
  intro H locs L hP hS hl
  obtain ⟨q, -, hq⟩ := acells_at (X := X) (u := u) hm
  rw [acell_o hk k1] at hq
  exact va_get (ref := C) hx hb hts k4 hown hK.1 hP q hq k2 k hkN (hts _ hw) (fun x hx => by rw [← hC]; exact hx) (by rw [List.getElem?_map, List.getElem?_range (by omega)]; exact congrArg some hv) d (kk H locs L hP hS hl)
theorem v_putg (K : OkM w M X cc nL own rm ret) {o ci N k i : Nat} {C : String} {T : u_T} {ty : Nat → FieldType} {v : Value} {u' : ASt} (hm : o ∈ aol w) (hk : akd o = ci) (kd : Kd ci C T N ty) (hkN : k < N) (hw : Cond.fieldLink own i C (T k).2.1 (T k).2.2.1 ∈ lw_good) (hC : (T k).1 = C) (hfin : (T k).2.2.2 = false) (hn : narrow (ty k) v = v) (hfit : fits (ty k) v = true) (hv : afv X u' o ci k = v) (hne : ∀ j, j < N → j ≠ k → afv X u' o ci j = afv X u o ci j) (hno : ∀ a, a ≠ o → acell X u' a = acell X u a) (d : decode cc pc = .ok (.putfield i, 3)) (kk : V w M X res nL (pc + 3) ls stk u') : V w M X res nL pc ls (v :: .ref (X.2.1 o) :: stk) u := by
  obtain ⟨p, l, e, R, s, m, args, below, meth, c⟩ := M
  obtain ⟨hx, hb, hml, hown, hts, hK, hR, hlk, hrt⟩ := K
  obtain ⟨k1, k2, k3, k4, k5, k6⟩ := kd
  intro H locs L hP hS hl
  obtain ⟨q, hq0, hq⟩ := acells_at (X := X) (u := u) hm
  rw [acell_o hk k1] at hq
  refine va_put (ref := C) hx hb hts k4 ty k5 k6 hown hK.1 hP (acells_D hK.2.1) hS q hq k2 k hkN (hts _ hw) (fun x hx => by rw [← hC]; exact hx) hfin (k5 k hkN) hn hfit (by simp only [List.length_map, List.length_range]; omega) d (fun H1 locs1 hP1 hD1 hS1 => ?_)
  have he : (acells w X u).set q (X.2.1 o, .inr (ci, ((List.range (anf ci)).map (afv X u o ci)).set k v)) = acells w X u' := acells_set hq0 (by rw [acell_o hk k1, map_range_set (by omega) hv (fun j hj => hne j (by omega))]) hno
  rw [he] at hP1
  exact kk H1 locs1 L hP1 hS1 hl
theorem v_put (K : OkM w M X cc nL own rm ret) {o ci N k i : Nat} {C : String} {T : u_T} {ty : Nat → FieldType} {v : Int32} (hm : o ∈ aol w) (hk : akd o = ci) (kd : Kd ci C T N ty) (hkN : k < N) (hw : Cond.fieldLink own i C (T k).2.1 (T k).2.2.1 ∈ lw_good) (hC : (T k).1 = C) (hfin : (T k).2.2.2 = false) (hn : narrow (ty k) (.int v) = .int v) (hfit : fits (ty k) (.int v) = true) (hft : aft ci k = 0) (d : decode cc pc = .ok (.putfield i, 3)) (kk : V w M X res nL (pc + 3) ls stk (apt u o k v)) : V w M X res nL pc ls (.int v :: .ref (X.2.1 o) :: stk) u := by
  refine v_putg K hm hk kd hkN hw hC hfin hn hfit ?_ ?_ ?_ d kk
  · show (match aft ci k with | 0 => Value.int ((apt u o k v).1 o k) | 1 => Value.ref (X.2.1 (arf o k)) | _ => Value.long u.2) = _
    rw [hft, apt_eq]
    simp [upd]
  · intro j _ hj
    unfold afv
    rw [apt_eq]
    simp [upd, hj, apt]
  · intro a ha
    exact acell_ne (o := o) (apt_ne ha) rfl
theorem v_putL (K : OkM w M X cc nL own rm ret) {o ci N k i : Nat} {C : String} {T : u_T} {ty : Nat → FieldType} {v : Int64} (hm : o ∈ aol w) (hk : akd o = ci) (kd : Kd ci C T N ty) (hkN : k < N) (hw : Cond.fieldLink own i C (T k).2.1 (T k).2.2.1 ∈ lw_good) (hC : (T k).1 = C) (hfin : (T k).2.2.2 = false) (hn : narrow (ty k) (.long v) = .long v) (hfit : fits (ty k) (.long v) = true) (ho : o = 95) (hk18 : k = 18) (d : decode cc pc = .ok (.putfield i, 3)) (kk : V w M X res nL (pc + 3) ls stk (aptL u v)) : V w M X res nL pc ls (.long v :: .ref (X.2.1 o) :: stk) u := by
  subst ho
  subst hk18
  have hc7 : ci = 7 := hk.symm.trans rfl
  subst hc7
  have hN : N = 19 := kd.2.2.1.symm.trans rfl
  refine v_putg K hm hk kd hkN hw hC hfin hn hfit rfl ?_ ?_ d kk
  · intro j h1 hj
    have : ∀ j, j < 18 → aft 7 j = 0 ∨ aft 7 j = 1 := by decide
    unfold afv
    rcases this j (by omega) with h0 | h0 <;> rw [h0] <;> rfl
  · intro a ha
    exact acell_L ha
theorem v_iald (K : OkM w M X cc nL own rm ret) {o : Nat} {i : Int32} (hm : o ∈ aol w) (hk : akd o = 9 ∨ akd o = 12) (hin : vp_in i (aln o)) (d : decode cc pc = .ok (.iaload, 1)) (kk : V w M X res nL (pc + 1) ls (.int (agt u o i.toNatClampNeg) :: stk) u) : V w M X res nL pc ls (.int i :: .ref (X.2.1 o) :: stk) u := by
  obtain ⟨p, l, e, R, s, m, args, below, meth, c⟩ := M
  obtain ⟨hx, hb, hml, hown, hts, hK, hR, hlk, hrt⟩ := K
  intro H locs L hP hS hl
  obtain ⟨q, -, hq⟩ := acells_at (X := X) (u := u) hm
  rw [acell_I hk] at hq
  exact va_iald hx hb hK.1 hP q 1 hq rfl hin d (kk H locs L hP hS hl)
theorem v_bald (K : OkM w M X cc nL own rm ret) {o : Nat} {i : Int32} (hm : o ∈ aol w) (hk : akd o = 8) (hin : vp_in i (aln o)) (d : decode cc pc = .ok (.baload, 1)) (kk : V w M X res nL (pc + 1) ls (.int (agt u o i.toNatClampNeg) :: stk) u) : V w M X res nL pc ls (.int i :: .ref (X.2.1 o) :: stk) u := by
  obtain ⟨p, l, e, R, s, m, args, below, meth, c⟩ := M
  obtain ⟨hx, hb, hml, hown, hts, hK, hR, hlk, hrt⟩ := K
  intro H locs L hP hS hl
  obtain ⟨q, -, hq⟩ := acells_at (X := X) (u := u) hm
  rw [acell_8 hk] at hq
  exact va_bald hx hb hK.1 hP q 0 hq rfl hin d (kk H locs L hP hS hl)
theorem v_iast (K : OkM w M X cc nL own rm ret) {o : Nat} {i x : Int32} (hm : o ∈ aol w) (hk : akd o = 9 ∨ akd o = 12) (hin : vp_in i (aln o)) (d : decode cc pc = .ok (.iastore, 1)) (kk : V w M X res nL (pc + 1) ls stk (apt u o i.toNatClampNeg x)) : V w M X res nL pc ls (.int x :: .int i :: .ref (X.2.1 o) :: stk) u := by
  obtain ⟨p, l, e, R, s, m, args, below, meth, c⟩ := M
  obtain ⟨hx, hb, hml, hown, hts, hK, hR, hlk, hrt⟩ := K
  intro H locs L hP hS hl
  obtain ⟨q, hq0, hq⟩ := acells_at (X := X) (u := u) hm
  rw [acell_I hk] at hq
  refine va_iast hx hb hK.1 hP (acells_D hK.2.1) hS q 1 hq rfl hin d (fun H1 locs1 hP1 hD1 hS1 => ?_)
  have he := acells_set (X := X) (u := u) (u' := apt u o i.toNatClampNeg x) (e := .inl (X.2.2.1.2.1, aln o, .inl (upd (u.1 o) i.toNatClampNeg x))) hq0 (by rw [acell_I hk, apt_eq]) (fun a ha => acell_ne (o := o) (apt_ne ha) rfl)
  rw [he] at hP1
  exact kk H1 locs1 L hP1 hS1 hl
theorem v_bast (K : OkM w M X cc nL own rm ret) {o : Nat} {i x : Int32} (hm : o ∈ aol w) (hk : akd o = 8) (hin : vp_in i (aln o)) (d : decode cc pc = .ok (.bastore, 1)) (kk : V w M X res nL (pc + 1) ls stk (apt u o i.toNatClampNeg (vp_nar .byte x))) : V w M X res nL pc ls (.int x :: .int i :: .ref (X.2.1 o) :: stk) u := by
  obtain ⟨p, l, e, R, s, m, args, below, meth, c⟩ := M
  obtain ⟨hx, hb, hml, hown, hts, hK, hR, hlk, hrt⟩ := K
  intro H locs L hP hS hl
  obtain ⟨q, hq0, hq⟩ := acells_at (X := X) (u := u) hm
  rw [acell_8 hk] at hq
  refine va_bast hx hb hK.1 hP (acells_D hK.2.1) hS q 0 hq rfl hin d (fun H1 locs1 hP1 hD1 hS1 => ?_)
  have he := acells_set (X := X) (u := u) (u' := apt u o i.toNatClampNeg (vp_nar .byte x)) (e := .inl (X.2.2.1.1, aln o, .inl (upd (u.1 o) i.toNatClampNeg (vp_nar .byte x)))) hq0 (by rw [acell_8 hk, apt_eq]) (fun a ha => acell_ne (o := o) (apt_ne ha) rfl)
  rw [he] at hP1
  exact kk H1 locs1 L hP1 hS1 hl
theorem v_aald (K : OkM w M X cc nL own rm ret) {o : Nat} {i : Int32} (hm : o ∈ aol w) (hk : akd o = 10 ∨ akd o = 11) (hin : vp_in i (aln o)) (d : decode cc pc = .ok (.aaload, 1)) (kk : V w M X res nL (pc + 1) ls (.ref (X.2.1 (arf o i.toNatClampNeg)) :: stk) u) : V w M X res nL pc ls (.int i :: .ref (X.2.1 o) :: stk) u := by
  obtain ⟨p, l, e, R, s, m, args, below, meth, c⟩ := M
  obtain ⟨hx, hb, hml, hown, hts, hK, hR, hlk, hrt⟩ := K
  intro H locs L hP hS hl
  obtain ⟨q, -, hq⟩ := acells_at (X := X) (u := u) hm
  rcases hk with hk | hk
  · rw [acell_10 hk] at hq
    exact va_aldq hx hb hK.1 hP q 2 hq rfl hin d (kk H locs L hP hS hl)
  · rw [acell_11 hk] at hq
    exact va_aldq hx hb hK.1 hP q 3 hq rfl hin d (kk H locs L hP hS hl)
/-- the static row of next states -/
theorem v_nst (K : OkM w M X cc nL RX0 rm ret) (d : decode cc pc = .ok (.getstatic 111, 3)) (kk : V w M X res nL (pc + 3) ls (.ref X.2.2.2 :: stk) u) : V w M X res nL pc ls stk u := by
  obtain ⟨p, l, e, R, s, m, args, below, meth, c⟩ := M
  obtain ⟨hx, hb, hml, hown, hts, hK, hR, hlk, hrt⟩ := K
  intro H locs L hP hS hl
  exact va_getsN hx hb hK.2.2.2.1 hS hown (va_Nw.use rfl hK.2.2.1.2) (fun _ h => h) d (kk H locs L hP hS hl)
theorem v_nsl (K : OkM w M X cc nL own rm ret) {i : Int32} (hin : vp_in i 32) (d : decode cc pc = .ok (.iaload, 1)) (kk : V w M X res nL (pc + 1) ls (.int (anx i.toNatClampNeg) :: stk) u) : V w M X res nL pc ls (.int i :: .ref X.2.2.2 :: stk) u := by
  obtain ⟨p, l, e, R, s, m, args, below, meth, c⟩ := M
  obtain ⟨hx, hb, hml, hown, hts, hK, hR, hlk, hrt⟩ := K
  intro H locs L hP hS hl
  obtain ⟨cell, h1, h2, h3, h4, h5, h6, h7⟩ := hK.2.2.2.2.kept hS.2.1
  have hlt : i.toNatClampNeg < 32 := Nat.not_le.mp fun q => hin (Or.inr q)
  exact W.iald (v := .int (anx i.toNatClampNeg)) hx hb h1 h2 h3 (fun h => h.elim (fun h => hin (Or.inl h)) (fun h => by omega)) (h6 _ hlt) rfl rfl d (kk H locs L hP hS hl)
/-! the ends -/
theorem v_iret (K : OkM w M X cc nL own rm (some .int)) {v : Int32} (d : decode cc pc = .ok (.ireturn, 1)) : V w M X (some (.int v), u) nL pc ls [.int v] u := by
  obtain ⟨p, l, e, R, s, m, args, below, meth, c⟩ := M
  obtain ⟨hx, hb, hml, hown, hts, hK, hR, hlk, hrt⟩ := K
  intro H locs L hP hS hl
  exact W.iret hx hb hrt (fun t ht hW => ⟨⟨rfl, by rw [ht]; exact hP⟩, hS.F ht⟩) hS.2.2 d hlk
theorem v_zret (K : OkM w M X cc nL own rm (some .boolean)) {v : Int32} (hv : v = 0 ∨ v = 1) (d : decode cc pc = .ok (.ireturn, 1)) : V w M X (some (.int v), u) nL pc ls [.int v] u := by
  obtain ⟨p, l, e, R, s, m, args, below, meth, c⟩ := M
  obtain ⟨hx, hb, hml, hown, hts, hK, hR, hlk, hrt⟩ := K
  intro H locs L hP hS hl
  exact W.zret hx hb hrt (by rcases hv with rfl | rfl <;> rfl) (fun t ht hW => ⟨⟨rfl, by rw [ht]; exact hP⟩, hS.F ht⟩) hS.2.2 d hlk
theorem v_lret (K : OkM w M X cc nL own rm (some .long)) {v : Int64} (d : decode cc pc = .ok (.lreturn, 1)) : V w M X (some (.long v), u) nL pc ls [.long v] u := by
  obtain ⟨p, l, e, R, s, m, args, below, meth, c⟩ := M
  obtain ⟨hx, hb, hml, hown, hts, hK, hR, hlk, hrt⟩ := K
  intro H locs L hP hS hl
  exact W.lret hx hb hrt (fun t ht hW => ⟨⟨rfl, by rw [ht]; exact hP⟩, hS.F ht⟩) hS.2.2 d hlk
theorem v_vret (K : OkM w M X cc nL own rm none) (d : decode cc pc = .ok (.return_, 1)) : V w M X (none, u) nL pc ls [] u := by
  obtain ⟨p, l, e, R, s, m, args, below, meth, c⟩ := M
  obtain ⟨hx, hb, hml, hown, hts, hK, hR, hlk, hrt⟩ := K
  intro H locs L hP hS hl
  exact W.vret hx hb hrt (fun t ht hW => ⟨⟨rfl, by rw [ht]; exact hP⟩, hS.F ht⟩) hS.2.2 d hlk
end HEAP
end
