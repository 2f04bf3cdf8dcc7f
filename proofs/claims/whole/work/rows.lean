section
-- ===== PART A: goes FIRST, ahead of the names: the tables' words, and 'selects' of the private methods out of them =====
/-- a private method of a class that the tables say can be made, by its rows of tables_1 -/
def lw_okq (q : MethodName × Nat) : Prop := (q.1.cls ≠ "java/lang/invoke/MethodHandle" ∧ q.1.cls ≠ "java/lang/invoke/VarHandle") ∧ Cond.instantiable q.1.cls q.2 ∈ tables_1 ∧ Cond.privateMethod q.1 ∈ tables_1 ∧ Cond.instanceMethod q.1 ∈ tables_1
theorem lw_p0 : lw_okq (⟨"MinimalTables", "takeGrammar", "()I"⟩, 10) := ⟨⟨by decide +kernel, by decide +kernel⟩, List.mem_of_getElem? (i := 23) (by decide +kernel), List.mem_of_getElem? (i := 560) (by decide +kernel), List.mem_of_getElem? (i := 561) (by decide +kernel)⟩
theorem lw_p1 : lw_okq (⟨"MinimalTables$Grammar", "numberNames", "(LMinimalTables$Tape;)V"⟩, 12) := ⟨⟨by decide +kernel, by decide +kernel⟩, List.mem_of_getElem? (i := 49) (by decide +kernel), List.mem_of_getElem? (i := 568) (by decide +kernel), List.mem_of_getElem? (i := 569) (by decide +kernel)⟩
theorem lw_p2 : lw_okq (⟨"MinimalTables$Grammar", "numberSigns", "(LMinimalTables$Tape;)V"⟩, 12) := ⟨⟨by decide +kernel, by decide +kernel⟩, List.mem_of_getElem? (i := 49) (by decide +kernel), List.mem_of_getElem? (i := 576) (by decide +kernel), List.mem_of_getElem? (i := 577) (by decide +kernel)⟩
theorem lw_p3 : lw_okq (⟨"MinimalTables$Grammar", "addLetter", "(I)V"⟩, 12) := ⟨⟨by decide +kernel, by decide +kernel⟩, List.mem_of_getElem? (i := 49) (by decide +kernel), List.mem_of_getElem? (i := 581) (by decide +kernel), List.mem_of_getElem? (i := 582) (by decide +kernel)⟩
theorem lw_p4 : lw_okq (⟨"MinimalTables$Grammar", "addRule", "(I)V"⟩, 12) := ⟨⟨by decide +kernel, by decide +kernel⟩, List.mem_of_getElem? (i := 49) (by decide +kernel), List.mem_of_getElem? (i := 585) (by decide +kernel), List.mem_of_getElem? (i := 586) (by decide +kernel)⟩
theorem lw_p5 : lw_okq (⟨"MinimalTables$Grammar", "addOuterRule", "()V"⟩, 12) := ⟨⟨by decide +kernel, by decide +kernel⟩, List.mem_of_getElem? (i := 49) (by decide +kernel), List.mem_of_getElem? (i := 589) (by decide +kernel), List.mem_of_getElem? (i := 590) (by decide +kernel)⟩
theorem lw_p6 : lw_okq (⟨"MinimalTables", "rulesChanged", "()V"⟩, 10) := ⟨⟨by decide +kernel, by decide +kernel⟩, List.mem_of_getElem? (i := 23) (by decide +kernel), List.mem_of_getElem? (i := 597) (by decide +kernel), List.mem_of_getElem? (i := 598) (by decide +kernel)⟩
theorem lw_p7 : lw_okq (⟨"MinimalTables$Facts", "findEmpty", "()V"⟩, 13) := ⟨⟨by decide +kernel, by decide +kernel⟩, List.mem_of_getElem? (i := 137) (by decide +kernel), List.mem_of_getElem? (i := 605) (by decide +kernel), List.mem_of_getElem? (i := 606) (by decide +kernel)⟩
theorem lw_p8 : lw_okq (⟨"MinimalTables$Facts", "emptyAhead", "(I)I"⟩, 13) := ⟨⟨by decide +kernel, by decide +kernel⟩, List.mem_of_getElem? (i := 137) (by decide +kernel), List.mem_of_getElem? (i := 613) (by decide +kernel), List.mem_of_getElem? (i := 614) (by decide +kernel)⟩
theorem lw_p9 : lw_okq (⟨"MinimalTables$Facts", "isEmptyLetter", "(I)Z"⟩, 13) := ⟨⟨by decide +kernel, by decide +kernel⟩, List.mem_of_getElem? (i := 137) (by decide +kernel), List.mem_of_getElem? (i := 621) (by decide +kernel), List.mem_of_getElem? (i := 622) (by decide +kernel)⟩
theorem lw_p10 : lw_okq (⟨"MinimalTables$Facts", "findFirst", "()V"⟩, 13) := ⟨⟨by decide +kernel, by decide +kernel⟩, List.mem_of_getElem? (i := 137) (by decide +kernel), List.mem_of_getElem? (i := 625) (by decide +kernel), List.mem_of_getElem? (i := 626) (by decide +kernel)⟩
theorem lw_p11 : lw_okq (⟨"MinimalTables$Facts", "findRest", "(I)V"⟩, 13) := ⟨⟨by decide +kernel, by decide +kernel⟩, List.mem_of_getElem? (i := 137) (by decide +kernel), List.mem_of_getElem? (i := 631) (by decide +kernel), List.mem_of_getElem? (i := 632) (by decide +kernel)⟩
theorem lw_p12 : lw_okq (⟨"MinimalTables$Facts", "findFollow", "()V"⟩, 13) := ⟨⟨by decide +kernel, by decide +kernel⟩, List.mem_of_getElem? (i := 137) (by decide +kernel), List.mem_of_getElem? (i := 639) (by decide +kernel), List.mem_of_getElem? (i := 640) (by decide +kernel)⟩
theorem lw_p13 : lw_okq (⟨"MinimalTables$Facts", "addFollows", "(I)Z"⟩, 13) := ⟨⟨by decide +kernel, by decide +kernel⟩, List.mem_of_getElem? (i := 137) (by decide +kernel), List.mem_of_getElem? (i := 647) (by decide +kernel), List.mem_of_getElem? (i := 648) (by decide +kernel)⟩
theorem lw_p14 : lw_okq (⟨"MinimalTables$Facts", "findShortest", "()V"⟩, 13) := ⟨⟨by decide +kernel, by decide +kernel⟩, List.mem_of_getElem? (i := 137) (by decide +kernel), List.mem_of_getElem? (i := 655) (by decide +kernel), List.mem_of_getElem? (i := 656) (by decide +kernel)⟩
theorem lw_p15 : lw_okq (⟨"MinimalTables$Facts", "findLeft", "()V"⟩, 13) := ⟨⟨by decide +kernel, by decide +kernel⟩, List.mem_of_getElem? (i := 137) (by decide +kernel), List.mem_of_getElem? (i := 663) (by decide +kernel), List.mem_of_getElem? (i := 664) (by decide +kernel)⟩
def lw_privs_1 : List (MethodName × Nat) := [(⟨"MinimalTables", "takeGrammar", "()I"⟩, 10), (⟨"MinimalTables$Grammar", "numberNames", "(LMinimalTables$Tape;)V"⟩, 12), (⟨"MinimalTables$Grammar", "numberSigns", "(LMinimalTables$Tape;)V"⟩, 12), (⟨"MinimalTables$Grammar", "addLetter", "(I)V"⟩, 12), (⟨"MinimalTables$Grammar", "addRule", "(I)V"⟩, 12), (⟨"MinimalTables$Grammar", "addOuterRule", "()V"⟩, 12), (⟨"MinimalTables", "rulesChanged", "()V"⟩, 10), (⟨"MinimalTables$Facts", "findEmpty", "()V"⟩, 13), (⟨"MinimalTables$Facts", "emptyAhead", "(I)I"⟩, 13), (⟨"MinimalTables$Facts", "isEmptyLetter", "(I)Z"⟩, 13), (⟨"MinimalTables$Facts", "findFirst", "()V"⟩, 13), (⟨"MinimalTables$Facts", "findRest", "(I)V"⟩, 13), (⟨"MinimalTables$Facts", "findFollow", "()V"⟩, 13), (⟨"MinimalTables$Facts", "addFollows", "(I)Z"⟩, 13), (⟨"MinimalTables$Facts", "findShortest", "()V"⟩, 13), (⟨"MinimalTables$Facts", "findLeft", "()V"⟩, 13)]
theorem lw_r1 : ∀ q ∈ lw_privs_1, lw_okq q := List.forall_mem_cons.mpr ⟨lw_p0, List.forall_mem_cons.mpr ⟨lw_p1, List.forall_mem_cons.mpr ⟨lw_p2, List.forall_mem_cons.mpr ⟨lw_p3, List.forall_mem_cons.mpr ⟨lw_p4, List.forall_mem_cons.mpr ⟨lw_p5, List.forall_mem_cons.mpr ⟨lw_p6, List.forall_mem_cons.mpr ⟨lw_p7, List.forall_mem_cons.mpr ⟨lw_p8, List.forall_mem_cons.mpr ⟨lw_p9, List.forall_mem_cons.mpr ⟨lw_p10, List.forall_mem_cons.mpr ⟨lw_p11, List.forall_mem_cons.mpr ⟨lw_p12, List.forall_mem_cons.mpr ⟨lw_p13, List.forall_mem_cons.mpr ⟨lw_p14, List.forall_mem_cons.mpr ⟨lw_p15, fun _ h => absurd h List.not_mem_nil⟩⟩⟩⟩⟩⟩⟩⟩⟩⟩⟩⟩⟩⟩⟩⟩
theorem lw_p16 : lw_okq (⟨"MinimalTables$Facts", "findReached", "(Z)V"⟩, 13) := ⟨⟨by decide +kernel, by decide +kernel⟩, List.mem_of_getElem? (i := 137) (by decide +kernel), List.mem_of_getElem? (i := 667) (by decide +kernel), List.mem_of_getElem? (i := 668) (by decide +kernel)⟩
theorem lw_p17 : lw_okq (⟨"MinimalTables$Facts", "findUseful", "()V"⟩, 13) := ⟨⟨by decide +kernel, by decide +kernel⟩, List.mem_of_getElem? (i := 137) (by decide +kernel), List.mem_of_getElem? (i := 671) (by decide +kernel), List.mem_of_getElem? (i := 672) (by decide +kernel)⟩
theorem lw_p18 : lw_okq (⟨"MinimalTables", "prefersChanged", "()V"⟩, 10) := ⟨⟨by decide +kernel, by decide +kernel⟩, List.mem_of_getElem? (i := 23) (by decide +kernel), List.mem_of_getElem? (i := 675) (by decide +kernel), List.mem_of_getElem? (i := 676) (by decide +kernel)⟩
theorem lw_p19 : lw_okq (⟨"MinimalTables", "takeSentence", "()I"⟩, 10) := ⟨⟨by decide +kernel, by decide +kernel⟩, List.mem_of_getElem? (i := 23) (by decide +kernel), List.mem_of_getElem? (i := 679) (by decide +kernel), List.mem_of_getElem? (i := 680) (by decide +kernel)⟩
theorem lw_p20 : lw_okq (⟨"MinimalTables", "isRule", "(I)Z"⟩, 10) := ⟨⟨by decide +kernel, by decide +kernel⟩, List.mem_of_getElem? (i := 23) (by decide +kernel), List.mem_of_getElem? (i := 695) (by decide +kernel), List.mem_of_getElem? (i := 696) (by decide +kernel)⟩
theorem lw_p21 : lw_okq (⟨"MinimalTables", "isSentence", "(I)Z"⟩, 10) := ⟨⟨by decide +kernel, by decide +kernel⟩, List.mem_of_getElem? (i := 23) (by decide +kernel), List.mem_of_getElem? (i := 707) (by decide +kernel), List.mem_of_getElem? (i := 708) (by decide +kernel)⟩
theorem lw_p22 : lw_okq (⟨"MinimalTables", "isName", "(I)Z"⟩, 10) := ⟨⟨by decide +kernel, by decide +kernel⟩, List.mem_of_getElem? (i := 23) (by decide +kernel), List.mem_of_getElem? (i := 719) (by decide +kernel), List.mem_of_getElem? (i := 720) (by decide +kernel)⟩
theorem lw_p23 : lw_okq (⟨"MinimalTables$Facts", "countTrees", "()V"⟩, 13) := ⟨⟨by decide +kernel, by decide +kernel⟩, List.mem_of_getElem? (i := 137) (by decide +kernel), List.mem_of_getElem? (i := 735) (by decide +kernel), List.mem_of_getElem? (i := 736) (by decide +kernel)⟩
theorem lw_p24 : lw_okq (⟨"MinimalTables$Facts", "countWays", "(II)V"⟩, 13) := ⟨⟨by decide +kernel, by decide +kernel⟩, List.mem_of_getElem? (i := 137) (by decide +kernel), List.mem_of_getElem? (i := 739) (by decide +kernel), List.mem_of_getElem? (i := 740) (by decide +kernel)⟩
theorem lw_p25 : lw_okq (⟨"MinimalTables$Facts", "joinWays", "(I)V"⟩, 13) := ⟨⟨by decide +kernel, by decide +kernel⟩, List.mem_of_getElem? (i := 137) (by decide +kernel), List.mem_of_getElem? (i := 752) (by decide +kernel), List.mem_of_getElem? (i := 753) (by decide +kernel)⟩
theorem lw_p26 : lw_okq (⟨"MinimalTables$Facts", "addWays", "(I)V"⟩, 13) := ⟨⟨by decide +kernel, by decide +kernel⟩, List.mem_of_getElem? (i := 137) (by decide +kernel), List.mem_of_getElem? (i := 760) (by decide +kernel), List.mem_of_getElem? (i := 761) (by decide +kernel)⟩
theorem lw_p27 : lw_okq (⟨"MinimalTables", "flip", "(I)V"⟩, 10) := ⟨⟨by decide +kernel, by decide +kernel⟩, List.mem_of_getElem? (i := 23) (by decide +kernel), List.mem_of_getElem? (i := 781) (by decide +kernel), List.mem_of_getElem? (i := 782) (by decide +kernel)⟩
theorem lw_p28 : lw_okq (⟨"MinimalTables", "isEnding", "(I)Z"⟩, 10) := ⟨⟨by decide +kernel, by decide +kernel⟩, List.mem_of_getElem? (i := 23) (by decide +kernel), List.mem_of_getElem? (i := 790) (by decide +kernel), List.mem_of_getElem? (i := 791) (by decide +kernel)⟩
theorem lw_p29 : lw_okq (⟨"MinimalTables", "isThere", "(I)Z"⟩, 10) := ⟨⟨by decide +kernel, by decide +kernel⟩, List.mem_of_getElem? (i := 23) (by decide +kernel), List.mem_of_getElem? (i := 810) (by decide +kernel), List.mem_of_getElem? (i := 811) (by decide +kernel)⟩
theorem lw_p30 : lw_okq (⟨"MinimalTables$Builder", "enqueue", "(I)V"⟩, 7) := ⟨⟨by decide +kernel, by decide +kernel⟩, List.mem_of_getElem? (i := 215) (by decide +kernel), List.mem_of_getElem? (i := 844) (by decide +kernel), List.mem_of_getElem? (i := 845) (by decide +kernel)⟩
theorem lw_p31 : lw_okq (⟨"MinimalTables$Builder", "dequeue", "()I"⟩, 7) := ⟨⟨by decide +kernel, by decide +kernel⟩, List.mem_of_getElem? (i := 215) (by decide +kernel), List.mem_of_getElem? (i := 849) (by decide +kernel), List.mem_of_getElem? (i := 850) (by decide +kernel)⟩
def lw_privs_2 : List (MethodName × Nat) := [(⟨"MinimalTables$Facts", "findReached", "(Z)V"⟩, 13), (⟨"MinimalTables$Facts", "findUseful", "()V"⟩, 13), (⟨"MinimalTables", "prefersChanged", "()V"⟩, 10), (⟨"MinimalTables", "takeSentence", "()I"⟩, 10), (⟨"MinimalTables", "isRule", "(I)Z"⟩, 10), (⟨"MinimalTables", "isSentence", "(I)Z"⟩, 10), (⟨"MinimalTables", "isName", "(I)Z"⟩, 10), (⟨"MinimalTables$Facts", "countTrees", "()V"⟩, 13), (⟨"MinimalTables$Facts", "countWays", "(II)V"⟩, 13), (⟨"MinimalTables$Facts", "joinWays", "(I)V"⟩, 13), (⟨"MinimalTables$Facts", "addWays", "(I)V"⟩, 13), (⟨"MinimalTables", "flip", "(I)V"⟩, 10), (⟨"MinimalTables", "isEnding", "(I)Z"⟩, 10), (⟨"MinimalTables", "isThere", "(I)Z"⟩, 10), (⟨"MinimalTables$Builder", "enqueue", "(I)V"⟩, 7), (⟨"MinimalTables$Builder", "dequeue", "()I"⟩, 7)]
theorem lw_r2 : ∀ q ∈ lw_privs_2, lw_okq q := List.forall_mem_cons.mpr ⟨lw_p16, List.forall_mem_cons.mpr ⟨lw_p17, List.forall_mem_cons.mpr ⟨lw_p18, List.forall_mem_cons.mpr ⟨lw_p19, List.forall_mem_cons.mpr ⟨lw_p20, List.forall_mem_cons.mpr ⟨lw_p21, List.forall_mem_cons.mpr ⟨lw_p22, List.forall_mem_cons.mpr ⟨lw_p23, List.forall_mem_cons.mpr ⟨lw_p24, List.forall_mem_cons.mpr ⟨lw_p25, List.forall_mem_cons.mpr ⟨lw_p26, List.forall_mem_cons.mpr ⟨lw_p27, List.forall_mem_cons.mpr ⟨lw_p28, List.forall_mem_cons.mpr ⟨lw_p29, List.forall_mem_cons.mpr ⟨lw_p30, List.forall_mem_cons.mpr ⟨lw_p31, fun _ h => absurd h List.not_mem_nil⟩⟩⟩⟩⟩⟩⟩⟩⟩⟩⟩⟩⟩⟩⟩⟩
theorem lw_p32 : lw_okq (⟨"MinimalTables$Builder", "expand", "(LMinimalTables$Automaton;I)V"⟩, 7) := ⟨⟨by decide +kernel, by decide +kernel⟩, List.mem_of_getElem? (i := 215) (by decide +kernel), List.mem_of_getElem? (i := 853) (by decide +kernel), List.mem_of_getElem? (i := 854) (by decide +kernel)⟩
theorem lw_p33 : lw_okq (⟨"MinimalTables$Automaton", "open", "(IIII)Z"⟩, 17) := ⟨⟨by decide +kernel, by decide +kernel⟩, List.mem_of_getElem? (i := 272) (by decide +kernel), List.mem_of_getElem? (i := 863) (by decide +kernel), List.mem_of_getElem? (i := 864) (by decide +kernel)⟩
theorem lw_p34 : lw_okq (⟨"MinimalTables$Builder", "findNext", "(LMinimalTables$Automaton;II)V"⟩, 7) := ⟨⟨by decide +kernel, by decide +kernel⟩, List.mem_of_getElem? (i := 215) (by decide +kernel), List.mem_of_getElem? (i := 875) (by decide +kernel), List.mem_of_getElem? (i := 876) (by decide +kernel)⟩
theorem lw_p35 : lw_okq (⟨"MinimalTables$Builder", "link", "(LMinimalTables$Automaton;II)V"⟩, 7) := ⟨⟨by decide +kernel, by decide +kernel⟩, List.mem_of_getElem? (i := 215) (by decide +kernel), List.mem_of_getElem? (i := 881) (by decide +kernel), List.mem_of_getElem? (i := 882) (by decide +kernel)⟩
theorem lw_p36 : lw_okq (⟨"MinimalTables$Automaton", "addNumber", "(III)V"⟩, 17) := ⟨⟨by decide +kernel, by decide +kernel⟩, List.mem_of_getElem? (i := 272) (by decide +kernel), List.mem_of_getElem? (i := 922) (by decide +kernel), List.mem_of_getElem? (i := 923) (by decide +kernel)⟩
theorem lw_p37 : lw_okq (⟨"MinimalTables", "actionsOf", "(I)LMinimalTables$Actions;"⟩, 10) := ⟨⟨by decide +kernel, by decide +kernel⟩, List.mem_of_getElem? (i := 23) (by decide +kernel), List.mem_of_getElem? (i := 951) (by decide +kernel), List.mem_of_getElem? (i := 952) (by decide +kernel)⟩
theorem lw_p38 : lw_okq (⟨"MinimalTables$Actions", "weigh", "(IZ)V"⟩, 12) := ⟨⟨by decide +kernel, by decide +kernel⟩, List.mem_of_getElem? (i := 338) (by decide +kernel), List.mem_of_getElem? (i := 959) (by decide +kernel), List.mem_of_getElem? (i := 960) (by decide +kernel)⟩
theorem lw_p39 : lw_okq (⟨"MinimalTables$Actions", "followOf", "(I)I"⟩, 12) := ⟨⟨by decide +kernel, by decide +kernel⟩, List.mem_of_getElem? (i := 338) (by decide +kernel), List.mem_of_getElem? (i := 969) (by decide +kernel), List.mem_of_getElem? (i := 970) (by decide +kernel)⟩
theorem lw_p40 : lw_okq (⟨"MinimalTables$Actions", "weighRule", "(II)V"⟩, 12) := ⟨⟨by decide +kernel, by decide +kernel⟩, List.mem_of_getElem? (i := 338) (by decide +kernel), List.mem_of_getElem? (i := 974) (by decide +kernel), List.mem_of_getElem? (i := 975) (by decide +kernel)⟩
theorem lw_p41 : lw_okq (⟨"MinimalTables$Actions", "settled", "(II)I"⟩, 12) := ⟨⟨by decide +kernel, by decide +kernel⟩, List.mem_of_getElem? (i := 338) (by decide +kernel), List.mem_of_getElem? (i := 979) (by decide +kernel), List.mem_of_getElem? (i := 980) (by decide +kernel)⟩
theorem lw_p42 : lw_okq (⟨"MinimalTables$Actions", "mostReduced", "(I)I"⟩, 12) := ⟨⟨by decide +kernel, by decide +kernel⟩, List.mem_of_getElem? (i := 338) (by decide +kernel), List.mem_of_getElem? (i := 988) (by decide +kernel), List.mem_of_getElem? (i := 989) (by decide +kernel)⟩
theorem lw_p43 : lw_okq (⟨"MinimalTables$Automaton", "countSharing", "()V"⟩, 17) := ⟨⟨by decide +kernel, by decide +kernel⟩, List.mem_of_getElem? (i := 272) (by decide +kernel), List.mem_of_getElem? (i := 1044) (by decide +kernel), List.mem_of_getElem? (i := 1045) (by decide +kernel)⟩
theorem lw_p44 : lw_okq (⟨"MinimalTables", "readsSentence", "(III)Z"⟩, 10) := ⟨⟨by decide +kernel, by decide +kernel⟩, List.mem_of_getElem? (i := 23) (by decide +kernel), List.mem_of_getElem? (i := 1079) (by decide +kernel), List.mem_of_getElem? (i := 1080) (by decide +kernel)⟩
theorem lw_p45 : lw_okq (⟨"MinimalTables$Reading", "push", "(III)V"⟩, 19) := ⟨⟨by decide +kernel, by decide +kernel⟩, List.mem_of_getElem? (i := 385) (by decide +kernel), List.mem_of_getElem? (i := 1091) (by decide +kernel), List.mem_of_getElem? (i := 1092) (by decide +kernel)⟩
theorem lw_p46 : lw_okq (⟨"MinimalTables$Reading", "keepRow", "()V"⟩, 19) := ⟨⟨by decide +kernel, by decide +kernel⟩, List.mem_of_getElem? (i := 385) (by decide +kernel), List.mem_of_getElem? (i := 1095) (by decide +kernel), List.mem_of_getElem? (i := 1096) (by decide +kernel)⟩
theorem lw_p47 : lw_okq (⟨"MinimalTables$Reading", "step", "(I)I"⟩, 19) := ⟨⟨by decide +kernel, by decide +kernel⟩, List.mem_of_getElem? (i := 385) (by decide +kernel), List.mem_of_getElem? (i := 1100) (by decide +kernel), List.mem_of_getElem? (i := 1101) (by decide +kernel)⟩
def lw_privs_3 : List (MethodName × Nat) := [(⟨"MinimalTables$Builder", "expand", "(LMinimalTables$Automaton;I)V"⟩, 7), (⟨"MinimalTables$Automaton", "open", "(IIII)Z"⟩, 17), (⟨"MinimalTables$Builder", "findNext", "(LMinimalTables$Automaton;II)V"⟩, 7), (⟨"MinimalTables$Builder", "link", "(LMinimalTables$Automaton;II)V"⟩, 7), (⟨"MinimalTables$Automaton", "addNumber", "(III)V"⟩, 17), (⟨"MinimalTables", "actionsOf", "(I)LMinimalTables$Actions;"⟩, 10), (⟨"MinimalTables$Actions", "weigh", "(IZ)V"⟩, 12), (⟨"MinimalTables$Actions", "followOf", "(I)I"⟩, 12), (⟨"MinimalTables$Actions", "weighRule", "(II)V"⟩, 12), (⟨"MinimalTables$Actions", "settled", "(II)I"⟩, 12), (⟨"MinimalTables$Actions", "mostReduced", "(I)I"⟩, 12), (⟨"MinimalTables$Automaton", "countSharing", "()V"⟩, 17), (⟨"MinimalTables", "readsSentence", "(III)Z"⟩, 10), (⟨"MinimalTables$Reading", "push", "(III)V"⟩, 19), (⟨"MinimalTables$Reading", "keepRow", "()V"⟩, 19), (⟨"MinimalTables$Reading", "step", "(I)I"⟩, 19)]
theorem lw_r3 : ∀ q ∈ lw_privs_3, lw_okq q := List.forall_mem_cons.mpr ⟨lw_p32, List.forall_mem_cons.mpr ⟨lw_p33, List.forall_mem_cons.mpr ⟨lw_p34, List.forall_mem_cons.mpr ⟨lw_p35, List.forall_mem_cons.mpr ⟨lw_p36, List.forall_mem_cons.mpr ⟨lw_p37, List.forall_mem_cons.mpr ⟨lw_p38, List.forall_mem_cons.mpr ⟨lw_p39, List.forall_mem_cons.mpr ⟨lw_p40, List.forall_mem_cons.mpr ⟨lw_p41, List.forall_mem_cons.mpr ⟨lw_p42, List.forall_mem_cons.mpr ⟨lw_p43, List.forall_mem_cons.mpr ⟨lw_p44, List.forall_mem_cons.mpr ⟨lw_p45, List.forall_mem_cons.mpr ⟨lw_p46, List.forall_mem_cons.mpr ⟨lw_p47, fun _ h => absurd h List.not_mem_nil⟩⟩⟩⟩⟩⟩⟩⟩⟩⟩⟩⟩⟩⟩⟩⟩
theorem lw_p48 : lw_okq (⟨"MinimalTables$Reading", "shift", "(I)I"⟩, 19) := ⟨⟨by decide +kernel, by decide +kernel⟩, List.mem_of_getElem? (i := 385) (by decide +kernel), List.mem_of_getElem? (i := 1105) (by decide +kernel), List.mem_of_getElem? (i := 1106) (by decide +kernel)⟩
theorem lw_p49 : lw_okq (⟨"MinimalTables$Reading", "reduce", "(II)I"⟩, 19) := ⟨⟨by decide +kernel, by decide +kernel⟩, List.mem_of_getElem? (i := 385) (by decide +kernel), List.mem_of_getElem? (i := 1109) (by decide +kernel), List.mem_of_getElem? (i := 1110) (by decide +kernel)⟩
theorem lw_p50 : lw_okq (⟨"MinimalTables$Reading", "note", "(III)V"⟩, 19) := ⟨⟨by decide +kernel, by decide +kernel⟩, List.mem_of_getElem? (i := 385) (by decide +kernel), List.mem_of_getElem? (i := 1114) (by decide +kernel), List.mem_of_getElem? (i := 1115) (by decide +kernel)⟩
theorem lw_p51 : lw_okq (⟨"MinimalTables$Reading", "isTaken", "(I)Z"⟩, 19) := ⟨⟨by decide +kernel, by decide +kernel⟩, List.mem_of_getElem? (i := 385) (by decide +kernel), List.mem_of_getElem? (i := 1132) (by decide +kernel), List.mem_of_getElem? (i := 1133) (by decide +kernel)⟩
theorem lw_p52 : lw_okq (⟨"MinimalTables", "mendAt", "(LMinimalTables$Actions;II)I"⟩, 10) := ⟨⟨by decide +kernel, by decide +kernel⟩, List.mem_of_getElem? (i := 23) (by decide +kernel), List.mem_of_getElem? (i := 1140) (by decide +kernel), List.mem_of_getElem? (i := 1141) (by decide +kernel)⟩
theorem lw_p53 : lw_okq (⟨"MinimalTables", "endsWellChanged", "(LMinimalTables$Actions;IIII)Z"⟩, 10) := ⟨⟨by decide +kernel, by decide +kernel⟩, List.mem_of_getElem? (i := 23) (by decide +kernel), List.mem_of_getElem? (i := 1144) (by decide +kernel), List.mem_of_getElem? (i := 1145) (by decide +kernel)⟩
theorem lw_p54 : lw_okq (⟨"MinimalTables", "firstByOneAlone", "(LMinimalTables$Actions;LMinimalTables$Actions;I)I"⟩, 10) := ⟨⟨by decide +kernel, by decide +kernel⟩, List.mem_of_getElem? (i := 23) (by decide +kernel), List.mem_of_getElem? (i := 1168) (by decide +kernel), List.mem_of_getElem? (i := 1169) (by decide +kernel)⟩
theorem lw_p55 : lw_okq (⟨"MinimalTables$Draw", "drawnRule", "(I)I"⟩, 5) := ⟨⟨by decide +kernel, by decide +kernel⟩, List.mem_of_getElem? (i := 458) (by decide +kernel), List.mem_of_getElem? (i := 1192) (by decide +kernel), List.mem_of_getElem? (i := 1193) (by decide +kernel)⟩
theorem lw_p56 : lw_okq (⟨"MinimalTables$Draw", "isRuleOf", "(II)Z"⟩, 5) := ⟨⟨by decide +kernel, by decide +kernel⟩, List.mem_of_getElem? (i := 458) (by decide +kernel), List.mem_of_getElem? (i := 1196) (by decide +kernel), List.mem_of_getElem? (i := 1197) (by decide +kernel)⟩
theorem lw_p57 : lw_okq (⟨"MinimalTables$Draw", "shortestRule", "(I)I"⟩, 5) := ⟨⟨by decide +kernel, by decide +kernel⟩, List.mem_of_getElem? (i := 458) (by decide +kernel), List.mem_of_getElem? (i := 1203) (by decide +kernel), List.mem_of_getElem? (i := 1204) (by decide +kernel)⟩
theorem lw_p58 : lw_okq (⟨"MinimalTables$Draw", "replace", "(II)V"⟩, 5) := ⟨⟨by decide +kernel, by decide +kernel⟩, List.mem_of_getElem? (i := 458) (by decide +kernel), List.mem_of_getElem? (i := 1208) (by decide +kernel), List.mem_of_getElem? (i := 1209) (by decide +kernel)⟩
theorem lw_p59 : lw_okq (⟨"java/lang/Throwable", "fillInStackTrace", "(I)Ljava/lang/Throwable;"⟩, 6) := ⟨⟨by decide +kernel, by decide +kernel⟩, List.mem_of_getElem? (i := 1274) (by decide +kernel), List.mem_of_getElem? (i := 1272) (by decide +kernel), List.mem_of_getElem? (i := 1273) (by decide +kernel)⟩
theorem lw_p60 : lw_okq (⟨"MinimalTablesModel", "readGrammar", "()I"⟩, 78) := ⟨⟨by decide +kernel, by decide +kernel⟩, List.mem_of_getElem? (i := 1305) (by decide +kernel), List.mem_of_getElem? (i := 1570) (by decide +kernel), List.mem_of_getElem? (i := 1571) (by decide +kernel)⟩
theorem lw_p61 : lw_okq (⟨"MinimalTablesModel", "readRule", "()V"⟩, 78) := ⟨⟨by decide +kernel, by decide +kernel⟩, List.mem_of_getElem? (i := 1305) (by decide +kernel), List.mem_of_getElem? (i := 1574) (by decide +kernel), List.mem_of_getElem? (i := 1575) (by decide +kernel)⟩
theorem lw_p62 : lw_okq (⟨"MinimalTablesModel", "ahead", "()I"⟩, 78) := ⟨⟨by decide +kernel, by decide +kernel⟩, List.mem_of_getElem? (i := 1305) (by decide +kernel), List.mem_of_getElem? (i := 1578) (by decide +kernel), List.mem_of_getElem? (i := 1579) (by decide +kernel)⟩
theorem lw_p63 : lw_okq (⟨"MinimalTablesModel", "bad", "()V"⟩, 78) := ⟨⟨by decide +kernel, by decide +kernel⟩, List.mem_of_getElem? (i := 1305) (by decide +kernel), List.mem_of_getElem? (i := 1586) (by decide +kernel), List.mem_of_getElem? (i := 1587) (by decide +kernel)⟩
def lw_privs_4 : List (MethodName × Nat) := [(⟨"MinimalTables$Reading", "shift", "(I)I"⟩, 19), (⟨"MinimalTables$Reading", "reduce", "(II)I"⟩, 19), (⟨"MinimalTables$Reading", "note", "(III)V"⟩, 19), (⟨"MinimalTables$Reading", "isTaken", "(I)Z"⟩, 19), (⟨"MinimalTables", "mendAt", "(LMinimalTables$Actions;II)I"⟩, 10), (⟨"MinimalTables", "endsWellChanged", "(LMinimalTables$Actions;IIII)Z"⟩, 10), (⟨"MinimalTables", "firstByOneAlone", "(LMinimalTables$Actions;LMinimalTables$Actions;I)I"⟩, 10), (⟨"MinimalTables$Draw", "drawnRule", "(I)I"⟩, 5), (⟨"MinimalTables$Draw", "isRuleOf", "(II)Z"⟩, 5), (⟨"MinimalTables$Draw", "shortestRule", "(I)I"⟩, 5), (⟨"MinimalTables$Draw", "replace", "(II)V"⟩, 5), (⟨"java/lang/Throwable", "fillInStackTrace", "(I)Ljava/lang/Throwable;"⟩, 6), (⟨"MinimalTablesModel", "readGrammar", "()I"⟩, 78), (⟨"MinimalTablesModel", "readRule", "()V"⟩, 78), (⟨"MinimalTablesModel", "ahead", "()I"⟩, 78), (⟨"MinimalTablesModel", "bad", "()V"⟩, 78)]
theorem lw_r4 : ∀ q ∈ lw_privs_4, lw_okq q := List.forall_mem_cons.mpr ⟨lw_p48, List.forall_mem_cons.mpr ⟨lw_p49, List.forall_mem_cons.mpr ⟨lw_p50, List.forall_mem_cons.mpr ⟨lw_p51, List.forall_mem_cons.mpr ⟨lw_p52, List.forall_mem_cons.mpr ⟨lw_p53, List.forall_mem_cons.mpr ⟨lw_p54, List.forall_mem_cons.mpr ⟨lw_p55, List.forall_mem_cons.mpr ⟨lw_p56, List.forall_mem_cons.mpr ⟨lw_p57, List.forall_mem_cons.mpr ⟨lw_p58, List.forall_mem_cons.mpr ⟨lw_p59, List.forall_mem_cons.mpr ⟨lw_p60, List.forall_mem_cons.mpr ⟨lw_p61, List.forall_mem_cons.mpr ⟨lw_p62, List.forall_mem_cons.mpr ⟨lw_p63, fun _ h => absurd h List.not_mem_nil⟩⟩⟩⟩⟩⟩⟩⟩⟩⟩⟩⟩⟩⟩⟩⟩
theorem lw_p64 : lw_okq (⟨"MinimalTablesModel", "takeLetter", "(I)V"⟩, 78) := ⟨⟨by decide +kernel, by decide +kernel⟩, List.mem_of_getElem? (i := 1305) (by decide +kernel), List.mem_of_getElem? (i := 1593) (by decide +kernel), List.mem_of_getElem? (i := 1594) (by decide +kernel)⟩
theorem lw_p65 : lw_okq (⟨"MinimalTablesModel", "readSentence", "(I)I"⟩, 78) := ⟨⟨by decide +kernel, by decide +kernel⟩, List.mem_of_getElem? (i := 1305) (by decide +kernel), List.mem_of_getElem? (i := 1597) (by decide +kernel), List.mem_of_getElem? (i := 1598) (by decide +kernel)⟩
theorem lw_p66 : lw_okq (⟨"MinimalTablesModel", "takeGrammar", "()I"⟩, 78) := ⟨⟨by decide +kernel, by decide +kernel⟩, List.mem_of_getElem? (i := 1305) (by decide +kernel), List.mem_of_getElem? (i := 1605) (by decide +kernel), List.mem_of_getElem? (i := 1606) (by decide +kernel)⟩
theorem lw_p67 : lw_okq (⟨"MinimalTablesModel", "nameOf", "(I)I"⟩, 78) := ⟨⟨by decide +kernel, by decide +kernel⟩, List.mem_of_getElem? (i := 1305) (by decide +kernel), List.mem_of_getElem? (i := 1609) (by decide +kernel), List.mem_of_getElem? (i := 1610) (by decide +kernel)⟩
theorem lw_p68 : lw_okq (⟨"MinimalTablesModel", "signOf", "(I)I"⟩, 78) := ⟨⟨by decide +kernel, by decide +kernel⟩, List.mem_of_getElem? (i := 1305) (by decide +kernel), List.mem_of_getElem? (i := 1616) (by decide +kernel), List.mem_of_getElem? (i := 1617) (by decide +kernel)⟩
theorem lw_p69 : lw_okq (⟨"MinimalTablesModel", "changed", "()V"⟩, 78) := ⟨⟨by decide +kernel, by decide +kernel⟩, List.mem_of_getElem? (i := 1305) (by decide +kernel), List.mem_of_getElem? (i := 1620) (by decide +kernel), List.mem_of_getElem? (i := 1621) (by decide +kernel)⟩
theorem lw_p70 : lw_okq (⟨"MinimalTablesModel", "isRule", "(I)Z"⟩, 78) := ⟨⟨by decide +kernel, by decide +kernel⟩, List.mem_of_getElem? (i := 1305) (by decide +kernel), List.mem_of_getElem? (i := 1628) (by decide +kernel), List.mem_of_getElem? (i := 1629) (by decide +kernel)⟩
theorem lw_p71 : lw_okq (⟨"MinimalTablesModel", "isIn", "(I)Z"⟩, 78) := ⟨⟨by decide +kernel, by decide +kernel⟩, List.mem_of_getElem? (i := 1305) (by decide +kernel), List.mem_of_getElem? (i := 1632) (by decide +kernel), List.mem_of_getElem? (i := 1633) (by decide +kernel)⟩
theorem lw_p72 : lw_okq (⟨"MinimalTablesModel", "isUnit", "(I)Z"⟩, 78) := ⟨⟨by decide +kernel, by decide +kernel⟩, List.mem_of_getElem? (i := 1305) (by decide +kernel), List.mem_of_getElem? (i := 1636) (by decide +kernel), List.mem_of_getElem? (i := 1637) (by decide +kernel)⟩
theorem lw_p73 : lw_okq (⟨"MinimalTablesModel", "letterAt", "(II)I"⟩, 78) := ⟨⟨by decide +kernel, by decide +kernel⟩, List.mem_of_getElem? (i := 1305) (by decide +kernel), List.mem_of_getElem? (i := 1640) (by decide +kernel), List.mem_of_getElem? (i := 1641) (by decide +kernel)⟩
theorem lw_p74 : lw_okq (⟨"MinimalTablesModel", "isNamed", "(I)Z"⟩, 78) := ⟨⟨by decide +kernel, by decide +kernel⟩, List.mem_of_getElem? (i := 1305) (by decide +kernel), List.mem_of_getElem? (i := 1656) (by decide +kernel), List.mem_of_getElem? (i := 1657) (by decide +kernel)⟩
theorem lw_p75 : lw_okq (⟨"MinimalTablesModel", "laySets", "()V"⟩, 78) := ⟨⟨by decide +kernel, by decide +kernel⟩, List.mem_of_getElem? (i := 1305) (by decide +kernel), List.mem_of_getElem? (i := 1660) (by decide +kernel), List.mem_of_getElem? (i := 1661) (by decide +kernel)⟩
theorem lw_p76 : lw_okq (⟨"MinimalTablesModel", "layOnce", "()Z"⟩, 78) := ⟨⟨by decide +kernel, by decide +kernel⟩, List.mem_of_getElem? (i := 1305) (by decide +kernel), List.mem_of_getElem? (i := 1665) (by decide +kernel), List.mem_of_getElem? (i := 1666) (by decide +kernel)⟩
theorem lw_p77 : lw_okq (⟨"MinimalTablesModel", "isEmptyFrom", "(II)Z"⟩, 78) := ⟨⟨by decide +kernel, by decide +kernel⟩, List.mem_of_getElem? (i := 1305) (by decide +kernel), List.mem_of_getElem? (i := 1669) (by decide +kernel), List.mem_of_getElem? (i := 1670) (by decide +kernel)⟩
theorem lw_p78 : lw_okq (⟨"MinimalTablesModel", "isEmptyLetter", "(I)Z"⟩, 78) := ⟨⟨by decide +kernel, by decide +kernel⟩, List.mem_of_getElem? (i := 1305) (by decide +kernel), List.mem_of_getElem? (i := 1673) (by decide +kernel), List.mem_of_getElem? (i := 1674) (by decide +kernel)⟩
theorem lw_p79 : lw_okq (⟨"MinimalTablesModel", "firstFrom", "(II)I"⟩, 78) := ⟨⟨by decide +kernel, by decide +kernel⟩, List.mem_of_getElem? (i := 1305) (by decide +kernel), List.mem_of_getElem? (i := 1677) (by decide +kernel), List.mem_of_getElem? (i := 1678) (by decide +kernel)⟩
def lw_privs_5 : List (MethodName × Nat) := [(⟨"MinimalTablesModel", "takeLetter", "(I)V"⟩, 78), (⟨"MinimalTablesModel", "readSentence", "(I)I"⟩, 78), (⟨"MinimalTablesModel", "takeGrammar", "()I"⟩, 78), (⟨"MinimalTablesModel", "nameOf", "(I)I"⟩, 78), (⟨"MinimalTablesModel", "signOf", "(I)I"⟩, 78), (⟨"MinimalTablesModel", "changed", "()V"⟩, 78), (⟨"MinimalTablesModel", "isRule", "(I)Z"⟩, 78), (⟨"MinimalTablesModel", "isIn", "(I)Z"⟩, 78), (⟨"MinimalTablesModel", "isUnit", "(I)Z"⟩, 78), (⟨"MinimalTablesModel", "letterAt", "(II)I"⟩, 78), (⟨"MinimalTablesModel", "isNamed", "(I)Z"⟩, 78), (⟨"MinimalTablesModel", "laySets", "()V"⟩, 78), (⟨"MinimalTablesModel", "layOnce", "()Z"⟩, 78), (⟨"MinimalTablesModel", "isEmptyFrom", "(II)Z"⟩, 78), (⟨"MinimalTablesModel", "isEmptyLetter", "(I)Z"⟩, 78), (⟨"MinimalTablesModel", "firstFrom", "(II)I"⟩, 78)]
theorem lw_r5 : ∀ q ∈ lw_privs_5, lw_okq q := List.forall_mem_cons.mpr ⟨lw_p64, List.forall_mem_cons.mpr ⟨lw_p65, List.forall_mem_cons.mpr ⟨lw_p66, List.forall_mem_cons.mpr ⟨lw_p67, List.forall_mem_cons.mpr ⟨lw_p68, List.forall_mem_cons.mpr ⟨lw_p69, List.forall_mem_cons.mpr ⟨lw_p70, List.forall_mem_cons.mpr ⟨lw_p71, List.forall_mem_cons.mpr ⟨lw_p72, List.forall_mem_cons.mpr ⟨lw_p73, List.forall_mem_cons.mpr ⟨lw_p74, List.forall_mem_cons.mpr ⟨lw_p75, List.forall_mem_cons.mpr ⟨lw_p76, List.forall_mem_cons.mpr ⟨lw_p77, List.forall_mem_cons.mpr ⟨lw_p78, List.forall_mem_cons.mpr ⟨lw_p79, fun _ h => absurd h List.not_mem_nil⟩⟩⟩⟩⟩⟩⟩⟩⟩⟩⟩⟩⟩⟩⟩⟩
theorem lw_p80 : lw_okq (⟨"MinimalTablesModel", "shortestOf", "(I)I"⟩, 78) := ⟨⟨by decide +kernel, by decide +kernel⟩, List.mem_of_getElem? (i := 1305) (by decide +kernel), List.mem_of_getElem? (i := 1681) (by decide +kernel), List.mem_of_getElem? (i := 1682) (by decide +kernel)⟩
theorem lw_p81 : lw_okq (⟨"MinimalTablesModel", "layFollowOnce", "()Z"⟩, 78) := ⟨⟨by decide +kernel, by decide +kernel⟩, List.mem_of_getElem? (i := 1305) (by decide +kernel), List.mem_of_getElem? (i := 1686) (by decide +kernel), List.mem_of_getElem? (i := 1687) (by decide +kernel)⟩
theorem lw_p82 : lw_okq (⟨"MinimalTablesModel", "addTrees", "(II)V"⟩, 78) := ⟨⟨by decide +kernel, by decide +kernel⟩, List.mem_of_getElem? (i := 1305) (by decide +kernel), List.mem_of_getElem? (i := 1694) (by decide +kernel), List.mem_of_getElem? (i := 1695) (by decide +kernel)⟩
theorem lw_p83 : lw_okq (⟨"MinimalTablesModel", "treesAt", "(III)I"⟩, 78) := ⟨⟨by decide +kernel, by decide +kernel⟩, List.mem_of_getElem? (i := 1305) (by decide +kernel), List.mem_of_getElem? (i := 1698) (by decide +kernel), List.mem_of_getElem? (i := 1699) (by decide +kernel)⟩
theorem lw_p84 : lw_okq (⟨"MinimalTablesModel", "leftOnes", "()I"⟩, 78) := ⟨⟨by decide +kernel, by decide +kernel⟩, List.mem_of_getElem? (i := 1305) (by decide +kernel), List.mem_of_getElem? (i := 1711) (by decide +kernel), List.mem_of_getElem? (i := 1712) (by decide +kernel)⟩
theorem lw_p85 : lw_okq (⟨"MinimalTablesModel", "layReaches", "(Z)V"⟩, 78) := ⟨⟨by decide +kernel, by decide +kernel⟩, List.mem_of_getElem? (i := 1305) (by decide +kernel), List.mem_of_getElem? (i := 1715) (by decide +kernel), List.mem_of_getElem? (i := 1716) (by decide +kernel)⟩
theorem lw_p86 : lw_okq (⟨"MinimalTablesModel", "usefulOnes", "()I"⟩, 78) := ⟨⟨by decide +kernel, by decide +kernel⟩, List.mem_of_getElem? (i := 1305) (by decide +kernel), List.mem_of_getElem? (i := 1719) (by decide +kernel), List.mem_of_getElem? (i := 1720) (by decide +kernel)⟩
theorem lw_p87 : lw_okq (⟨"MinimalTablesModel", "endingOnes", "()I"⟩, 78) := ⟨⟨by decide +kernel, by decide +kernel⟩, List.mem_of_getElem? (i := 1305) (by decide +kernel), List.mem_of_getElem? (i := 1723) (by decide +kernel), List.mem_of_getElem? (i := 1724) (by decide +kernel)⟩
theorem lw_p88 : lw_okq (⟨"MinimalTablesModel", "putBy", "()V"⟩, 78) := ⟨⟨by decide +kernel, by decide +kernel⟩, List.mem_of_getElem? (i := 1305) (by decide +kernel), List.mem_of_getElem? (i := 1731) (by decide +kernel), List.mem_of_getElem? (i := 1732) (by decide +kernel)⟩
theorem lw_p89 : lw_okq (⟨"MinimalTablesModel", "become", "(II)V"⟩, 78) := ⟨⟨by decide +kernel, by decide +kernel⟩, List.mem_of_getElem? (i := 1305) (by decide +kernel), List.mem_of_getElem? (i := 1735) (by decide +kernel), List.mem_of_getElem? (i := 1736) (by decide +kernel)⟩
theorem lw_p90 : lw_okq (⟨"MinimalTablesModel", "isThere", "(I)Z"⟩, 78) := ⟨⟨by decide +kernel, by decide +kernel⟩, List.mem_of_getElem? (i := 1305) (by decide +kernel), List.mem_of_getElem? (i := 1751) (by decide +kernel), List.mem_of_getElem? (i := 1752) (by decide +kernel)⟩
theorem lw_p91 : lw_okq (⟨"MinimalTablesModel", "layAutomaton", "(I)V"⟩, 78) := ⟨⟨by decide +kernel, by decide +kernel⟩, List.mem_of_getElem? (i := 1305) (by decide +kernel), List.mem_of_getElem? (i := 1755) (by decide +kernel), List.mem_of_getElem? (i := 1756) (by decide +kernel)⟩
theorem lw_p92 : lw_okq (⟨"MinimalTablesModel", "newState", "(I)I"⟩, 78) := ⟨⟨by decide +kernel, by decide +kernel⟩, List.mem_of_getElem? (i := 1305) (by decide +kernel), List.mem_of_getElem? (i := 1762) (by decide +kernel), List.mem_of_getElem? (i := 1763) (by decide +kernel)⟩
theorem lw_p93 : lw_okq (⟨"MinimalTablesModel", "enqueue", "(I)V"⟩, 78) := ⟨⟨by decide +kernel, by decide +kernel⟩, List.mem_of_getElem? (i := 1305) (by decide +kernel), List.mem_of_getElem? (i := 1769) (by decide +kernel), List.mem_of_getElem? (i := 1770) (by decide +kernel)⟩
theorem lw_p94 : lw_okq (⟨"MinimalTablesModel", "dequeue", "()I"⟩, 78) := ⟨⟨by decide +kernel, by decide +kernel⟩, List.mem_of_getElem? (i := 1305) (by decide +kernel), List.mem_of_getElem? (i := 1773) (by decide +kernel), List.mem_of_getElem? (i := 1774) (by decide +kernel)⟩
theorem lw_p95 : lw_okq (⟨"MinimalTablesModel", "goThrough", "(II)Z"⟩, 78) := ⟨⟨by decide +kernel, by decide +kernel⟩, List.mem_of_getElem? (i := 1305) (by decide +kernel), List.mem_of_getElem? (i := 1777) (by decide +kernel), List.mem_of_getElem? (i := 1778) (by decide +kernel)⟩
def lw_privs_6 : List (MethodName × Nat) := [(⟨"MinimalTablesModel", "shortestOf", "(I)I"⟩, 78), (⟨"MinimalTablesModel", "layFollowOnce", "()Z"⟩, 78), (⟨"MinimalTablesModel", "addTrees", "(II)V"⟩, 78), (⟨"MinimalTablesModel", "treesAt", "(III)I"⟩, 78), (⟨"MinimalTablesModel", "leftOnes", "()I"⟩, 78), (⟨"MinimalTablesModel", "layReaches", "(Z)V"⟩, 78), (⟨"MinimalTablesModel", "usefulOnes", "()I"⟩, 78), (⟨"MinimalTablesModel", "endingOnes", "()I"⟩, 78), (⟨"MinimalTablesModel", "putBy", "()V"⟩, 78), (⟨"MinimalTablesModel", "become", "(II)V"⟩, 78), (⟨"MinimalTablesModel", "isThere", "(I)Z"⟩, 78), (⟨"MinimalTablesModel", "layAutomaton", "(I)V"⟩, 78), (⟨"MinimalTablesModel", "newState", "(I)I"⟩, 78), (⟨"MinimalTablesModel", "enqueue", "(I)V"⟩, 78), (⟨"MinimalTablesModel", "dequeue", "()I"⟩, 78), (⟨"MinimalTablesModel", "goThrough", "(II)Z"⟩, 78)]
theorem lw_r6 : ∀ q ∈ lw_privs_6, lw_okq q := List.forall_mem_cons.mpr ⟨lw_p80, List.forall_mem_cons.mpr ⟨lw_p81, List.forall_mem_cons.mpr ⟨lw_p82, List.forall_mem_cons.mpr ⟨lw_p83, List.forall_mem_cons.mpr ⟨lw_p84, List.forall_mem_cons.mpr ⟨lw_p85, List.forall_mem_cons.mpr ⟨lw_p86, List.forall_mem_cons.mpr ⟨lw_p87, List.forall_mem_cons.mpr ⟨lw_p88, List.forall_mem_cons.mpr ⟨lw_p89, List.forall_mem_cons.mpr ⟨lw_p90, List.forall_mem_cons.mpr ⟨lw_p91, List.forall_mem_cons.mpr ⟨lw_p92, List.forall_mem_cons.mpr ⟨lw_p93, List.forall_mem_cons.mpr ⟨lw_p94, List.forall_mem_cons.mpr ⟨lw_p95, fun _ h => absurd h List.not_mem_nil⟩⟩⟩⟩⟩⟩⟩⟩⟩⟩⟩⟩⟩⟩⟩⟩
theorem lw_p96 : lw_okq (⟨"MinimalTablesModel", "layClosure", "(II)V"⟩, 78) := ⟨⟨by decide +kernel, by decide +kernel⟩, List.mem_of_getElem? (i := 1305) (by decide +kernel), List.mem_of_getElem? (i := 1781) (by decide +kernel), List.mem_of_getElem? (i := 1782) (by decide +kernel)⟩
theorem lw_p97 : lw_okq (⟨"MinimalTablesModel", "letterBehind", "(I)I"⟩, 78) := ⟨⟨by decide +kernel, by decide +kernel⟩, List.mem_of_getElem? (i := 1305) (by decide +kernel), List.mem_of_getElem? (i := 1785) (by decide +kernel), List.mem_of_getElem? (i := 1786) (by decide +kernel)⟩
theorem lw_p98 : lw_okq (⟨"MinimalTablesModel", "layNext", "(III)Z"⟩, 78) := ⟨⟨by decide +kernel, by decide +kernel⟩, List.mem_of_getElem? (i := 1305) (by decide +kernel), List.mem_of_getElem? (i := 1789) (by decide +kernel), List.mem_of_getElem? (i := 1790) (by decide +kernel)⟩
theorem lw_p99 : lw_okq (⟨"MinimalTablesModel", "byOf", "(I)I"⟩, 78) := ⟨⟨by decide +kernel, by decide +kernel⟩, List.mem_of_getElem? (i := 1305) (by decide +kernel), List.mem_of_getElem? (i := 1793) (by decide +kernel), List.mem_of_getElem? (i := 1794) (by decide +kernel)⟩
theorem lw_p100 : lw_okq (⟨"MinimalTablesModel", "goesBy", "(III)I"⟩, 78) := ⟨⟨by decide +kernel, by decide +kernel⟩, List.mem_of_getElem? (i := 1305) (by decide +kernel), List.mem_of_getElem? (i := 1797) (by decide +kernel), List.mem_of_getElem? (i := 1798) (by decide +kernel)⟩
theorem lw_p101 : lw_okq (⟨"MinimalTablesModel", "takerOf", "(II)I"⟩, 78) := ⟨⟨by decide +kernel, by decide +kernel⟩, List.mem_of_getElem? (i := 1305) (by decide +kernel), List.mem_of_getElem? (i := 1801) (by decide +kernel), List.mem_of_getElem? (i := 1802) (by decide +kernel)⟩
theorem lw_p102 : lw_okq (⟨"MinimalTablesModel", "doesTake", "(II)Z"⟩, 78) := ⟨⟨by decide +kernel, by decide +kernel⟩, List.mem_of_getElem? (i := 1305) (by decide +kernel), List.mem_of_getElem? (i := 1805) (by decide +kernel), List.mem_of_getElem? (i := 1806) (by decide +kernel)⟩
theorem lw_p103 : lw_okq (⟨"MinimalTablesModel", "isNext", "(IIZ)Z"⟩, 78) := ⟨⟨by decide +kernel, by decide +kernel⟩, List.mem_of_getElem? (i := 1305) (by decide +kernel), List.mem_of_getElem? (i := 1809) (by decide +kernel), List.mem_of_getElem? (i := 1810) (by decide +kernel)⟩
theorem lw_p104 : lw_okq (⟨"MinimalTablesModel", "isWeakly", "(II)Z"⟩, 78) := ⟨⟨by decide +kernel, by decide +kernel⟩, List.mem_of_getElem? (i := 1305) (by decide +kernel), List.mem_of_getElem? (i := 1813) (by decide +kernel), List.mem_of_getElem? (i := 1814) (by decide +kernel)⟩
theorem lw_p105 : lw_okq (⟨"MinimalTablesModel", "addLooks", "(II)V"⟩, 78) := ⟨⟨by decide +kernel, by decide +kernel⟩, List.mem_of_getElem? (i := 1305) (by decide +kernel), List.mem_of_getElem? (i := 1817) (by decide +kernel), List.mem_of_getElem? (i := 1818) (by decide +kernel)⟩
theorem lw_p106 : lw_okq (⟨"MinimalTablesModel", "numberAnew", "(I)V"⟩, 78) := ⟨⟨by decide +kernel, by decide +kernel⟩, List.mem_of_getElem? (i := 1305) (by decide +kernel), List.mem_of_getElem? (i := 1821) (by decide +kernel), List.mem_of_getElem? (i := 1822) (by decide +kernel)⟩
theorem lw_p107 : lw_okq (⟨"MinimalTablesModel", "layAction", "(III)V"⟩, 78) := ⟨⟨by decide +kernel, by decide +kernel⟩, List.mem_of_getElem? (i := 1305) (by decide +kernel), List.mem_of_getElem? (i := 1825) (by decide +kernel), List.mem_of_getElem? (i := 1826) (by decide +kernel)⟩
theorem lw_p108 : lw_okq (⟨"MinimalTablesModel", "canReduce", "(IIII)Z"⟩, 78) := ⟨⟨by decide +kernel, by decide +kernel⟩, List.mem_of_getElem? (i := 1305) (by decide +kernel), List.mem_of_getElem? (i := 1829) (by decide +kernel), List.mem_of_getElem? (i := 1830) (by decide +kernel)⟩
theorem lw_p109 : lw_okq (⟨"MinimalTablesModel", "defaultOf", "(II)I"⟩, 78) := ⟨⟨by decide +kernel, by decide +kernel⟩, List.mem_of_getElem? (i := 1305) (by decide +kernel), List.mem_of_getElem? (i := 1833) (by decide +kernel), List.mem_of_getElem? (i := 1834) (by decide +kernel)⟩
theorem lw_p110 : lw_okq (⟨"MinimalTablesModel", "plainAction", "(III)I"⟩, 78) := ⟨⟨by decide +kernel, by decide +kernel⟩, List.mem_of_getElem? (i := 1305) (by decide +kernel), List.mem_of_getElem? (i := 1837) (by decide +kernel), List.mem_of_getElem? (i := 1838) (by decide +kernel)⟩
theorem lw_p111 : lw_okq (⟨"MinimalTablesModel", "isState", "(II)Z"⟩, 78) := ⟨⟨by decide +kernel, by decide +kernel⟩, List.mem_of_getElem? (i := 1305) (by decide +kernel), List.mem_of_getElem? (i := 1845) (by decide +kernel), List.mem_of_getElem? (i := 1846) (by decide +kernel)⟩
def lw_privs_7 : List (MethodName × Nat) := [(⟨"MinimalTablesModel", "layClosure", "(II)V"⟩, 78), (⟨"MinimalTablesModel", "letterBehind", "(I)I"⟩, 78), (⟨"MinimalTablesModel", "layNext", "(III)Z"⟩, 78), (⟨"MinimalTablesModel", "byOf", "(I)I"⟩, 78), (⟨"MinimalTablesModel", "goesBy", "(III)I"⟩, 78), (⟨"MinimalTablesModel", "takerOf", "(II)I"⟩, 78), (⟨"MinimalTablesModel", "doesTake", "(II)Z"⟩, 78), (⟨"MinimalTablesModel", "isNext", "(IIZ)Z"⟩, 78), (⟨"MinimalTablesModel", "isWeakly", "(II)Z"⟩, 78), (⟨"MinimalTablesModel", "addLooks", "(II)V"⟩, 78), (⟨"MinimalTablesModel", "numberAnew", "(I)V"⟩, 78), (⟨"MinimalTablesModel", "layAction", "(III)V"⟩, 78), (⟨"MinimalTablesModel", "canReduce", "(IIII)Z"⟩, 78), (⟨"MinimalTablesModel", "defaultOf", "(II)I"⟩, 78), (⟨"MinimalTablesModel", "plainAction", "(III)I"⟩, 78), (⟨"MinimalTablesModel", "isState", "(II)Z"⟩, 78)]
theorem lw_r7 : ∀ q ∈ lw_privs_7, lw_okq q := List.forall_mem_cons.mpr ⟨lw_p96, List.forall_mem_cons.mpr ⟨lw_p97, List.forall_mem_cons.mpr ⟨lw_p98, List.forall_mem_cons.mpr ⟨lw_p99, List.forall_mem_cons.mpr ⟨lw_p100, List.forall_mem_cons.mpr ⟨lw_p101, List.forall_mem_cons.mpr ⟨lw_p102, List.forall_mem_cons.mpr ⟨lw_p103, List.forall_mem_cons.mpr ⟨lw_p104, List.forall_mem_cons.mpr ⟨lw_p105, List.forall_mem_cons.mpr ⟨lw_p106, List.forall_mem_cons.mpr ⟨lw_p107, List.forall_mem_cons.mpr ⟨lw_p108, List.forall_mem_cons.mpr ⟨lw_p109, List.forall_mem_cons.mpr ⟨lw_p110, List.forall_mem_cons.mpr ⟨lw_p111, fun _ h => absurd h List.not_mem_nil⟩⟩⟩⟩⟩⟩⟩⟩⟩⟩⟩⟩⟩⟩⟩⟩
theorem lw_p112 : lw_okq (⟨"MinimalTablesModel", "itemMany", "(IIZ)I"⟩, 78) := ⟨⟨by decide +kernel, by decide +kernel⟩, List.mem_of_getElem? (i := 1305) (by decide +kernel), List.mem_of_getElem? (i := 1853) (by decide +kernel), List.mem_of_getElem? (i := 1854) (by decide +kernel)⟩
theorem lw_p113 : lw_okq (⟨"MinimalTablesModel", "byMany", "(II)I"⟩, 78) := ⟨⟨by decide +kernel, by decide +kernel⟩, List.mem_of_getElem? (i := 1305) (by decide +kernel), List.mem_of_getElem? (i := 1857) (by decide +kernel), List.mem_of_getElem? (i := 1858) (by decide +kernel)⟩
theorem lw_p114 : lw_okq (⟨"MinimalTablesModel", "layPath", "(II)I"⟩, 78) := ⟨⟨by decide +kernel, by decide +kernel⟩, List.mem_of_getElem? (i := 1305) (by decide +kernel), List.mem_of_getElem? (i := 1861) (by decide +kernel), List.mem_of_getElem? (i := 1862) (by decide +kernel)⟩
theorem lw_p115 : lw_okq (⟨"MinimalTablesModel", "isLetter", "(I)Z"⟩, 78) := ⟨⟨by decide +kernel, by decide +kernel⟩, List.mem_of_getElem? (i := 1305) (by decide +kernel), List.mem_of_getElem? (i := 1869) (by decide +kernel), List.mem_of_getElem? (i := 1870) (by decide +kernel)⟩
theorem lw_p116 : lw_okq (⟨"MinimalTablesModel", "actionOf", "(IIIZ)I"⟩, 78) := ⟨⟨by decide +kernel, by decide +kernel⟩, List.mem_of_getElem? (i := 1305) (by decide +kernel), List.mem_of_getElem? (i := 1877) (by decide +kernel), List.mem_of_getElem? (i := 1878) (by decide +kernel)⟩
theorem lw_p117 : lw_okq (⟨"MinimalTablesModel", "bridgeOf", "(IIII)I"⟩, 78) := ⟨⟨by decide +kernel, by decide +kernel⟩, List.mem_of_getElem? (i := 1305) (by decide +kernel), List.mem_of_getElem? (i := 1886) (by decide +kernel), List.mem_of_getElem? (i := 1887) (by decide +kernel)⟩
theorem lw_p118 : lw_okq (⟨"MinimalTablesModel", "coreMany", "(II)I"⟩, 78) := ⟨⟨by decide +kernel, by decide +kernel⟩, List.mem_of_getElem? (i := 1305) (by decide +kernel), List.mem_of_getElem? (i := 1898) (by decide +kernel), List.mem_of_getElem? (i := 1899) (by decide +kernel)⟩
theorem lw_p119 : lw_okq (⟨"MinimalTablesModel", "isSameCore", "(III)Z"⟩, 78) := ⟨⟨by decide +kernel, by decide +kernel⟩, List.mem_of_getElem? (i := 1305) (by decide +kernel), List.mem_of_getElem? (i := 1902) (by decide +kernel), List.mem_of_getElem? (i := 1903) (by decide +kernel)⟩
theorem lw_p120 : lw_okq (⟨"MinimalTablesModel", "countOf", "(III)I"⟩, 78) := ⟨⟨by decide +kernel, by decide +kernel⟩, List.mem_of_getElem? (i := 1305) (by decide +kernel), List.mem_of_getElem? (i := 1907) (by decide +kernel), List.mem_of_getElem? (i := 1908) (by decide +kernel)⟩
theorem lw_p121 : lw_okq (⟨"MinimalTablesModel", "canRead", "(II)Z"⟩, 78) := ⟨⟨by decide +kernel, by decide +kernel⟩, List.mem_of_getElem? (i := 1305) (by decide +kernel), List.mem_of_getElem? (i := 1915) (by decide +kernel), List.mem_of_getElem? (i := 1916) (by decide +kernel)⟩
theorem lw_p122 : lw_okq (⟨"MinimalTablesModel", "laySentence", "(I)V"⟩, 78) := ⟨⟨by decide +kernel, by decide +kernel⟩, List.mem_of_getElem? (i := 1305) (by decide +kernel), List.mem_of_getElem? (i := 1919) (by decide +kernel), List.mem_of_getElem? (i := 1920) (by decide +kernel)⟩
theorem lw_p123 : lw_okq (⟨"MinimalTablesModel", "readAll", "(II)I"⟩, 78) := ⟨⟨by decide +kernel, by decide +kernel⟩, List.mem_of_getElem? (i := 1305) (by decide +kernel), List.mem_of_getElem? (i := 1923) (by decide +kernel), List.mem_of_getElem? (i := 1924) (by decide +kernel)⟩
theorem lw_p124 : lw_okq (⟨"MinimalTablesModel", "startRow", "()V"⟩, 78) := ⟨⟨by decide +kernel, by decide +kernel⟩, List.mem_of_getElem? (i := 1305) (by decide +kernel), List.mem_of_getElem? (i := 1927) (by decide +kernel), List.mem_of_getElem? (i := 1928) (by decide +kernel)⟩
theorem lw_p125 : lw_okq (⟨"MinimalTablesModel", "keepRow", "()V"⟩, 78) := ⟨⟨by decide +kernel, by decide +kernel⟩, List.mem_of_getElem? (i := 1305) (by decide +kernel), List.mem_of_getElem? (i := 1931) (by decide +kernel), List.mem_of_getElem? (i := 1932) (by decide +kernel)⟩
theorem lw_p126 : lw_okq (⟨"MinimalTablesModel", "actOnce", "(III)I"⟩, 78) := ⟨⟨by decide +kernel, by decide +kernel⟩, List.mem_of_getElem? (i := 1305) (by decide +kernel), List.mem_of_getElem? (i := 1935) (by decide +kernel), List.mem_of_getElem? (i := 1936) (by decide +kernel)⟩
theorem lw_p127 : lw_okq (⟨"MinimalTablesModel", "reduceBy", "(IIII)I"⟩, 78) := ⟨⟨by decide +kernel, by decide +kernel⟩, List.mem_of_getElem? (i := 1305) (by decide +kernel), List.mem_of_getElem? (i := 1939) (by decide +kernel), List.mem_of_getElem? (i := 1940) (by decide +kernel)⟩
def lw_privs_8 : List (MethodName × Nat) := [(⟨"MinimalTablesModel", "itemMany", "(IIZ)I"⟩, 78), (⟨"MinimalTablesModel", "byMany", "(II)I"⟩, 78), (⟨"MinimalTablesModel", "layPath", "(II)I"⟩, 78), (⟨"MinimalTablesModel", "isLetter", "(I)Z"⟩, 78), (⟨"MinimalTablesModel", "actionOf", "(IIIZ)I"⟩, 78), (⟨"MinimalTablesModel", "bridgeOf", "(IIII)I"⟩, 78), (⟨"MinimalTablesModel", "coreMany", "(II)I"⟩, 78), (⟨"MinimalTablesModel", "isSameCore", "(III)Z"⟩, 78), (⟨"MinimalTablesModel", "countOf", "(III)I"⟩, 78), (⟨"MinimalTablesModel", "canRead", "(II)Z"⟩, 78), (⟨"MinimalTablesModel", "laySentence", "(I)V"⟩, 78), (⟨"MinimalTablesModel", "readAll", "(II)I"⟩, 78), (⟨"MinimalTablesModel", "startRow", "()V"⟩, 78), (⟨"MinimalTablesModel", "keepRow", "()V"⟩, 78), (⟨"MinimalTablesModel", "actOnce", "(III)I"⟩, 78), (⟨"MinimalTablesModel", "reduceBy", "(IIII)I"⟩, 78)]
theorem lw_r8 : ∀ q ∈ lw_privs_8, lw_okq q := List.forall_mem_cons.mpr ⟨lw_p112, List.forall_mem_cons.mpr ⟨lw_p113, List.forall_mem_cons.mpr ⟨lw_p114, List.forall_mem_cons.mpr ⟨lw_p115, List.forall_mem_cons.mpr ⟨lw_p116, List.forall_mem_cons.mpr ⟨lw_p117, List.forall_mem_cons.mpr ⟨lw_p118, List.forall_mem_cons.mpr ⟨lw_p119, List.forall_mem_cons.mpr ⟨lw_p120, List.forall_mem_cons.mpr ⟨lw_p121, List.forall_mem_cons.mpr ⟨lw_p122, List.forall_mem_cons.mpr ⟨lw_p123, List.forall_mem_cons.mpr ⟨lw_p124, List.forall_mem_cons.mpr ⟨lw_p125, List.forall_mem_cons.mpr ⟨lw_p126, List.forall_mem_cons.mpr ⟨lw_p127, fun _ h => absurd h List.not_mem_nil⟩⟩⟩⟩⟩⟩⟩⟩⟩⟩⟩⟩⟩⟩⟩⟩
theorem lw_p128 : lw_okq (⟨"MinimalTablesModel", "push", "(IIII)Z"⟩, 78) := ⟨⟨by decide +kernel, by decide +kernel⟩, List.mem_of_getElem? (i := 1305) (by decide +kernel), List.mem_of_getElem? (i := 1943) (by decide +kernel), List.mem_of_getElem? (i := 1944) (by decide +kernel)⟩
theorem lw_p129 : lw_okq (⟨"MinimalTablesModel", "doesExpect", "(II)Z"⟩, 78) := ⟨⟨by decide +kernel, by decide +kernel⟩, List.mem_of_getElem? (i := 1305) (by decide +kernel), List.mem_of_getElem? (i := 1955) (by decide +kernel), List.mem_of_getElem? (i := 1956) (by decide +kernel)⟩
theorem lw_p130 : lw_okq (⟨"MinimalTablesModel", "doesMend", "(IIII)Z"⟩, 78) := ⟨⟨by decide +kernel, by decide +kernel⟩, List.mem_of_getElem? (i := 1305) (by decide +kernel), List.mem_of_getElem? (i := 1963) (by decide +kernel), List.mem_of_getElem? (i := 1964) (by decide +kernel)⟩
theorem lw_p131 : lw_okq (⟨"MinimalTablesModel", "layMended", "(III)V"⟩, 78) := ⟨⟨by decide +kernel, by decide +kernel⟩, List.mem_of_getElem? (i := 1305) (by decide +kernel), List.mem_of_getElem? (i := 1967) (by decide +kernel), List.mem_of_getElem? (i := 1968) (by decide +kernel)⟩
theorem lw_p132 : lw_okq (⟨"MinimalTablesModel", "isTopDown", "()Z"⟩, 78) := ⟨⟨by decide +kernel, by decide +kernel⟩, List.mem_of_getElem? (i := 1305) (by decide +kernel), List.mem_of_getElem? (i := 1979) (by decide +kernel), List.mem_of_getElem? (i := 1980) (by decide +kernel)⟩
theorem lw_p133 : lw_okq (⟨"MinimalTablesModel", "selects", "(I)I"⟩, 78) := ⟨⟨by decide +kernel, by decide +kernel⟩, List.mem_of_getElem? (i := 1305) (by decide +kernel), List.mem_of_getElem? (i := 1983) (by decide +kernel), List.mem_of_getElem? (i := 1984) (by decide +kernel)⟩
theorem lw_p134 : lw_okq (⟨"MinimalTablesModel", "isSimple", "()Z"⟩, 78) := ⟨⟨by decide +kernel, by decide +kernel⟩, List.mem_of_getElem? (i := 1305) (by decide +kernel), List.mem_of_getElem? (i := 1987) (by decide +kernel), List.mem_of_getElem? (i := 1988) (by decide +kernel)⟩
theorem lw_p135 : lw_okq (⟨"MinimalTablesModel", "waysSimply", "(II)I"⟩, 78) := ⟨⟨by decide +kernel, by decide +kernel⟩, List.mem_of_getElem? (i := 1305) (by decide +kernel), List.mem_of_getElem? (i := 1991) (by decide +kernel), List.mem_of_getElem? (i := 1992) (by decide +kernel)⟩
theorem lw_p136 : lw_okq (⟨"MinimalTablesModel", "isClear", "(I)Z"⟩, 78) := ⟨⟨by decide +kernel, by decide +kernel⟩, List.mem_of_getElem? (i := 1305) (by decide +kernel), List.mem_of_getElem? (i := 1995) (by decide +kernel), List.mem_of_getElem? (i := 1996) (by decide +kernel)⟩
theorem lw_p137 : lw_okq (⟨"MinimalTablesModel", "isWell", "(III)Z"⟩, 78) := ⟨⟨by decide +kernel, by decide +kernel⟩, List.mem_of_getElem? (i := 1305) (by decide +kernel), List.mem_of_getElem? (i := 2004) (by decide +kernel), List.mem_of_getElem? (i := 2005) (by decide +kernel)⟩
theorem lw_p138 : lw_okq (⟨"MinimalTablesModel", "laySigns", "(II)V"⟩, 78) := ⟨⟨by decide +kernel, by decide +kernel⟩, List.mem_of_getElem? (i := 1305) (by decide +kernel), List.mem_of_getElem? (i := 2008) (by decide +kernel), List.mem_of_getElem? (i := 2009) (by decide +kernel)⟩
theorem lw_p139 : lw_okq (⟨"MinimalTablesModel", "codeOf", "(I)I"⟩, 78) := ⟨⟨by decide +kernel, by decide +kernel⟩, List.mem_of_getElem? (i := 1305) (by decide +kernel), List.mem_of_getElem? (i := 2012) (by decide +kernel), List.mem_of_getElem? (i := 2013) (by decide +kernel)⟩
theorem lw_p140 : lw_okq (⟨"MinimalTablesModel", "layWord", "(J)Z"⟩, 78) := ⟨⟨by decide +kernel, by decide +kernel⟩, List.mem_of_getElem? (i := 1305) (by decide +kernel), List.mem_of_getElem? (i := 2020) (by decide +kernel), List.mem_of_getElem? (i := 2021) (by decide +kernel)⟩
theorem lw_p141 : lw_okq (⟨"MinimalTablesModel", "replacing", "(IZ)I"⟩, 78) := ⟨⟨by decide +kernel, by decide +kernel⟩, List.mem_of_getElem? (i := 1305) (by decide +kernel), List.mem_of_getElem? (i := 2024) (by decide +kernel), List.mem_of_getElem? (i := 2025) (by decide +kernel)⟩
theorem lw_p142 : lw_okq (⟨"MinimalTablesModel", "draw", "(I)I"⟩, 78) := ⟨⟨by decide +kernel, by decide +kernel⟩, List.mem_of_getElem? (i := 1305) (by decide +kernel), List.mem_of_getElem? (i := 2028) (by decide +kernel), List.mem_of_getElem? (i := 2029) (by decide +kernel)⟩
theorem lw_p143 : lw_okq (⟨"MinimalTablesModel", "replace", "(II)Z"⟩, 78) := ⟨⟨by decide +kernel, by decide +kernel⟩, List.mem_of_getElem? (i := 1305) (by decide +kernel), List.mem_of_getElem? (i := 2034) (by decide +kernel), List.mem_of_getElem? (i := 2035) (by decide +kernel)⟩
def lw_privs_9 : List (MethodName × Nat) := [(⟨"MinimalTablesModel", "push", "(IIII)Z"⟩, 78), (⟨"MinimalTablesModel", "doesExpect", "(II)Z"⟩, 78), (⟨"MinimalTablesModel", "doesMend", "(IIII)Z"⟩, 78), (⟨"MinimalTablesModel", "layMended", "(III)V"⟩, 78), (⟨"MinimalTablesModel", "isTopDown", "()Z"⟩, 78), (⟨"MinimalTablesModel", "selects", "(I)I"⟩, 78), (⟨"MinimalTablesModel", "isSimple", "()Z"⟩, 78), (⟨"MinimalTablesModel", "waysSimply", "(II)I"⟩, 78), (⟨"MinimalTablesModel", "isClear", "(I)Z"⟩, 78), (⟨"MinimalTablesModel", "isWell", "(III)Z"⟩, 78), (⟨"MinimalTablesModel", "laySigns", "(II)V"⟩, 78), (⟨"MinimalTablesModel", "codeOf", "(I)I"⟩, 78), (⟨"MinimalTablesModel", "layWord", "(J)Z"⟩, 78), (⟨"MinimalTablesModel", "replacing", "(IZ)I"⟩, 78), (⟨"MinimalTablesModel", "draw", "(I)I"⟩, 78), (⟨"MinimalTablesModel", "replace", "(II)Z"⟩, 78)]
theorem lw_r9 : ∀ q ∈ lw_privs_9, lw_okq q := List.forall_mem_cons.mpr ⟨lw_p128, List.forall_mem_cons.mpr ⟨lw_p129, List.forall_mem_cons.mpr ⟨lw_p130, List.forall_mem_cons.mpr ⟨lw_p131, List.forall_mem_cons.mpr ⟨lw_p132, List.forall_mem_cons.mpr ⟨lw_p133, List.forall_mem_cons.mpr ⟨lw_p134, List.forall_mem_cons.mpr ⟨lw_p135, List.forall_mem_cons.mpr ⟨lw_p136, List.forall_mem_cons.mpr ⟨lw_p137, List.forall_mem_cons.mpr ⟨lw_p138, List.forall_mem_cons.mpr ⟨lw_p139, List.forall_mem_cons.mpr ⟨lw_p140, List.forall_mem_cons.mpr ⟨lw_p141, List.forall_mem_cons.mpr ⟨lw_p142, List.forall_mem_cons.mpr ⟨lw_p143, fun _ h => absurd h List.not_mem_nil⟩⟩⟩⟩⟩⟩⟩⟩⟩⟩⟩⟩⟩⟩⟩⟩
theorem lw_p144 : lw_okq (⟨"MinimalTablesModel", "leftmost", "()I"⟩, 78) := ⟨⟨by decide +kernel, by decide +kernel⟩, List.mem_of_getElem? (i := 1305) (by decide +kernel), List.mem_of_getElem? (i := 2038) (by decide +kernel), List.mem_of_getElem? (i := 2039) (by decide +kernel)⟩
theorem lw_p145 : lw_okq (⟨"MinimalTablesModel", "inMany", "()I"⟩, 78) := ⟨⟨by decide +kernel, by decide +kernel⟩, List.mem_of_getElem? (i := 1305) (by decide +kernel), List.mem_of_getElem? (i := 2050) (by decide +kernel), List.mem_of_getElem? (i := 2051) (by decide +kernel)⟩
def lw_privs_10 : List (MethodName × Nat) := [(⟨"MinimalTablesModel", "leftmost", "()I"⟩, 78), (⟨"MinimalTablesModel", "inMany", "()I"⟩, 78)]
theorem lw_r10 : ∀ q ∈ lw_privs_10, lw_okq q := List.forall_mem_cons.mpr ⟨lw_p144, List.forall_mem_cons.mpr ⟨lw_p145, fun _ h => absurd h List.not_mem_nil⟩⟩
def lw_privs : List (MethodName × Nat) := lw_privs_1 ++ (lw_privs_2 ++ (lw_privs_3 ++ (lw_privs_4 ++ (lw_privs_5 ++ (lw_privs_6 ++ (lw_privs_7 ++ (lw_privs_8 ++ (lw_privs_9 ++ (lw_privs_10)))))))))
def lw_tbl : List Cond := k2_sels lw_privs ++ tables_1
theorem lw_privs_ok : ∀ q ∈ lw_privs, lw_okq q := by
  show ∀ q ∈ lw_privs_1 ++ (lw_privs_2 ++ (lw_privs_3 ++ (lw_privs_4 ++ (lw_privs_5 ++ (lw_privs_6 ++ (lw_privs_7 ++ (lw_privs_8 ++ (lw_privs_9 ++ (lw_privs_10))))))))), lw_okq q
  exact List.forall_mem_append.mpr ⟨lw_r1, List.forall_mem_append.mpr ⟨lw_r2, List.forall_mem_append.mpr ⟨lw_r3, List.forall_mem_append.mpr ⟨lw_r4, List.forall_mem_append.mpr ⟨lw_r5, List.forall_mem_append.mpr ⟨lw_r6, List.forall_mem_append.mpr ⟨lw_r7, List.forall_mem_append.mpr ⟨lw_r8, List.forall_mem_append.mpr ⟨lw_r9, lw_r10⟩⟩⟩⟩⟩⟩⟩⟩⟩
end
section
def RX0 : String := "MinimalTables$Actions"
def TX0 : u_T := fun k => match k with
  | 0 => ("MinimalTables$Actions", "grammar", "LMinimalTables$Grammar;", true)
  | 1 => ("MinimalTables$Actions", "facts", "LMinimalTables$Facts;", true)
  | 2 => ("MinimalTables$Actions", "automaton", "LMinimalTables$Automaton;", true)
  | 3 => ("MinimalTables$Actions", "stale", "Z", false)
  | 4 => ("MinimalTables$Actions", "table", "[I", true)
  | 5 => ("MinimalTables$Actions", "byDefault", "[I", true)
  | 6 => ("MinimalTables$Actions", "conflicts", "[I", true)
  | 7 => ("MinimalTables$Actions", "once", "I", false)
  | 8 => ("MinimalTables$Actions", "twice", "I", false)
  | 9 => ("MinimalTables$Actions", "accepts", "I", false)
  | 10 => ("MinimalTables$Actions", "lowest", "[I", true)
  | _ => ("MinimalTables$Actions", "uses", "[I", true)
def tyX0 : Nat → FieldType := fun k => match k with
  | 0 => .object "MinimalTables$Grammar"
  | 1 => .object "MinimalTables$Facts"
  | 2 => .object "MinimalTables$Automaton"
  | 3 => .boolean
  | 4 => .array .int
  | 5 => .array .int
  | 6 => .array .int
  | 7 => .int
  | 8 => .int
  | 9 => .int
  | 10 => .array .int
  | _ => .array .int
theorem nmX0 : ∀ a, a < 12 → ∀ b, b < 12 → a ≠ b → (TX0 a).2.1 ≠ (TX0 b).2.1 := by decide +kernel
theorem tyX0_ok : ∀ k, k < 12 → parseFieldDescriptor (TX0 k).2.2.1 = some (tyX0 k) := by decide +kernel
def RX1 : String := "MinimalTables$Automaton"
def TX1 : u_T := fun k => match k with
  | 0 => ("MinimalTables$Automaton", "kind", "I", true)
  | 1 => ("MinimalTables$Automaton", "grammar", "LMinimalTables$Grammar;", true)
  | 2 => ("MinimalTables$Automaton", "facts", "LMinimalTables$Facts;", true)
  | 3 => ("MinimalTables$Automaton", "stale", "Z", false)
  | 4 => ("MinimalTables$Automaton", "there", "Z", false)
  | 5 => ("MinimalTables$Automaton", "slots", "I", false)
  | 6 => ("MinimalTables$Automaton", "kernels", "[LMinimalTables$Kernel;", true)
  | 7 => ("MinimalTables$Automaton", "cores", "[I", true)
  | 8 => ("MinimalTables$Automaton", "opens", "[I", true)
  | 9 => ("MinimalTables$Automaton", "goals", "[I", true)
  | 10 => ("MinimalTables$Automaton", "states", "I", false)
  | 11 => ("MinimalTables$Automaton", "slotOf", "[I", true)
  | 12 => ("MinimalTables$Automaton", "numberOf", "[I", true)
  | 13 => ("MinimalTables$Automaton", "cameFrom", "[I", true)
  | 14 => ("MinimalTables$Automaton", "cameBy", "[I", true)
  | 15 => ("MinimalTables$Automaton", "pathLength", "[I", true)
  | _ => ("MinimalTables$Automaton", "sharing", "[I", true)
def tyX1 : Nat → FieldType := fun k => match k with
  | 0 => .int
  | 1 => .object "MinimalTables$Grammar"
  | 2 => .object "MinimalTables$Facts"
  | 3 => .boolean
  | 4 => .boolean
  | 5 => .int
  | 6 => .array (.object "MinimalTables$Kernel")
  | 7 => .array .int
  | 8 => .array .int
  | 9 => .array .int
  | 10 => .int
  | 11 => .array .int
  | 12 => .array .int
  | 13 => .array .int
  | 14 => .array .int
  | 15 => .array .int
  | _ => .array .int
theorem nmX1 : ∀ a, a < 17 → ∀ b, b < 17 → a ≠ b → (TX1 a).2.1 ≠ (TX1 b).2.1 := by decide +kernel
theorem tyX1_ok : ∀ k, k < 17 → parseFieldDescriptor (TX1 k).2.2.1 = some (tyX1 k) := by decide +kernel
def RX2 : String := "MinimalTables$Builder"
def TX2 : u_T := fun k => match k with
  | 0 => ("MinimalTables$Builder", "grammar", "LMinimalTables$Grammar;", true)
  | 1 => ("MinimalTables$Builder", "queue", "[I", true)
  | 2 => ("MinimalTables$Builder", "isWaiting", "[I", true)
  | 3 => ("MinimalTables$Builder", "head", "I", false)
  | 4 => ("MinimalTables$Builder", "waiting", "I", false)
  | 5 => ("MinimalTables$Builder", "now", "LMinimalTables$Kernel;", true)
  | _ => ("MinimalTables$Builder", "next", "LMinimalTables$Kernel;", true)
def tyX2 : Nat → FieldType := fun k => match k with
  | 0 => .object "MinimalTables$Grammar"
  | 1 => .array .int
  | 2 => .array .int
  | 3 => .int
  | 4 => .int
  | 5 => .object "MinimalTables$Kernel"
  | _ => .object "MinimalTables$Kernel"
theorem nmX2 : ∀ a, a < 7 → ∀ b, b < 7 → a ≠ b → (TX2 a).2.1 ≠ (TX2 b).2.1 := by decide +kernel
theorem tyX2_ok : ∀ k, k < 7 → parseFieldDescriptor (TX2 k).2.2.1 = some (tyX2 k) := by decide +kernel
def RX3 : String := "MinimalTables$Draw"
def TX3 : u_T := fun k => match k with
  | 0 => ("MinimalTables$Draw", "grammar", "LMinimalTables$Grammar;", true)
  | 1 => ("MinimalTables$Draw", "facts", "LMinimalTables$Facts;", true)
  | 2 => ("MinimalTables$Draw", "x", "J", false)
  | 3 => ("MinimalTables$Draw", "length", "I", false)
  | _ => ("MinimalTables$Draw", "row", "[I", true)
def tyX3 : Nat → FieldType := fun k => match k with
  | 0 => .object "MinimalTables$Grammar"
  | 1 => .object "MinimalTables$Facts"
  | 2 => .long
  | 3 => .int
  | _ => .array .int
theorem nmX3 : ∀ a, a < 5 → ∀ b, b < 5 → a ≠ b → (TX3 a).2.1 ≠ (TX3 b).2.1 := by decide +kernel
theorem tyX3_ok : ∀ k, k < 5 → parseFieldDescriptor (TX3 k).2.2.1 = some (tyX3 k) := by decide +kernel
def RX4 : String := "MinimalTables$Facts"
def TX4 : u_T := fun k => match k with
  | 0 => ("MinimalTables$Facts", "grammar", "LMinimalTables$Grammar;", true)
  | 1 => ("MinimalTables$Facts", "empty", "I", false)
  | 2 => ("MinimalTables$Facts", "leftNames", "I", false)
  | 3 => ("MinimalTables$Facts", "useful", "I", false)
  | 4 => ("MinimalTables$Facts", "first", "[I", true)
  | 5 => ("MinimalTables$Facts", "follow", "[I", true)
  | 6 => ("MinimalTables$Facts", "shortest", "[I", true)
  | 7 => ("MinimalTables$Facts", "rest", "[I", true)
  | 8 => ("MinimalTables$Facts", "reached", "[I", true)
  | 9 => ("MinimalTables$Facts", "trees", "[I", true)
  | 10 => ("MinimalTables$Facts", "treesStand", "Z", false)
  | 11 => ("MinimalTables$Facts", "ways", "[J", false)
  | _ => ("MinimalTables$Facts", "waysThen", "[J", false)
def tyX4 : Nat → FieldType := fun k => match k with
  | 0 => .object "MinimalTables$Grammar"
  | 1 => .int
  | 2 => .int
  | 3 => .int
  | 4 => .array .int
  | 5 => .array .int
  | 6 => .array .int
  | 7 => .array .int
  | 8 => .array .int
  | 9 => .array .int
  | 10 => .boolean
  | 11 => .array .long
  | _ => .array .long
theorem nmX4 : ∀ a, a < 13 → ∀ b, b < 13 → a ≠ b → (TX4 a).2.1 ≠ (TX4 b).2.1 := by decide +kernel
theorem tyX4_ok : ∀ k, k < 13 → parseFieldDescriptor (TX4 k).2.2.1 = some (tyX4 k) := by decide +kernel
def RX5 : String := "MinimalTables$Grammar"
def TX5 : u_T := fun k => match k with
  | 0 => ("MinimalTables$Grammar", "rules", "I", false)
  | 1 => ("MinimalTables$Grammar", "names", "I", false)
  | 2 => ("MinimalTables$Grammar", "signs", "I", false)
  | 3 => ("MinimalTables$Grammar", "in", "I", false)
  | 4 => ("MinimalTables$Grammar", "prefers", "I", false)
  | 5 => ("MinimalTables$Grammar", "left", "[I", true)
  | 6 => ("MinimalTables$Grammar", "length", "[I", true)
  | 7 => ("MinimalTables$Grammar", "letters", "[I", true)
  | 8 => ("MinimalTables$Grammar", "nameLetter", "[I", true)
  | 9 => ("MinimalTables$Grammar", "nameNumber", "[I", true)
  | 10 => ("MinimalTables$Grammar", "signLetter", "[I", true)
  | _ => ("MinimalTables$Grammar", "signNumber", "[I", true)
def tyX5 : Nat → FieldType := fun k => match k with
  | 0 => .int
  | 1 => .int
  | 2 => .int
  | 3 => .int
  | 4 => .int
  | 5 => .array .int
  | 6 => .array .int
  | 7 => .array .int
  | 8 => .array .int
  | 9 => .array .int
  | 10 => .array .int
  | _ => .array .int
theorem nmX5 : ∀ a, a < 12 → ∀ b, b < 12 → a ≠ b → (TX5 a).2.1 ≠ (TX5 b).2.1 := by decide +kernel
theorem tyX5_ok : ∀ k, k < 12 → parseFieldDescriptor (TX5 k).2.2.1 = some (tyX5 k) := by decide +kernel
def RX6 : String := "MinimalTables$History"
def TX6 : u_T := fun k => match k with
  | 0 => ("MinimalTables$History", "acts", "I", false)
  | 1 => ("MinimalTables$History", "kept", "Z", false)
  | 2 => ("MinimalTables$History", "keptIn", "I", false)
  | 3 => ("MinimalTables$History", "keptPrefers", "I", false)
  | _ => ("MinimalTables$History", "latest", "[I", true)
def tyX6 : Nat → FieldType := fun k => match k with
  | 0 => .int
  | 1 => .boolean
  | 2 => .int
  | 3 => .int
  | _ => .array .int
theorem nmX6 : ∀ a, a < 5 → ∀ b, b < 5 → a ≠ b → (TX6 a).2.1 ≠ (TX6 b).2.1 := by decide +kernel
theorem tyX6_ok : ∀ k, k < 5 → parseFieldDescriptor (TX6 k).2.2.1 = some (tyX6 k) := by decide +kernel
def RX7 : String := "MinimalTables$Kernel"
def TX7 : u_T := fun k => match k with
  | 0 => ("MinimalTables$Kernel", "size", "I", false)
  | 1 => ("MinimalTables$Kernel", "items", "[I", true)
  | _ => ("MinimalTables$Kernel", "looks", "[I", true)
def tyX7 : Nat → FieldType := fun k => match k with
  | 0 => .int
  | 1 => .array .int
  | _ => .array .int
theorem nmX7 : ∀ a, a < 3 → ∀ b, b < 3 → a ≠ b → (TX7 a).2.1 ≠ (TX7 b).2.1 := by decide +kernel
theorem tyX7_ok : ∀ k, k < 3 → parseFieldDescriptor (TX7 k).2.2.1 = some (tyX7 k) := by decide +kernel
def RX8 : String := "MinimalTables$Reading"
def TX8 : u_T := fun k => match k with
  | 0 => ("MinimalTables$Reading", "grammar", "LMinimalTables$Grammar;", true)
  | 1 => ("MinimalTables$Reading", "table", "LMinimalTables$Actions;", false)
  | 2 => ("MinimalTables$Reading", "mode", "I", false)
  | 3 => ("MinimalTables$Reading", "length", "I", false)
  | 4 => ("MinimalTables$Reading", "input", "[I", true)
  | 5 => ("MinimalTables$Reading", "depth", "I", false)
  | 6 => ("MinimalTables$Reading", "row", "[I", true)
  | 7 => ("MinimalTables$Reading", "below", "[I", true)
  | 8 => ("MinimalTables$Reading", "high", "[I", true)
  | 9 => ("MinimalTables$Reading", "keptDepth", "I", false)
  | 10 => ("MinimalTables$Reading", "keptRow", "[I", true)
  | 11 => ("MinimalTables$Reading", "ends", "I", false)
  | 12 => ("MinimalTables$Reading", "steps", "I", false)
  | 13 => ("MinimalTables$Reading", "read", "I", false)
  | 14 => ("MinimalTables$Reading", "done", "I", false)
  | 15 => ("MinimalTables$Reading", "rules", "[I", true)
  | 16 => ("MinimalTables$Reading", "sizes", "[I", true)
  | 17 => ("MinimalTables$Reading", "aheads", "[I", true)
  | _ => ("MinimalTables$Reading", "heights", "[I", true)
def tyX8 : Nat → FieldType := fun k => match k with
  | 0 => .object "MinimalTables$Grammar"
  | 1 => .object "MinimalTables$Actions"
  | 2 => .int
  | 3 => .int
  | 4 => .array .int
  | 5 => .int
  | 6 => .array .int
  | 7 => .array .int
  | 8 => .array .int
  | 9 => .int
  | 10 => .array .int
  | 11 => .int
  | 12 => .int
  | 13 => .int
  | 14 => .int
  | 15 => .array .int
  | 16 => .array .int
  | 17 => .array .int
  | _ => .array .int
theorem nmX8 : ∀ a, a < 19 → ∀ b, b < 19 → a ≠ b → (TX8 a).2.1 ≠ (TX8 b).2.1 := by decide +kernel
theorem tyX8_ok : ∀ k, k < 19 → parseFieldDescriptor (TX8 k).2.2.1 = some (tyX8 k) := by decide +kernel
def RX9 : String := "MinimalTables$Sentences"
def TX9 : u_T := fun k => match k with
  | 0 => ("MinimalTables$Sentences", "count", "I", false)
  | 1 => ("MinimalTables$Sentences", "length", "[I", true)
  | _ => ("MinimalTables$Sentences", "letters", "[I", true)
def tyX9 : Nat → FieldType := fun k => match k with
  | 0 => .int
  | 1 => .array .int
  | _ => .array .int
theorem nmX9 : ∀ a, a < 3 → ∀ b, b < 3 → a ≠ b → (TX9 a).2.1 ≠ (TX9 b).2.1 := by decide +kernel
theorem tyX9_ok : ∀ k, k < 3 → parseFieldDescriptor (TX9 k).2.2.1 = some (tyX9 k) := by decide +kernel
def RX10 : String := "MinimalTables$Tape"
def TX10 : u_T := fun k => match k with
  | 0 => ("MinimalTables$Tape", "bytes", "[I", true)
  | _ => ("MinimalTables$Tape", "length", "I", false)
def tyX10 : Nat → FieldType := fun k => match k with
  | 0 => .array .int
  | _ => .int
theorem nmX10 : ∀ a, a < 2 → ∀ b, b < 2 → a ≠ b → (TX10 a).2.1 ≠ (TX10 b).2.1 := by decide +kernel
theorem tyX10_ok : ∀ k, k < 2 → parseFieldDescriptor (TX10 k).2.2.1 = some (tyX10 k) := by decide +kernel
def RX11 : String := "MinimalTables"
def TX11 : u_T := fun k => match k with
  | 0 => ("MinimalTables", "tape", "LMinimalTables$Tape;", true)
  | 1 => ("MinimalTables", "grammar", "LMinimalTables$Grammar;", true)
  | 2 => ("MinimalTables", "sentences", "LMinimalTables$Sentences;", true)
  | 3 => ("MinimalTables", "facts", "LMinimalTables$Facts;", true)
  | 4 => ("MinimalTables", "history", "LMinimalTables$History;", true)
  | 5 => ("MinimalTables", "builder", "LMinimalTables$Builder;", true)
  | 6 => ("MinimalTables", "automata", "[LMinimalTables$Automaton;", true)
  | 7 => ("MinimalTables", "actions", "[LMinimalTables$Actions;", true)
  | 8 => ("MinimalTables", "reading", "LMinimalTables$Reading;", true)
  | _ => ("MinimalTables", "draw", "LMinimalTables$Draw;", true)
def tyX11 : Nat → FieldType := fun k => match k with
  | 0 => .object "MinimalTables$Tape"
  | 1 => .object "MinimalTables$Grammar"
  | 2 => .object "MinimalTables$Sentences"
  | 3 => .object "MinimalTables$Facts"
  | 4 => .object "MinimalTables$History"
  | 5 => .object "MinimalTables$Builder"
  | 6 => .array (.object "MinimalTables$Automaton")
  | 7 => .array (.object "MinimalTables$Actions")
  | 8 => .object "MinimalTables$Reading"
  | _ => .object "MinimalTables$Draw"
theorem nmX11 : ∀ a, a < 10 → ∀ b, b < 10 → a ≠ b → (TX11 a).2.1 ≠ (TX11 b).2.1 := by decide +kernel
theorem tyX11_ok : ∀ k, k < 10 → parseFieldDescriptor (TX11 k).2.2.1 = some (tyX11 k) := by decide +kernel
def RX12 : String := "MinimalTablesModel"
def TX12 : u_T := fun k => match k with
  | 0 => ("MinimalTablesModel", "thrown", "I", false)
  | 1 => ("MinimalTablesModel", "tape", "[I", true)
  | 2 => ("MinimalTablesModel", "size", "I", false)
  | 3 => ("MinimalTablesModel", "at", "I", false)
  | 4 => ("MinimalTablesModel", "wrong", "I", false)
  | 5 => ("MinimalTablesModel", "readLeft", "[I", true)
  | 6 => ("MinimalTablesModel", "readLong", "[I", true)
  | 7 => ("MinimalTablesModel", "readLetter", "[I", true)
  | 8 => ("MinimalTablesModel", "readRules", "I", false)
  | 9 => ("MinimalTablesModel", "readNames", "I", false)
  | 10 => ("MinimalTablesModel", "readLefts", "I", false)
  | 11 => ("MinimalTablesModel", "readSigns", "I", false)
  | 12 => ("MinimalTablesModel", "sentence", "[I", true)
  | 13 => ("MinimalTablesModel", "sentenceLong", "[I", true)
  | 14 => ("MinimalTablesModel", "sentences", "I", false)
  | 15 => ("MinimalTablesModel", "rules", "I", false)
  | 16 => ("MinimalTablesModel", "names", "I", false)
  | 17 => ("MinimalTablesModel", "signs", "I", false)
  | 18 => ("MinimalTablesModel", "left", "[I", true)
  | 19 => ("MinimalTablesModel", "longOf", "[I", true)
  | 20 => ("MinimalTablesModel", "letter", "[I", true)
  | 21 => ("MinimalTablesModel", "nameByte", "[I", true)
  | 22 => ("MinimalTablesModel", "signByte", "[I", true)
  | 23 => ("MinimalTablesModel", "out", "I", false)
  | 24 => ("MinimalTablesModel", "preferring", "I", false)
  | 25 => ("MinimalTablesModel", "empty", "I", false)
  | 26 => ("MinimalTablesModel", "first", "[I", true)
  | 27 => ("MinimalTablesModel", "follow", "[I", true)
  | 28 => ("MinimalTablesModel", "shortest", "[I", true)
  | 29 => ("MinimalTablesModel", "areSetsLaid", "Z", false)
  | 30 => ("MinimalTablesModel", "isLaid", "[Z", true)
  | 31 => ("MinimalTablesModel", "trees", "[I", true)
  | 32 => ("MinimalTablesModel", "partly", "[I", true)
  | 33 => ("MinimalTablesModel", "partlyNext", "[I", true)
  | 34 => ("MinimalTablesModel", "reaches", "[I", true)
  | 35 => ("MinimalTablesModel", "keptOut", "[I", true)
  | 36 => ("MinimalTablesModel", "keptPreferring", "[I", true)
  | 37 => ("MinimalTablesModel", "acts", "I", false)
  | 38 => ("MinimalTablesModel", "kernels", "[I", true)
  | 39 => ("MinimalTablesModel", "closures", "[I", true)
  | 40 => ("MinimalTablesModel", "goes", "[I", true)
  | 41 => ("MinimalTablesModel", "actions", "[I", true)
  | 42 => ("MinimalTablesModel", "clashes", "[I", true)
  | 43 => ("MinimalTablesModel", "defaults", "[I", true)
  | 44 => ("MinimalTablesModel", "many", "[I", true)
  | 45 => ("MinimalTablesModel", "next", "[I", true)
  | 46 => ("MinimalTablesModel", "queue", "[I", true)
  | 47 => ("MinimalTablesModel", "isQueued", "[Z", true)
  | 48 => ("MinimalTablesModel", "queued", "I", false)
  | 49 => ("MinimalTablesModel", "numbered", "[I", true)
  | 50 => ("MinimalTablesModel", "inOrder", "[I", true)
  | 51 => ("MinimalTablesModel", "copyRow", "[I", true)
  | 52 => ("MinimalTablesModel", "copyGoes", "[I", true)
  | 53 => ("MinimalTablesModel", "pathFrom", "[I", true)
  | 54 => ("MinimalTablesModel", "pathBy", "[I", true)
  | 55 => ("MinimalTablesModel", "pathRow", "[I", true)
  | 56 => ("MinimalTablesModel", "reading", "[I", true)
  | 57 => ("MinimalTablesModel", "readLength", "I", false)
  | 58 => ("MinimalTablesModel", "row", "[I", true)
  | 59 => ("MinimalTablesModel", "below", "[I", true)
  | 60 => ("MinimalTablesModel", "start", "[I", true)
  | 61 => ("MinimalTablesModel", "height", "[I", true)
  | 62 => ("MinimalTablesModel", "rowMany", "I", false)
  | 63 => ("MinimalTablesModel", "steps", "I", false)
  | 64 => ("MinimalTablesModel", "read", "I", false)
  | 65 => ("MinimalTablesModel", "reducedMany", "I", false)
  | 66 => ("MinimalTablesModel", "reducedRule", "[I", true)
  | 67 => ("MinimalTablesModel", "reducedBelow", "[I", true)
  | 68 => ("MinimalTablesModel", "reducedStart", "[I", true)
  | 69 => ("MinimalTablesModel", "reducedHeight", "[I", true)
  | 70 => ("MinimalTablesModel", "lastRow", "[I", true)
  | 71 => ("MinimalTablesModel", "lastMany", "I", false)
  | 72 => ("MinimalTablesModel", "word", "[I", true)
  | 73 => ("MinimalTablesModel", "wordLong", "I", false)
  | 74 => ("MinimalTablesModel", "draws", "J", false)
  | 75 => ("MinimalTablesModel", "imageOut", "I", false)
  | 76 => ("MinimalTablesModel", "imagePreferring", "I", false)
  | _ => ("MinimalTablesModel", "hasImage", "Z", false)
def tyX12 : Nat → FieldType := fun k => match k with
  | 0 => .int
  | 1 => .array .int
  | 2 => .int
  | 3 => .int
  | 4 => .int
  | 5 => .array .int
  | 6 => .array .int
  | 7 => .array .int
  | 8 => .int
  | 9 => .int
  | 10 => .int
  | 11 => .int
  | 12 => .array .int
  | 13 => .array .int
  | 14 => .int
  | 15 => .int
  | 16 => .int
  | 17 => .int
  | 18 => .array .int
  | 19 => .array .int
  | 20 => .array .int
  | 21 => .array .int
  | 22 => .array .int
  | 23 => .int
  | 24 => .int
  | 25 => .int
  | 26 => .array .int
  | 27 => .array .int
  | 28 => .array .int
  | 29 => .boolean
  | 30 => .array .boolean
  | 31 => .array .int
  | 32 => .array .int
  | 33 => .array .int
  | 34 => .array .int
  | 35 => .array .int
  | 36 => .array .int
  | 37 => .int
  | 38 => .array .int
  | 39 => .array .int
  | 40 => .array .int
  | 41 => .array .int
  | 42 => .array .int
  | 43 => .array .int
  | 44 => .array .int
  | 45 => .array .int
  | 46 => .array .int
  | 47 => .array .boolean
  | 48 => .int
  | 49 => .array .int
  | 50 => .array .int
  | 51 => .array .int
  | 52 => .array .int
  | 53 => .array .int
  | 54 => .array .int
  | 55 => .array .int
  | 56 => .array .int
  | 57 => .int
  | 58 => .array .int
  | 59 => .array .int
  | 60 => .array .int
  | 61 => .array .int
  | 62 => .int
  | 63 => .int
  | 64 => .int
  | 65 => .int
  | 66 => .array .int
  | 67 => .array .int
  | 68 => .array .int
  | 69 => .array .int
  | 70 => .array .int
  | 71 => .int
  | 72 => .array .int
  | 73 => .int
  | 74 => .long
  | 75 => .int
  | 76 => .int
  | _ => .boolean
theorem nmX12 : ∀ a, a < 78 → ∀ b, b < 78 → a ≠ b → (TX12 a).2.1 ≠ (TX12 b).2.1 := by decide +kernel
theorem tyX12_ok : ∀ k, k < 78 → parseFieldDescriptor (TX12 k).2.2.1 = some (tyX12 k) := by decide +kernel
def RJ6 : String := "java/lang/Integer"
def RJ7 : String := "java/util/Arrays"
abbrev cX0_init : ByteArray := prog_2_method_1_code
def yX0_init : MethodName := ⟨RX0, "<init>", "(LMinimalTables$Grammar;LMinimalTables$Facts;LMinimalTables$Automaton;)V"⟩
abbrev cX0_fill : ByteArray := prog_2_method_2_code
def yX0_fill : MethodName := ⟨RX0, "fill", "()V"⟩
abbrev cX0_weigh : ByteArray := prog_2_method_3_code
def yX0_weigh : MethodName := ⟨RX0, "weigh", "(IZ)V"⟩
abbrev cX0_followOf : ByteArray := prog_2_method_4_code
def yX0_followOf : MethodName := ⟨RX0, "followOf", "(I)I"⟩
abbrev cX0_weighRule : ByteArray := prog_2_method_5_code
def yX0_weighRule : MethodName := ⟨RX0, "weighRule", "(II)V"⟩
abbrev cX0_settled : ByteArray := prog_2_method_6_code
def yX0_settled : MethodName := ⟨RX0, "settled", "(II)I"⟩
abbrev cX0_mostReduced : ByteArray := prog_2_method_7_code
def yX0_mostReduced : MethodName := ⟨RX0, "mostReduced", "(I)I"⟩
abbrev cX0_told : ByteArray := prog_2_method_8_code
def yX0_told : MethodName := ⟨RX0, "told", "(IIZ)I"⟩
abbrev cX0_across : ByteArray := prog_2_method_9_code
def yX0_across : MethodName := ⟨RX0, "across", "(III)I"⟩
abbrev cX0_followsSettle : ByteArray := prog_2_method_10_code
def yX0_followsSettle : MethodName := ⟨RX0, "followsSettle", "()Z"⟩
abbrev cX0_conflictsInAll : ByteArray := prog_2_method_11_code
def yX0_conflictsInAll : MethodName := ⟨RX0, "conflictsInAll", "()I"⟩
abbrev cX0_statesInConflict : ByteArray := prog_2_method_12_code
def yX0_statesInConflict : MethodName := ⟨RX0, "statesInConflict", "()I"⟩
abbrev cX0_statesWithDefault : ByteArray := prog_2_method_13_code
def yX0_statesWithDefault : MethodName := ⟨RX0, "statesWithDefault", "()I"⟩
abbrev cX0_actionsInAll : ByteArray := prog_2_method_14_code
def yX0_actionsInAll : MethodName := ⟨RX0, "actionsInAll", "()I"⟩
abbrev cX1_init : ByteArray := prog_3_method_1_code
def yX1_init : MethodName := ⟨RX1, "<init>", "(ILMinimalTables$Grammar;LMinimalTables$Facts;)V"⟩
abbrev cX1_add : ByteArray := prog_3_method_2_code
def yX1_add : MethodName := ⟨RX1, "add", "(LMinimalTables$Kernel;I)I"⟩
abbrev cX1_kernelIn : ByteArray := prog_3_method_3_code
def yX1_kernelIn : MethodName := ⟨RX1, "kernelIn", "(I)LMinimalTables$Kernel;"⟩
abbrev cX1_slotWithCore : ByteArray := prog_3_method_4_code
def yX1_slotWithCore : MethodName := ⟨RX1, "slotWithCore", "(LMinimalTables$Kernel;)I"⟩
abbrev cX1_slotFor : ByteArray := prog_3_method_5_code
def yX1_slotFor : MethodName := ⟨RX1, "slotFor", "(LMinimalTables$Kernel;II)I"⟩
abbrev cX1_goalOf : ByteArray := prog_3_method_6_code
def yX1_goalOf : MethodName := ⟨RX1, "goalOf", "(II)I"⟩
abbrev cX1_setGoal : ByteArray := prog_3_method_7_code
def yX1_setGoal : MethodName := ⟨RX1, "setGoal", "(III)V"⟩
abbrev cX1_close : ByteArray := prog_3_method_8_code
def yX1_close : MethodName := ⟨RX1, "close", "(I)V"⟩
abbrev cX1_open : ByteArray := prog_3_method_9_code
def yX1_open : MethodName := ⟨RX1, "open", "(IIII)Z"⟩
abbrev cX1_openLookIn : ByteArray := prog_3_method_10_code
def yX1_openLookIn : MethodName := ⟨RX1, "openLookIn", "(II)I"⟩
abbrev cX1_number : ByteArray := prog_3_method_11_code
def yX1_number : MethodName := ⟨RX1, "number", "()V"⟩
abbrev cX1_addNumber : ByteArray := prog_3_method_12_code
def yX1_addNumber : MethodName := ⟨RX1, "addNumber", "(III)V"⟩
abbrev cX1_hasState : ByteArray := prog_3_method_13_code
def yX1_hasState : MethodName := ⟨RX1, "hasState", "(I)Z"⟩
abbrev cX1_kernelOf : ByteArray := prog_3_method_14_code
def yX1_kernelOf : MethodName := ⟨RX1, "kernelOf", "(I)LMinimalTables$Kernel;"⟩
abbrev cX1_openLook : ByteArray := prog_3_method_15_code
def yX1_openLook : MethodName := ⟨RX1, "openLook", "(II)I"⟩
abbrev cX1_goal : ByteArray := prog_3_method_16_code
def yX1_goal : MethodName := ⟨RX1, "goal", "(II)I"⟩
abbrev cX1_lettersFrom : ByteArray := prog_3_method_17_code
def yX1_lettersFrom : MethodName := ⟨RX1, "lettersFrom", "(I)I"⟩
abbrev cX1_closureSize : ByteArray := prog_3_method_18_code
def yX1_closureSize : MethodName := ⟨RX1, "closureSize", "(I)I"⟩
abbrev cX1_pathLetter : ByteArray := prog_3_method_19_code
def yX1_pathLetter : MethodName := ⟨RX1, "pathLetter", "(II)I"⟩
abbrev cX1_itemsOfKernels : ByteArray := prog_3_method_20_code
def yX1_itemsOfKernels : MethodName := ⟨RX1, "itemsOfKernels", "()I"⟩
abbrev cX1_splitCores : ByteArray := prog_3_method_21_code
def yX1_splitCores : MethodName := ⟨RX1, "splitCores", "()I"⟩
abbrev cX1_mostOfOneCore : ByteArray := prog_3_method_22_code
def yX1_mostOfOneCore : MethodName := ⟨RX1, "mostOfOneCore", "()I"⟩
abbrev cX1_countSharing : ByteArray := prog_3_method_23_code
def yX1_countSharing : MethodName := ⟨RX1, "countSharing", "()V"⟩
abbrev cX2_init : ByteArray := prog_4_method_1_code
def yX2_init : MethodName := ⟨RX2, "<init>", "(LMinimalTables$Grammar;)V"⟩
abbrev cX2_build : ByteArray := prog_4_method_2_code
def yX2_build : MethodName := ⟨RX2, "build", "(LMinimalTables$Automaton;)V"⟩
abbrev cX2_enqueue : ByteArray := prog_4_method_3_code
def yX2_enqueue : MethodName := ⟨RX2, "enqueue", "(I)V"⟩
abbrev cX2_dequeue : ByteArray := prog_4_method_4_code
def yX2_dequeue : MethodName := ⟨RX2, "dequeue", "()I"⟩
abbrev cX2_expand : ByteArray := prog_4_method_5_code
def yX2_expand : MethodName := ⟨RX2, "expand", "(LMinimalTables$Automaton;I)V"⟩
abbrev cX2_findNext : ByteArray := prog_4_method_6_code
def yX2_findNext : MethodName := ⟨RX2, "findNext", "(LMinimalTables$Automaton;II)V"⟩
abbrev cX2_link : ByteArray := prog_4_method_7_code
def yX2_link : MethodName := ⟨RX2, "link", "(LMinimalTables$Automaton;II)V"⟩
abbrev cX3_init : ByteArray := prog_5_method_1_code
def yX3_init : MethodName := ⟨RX3, "<init>", "(LMinimalTables$Grammar;LMinimalTables$Facts;)V"⟩
abbrev cX3_make : ByteArray := prog_5_method_2_code
def yX3_make : MethodName := ⟨RX3, "make", "(J)Z"⟩
abbrev cX3_drawnRule : ByteArray := prog_5_method_3_code
def yX3_drawnRule : MethodName := ⟨RX3, "drawnRule", "(I)I"⟩
abbrev cX3_isRuleOf : ByteArray := prog_5_method_4_code
def yX3_isRuleOf : MethodName := ⟨RX3, "isRuleOf", "(II)Z"⟩
abbrev cX3_shortestRule : ByteArray := prog_5_method_5_code
def yX3_shortestRule : MethodName := ⟨RX3, "shortestRule", "(I)I"⟩
abbrev cX3_replace : ByteArray := prog_5_method_6_code
def yX3_replace : MethodName := ⟨RX3, "replace", "(II)V"⟩
abbrev cX4_init : ByteArray := prog_6_method_1_code
def yX4_init : MethodName := ⟨RX4, "<init>", "(LMinimalTables$Grammar;)V"⟩
abbrev cX4_find : ByteArray := prog_6_method_2_code
def yX4_find : MethodName := ⟨RX4, "find", "()V"⟩
abbrev cX4_isEmptyName : ByteArray := prog_6_method_3_code
def yX4_isEmptyName : MethodName := ⟨RX4, "isEmptyName", "(I)Z"⟩
abbrev cX4_isEmptyLetter : ByteArray := prog_6_method_4_code
def yX4_isEmptyLetter : MethodName := ⟨RX4, "isEmptyLetter", "(I)Z"⟩
abbrev cX4_findEmpty : ByteArray := prog_6_method_5_code
def yX4_findEmpty : MethodName := ⟨RX4, "findEmpty", "()V"⟩
abbrev cX4_emptyAhead : ByteArray := prog_6_method_6_code
def yX4_emptyAhead : MethodName := ⟨RX4, "emptyAhead", "(I)I"⟩
abbrev cX4_findFirst : ByteArray := prog_6_method_7_code
def yX4_findFirst : MethodName := ⟨RX4, "findFirst", "()V"⟩
abbrev cX4_findRest : ByteArray := prog_6_method_8_code
def yX4_findRest : MethodName := ⟨RX4, "findRest", "(I)V"⟩
abbrev cX4_add : ByteArray := prog_6_method_9_code
def yX4_add : MethodName := ⟨RX4, "add", "([III)Z"⟩
abbrev cX4_findFollow : ByteArray := prog_6_method_10_code
def yX4_findFollow : MethodName := ⟨RX4, "findFollow", "()V"⟩
abbrev cX4_addFollows : ByteArray := prog_6_method_11_code
def yX4_addFollows : MethodName := ⟨RX4, "addFollows", "(I)Z"⟩
abbrev cX4_looksBehind : ByteArray := prog_6_method_12_code
def yX4_looksBehind : MethodName := ⟨RX4, "looksBehind", "(III)I"⟩
abbrev cX4_findShortest : ByteArray := prog_6_method_13_code
def yX4_findShortest : MethodName := ⟨RX4, "findShortest", "()V"⟩
abbrev cX4_shortestSum : ByteArray := prog_6_method_14_code
def yX4_shortestSum : MethodName := ⟨RX4, "shortestSum", "(I)I"⟩
abbrev cX4_findLeft : ByteArray := prog_6_method_15_code
def yX4_findLeft : MethodName := ⟨RX4, "findLeft", "()V"⟩
abbrev cX4_findUseful : ByteArray := prog_6_method_16_code
def yX4_findUseful : MethodName := ⟨RX4, "findUseful", "()V"⟩
abbrev cX4_findReached : ByteArray := prog_6_method_17_code
def yX4_findReached : MethodName := ⟨RX4, "findReached", "(Z)V"⟩
abbrev cX4_endingNames : ByteArray := prog_6_method_18_code
def yX4_endingNames : MethodName := ⟨RX4, "endingNames", "()I"⟩
abbrev cX4_rulesAreSelected : ByteArray := prog_6_method_19_code
def yX4_rulesAreSelected : MethodName := ⟨RX4, "rulesAreSelected", "()Z"⟩
abbrev cX4_treesOf : ByteArray := prog_6_method_20_code
def yX4_treesOf : MethodName := ⟨RX4, "treesOf", "(III)I"⟩
abbrev cX4_treesAt : ByteArray := prog_6_method_21_code
def yX4_treesAt : MethodName := ⟨RX4, "treesAt", "(II)I"⟩
abbrev cX4_countTrees : ByteArray := prog_6_method_22_code
def yX4_countTrees : MethodName := ⟨RX4, "countTrees", "()V"⟩
abbrev cX4_addWays : ByteArray := prog_6_method_23_code
def yX4_addWays : MethodName := ⟨RX4, "addWays", "(I)V"⟩
abbrev cX4_countWays : ByteArray := prog_6_method_24_code
def yX4_countWays : MethodName := ⟨RX4, "countWays", "(II)V"⟩
abbrev cX4_joinWays : ByteArray := prog_6_method_25_code
def yX4_joinWays : MethodName := ⟨RX4, "joinWays", "(I)V"⟩
abbrev cX5_init : ByteArray := prog_7_method_1_code
def yX5_init : MethodName := ⟨RX5, "<init>", "()V"⟩
abbrev cX5_codeOf : ByteArray := prog_7_method_2_code
def yX5_codeOf : MethodName := ⟨RX5, "codeOf", "(I)I"⟩
abbrev cX5_isIn : ByteArray := prog_7_method_3_code
def yX5_isIn : MethodName := ⟨RX5, "isIn", "(I)Z"⟩
abbrev cX5_doesPrefer : ByteArray := prog_7_method_4_code
def yX5_doesPrefer : MethodName := ⟨RX5, "doesPrefer", "(I)Z"⟩
abbrev cX5_isUnit : ByteArray := prog_7_method_5_code
def yX5_isUnit : MethodName := ⟨RX5, "isUnit", "(I)Z"⟩
abbrev cX5_letterAt : ByteArray := prog_7_method_6_code
def yX5_letterAt : MethodName := ⟨RX5, "letterAt", "(II)I"⟩
abbrev cX5_endBit : ByteArray := prog_7_method_7_code
def yX5_endBit : MethodName := ⟨RX5, "endBit", "()I"⟩
abbrev cX5_load : ByteArray := prog_7_method_8_code
def yX5_load : MethodName := ⟨RX5, "load", "(LMinimalTables$Tape;)V"⟩
abbrev cX5_numberNames : ByteArray := prog_7_method_9_code
def yX5_numberNames : MethodName := ⟨RX5, "numberNames", "(LMinimalTables$Tape;)V"⟩
abbrev cX5_numberSigns : ByteArray := prog_7_method_10_code
def yX5_numberSigns : MethodName := ⟨RX5, "numberSigns", "(LMinimalTables$Tape;)V"⟩
abbrev cX5_addRule : ByteArray := prog_7_method_11_code
def yX5_addRule : MethodName := ⟨RX5, "addRule", "(I)V"⟩
abbrev cX5_addLetter : ByteArray := prog_7_method_12_code
def yX5_addLetter : MethodName := ⟨RX5, "addLetter", "(I)V"⟩
abbrev cX5_addOuterRule : ByteArray := prog_7_method_13_code
def yX5_addOuterRule : MethodName := ⟨RX5, "addOuterRule", "()V"⟩
abbrev cX6_init : ByteArray := prog_8_method_1_code
def yX6_init : MethodName := ⟨RX6, "<init>", "()V"⟩
abbrev cX6_clear : ByteArray := prog_8_method_2_code
def yX6_clear : MethodName := ⟨RX6, "clear", "()V"⟩
abbrev cX6_add : ByteArray := prog_8_method_3_code
def yX6_add : MethodName := ⟨RX6, "add", "(I)V"⟩
abbrev cX6_take : ByteArray := prog_8_method_4_code
def yX6_take : MethodName := ⟨RX6, "take", "()I"⟩
abbrev cX7_init : ByteArray := prog_9_method_1_code
def yX7_init : MethodName := ⟨RX7, "<init>", "()V"⟩
abbrev cX7_put : ByteArray := prog_9_method_2_code
def yX7_put : MethodName := ⟨RX7, "put", "(II)V"⟩
abbrev cX7_copy : ByteArray := prog_9_method_3_code
def yX7_copy : MethodName := ⟨RX7, "copy", "(LMinimalTables$Kernel;)V"⟩
abbrev cX7_hasCoreOf : ByteArray := prog_9_method_4_code
def yX7_hasCoreOf : MethodName := ⟨RX7, "hasCoreOf", "(LMinimalTables$Kernel;)Z"⟩
abbrev cX7_hasLooksOf : ByteArray := prog_9_method_5_code
def yX7_hasLooksOf : MethodName := ⟨RX7, "hasLooksOf", "(LMinimalTables$Kernel;)Z"⟩
abbrev cX7_isCompatible : ByteArray := prog_9_method_6_code
def yX7_isCompatible : MethodName := ⟨RX7, "isCompatible", "(LMinimalTables$Kernel;)Z"⟩
abbrev cX7_join : ByteArray := prog_9_method_7_code
def yX7_join : MethodName := ⟨RX7, "join", "(LMinimalTables$Kernel;)Z"⟩
abbrev cX7_lookOf : ByteArray := prog_9_method_8_code
def yX7_lookOf : MethodName := ⟨RX7, "lookOf", "(I)I"⟩
abbrev cX8_init : ByteArray := prog_10_method_1_code
def yX8_init : MethodName := ⟨RX8, "<init>", "(LMinimalTables$Grammar;)V"⟩
abbrev cX8_put : ByteArray := prog_10_method_2_code
def yX8_put : MethodName := ⟨RX8, "put", "(I)V"⟩
abbrev cX8_run : ByteArray := prog_10_method_3_code
def yX8_run : MethodName := ⟨RX8, "run", "(LMinimalTables$Actions;I)V"⟩
abbrev cX8_keepRow : ByteArray := prog_10_method_4_code
def yX8_keepRow : MethodName := ⟨RX8, "keepRow", "()V"⟩
abbrev cX8_push : ByteArray := prog_10_method_5_code
def yX8_push : MethodName := ⟨RX8, "push", "(III)V"⟩
abbrev cX8_step : ByteArray := prog_10_method_6_code
def yX8_step : MethodName := ⟨RX8, "step", "(I)I"⟩
abbrev cX8_shift : ByteArray := prog_10_method_7_code
def yX8_shift : MethodName := ⟨RX8, "shift", "(I)I"⟩
abbrev cX8_reduce : ByteArray := prog_10_method_8_code
def yX8_reduce : MethodName := ⟨RX8, "reduce", "(II)I"⟩
abbrev cX8_note : ByteArray := prog_10_method_9_code
def yX8_note : MethodName := ⟨RX8, "note", "(III)V"⟩
abbrev cX8_expected : ByteArray := prog_10_method_10_code
def yX8_expected : MethodName := ⟨RX8, "expected", "()I"⟩
abbrev cX8_isTaken : ByteArray := prog_10_method_11_code
def yX8_isTaken : MethodName := ⟨RX8, "isTaken", "(I)Z"⟩
abbrev cX8_inputAsNumber : ByteArray := prog_10_method_12_code
def yX8_inputAsNumber : MethodName := ⟨RX8, "inputAsNumber", "()I"⟩
abbrev cX8_nextInput : ByteArray := prog_10_method_13_code
def yX8_nextInput : MethodName := ⟨RX8, "nextInput", "(I)Z"⟩
abbrev cX9_init : ByteArray := prog_11_method_1_code
def yX9_init : MethodName := ⟨RX9, "<init>", "()V"⟩
abbrev cX9_open : ByteArray := prog_11_method_2_code
def yX9_open : MethodName := ⟨RX9, "open", "()V"⟩
abbrev cX9_put : ByteArray := prog_11_method_3_code
def yX9_put : MethodName := ⟨RX9, "put", "(I)V"⟩
abbrev cX9_letterAt : ByteArray := prog_11_method_4_code
def yX9_letterAt : MethodName := ⟨RX9, "letterAt", "(II)I"⟩
abbrev cX10_init : ByteArray := prog_12_method_1_code
def yX10_init : MethodName := ⟨RX10, "<init>", "()V"⟩
abbrev cX10_solid : ByteArray := prog_12_method_2_code
def yX10_solid : MethodName := ⟨RX10, "solid", "(I)I"⟩
abbrev cX10_put : ByteArray := prog_12_method_3_code
def yX10_put : MethodName := ⟨RX10, "put", "(I)V"⟩
abbrev cX10_isNameByte : ByteArray := prog_12_method_4_code
def yX10_isNameByte : MethodName := ⟨RX10, "isNameByte", "(I)Z"⟩
abbrev cX10_isSignByte : ByteArray := prog_12_method_5_code
def yX10_isSignByte : MethodName := ⟨RX10, "isSignByte", "(I)Z"⟩
abbrev cX10_sentenceFault : ByteArray := prog_12_method_6_code
def yX10_sentenceFault : MethodName := ⟨RX10, "sentenceFault", "()I"⟩
abbrev cX10_grammarFault : ByteArray := prog_12_method_7_code
def yX10_grammarFault : MethodName := ⟨RX10, "grammarFault", "()I"⟩
abbrev cX10_areMany : ByteArray := prog_12_method_8_code
def yX10_areMany : MethodName := ⟨RX10, "areMany", "(II)Z"⟩
abbrev cX11_init : ByteArray := prog_1_method_1_code
def yX11_init : MethodName := ⟨RX11, "<init>", "()V"⟩
abbrev cX11_feed : ByteArray := prog_1_method_2_code
def yX11_feed : MethodName := ⟨RX11, "feed", "(IIIII)I"⟩
abbrev cX11_end : ByteArray := prog_1_method_3_code
def yX11_end : MethodName := ⟨RX11, "end", "(I)Z"⟩
abbrev cX11_fault : ByteArray := prog_1_method_4_code
def yX11_fault : MethodName := ⟨RX11, "fault", "(I)I"⟩
abbrev cX11_text : ByteArray := prog_1_method_5_code
def yX11_text : MethodName := ⟨RX11, "text", "(I)I"⟩
abbrev cX11_takeGrammar : ByteArray := prog_1_method_6_code
def yX11_takeGrammar : MethodName := ⟨RX11, "takeGrammar", "()I"⟩
abbrev cX11_takeSentence : ByteArray := prog_1_method_7_code
def yX11_takeSentence : MethodName := ⟨RX11, "takeSentence", "()I"⟩
abbrev cX11_rule : ByteArray := prog_1_method_8_code
def yX11_rule : MethodName := ⟨RX11, "rule", "(II)I"⟩
abbrev cX11_isRule : ByteArray := prog_1_method_9_code
def yX11_isRule : MethodName := ⟨RX11, "isRule", "(I)Z"⟩
abbrev cX11_letter : ByteArray := prog_1_method_10_code
def yX11_letter : MethodName := ⟨RX11, "letter", "(II)I"⟩
abbrev cX11_sign : ByteArray := prog_1_method_11_code
def yX11_sign : MethodName := ⟨RX11, "sign", "(II)I"⟩
abbrev cX11_isSentence : ByteArray := prog_1_method_12_code
def yX11_isSentence : MethodName := ⟨RX11, "isSentence", "(I)Z"⟩
abbrev cX11_name : ByteArray := prog_1_method_13_code
def yX11_name : MethodName := ⟨RX11, "name", "(II)I"⟩
abbrev cX11_isName : ByteArray := prog_1_method_14_code
def yX11_isName : MethodName := ⟨RX11, "isName", "(I)Z"⟩
abbrev cX11_trees : ByteArray := prog_1_method_15_code
def yX11_trees : MethodName := ⟨RX11, "trees", "(III)I"⟩
abbrev cX11_names : ByteArray := prog_1_method_16_code
def yX11_names : MethodName := ⟨RX11, "names", "(I)I"⟩
abbrev cX11_toggle : ByteArray := prog_1_method_17_code
def yX11_toggle : MethodName := ⟨RX11, "toggle", "(I)I"⟩
abbrev cX11_prefer : ByteArray := prog_1_method_18_code
def yX11_prefer : MethodName := ⟨RX11, "prefer", "(I)I"⟩
abbrev cX11_isEnding : ByteArray := prog_1_method_19_code
def yX11_isEnding : MethodName := ⟨RX11, "isEnding", "(I)Z"⟩
abbrev cX11_undo : ByteArray := prog_1_method_20_code
def yX11_undo : MethodName := ⟨RX11, "undo", "()I"⟩
abbrev cX11_flip : ByteArray := prog_1_method_21_code
def yX11_flip : MethodName := ⟨RX11, "flip", "(I)V"⟩
abbrev cX11_rulesChanged : ByteArray := prog_1_method_22_code
def yX11_rulesChanged : MethodName := ⟨RX11, "rulesChanged", "()V"⟩
abbrev cX11_prefersChanged : ByteArray := prog_1_method_23_code
def yX11_prefersChanged : MethodName := ⟨RX11, "prefersChanged", "()V"⟩
abbrev cX11_states : ByteArray := prog_1_method_24_code
def yX11_states : MethodName := ⟨RX11, "states", "(I)I"⟩
abbrev cX11_isThere : ByteArray := prog_1_method_25_code
def yX11_isThere : MethodName := ⟨RX11, "isThere", "(I)Z"⟩
abbrev cX11_actionsOf : ByteArray := prog_1_method_26_code
def yX11_actionsOf : MethodName := ⟨RX11, "actionsOf", "(I)LMinimalTables$Actions;"⟩
abbrev cX11_look : ByteArray := prog_1_method_27_code
def yX11_look : MethodName := ⟨RX11, "look", "(IIIIZ)I"⟩
abbrev cX11_state : ByteArray := prog_1_method_28_code
def yX11_state : MethodName := ⟨RX11, "state", "(III)I"⟩
abbrev cX11_goesTo : ByteArray := prog_1_method_29_code
def yX11_goesTo : MethodName := ⟨RX11, "goesTo", "(III)I"⟩
abbrev cX11_action : ByteArray := prog_1_method_30_code
def yX11_action : MethodName := ⟨RX11, "action", "(IIIZ)I"⟩
abbrev cX11_bridge : ByteArray := prog_1_method_31_code
def yX11_bridge : MethodName := ⟨RX11, "bridge", "(IIII)I"⟩
abbrev cX11_counts : ByteArray := prog_1_method_32_code
def yX11_counts : MethodName := ⟨RX11, "counts", "(II)I"⟩
abbrev cX11_path : ByteArray := prog_1_method_33_code
def yX11_path : MethodName := ⟨RX11, "path", "(III)I"⟩
abbrev cX11_reads : ByteArray := prog_1_method_34_code
def yX11_reads : MethodName := ⟨RX11, "reads", "(IIII)I"⟩
abbrev cX11_readsSentence : ByteArray := prog_1_method_35_code
def yX11_readsSentence : MethodName := ⟨RX11, "readsSentence", "(III)Z"⟩
abbrev cX11_reduced : ByteArray := prog_1_method_36_code
def yX11_reduced : MethodName := ⟨RX11, "reduced", "(IIII)I"⟩
abbrev cX11_expects : ByteArray := prog_1_method_37_code
def yX11_expects : MethodName := ⟨RX11, "expects", "(II)I"⟩
abbrev cX11_mends : ByteArray := prog_1_method_38_code
def yX11_mends : MethodName := ⟨RX11, "mends", "(II)I"⟩
abbrev cX11_mendAt : ByteArray := prog_1_method_39_code
def yX11_mendAt : MethodName := ⟨RX11, "mendAt", "(LMinimalTables$Actions;II)I"⟩
abbrev cX11_endsWellChanged : ByteArray := prog_1_method_40_code
def yX11_endsWellChanged : MethodName := ⟨RX11, "endsWellChanged", "(LMinimalTables$Actions;IIII)Z"⟩
abbrev cX11_tree : ByteArray := prog_1_method_41_code
def yX11_tree : MethodName := ⟨RX11, "tree", "(IIII)I"⟩
abbrev cX11_sorts : ByteArray := prog_1_method_42_code
def yX11_sorts : MethodName := ⟨RX11, "sorts", "()I"⟩
abbrev cX11_same : ByteArray := prog_1_method_43_code
def yX11_same : MethodName := ⟨RX11, "same", "(III)I"⟩
abbrev cX11_firstByOneAlone : ByteArray := prog_1_method_44_code
def yX11_firstByOneAlone : MethodName := ⟨RX11, "firstByOneAlone", "(LMinimalTables$Actions;LMinimalTables$Actions;I)I"⟩
abbrev cX11_word : ByteArray := prog_1_method_45_code
def yX11_word : MethodName := ⟨RX11, "word", "(JI)I"⟩
abbrev cX11_keep : ByteArray := prog_1_method_46_code
def yX11_keep : MethodName := ⟨RX11, "keep", "(J)I"⟩
abbrev cX11_image : ByteArray := prog_1_method_47_code
def yX11_image : MethodName := ⟨RX11, "image", "()I"⟩
abbrev cX11_back : ByteArray := prog_1_method_48_code
def yX11_back : MethodName := ⟨RX11, "back", "()I"⟩
abbrev cX11_count : ByteArray := prog_1_method_49_code
def yX11_count : MethodName := ⟨RX11, "count", "(I)I"⟩
abbrev cX12_in : ByteArray := prog_14_method_1_code
def yX12_in : MethodName := ⟨RX12, "in", "(III)Z"⟩
abbrev cX12_has : ByteArray := prog_14_method_2_code
def yX12_has : MethodName := ⟨RX12, "has", "(II)Z"⟩
abbrev cX12_init : ByteArray := prog_14_method_3_code
def yX12_init : MethodName := ⟨RX12, "<init>", "()V"⟩
abbrev cX12_thrown : ByteArray := prog_14_method_4_code
def yX12_thrown : MethodName := ⟨RX12, "thrown", "()I"⟩
abbrev cX12_byteOf : ByteArray := prog_14_method_5_code
def yX12_byteOf : MethodName := ⟨RX12, "byteOf", "(IIIIII)I"⟩
abbrev cX12_feed : ByteArray := prog_14_method_6_code
def yX12_feed : MethodName := ⟨RX12, "feed", "(IIIII)I"⟩
abbrev cX12_end : ByteArray := prog_14_method_7_code
def yX12_end : MethodName := ⟨RX12, "end", "(I)Z"⟩
abbrev cX12_ahead : ByteArray := prog_14_method_8_code
def yX12_ahead : MethodName := ⟨RX12, "ahead", "()I"⟩
abbrev cX12_bad : ByteArray := prog_14_method_9_code
def yX12_bad : MethodName := ⟨RX12, "bad", "()V"⟩
abbrev cX12_isName : ByteArray := prog_14_method_10_code
def yX12_isName : MethodName := ⟨RX12, "isName", "(I)Z"⟩
abbrev cX12_isSign : ByteArray := prog_14_method_11_code
def yX12_isSign : MethodName := ⟨RX12, "isSign", "(I)Z"⟩
abbrev cX12_takeLetter : ByteArray := prog_14_method_12_code
def yX12_takeLetter : MethodName := ⟨RX12, "takeLetter", "(I)V"⟩
abbrev cX12_readRule : ByteArray := prog_14_method_13_code
def yX12_readRule : MethodName := ⟨RX12, "readRule", "()V"⟩
abbrev cX12_readGrammar : ByteArray := prog_14_method_14_code
def yX12_readGrammar : MethodName := ⟨RX12, "readGrammar", "()I"⟩
abbrev cX12_readSentence : ByteArray := prog_14_method_15_code
def yX12_readSentence : MethodName := ⟨RX12, "readSentence", "(I)I"⟩
abbrev cX12_fault : ByteArray := prog_14_method_16_code
def yX12_fault : MethodName := ⟨RX12, "fault", "(I)I"⟩
abbrev cX12_nameOf : ByteArray := prog_14_method_17_code
def yX12_nameOf : MethodName := ⟨RX12, "nameOf", "(I)I"⟩
abbrev cX12_signOf : ByteArray := prog_14_method_18_code
def yX12_signOf : MethodName := ⟨RX12, "signOf", "(I)I"⟩
abbrev cX12_takeGrammar : ByteArray := prog_14_method_19_code
def yX12_takeGrammar : MethodName := ⟨RX12, "takeGrammar", "()I"⟩
abbrev cX12_text : ByteArray := prog_14_method_20_code
def yX12_text : MethodName := ⟨RX12, "text", "(I)I"⟩
abbrev cX12_isRule : ByteArray := prog_14_method_21_code
def yX12_isRule : MethodName := ⟨RX12, "isRule", "(I)Z"⟩
abbrev cX12_isIn : ByteArray := prog_14_method_22_code
def yX12_isIn : MethodName := ⟨RX12, "isIn", "(I)Z"⟩
abbrev cX12_letterAt : ByteArray := prog_14_method_23_code
def yX12_letterAt : MethodName := ⟨RX12, "letterAt", "(II)I"⟩
abbrev cX12_rule : ByteArray := prog_14_method_24_code
def yX12_rule : MethodName := ⟨RX12, "rule", "(II)I"⟩
abbrev cX12_isUnit : ByteArray := prog_14_method_25_code
def yX12_isUnit : MethodName := ⟨RX12, "isUnit", "(I)Z"⟩
abbrev cX12_letter : ByteArray := prog_14_method_26_code
def yX12_letter : MethodName := ⟨RX12, "letter", "(II)I"⟩
abbrev cX12_sign : ByteArray := prog_14_method_27_code
def yX12_sign : MethodName := ⟨RX12, "sign", "(II)I"⟩
abbrev cX12_changed : ByteArray := prog_14_method_28_code
def yX12_changed : MethodName := ⟨RX12, "changed", "()V"⟩
abbrev cX12_isEmptyLetter : ByteArray := prog_14_method_29_code
def yX12_isEmptyLetter : MethodName := ⟨RX12, "isEmptyLetter", "(I)Z"⟩
abbrev cX12_isEmptyFrom : ByteArray := prog_14_method_30_code
def yX12_isEmptyFrom : MethodName := ⟨RX12, "isEmptyFrom", "(II)Z"⟩
abbrev cX12_firstFrom : ByteArray := prog_14_method_31_code
def yX12_firstFrom : MethodName := ⟨RX12, "firstFrom", "(II)I"⟩
abbrev cX12_shortestOf : ByteArray := prog_14_method_32_code
def yX12_shortestOf : MethodName := ⟨RX12, "shortestOf", "(I)I"⟩
abbrev cX12_layOnce : ByteArray := prog_14_method_33_code
def yX12_layOnce : MethodName := ⟨RX12, "layOnce", "()Z"⟩
abbrev cX12_layFollowOnce : ByteArray := prog_14_method_34_code
def yX12_layFollowOnce : MethodName := ⟨RX12, "layFollowOnce", "()Z"⟩
abbrev cX12_laySets : ByteArray := prog_14_method_35_code
def yX12_laySets : MethodName := ⟨RX12, "laySets", "()V"⟩
abbrev cX12_isNamed : ByteArray := prog_14_method_36_code
def yX12_isNamed : MethodName := ⟨RX12, "isNamed", "(I)Z"⟩
abbrev cX12_name : ByteArray := prog_14_method_37_code
def yX12_name : MethodName := ⟨RX12, "name", "(II)I"⟩
abbrev cX12_treesAt : ByteArray := prog_14_method_38_code
def yX12_treesAt : MethodName := ⟨RX12, "treesAt", "(III)I"⟩
abbrev cX12_heldTrees : ByteArray := prog_14_method_39_code
def yX12_heldTrees : MethodName := ⟨RX12, "heldTrees", "(J)I"⟩
abbrev cX12_addTrees : ByteArray := prog_14_method_40_code
def yX12_addTrees : MethodName := ⟨RX12, "addTrees", "(II)V"⟩
abbrev cX12_trees : ByteArray := prog_14_method_41_code
def yX12_trees : MethodName := ⟨RX12, "trees", "(III)I"⟩
abbrev cX12_layReaches : ByteArray := prog_14_method_42_code
def yX12_layReaches : MethodName := ⟨RX12, "layReaches", "(Z)V"⟩
abbrev cX12_leftOnes : ByteArray := prog_14_method_43_code
def yX12_leftOnes : MethodName := ⟨RX12, "leftOnes", "()I"⟩
abbrev cX12_usefulOnes : ByteArray := prog_14_method_44_code
def yX12_usefulOnes : MethodName := ⟨RX12, "usefulOnes", "()I"⟩
abbrev cX12_endingOnes : ByteArray := prog_14_method_45_code
def yX12_endingOnes : MethodName := ⟨RX12, "endingOnes", "()I"⟩
abbrev cX12_names : ByteArray := prog_14_method_46_code
def yX12_names : MethodName := ⟨RX12, "names", "(I)I"⟩
abbrev cX12_putBy : ByteArray := prog_14_method_47_code
def yX12_putBy : MethodName := ⟨RX12, "putBy", "()V"⟩
abbrev cX12_become : ByteArray := prog_14_method_48_code
def yX12_become : MethodName := ⟨RX12, "become", "(II)V"⟩
abbrev cX12_toggle : ByteArray := prog_14_method_49_code
def yX12_toggle : MethodName := ⟨RX12, "toggle", "(I)I"⟩
abbrev cX12_prefer : ByteArray := prog_14_method_50_code
def yX12_prefer : MethodName := ⟨RX12, "prefer", "(I)I"⟩
abbrev cX12_undo : ByteArray := prog_14_method_51_code
def yX12_undo : MethodName := ⟨RX12, "undo", "()I"⟩
abbrev cX12_itemAt : ByteArray := prog_14_method_52_code
def yX12_itemAt : MethodName := ⟨RX12, "itemAt", "(II)I"⟩
abbrev cX12_rowOf : ByteArray := prog_14_method_53_code
def yX12_rowOf : MethodName := ⟨RX12, "rowOf", "(II)I"⟩
abbrev cX12_goesBy : ByteArray := prog_14_method_54_code
def yX12_goesBy : MethodName := ⟨RX12, "goesBy", "(III)I"⟩
abbrev cX12_letterBehind : ByteArray := prog_14_method_55_code
def yX12_letterBehind : MethodName := ⟨RX12, "letterBehind", "(I)I"⟩
abbrev cX12_byOf : ByteArray := prog_14_method_56_code
def yX12_byOf : MethodName := ⟨RX12, "byOf", "(I)I"⟩
abbrev cX12_layClosure : ByteArray := prog_14_method_57_code
def yX12_layClosure : MethodName := ⟨RX12, "layClosure", "(II)V"⟩
abbrev cX12_layNext : ByteArray := prog_14_method_58_code
def yX12_layNext : MethodName := ⟨RX12, "layNext", "(III)Z"⟩
abbrev cX12_isNext : ByteArray := prog_14_method_59_code
def yX12_isNext : MethodName := ⟨RX12, "isNext", "(IIZ)Z"⟩
abbrev cX12_isWeakly : ByteArray := prog_14_method_60_code
def yX12_isWeakly : MethodName := ⟨RX12, "isWeakly", "(II)Z"⟩
abbrev cX12_doesTake : ByteArray := prog_14_method_61_code
def yX12_doesTake : MethodName := ⟨RX12, "doesTake", "(II)Z"⟩
abbrev cX12_takerOf : ByteArray := prog_14_method_62_code
def yX12_takerOf : MethodName := ⟨RX12, "takerOf", "(II)I"⟩
abbrev cX12_enqueue : ByteArray := prog_14_method_63_code
def yX12_enqueue : MethodName := ⟨RX12, "enqueue", "(I)V"⟩
abbrev cX12_dequeue : ByteArray := prog_14_method_64_code
def yX12_dequeue : MethodName := ⟨RX12, "dequeue", "()I"⟩
abbrev cX12_newState : ByteArray := prog_14_method_65_code
def yX12_newState : MethodName := ⟨RX12, "newState", "(I)I"⟩
abbrev cX12_addLooks : ByteArray := prog_14_method_66_code
def yX12_addLooks : MethodName := ⟨RX12, "addLooks", "(II)V"⟩
abbrev cX12_goThrough : ByteArray := prog_14_method_67_code
def yX12_goThrough : MethodName := ⟨RX12, "goThrough", "(II)Z"⟩
abbrev cX12_numberAnew : ByteArray := prog_14_method_68_code
def yX12_numberAnew : MethodName := ⟨RX12, "numberAnew", "(I)V"⟩
abbrev cX12_canReduce : ByteArray := prog_14_method_69_code
def yX12_canReduce : MethodName := ⟨RX12, "canReduce", "(IIII)Z"⟩
abbrev cX12_layAction : ByteArray := prog_14_method_70_code
def yX12_layAction : MethodName := ⟨RX12, "layAction", "(III)V"⟩
abbrev cX12_plainAction : ByteArray := prog_14_method_71_code
def yX12_plainAction : MethodName := ⟨RX12, "plainAction", "(III)I"⟩
abbrev cX12_defaultOf : ByteArray := prog_14_method_72_code
def yX12_defaultOf : MethodName := ⟨RX12, "defaultOf", "(II)I"⟩
abbrev cX12_isThere : ByteArray := prog_14_method_73_code
def yX12_isThere : MethodName := ⟨RX12, "isThere", "(I)Z"⟩
abbrev cX12_layAutomaton : ByteArray := prog_14_method_74_code
def yX12_layAutomaton : MethodName := ⟨RX12, "layAutomaton", "(I)V"⟩
abbrev cX12_isState : ByteArray := prog_14_method_75_code
def yX12_isState : MethodName := ⟨RX12, "isState", "(II)Z"⟩
abbrev cX12_actionOf : ByteArray := prog_14_method_76_code
def yX12_actionOf : MethodName := ⟨RX12, "actionOf", "(IIIZ)I"⟩
abbrev cX12_states : ByteArray := prog_14_method_77_code
def yX12_states : MethodName := ⟨RX12, "states", "(I)I"⟩
abbrev cX12_look : ByteArray := prog_14_method_78_code
def yX12_look : MethodName := ⟨RX12, "look", "(IIIIZ)I"⟩
abbrev cX12_itemMany : ByteArray := prog_14_method_79_code
def yX12_itemMany : MethodName := ⟨RX12, "itemMany", "(IIZ)I"⟩
abbrev cX12_byMany : ByteArray := prog_14_method_80_code
def yX12_byMany : MethodName := ⟨RX12, "byMany", "(II)I"⟩
abbrev cX12_state : ByteArray := prog_14_method_81_code
def yX12_state : MethodName := ⟨RX12, "state", "(III)I"⟩
abbrev cX12_isLetter : ByteArray := prog_14_method_82_code
def yX12_isLetter : MethodName := ⟨RX12, "isLetter", "(I)Z"⟩
abbrev cX12_goesTo : ByteArray := prog_14_method_83_code
def yX12_goesTo : MethodName := ⟨RX12, "goesTo", "(III)I"⟩
abbrev cX12_action : ByteArray := prog_14_method_84_code
def yX12_action : MethodName := ⟨RX12, "action", "(IIIZ)I"⟩
abbrev cX12_bridgeOf : ByteArray := prog_14_method_85_code
def yX12_bridgeOf : MethodName := ⟨RX12, "bridgeOf", "(IIII)I"⟩
abbrev cX12_bridge : ByteArray := prog_14_method_86_code
def yX12_bridge : MethodName := ⟨RX12, "bridge", "(IIII)I"⟩
abbrev cX12_layPath : ByteArray := prog_14_method_87_code
def yX12_layPath : MethodName := ⟨RX12, "layPath", "(II)I"⟩
abbrev cX12_path : ByteArray := prog_14_method_88_code
def yX12_path : MethodName := ⟨RX12, "path", "(III)I"⟩
abbrev cX12_isSameCore : ByteArray := prog_14_method_89_code
def yX12_isSameCore : MethodName := ⟨RX12, "isSameCore", "(III)Z"⟩
abbrev cX12_coreMany : ByteArray := prog_14_method_90_code
def yX12_coreMany : MethodName := ⟨RX12, "coreMany", "(II)I"⟩
abbrev cX12_countOf : ByteArray := prog_14_method_91_code
def yX12_countOf : MethodName := ⟨RX12, "countOf", "(III)I"⟩
abbrev cX12_counts : ByteArray := prog_14_method_92_code
def yX12_counts : MethodName := ⟨RX12, "counts", "(II)I"⟩
abbrev cX12_keepRow : ByteArray := prog_14_method_93_code
def yX12_keepRow : MethodName := ⟨RX12, "keepRow", "()V"⟩
abbrev cX12_startRow : ByteArray := prog_14_method_94_code
def yX12_startRow : MethodName := ⟨RX12, "startRow", "()V"⟩
abbrev cX12_push : ByteArray := prog_14_method_95_code
def yX12_push : MethodName := ⟨RX12, "push", "(IIII)Z"⟩
abbrev cX12_reduceBy : ByteArray := prog_14_method_96_code
def yX12_reduceBy : MethodName := ⟨RX12, "reduceBy", "(IIII)I"⟩
abbrev cX12_actOnce : ByteArray := prog_14_method_97_code
def yX12_actOnce : MethodName := ⟨RX12, "actOnce", "(III)I"⟩
abbrev cX12_readAll : ByteArray := prog_14_method_98_code
def yX12_readAll : MethodName := ⟨RX12, "readAll", "(II)I"⟩
abbrev cX12_laySentence : ByteArray := prog_14_method_99_code
def yX12_laySentence : MethodName := ⟨RX12, "laySentence", "(I)V"⟩
abbrev cX12_canRead : ByteArray := prog_14_method_100_code
def yX12_canRead : MethodName := ⟨RX12, "canRead", "(II)Z"⟩
abbrev cX12_reads : ByteArray := prog_14_method_101_code
def yX12_reads : MethodName := ⟨RX12, "reads", "(IIII)I"⟩
abbrev cX12_reduced : ByteArray := prog_14_method_102_code
def yX12_reduced : MethodName := ⟨RX12, "reduced", "(IIII)I"⟩
abbrev cX12_doesExpect : ByteArray := prog_14_method_103_code
def yX12_doesExpect : MethodName := ⟨RX12, "doesExpect", "(II)Z"⟩
abbrev cX12_expects : ByteArray := prog_14_method_104_code
def yX12_expects : MethodName := ⟨RX12, "expects", "(II)I"⟩
abbrev cX12_layMended : ByteArray := prog_14_method_105_code
def yX12_layMended : MethodName := ⟨RX12, "layMended", "(III)V"⟩
abbrev cX12_doesMend : ByteArray := prog_14_method_106_code
def yX12_doesMend : MethodName := ⟨RX12, "doesMend", "(IIII)Z"⟩
abbrev cX12_mends : ByteArray := prog_14_method_107_code
def yX12_mends : MethodName := ⟨RX12, "mends", "(II)I"⟩
abbrev cX12_tree : ByteArray := prog_14_method_108_code
def yX12_tree : MethodName := ⟨RX12, "tree", "(IIII)I"⟩
abbrev cX12_selects : ByteArray := prog_14_method_109_code
def yX12_selects : MethodName := ⟨RX12, "selects", "(I)I"⟩
abbrev cX12_isTopDown : ByteArray := prog_14_method_110_code
def yX12_isTopDown : MethodName := ⟨RX12, "isTopDown", "()Z"⟩
abbrev cX12_waysSimply : ByteArray := prog_14_method_111_code
def yX12_waysSimply : MethodName := ⟨RX12, "waysSimply", "(II)I"⟩
abbrev cX12_isSimple : ByteArray := prog_14_method_112_code
def yX12_isSimple : MethodName := ⟨RX12, "isSimple", "()Z"⟩
abbrev cX12_isClear : ByteArray := prog_14_method_113_code
def yX12_isClear : MethodName := ⟨RX12, "isClear", "(I)Z"⟩
abbrev cX12_sorts : ByteArray := prog_14_method_114_code
def yX12_sorts : MethodName := ⟨RX12, "sorts", "()I"⟩
abbrev cX12_isWell : ByteArray := prog_14_method_115_code
def yX12_isWell : MethodName := ⟨RX12, "isWell", "(III)Z"⟩
abbrev cX12_same : ByteArray := prog_14_method_116_code
def yX12_same : MethodName := ⟨RX12, "same", "(III)I"⟩
abbrev cX12_laySigns : ByteArray := prog_14_method_117_code
def yX12_laySigns : MethodName := ⟨RX12, "laySigns", "(II)V"⟩
abbrev cX12_codeOf : ByteArray := prog_14_method_118_code
def yX12_codeOf : MethodName := ⟨RX12, "codeOf", "(I)I"⟩
abbrev cX12_draw : ByteArray := prog_14_method_119_code
def yX12_draw : MethodName := ⟨RX12, "draw", "(I)I"⟩
abbrev cX12_replacing : ByteArray := prog_14_method_120_code
def yX12_replacing : MethodName := ⟨RX12, "replacing", "(IZ)I"⟩
abbrev cX12_leftmost : ByteArray := prog_14_method_121_code
def yX12_leftmost : MethodName := ⟨RX12, "leftmost", "()I"⟩
abbrev cX12_replace : ByteArray := prog_14_method_122_code
def yX12_replace : MethodName := ⟨RX12, "replace", "(II)Z"⟩
abbrev cX12_layWord : ByteArray := prog_14_method_123_code
def yX12_layWord : MethodName := ⟨RX12, "layWord", "(J)Z"⟩
abbrev cX12_word : ByteArray := prog_14_method_124_code
def yX12_word : MethodName := ⟨RX12, "word", "(JI)I"⟩
abbrev cX12_keep : ByteArray := prog_14_method_125_code
def yX12_keep : MethodName := ⟨RX12, "keep", "(J)I"⟩
abbrev cX12_inMany : ByteArray := prog_14_method_126_code
def yX12_inMany : MethodName := ⟨RX12, "inMany", "()I"⟩
abbrev cX12_image : ByteArray := prog_14_method_127_code
def yX12_image : MethodName := ⟨RX12, "image", "()I"⟩
abbrev cX12_back : ByteArray := prog_14_method_128_code
def yX12_back : MethodName := ⟨RX12, "back", "()I"⟩
abbrev cX12_count : ByteArray := prog_14_method_129_code
def yX12_count : MethodName := ⟨RX12, "count", "(I)I"⟩
abbrev cJ6_bitCount_0f7a4 : ByteArray := prog_17_method_49_code
def yJ6_bitCount_0f7a4 : MethodName := ⟨RJ6, "bitCount", "(I)I"⟩
abbrev cJ7_rangeCheck_23922 : ByteArray := prog_23_method_30_code
def yJ7_rangeCheck_23922 : MethodName := ⟨RJ7, "rangeCheck", "(III)V"⟩
abbrev cJ7_fill_d0a16 : ByteArray := prog_23_method_101_code
def yJ7_fill_d0a16 : MethodName := ⟨RJ7, "fill", "([JJ)V"⟩
abbrev cJ7_fill_53178 : ByteArray := prog_23_method_103_code
def yJ7_fill_53178 : MethodName := ⟨RJ7, "fill", "([II)V"⟩
abbrev cJ7_fill_fda19 : ByteArray := prog_23_method_104_code
def yJ7_fill_fda19 : MethodName := ⟨RJ7, "fill", "([IIII)V"⟩
abbrev vwCl : List vw_C := [(RX0, TX0, 12), (RX1, TX1, 17), (RX2, TX2, 7), (RX3, TX3, 5), (RX4, TX4, 13), (RX5, TX5, 12), (RX6, TX6, 5), (RX7, TX7, 3), (RX8, TX8, 19), (RX9, TX9, 3), (RX10, TX10, 2), (RX11, TX11, 10), (RX12, TX12, 78)]
def zPl : List (List Nat) := [[505, 507, 509, 511, 513, 515, 517, 519, 521, 523, 525, 527], [449, 451, 453, 455, 457, 459, 461, 463, 465, 467, 469, 471, 473, 475, 477, 479, 481], [399, 401, 403, 405, 407, 409, 411], [616, 618, 620, 622, 624], [308, 310, 312, 314, 316, 318, 320, 322, 324, 326, 328, 330, 332], [239, 241, 243, 245, 247, 249, 251, 253, 255, 257, 259, 261], [349, 351, 353, 355, 357], [385, 387, 389], [564, 566, 568, 570, 572, 574, 576, 578, 580, 582, 584, 586, 588, 590, 592, 594, 596, 598, 600], [275, 277, 279], [188, 190], [637, 639, 641, 643, 645, 647, 649, 651, 653, 655], [1535, 1537, 1539, 1541, 1543, 1545, 1547, 1549, 1551, 1553, 1555, 1557, 1559, 1561, 1563, 1565, 1567, 1569, 1571, 1573, 1575, 1577, 1579, 1581, 1583, 1585, 1587, 1589, 1591, 1593, 1595, 1597, 1599, 1601, 1603, 1605, 1607, 1609, 1611, 1613, 1615, 1617, 1619, 1621, 1623, 1625, 1627, 1629, 1631, 1633, 1635, 1637, 1639, 1641, 1643, 1645, 1647, 1649, 1651, 1653, 1655, 1657, 1659, 1661, 1663, 1665, 1667, 1669, 1671, 1673, 1675, 1677, 1679, 1681, 1683, 1685, 1687, 1689]]
def zFRt (o i : Nat) : Option (Nat × Nat × Nat) :=
  bif Nat.blt o 6 then (bif Nat.blt o 3 then (bif Nat.blt o 1 then (bif Nat.beq o 0 then (bif Nat.blt i 53 then (bif Nat.blt i 28 then (bif Nat.blt i 19 then (bif Nat.blt i 15 then (bif Nat.beq i 9 then some (0, 3, 493) else none) else (bif Nat.beq i 15 then some (0, 4, 495) else none)) else (bif Nat.blt i 22 then (bif Nat.beq i 19 then some (0, 5, 496) else none) else (bif Nat.blt i 25 then (bif Nat.beq i 22 then some (0, 6, 498) else none) else (bif Nat.beq i 25 then some (0, 10, 503) else none)))) else (bif Nat.blt i 35 then (bif Nat.blt i 31 then (bif Nat.beq i 28 then some (0, 11, 504) else none) else (bif Nat.beq i 31 then some (0, 0, 489) else none)) else (bif Nat.blt i 39 then (bif Nat.beq i 35 then some (0, 1, 490) else none) else (bif Nat.blt i 43 then (bif Nat.beq i 39 then some (0, 2, 491) else none) else (bif Nat.beq i 43 then some (1, 10, 439) else none))))) else (bif Nat.blt i 93 then (bif Nat.blt i 78 then (bif Nat.blt i 56 then (bif Nat.beq i 53 then some (0, 8, 501) else none) else (bif Nat.beq i 56 then some (5, 2, 210) else none)) else (bif Nat.blt i 81 then (bif Nat.beq i 78 then some (0, 7, 500) else none) else (bif Nat.blt i 88 then (bif Nat.beq i 81 then some (0, 9, 502) else none) else (bif Nat.beq i 88 then some (7, 0, 374) else none)))) else (bif Nat.blt i 109 then (bif Nat.blt i 96 then (bif Nat.beq i 93 then some (7, 1, 378) else none) else (bif Nat.blt i 102 then (bif Nat.beq i 96 then some (5, 6, 226) else none) else (bif Nat.beq i 102 then some (7, 2, 382) else none))) else (bif Nat.blt i 119 then (bif Nat.beq i 109 then some (5, 0, 202) else none) else (bif Nat.blt i 124 then (bif Nat.beq i 119 then some (4, 5, 298) else none) else (bif Nat.beq i 124 then some (5, 5, 220) else none)))))) else none) else (bif Nat.blt o 2 then (bif Nat.beq o 1 then (bif Nat.blt i 46 then (bif Nat.blt i 31 then (bif Nat.blt i 21 then (bif Nat.blt i 17 then (bif Nat.beq i 9 then some (1, 3, 428) else none) else (bif Nat.beq i 17 then some (1, 6, 435) else none)) else (bif Nat.blt i 25 then (bif Nat.beq i 21 then some (1, 7, 436) else none) else (bif Nat.blt i 28 then (bif Nat.beq i 25 then some (1, 8, 437) else none) else (bif Nat.beq i 28 then some (1, 9, 438) else none)))) else (bif Nat.blt i 37 then (bif Nat.blt i 34 then (bif Nat.beq i 31 then some (1, 11, 442) else none) else (bif Nat.beq i 34 then some (1, 12, 443) else none)) else (bif Nat.blt i 40 then (bif Nat.beq i 37 then some (1, 13, 444) else none) else (bif Nat.blt i 43 then (bif Nat.beq i 40 then some (1, 14, 445) else none) else (bif Nat.beq i 43 then some (1, 15, 446) else none))))) else (bif Nat.blt i 89 then (bif Nat.blt i 53 then (bif Nat.blt i 49 then (bif Nat.beq i 46 then some (1, 16, 448) else none) else (bif Nat.beq i 49 then some (1, 0, 425) else none)) else (bif Nat.blt i 57 then (bif Nat.beq i 53 then some (1, 1, 426) else none) else (bif Nat.blt i 61 then (bif Nat.beq i 57 then some (1, 2, 427) else none) else (bif Nat.beq i 61 then some (1, 5, 433) else none)))) else (bif Nat.blt i 103 then (bif Nat.blt i 92 then (bif Nat.beq i 89 then some (7, 0, 375) else none) else (bif Nat.blt i 95 then (bif Nat.beq i 92 then some (7, 1, 380) else none) else (bif Nat.beq i 95 then some (7, 2, 384) else none))) else (bif Nat.blt i 125 then (bif Nat.beq i 103 then some (5, 0, 206) else none) else (bif Nat.blt i 131 then (bif Nat.beq i 125 then some (5, 5, 224) else none) else (bif Nat.beq i 131 then some (1, 10, 440) else none)))))) else none) else (bif Nat.beq o 2 then (bif Nat.blt i 42 then (bif Nat.blt i 25 then (bif Nat.blt i 15 then (bif Nat.beq i 9 then some (2, 1, 393) else none) else (bif Nat.blt i 21 then (bif Nat.beq i 15 then some (2, 2, 394) else none) else (bif Nat.beq i 21 then some (2, 5, 397) else none))) else (bif Nat.blt i 32 then (bif Nat.blt i 28 then (bif Nat.beq i 25 then some (2, 6, 398) else none) else (bif Nat.beq i 28 then some (2, 0, 392) else none)) else (bif Nat.blt i 38 then (bif Nat.beq i 32 then some (1, 5, 434) else none) else (bif Nat.beq i 38 then some (1, 4, 431) else none)))) else (bif Nat.blt i 57 then (bif Nat.blt i 51 then (bif Nat.beq i 42 then some (1, 3, 429) else none) else (bif Nat.blt i 54 then (bif Nat.beq i 51 then some (2, 4, 396) else none) else (bif Nat.beq i 54 then some (7, 0, 373) else none))) else (bif Nat.blt i 117 then (bif Nat.blt i 89 then (bif Nat.beq i 57 then some (5, 0, 200) else none) else (bif Nat.beq i 89 then some (2, 3, 395) else none)) else (bif Nat.blt i 120 then (bif Nat.beq i 117 then some (7, 1, 379) else none) else (bif Nat.beq i 120 then some (7, 2, 383) else none))))) else none))) else (bif Nat.blt o 4 then (bif Nat.beq o 3 then (bif Nat.blt i 27 then (bif Nat.blt i 19 then (bif Nat.blt i 15 then (bif Nat.beq i 9 then some (3, 4, 614) else none) else (bif Nat.beq i 15 then some (3, 0, 609) else none)) else (bif Nat.blt i 23 then (bif Nat.beq i 19 then some (3, 1, 610) else none) else (bif Nat.beq i 23 then some (3, 2, 611) else none))) else (bif Nat.blt i 59 then (bif Nat.blt i 42 then (bif Nat.beq i 27 then some (3, 3, 612) else none) else (bif Nat.beq i 42 then some (5, 0, 201) else none)) else (bif Nat.blt i 67 then (bif Nat.beq i 59 then some (5, 5, 219) else none) else (bif Nat.beq i 67 then some (5, 6, 228) else none)))) else none) else (bif Nat.blt o 5 then (bif Nat.beq o 4 then (bif Nat.blt i 37 then (bif Nat.blt i 24 then (bif Nat.blt i 18 then (bif Nat.blt i 15 then (bif Nat.beq i 9 then some (4, 4, 295) else none) else (bif Nat.beq i 15 then some (4, 5, 297) else none)) else (bif Nat.blt i 21 then (bif Nat.beq i 18 then some (4, 6, 300) else none) else (bif Nat.beq i 21 then some (4, 7, 302) else none))) else (bif Nat.blt i 30 then (bif Nat.blt i 27 then (bif Nat.beq i 24 then some (4, 8, 303) else none) else (bif Nat.beq i 27 then some (4, 9, 304) else none)) else (bif Nat.blt i 34 then (bif Nat.beq i 30 then some (4, 11, 306) else none) else (bif Nat.beq i 34 then some (4, 12, 307) else none)))) else (bif Nat.blt i 80 then (bif Nat.blt i 63 then (bif Nat.blt i 41 then (bif Nat.beq i 37 then some (4, 0, 288) else none) else (bif Nat.beq i 41 then some (4, 10, 305) else none)) else (bif Nat.blt i 67 then (bif Nat.beq i 63 then some (4, 1, 289) else none) else (bif Nat.beq i 67 then some (5, 0, 203) else none))) else (bif Nat.blt i 127 then (bif Nat.blt i 83 then (bif Nat.beq i 80 then some (5, 6, 227) else none) else (bif Nat.beq i 83 then some (5, 5, 221) else none)) else (bif Nat.blt i 130 then (bif Nat.beq i 127 then some (4, 2, 291) else none) else (bif Nat.blt i 133 then (bif Nat.beq i 130 then some (5, 1, 209) else none) else (bif Nat.beq i 133 then some (4, 3, 293) else none)))))) else none) else (bif Nat.beq o 5 then (bif Nat.blt i 33 then (bif Nat.blt i 21 then (bif Nat.blt i 15 then (bif Nat.beq i 9 then some (5, 5, 218) else none) else (bif Nat.blt i 18 then (bif Nat.beq i 15 then some (5, 6, 225) else none) else (bif Nat.beq i 18 then some (5, 7, 231) else none))) else (bif Nat.blt i 27 then (bif Nat.blt i 24 then (bif Nat.beq i 21 then some (5, 8, 232) else none) else (bif Nat.beq i 24 then some (5, 9, 234) else none)) else (bif Nat.blt i 30 then (bif Nat.beq i 27 then some (5, 10, 235) else none) else (bif Nat.beq i 30 then some (5, 11, 237) else none)))) else (bif Nat.blt i 50 then (bif Nat.blt i 37 then (bif Nat.beq i 33 then some (5, 3, 214) else none) else (bif Nat.blt i 40 then (bif Nat.beq i 37 then some (5, 4, 216) else none) else (bif Nat.beq i 40 then some (5, 2, 212) else none))) else (bif Nat.blt i 57 then (bif Nat.blt i 53 then (bif Nat.beq i 50 then some (5, 0, 205) else none) else (bif Nat.beq i 53 then some (10, 1, 187) else none)) else (bif Nat.blt i 77 then (bif Nat.beq i 57 then some (10, 0, 184) else none) else (bif Nat.beq i 77 then some (5, 1, 207) else none))))) else none)))) else (bif Nat.blt o 9 then (bif Nat.blt o 7 then (bif Nat.beq o 6 then (bif Nat.blt i 15 then (bif Nat.beq i 9 then some (6, 4, 348) else none) else (bif Nat.blt i 19 then (bif Nat.beq i 15 then some (6, 0, 342) else none) else (bif Nat.beq i 19 then some (6, 1, 344) else none))) else none) else (bif Nat.blt o 8 then (bif Nat.beq o 7 then (bif Nat.blt i 15 then (bif Nat.beq i 9 then some (7, 1, 377) else none) else (bif Nat.blt i 18 then (bif Nat.beq i 15 then some (7, 2, 381) else none) else (bif Nat.beq i 18 then some (7, 0, 372) else none))) else none) else (bif Nat.beq o 8 then (bif Nat.blt i 47 then (bif Nat.blt i 27 then (bif Nat.blt i 18 then (bif Nat.blt i 15 then (bif Nat.beq i 9 then some (8, 4, 541) else none) else (bif Nat.beq i 15 then some (8, 6, 543) else none)) else (bif Nat.blt i 21 then (bif Nat.beq i 18 then some (8, 7, 544) else none) else (bif Nat.blt i 24 then (bif Nat.beq i 21 then some (8, 8, 545) else none) else (bif Nat.beq i 24 then some (8, 10, 547) else none)))) else (bif Nat.blt i 36 then (bif Nat.blt i 30 then (bif Nat.beq i 27 then some (8, 15, 556) else none) else (bif Nat.blt i 33 then (bif Nat.beq i 30 then some (8, 16, 558) else none) else (bif Nat.beq i 33 then some (8, 17, 560) else none))) else (bif Nat.blt i 39 then (bif Nat.beq i 36 then some (8, 18, 562) else none) else (bif Nat.blt i 43 then (bif Nat.beq i 39 then some (8, 0, 536) else none) else (bif Nat.beq i 43 then some (8, 3, 539) else none))))) else (bif Nat.blt i 73 then (bif Nat.blt i 57 then (bif Nat.blt i 51 then (bif Nat.beq i 47 then some (8, 1, 537) else none) else (bif Nat.blt i 54 then (bif Nat.beq i 51 then some (8, 2, 538) else none) else (bif Nat.beq i 54 then some (8, 12, 550) else none))) else (bif Nat.blt i 60 then (bif Nat.beq i 57 then some (8, 13, 552) else none) else (bif Nat.blt i 63 then (bif Nat.beq i 60 then some (8, 14, 554) else none) else (bif Nat.beq i 63 then some (8, 5, 542) else none)))) else (bif Nat.blt i 107 then (bif Nat.blt i 76 then (bif Nat.beq i 73 then some (8, 11, 548) else none) else (bif Nat.blt i 85 then (bif Nat.beq i 76 then some (5, 2, 211) else none) else (bif Nat.beq i 85 then some (8, 9, 546) else none))) else (bif Nat.blt i 117 then (bif Nat.beq i 107 then some (5, 6, 229) else none) else (bif Nat.blt i 124 then (bif Nat.beq i 117 then some (5, 5, 223) else none) else (bif Nat.beq i 124 then some (0, 2, 492) else none)))))) else none))) else (bif Nat.blt o 11 then (bif Nat.blt o 10 then (bif Nat.beq o 9 then (bif Nat.blt i 15 then (bif Nat.beq i 9 then some (9, 1, 272) else none) else (bif Nat.blt i 18 then (bif Nat.beq i 15 then some (9, 2, 274) else none) else (bif Nat.beq i 18 then some (9, 0, 270) else none))) else none) else (bif Nat.beq o 10 then (bif Nat.blt i 15 then (bif Nat.beq i 9 then some (10, 0, 182) else none) else (bif Nat.beq i 15 then some (10, 1, 186) else none)) else none)) else (bif Nat.blt o 12 then (bif Nat.beq o 11 then (bif Nat.blt i 225 then (bif Nat.blt i 134 then (bif Nat.blt i 55 then (bif Nat.blt i 35 then (bif Nat.blt i 19 then (bif Nat.beq i 12 then some (11, 0, 627) else none) else (bif Nat.blt i 26 then (bif Nat.beq i 19 then some (11, 1, 628) else none) else (bif Nat.beq i 26 then some (11, 2, 629) else none))) else (bif Nat.blt i 42 then (bif Nat.beq i 35 then some (11, 3, 630) else none) else (bif Nat.blt i 49 then (bif Nat.beq i 42 then some (11, 4, 631) else none) else (bif Nat.beq i 49 then some (11, 5, 632) else none)))) else (bif Nat.blt i 83 then (bif Nat.blt i 61 then (bif Nat.beq i 55 then some (11, 6, 633) else none) else (bif Nat.blt i 74 then (bif Nat.beq i 61 then some (11, 7, 634) else none) else (bif Nat.beq i 74 then some (11, 8, 635) else none))) else (bif Nat.blt i 125 then (bif Nat.blt i 91 then (bif Nat.beq i 83 then some (11, 9, 636) else none) else (bif Nat.beq i 91 then some (10, 1, 185) else none)) else (bif Nat.blt i 128 then (bif Nat.beq i 125 then some (5, 0, 204) else none) else (bif Nat.beq i 128 then some (9, 0, 271) else none))))) else (bif Nat.blt i 185 then (bif Nat.blt i 171 then (bif Nat.blt i 150 then (bif Nat.beq i 134 then some (10, 0, 183) else none) else (bif Nat.blt i 153 then (bif Nat.beq i 150 then some (5, 5, 222) else none) else (bif Nat.beq i 153 then some (5, 6, 230) else none))) else (bif Nat.blt i 172 then (bif Nat.beq i 171 then some (9, 1, 273) else none) else (bif Nat.blt i 182 then (bif Nat.beq i 172 then some (5, 11, 238) else none) else (bif Nat.beq i 182 then some (4, 4, 296) else none)))) else (bif Nat.blt i 194 then (bif Nat.blt i 188 then (bif Nat.beq i 185 then some (4, 5, 299) else none) else (bif Nat.blt i 191 then (bif Nat.beq i 188 then some (4, 6, 301) else none) else (bif Nat.beq i 191 then some (5, 8, 233) else none))) else (bif Nat.blt i 204 then (bif Nat.blt i 201 then (bif Nat.beq i 194 then some (5, 1, 208) else none) else (bif Nat.beq i 201 then some (4, 2, 292) else none)) else (bif Nat.blt i 207 then (bif Nat.beq i 204 then some (4, 3, 294) else none) else (bif Nat.beq i 207 then some (4, 1, 290) else none)))))) else (bif Nat.blt i 351 then (bif Nat.blt i 254 then (bif Nat.blt i 237 then (bif Nat.blt i 228 then (bif Nat.beq i 225 then some (5, 2, 213) else none) else (bif Nat.blt i 234 then (bif Nat.beq i 228 then some (6, 0, 343) else none) else (bif Nat.beq i 234 then some (5, 3, 215) else none))) else (bif Nat.blt i 246 then (bif Nat.beq i 237 then some (5, 4, 217) else none) else (bif Nat.blt i 250 then (bif Nat.beq i 246 then some (1, 3, 430) else none) else (bif Nat.beq i 250 then some (0, 3, 494) else none)))) else (bif Nat.blt i 300 then (bif Nat.blt i 261 then (bif Nat.beq i 254 then some (1, 10, 441) else none) else (bif Nat.blt i 286 then (bif Nat.beq i 261 then some (1, 4, 432) else none) else (bif Nat.beq i 286 then some (7, 0, 376) else none))) else (bif Nat.blt i 306 then (bif Nat.blt i 303 then (bif Nat.beq i 300 then some (0, 5, 497) else none) else (bif Nat.beq i 303 then some (0, 6, 499) else none)) else (bif Nat.blt i 348 then (bif Nat.beq i 306 then some (1, 15, 447) else none) else (bif Nat.beq i 348 then some (8, 11, 549) else none))))) else (bif Nat.blt i 385 then (bif Nat.blt i 360 then (bif Nat.blt i 354 then (bif Nat.beq i 351 then some (8, 12, 551) else none) else (bif Nat.blt i 357 then (bif Nat.beq i 354 then some (8, 13, 553) else none) else (bif Nat.beq i 357 then some (8, 14, 555) else none))) else (bif Nat.blt i 379 then (bif Nat.blt i 366 then (bif Nat.beq i 360 then some (8, 3, 540) else none) else (bif Nat.beq i 366 then some (8, 15, 557) else none)) else (bif Nat.blt i 382 then (bif Nat.beq i 379 then some (8, 16, 559) else none) else (bif Nat.beq i 382 then some (8, 17, 561) else none)))) else (bif Nat.blt i 419 then (bif Nat.blt i 415 then (bif Nat.beq i 385 then some (8, 18, 563) else none) else (bif Nat.blt i 416 then (bif Nat.beq i 415 then some (3, 3, 613) else none) else (bif Nat.beq i 416 then some (3, 4, 615) else none))) else (bif Nat.blt i 425 then (bif Nat.blt i 422 then (bif Nat.beq i 419 then some (5, 10, 236) else none) else (bif Nat.beq i 422 then some (6, 1, 345) else none)) else (bif Nat.blt i 428 then (bif Nat.beq i 425 then some (6, 2, 346) else none) else (bif Nat.beq i 428 then some (6, 3, 347) else none))))))) else none) else (bif Nat.beq o 12 then (bif Nat.blt i 129 then (bif Nat.blt i 68 then (bif Nat.blt i 37 then (bif Nat.blt i 22 then (bif Nat.blt i 16 then (bif Nat.blt i 13 then (bif Nat.beq i 9 then some (12, 1, 1458) else none) else (bif Nat.beq i 13 then some (12, 5, 1462) else none)) else (bif Nat.blt i 19 then (bif Nat.beq i 16 then some (12, 6, 1463) else none) else (bif Nat.beq i 19 then some (12, 7, 1464) else none))) else (bif Nat.blt i 28 then (bif Nat.blt i 25 then (bif Nat.beq i 22 then some (12, 12, 1469) else none) else (bif Nat.beq i 25 then some (12, 13, 1470) else none)) else (bif Nat.blt i 31 then (bif Nat.beq i 28 then some (12, 18, 1475) else none) else (bif Nat.blt i 34 then (bif Nat.beq i 31 then some (12, 19, 1476) else none) else (bif Nat.beq i 34 then some (12, 20, 1477) else none))))) else (bif Nat.blt i 52 then (bif Nat.blt i 43 then (bif Nat.blt i 40 then (bif Nat.beq i 37 then some (12, 21, 1478) else none) else (bif Nat.beq i 40 then some (12, 22, 1479) else none)) else (bif Nat.blt i 46 then (bif Nat.beq i 43 then some (12, 26, 1483) else none) else (bif Nat.blt i 49 then (bif Nat.beq i 46 then some (12, 27, 1484) else none) else (bif Nat.beq i 49 then some (12, 28, 1485) else none)))) else (bif Nat.blt i 59 then (bif Nat.blt i 56 then (bif Nat.beq i 52 then some (12, 30, 1487) else none) else (bif Nat.beq i 56 then some (12, 31, 1488) else none)) else (bif Nat.blt i 62 then (bif Nat.beq i 59 then some (12, 32, 1489) else none) else (bif Nat.blt i 65 then (bif Nat.beq i 62 then some (12, 33, 1490) else none) else (bif Nat.beq i 65 then some (12, 34, 1491) else none)))))) else (bif Nat.blt i 99 then (bif Nat.blt i 84 then (bif Nat.blt i 75 then (bif Nat.blt i 71 then (bif Nat.beq i 68 then some (12, 35, 1492) else none) else (bif Nat.beq i 71 then some (12, 36, 1493) else none)) else (bif Nat.blt i 78 then (bif Nat.beq i 75 then some (12, 38, 1495) else none) else (bif Nat.blt i 81 then (bif Nat.beq i 78 then some (12, 39, 1496) else none) else (bif Nat.beq i 81 then some (12, 40, 1497) else none)))) else (bif Nat.blt i 90 then (bif Nat.blt i 87 then (bif Nat.beq i 84 then some (12, 41, 1498) else none) else (bif Nat.beq i 87 then some (12, 42, 1499) else none)) else (bif Nat.blt i 93 then (bif Nat.beq i 90 then some (12, 43, 1500) else none) else (bif Nat.blt i 96 then (bif Nat.beq i 93 then some (12, 44, 1501) else none) else (bif Nat.beq i 96 then some (12, 45, 1502) else none))))) else (bif Nat.blt i 114 then (bif Nat.blt i 105 then (bif Nat.blt i 102 then (bif Nat.beq i 99 then some (12, 46, 1503) else none) else (bif Nat.beq i 102 then some (12, 47, 1504) else none)) else (bif Nat.blt i 108 then (bif Nat.beq i 105 then some (12, 49, 1506) else none) else (bif Nat.blt i 111 then (bif Nat.beq i 108 then some (12, 50, 1507) else none) else (bif Nat.beq i 111 then some (12, 51, 1508) else none)))) else (bif Nat.blt i 120 then (bif Nat.blt i 117 then (bif Nat.beq i 114 then some (12, 52, 1509) else none) else (bif Nat.beq i 117 then some (12, 53, 1510) else none)) else (bif Nat.blt i 123 then (bif Nat.beq i 120 then some (12, 54, 1511) else none) else (bif Nat.blt i 126 then (bif Nat.beq i 123 then some (12, 55, 1512) else none) else (bif Nat.beq i 126 then some (12, 56, 1513) else none))))))) else (bif Nat.blt i 228 then (bif Nat.blt i 156 then (bif Nat.blt i 141 then (bif Nat.blt i 135 then (bif Nat.blt i 132 then (bif Nat.beq i 129 then some (12, 58, 1515) else none) else (bif Nat.beq i 132 then some (12, 59, 1516) else none)) else (bif Nat.blt i 138 then (bif Nat.beq i 135 then some (12, 60, 1517) else none) else (bif Nat.beq i 138 then some (12, 61, 1518) else none))) else (bif Nat.blt i 147 then (bif Nat.blt i 144 then (bif Nat.beq i 141 then some (12, 66, 1523) else none) else (bif Nat.beq i 144 then some (12, 67, 1524) else none)) else (bif Nat.blt i 150 then (bif Nat.beq i 147 then some (12, 68, 1525) else none) else (bif Nat.blt i 153 then (bif Nat.beq i 150 then some (12, 69, 1526) else none) else (bif Nat.beq i 153 then some (12, 70, 1527) else none))))) else (bif Nat.blt i 188 then (bif Nat.blt i 167 then (bif Nat.blt i 159 then (bif Nat.beq i 156 then some (12, 72, 1529) else none) else (bif Nat.beq i 159 then some (12, 0, 1457) else none)) else (bif Nat.blt i 174 then (bif Nat.beq i 167 then some (12, 2, 1459) else none) else (bif Nat.blt i 177 then (bif Nat.beq i 174 then some (12, 3, 1460) else none) else (bif Nat.beq i 177 then some (12, 4, 1461) else none)))) else (bif Nat.blt i 206 then (bif Nat.blt i 194 then (bif Nat.beq i 188 then some (12, 9, 1466) else none) else (bif Nat.beq i 194 then some (12, 11, 1468) else none)) else (bif Nat.blt i 209 then (bif Nat.beq i 206 then some (12, 8, 1465) else none) else (bif Nat.blt i 225 then (bif Nat.beq i 209 then some (12, 10, 1467) else none) else (bif Nat.beq i 225 then some (12, 16, 1473) else none)))))) else (bif Nat.blt i 464 then (bif Nat.blt i 253 then (bif Nat.blt i 244 then (bif Nat.blt i 231 then (bif Nat.beq i 228 then some (12, 17, 1474) else none) else (bif Nat.beq i 231 then some (12, 15, 1472) else none)) else (bif Nat.blt i 247 then (bif Nat.beq i 244 then some (12, 23, 1480) else none) else (bif Nat.blt i 250 then (bif Nat.beq i 247 then some (12, 24, 1481) else none) else (bif Nat.beq i 250 then some (12, 37, 1494) else none)))) else (bif Nat.blt i 279 then (bif Nat.blt i 263 then (bif Nat.beq i 253 then some (12, 77, 1534) else none) else (bif Nat.beq i 263 then some (12, 14, 1471) else none)) else (bif Nat.blt i 282 then (bif Nat.beq i 279 then some (12, 29, 1486) else none) else (bif Nat.blt i 374 then (bif Nat.beq i 282 then some (12, 25, 1482) else none) else (bif Nat.beq i 374 then some (12, 48, 1505) else none))))) else (bif Nat.blt i 491 then (bif Nat.blt i 470 then (bif Nat.blt i 467 then (bif Nat.beq i 464 then some (12, 62, 1519) else none) else (bif Nat.beq i 467 then some (12, 71, 1528) else none)) else (bif Nat.blt i 473 then (bif Nat.beq i 470 then some (12, 63, 1520) else none) else (bif Nat.blt i 476 then (bif Nat.beq i 473 then some (12, 64, 1521) else none) else (bif Nat.beq i 476 then some (12, 65, 1522) else none)))) else (bif Nat.blt i 553 then (bif Nat.blt i 542 then (bif Nat.beq i 491 then some (12, 57, 1514) else none) else (bif Nat.beq i 542 then some (12, 74, 1531) else none)) else (bif Nat.blt i 570 then (bif Nat.beq i 553 then some (12, 73, 1530) else none) else (bif Nat.blt i 573 then (bif Nat.beq i 570 then some (12, 75, 1532) else none) else (bif Nat.beq i 573 then some (12, 76, 1533) else none)))))))) else none))))
def zCTt (o i : Nat) : Option (Int32 × Nat) :=
  bif Nat.blt o 4 then (bif Nat.blt o 2 then (bif Nat.beq o 1 then (bif Nat.beq i 102 then some (1000000, 1014) else none) else none) else (bif Nat.beq o 2 then (bif Nat.beq i 78 then some (1000000, 993) else none) else none)) else (bif Nat.blt o 11 then (bif Nat.beq o 4 then (bif Nat.blt i 108 then (bif Nat.beq i 99 then some (1000000, 775) else none) else (bif Nat.beq i 108 then some (65536, 780) else none)) else none) else (bif Nat.blt o 12 then (bif Nat.beq o 11 then (bif Nat.blt i 399 then (bif Nat.beq i 312 then some (-1000000, 1154) else none) else (bif Nat.beq i 399 then some (1000000, 1317) else none)) else none) else (bif Nat.beq o 12 then (bif Nat.blt i 288 then (bif Nat.beq i 74 then some (61200, 1456) else none) else (bif Nat.blt i 447 then (bif Nat.beq i 288 then some (1000000, 1809) else none) else (bif Nat.beq i 447 then some (-1000000, 2026) else none))) else none)))
def zCLt (o i : Nat) : Option (Int64 × Nat) :=
  bif Nat.blt o 4 then (bif Nat.beq o 3 then (bif Nat.blt i 53 then (bif Nat.beq i 51 then some (6364136223846793005, 1346) else none) else (bif Nat.beq i 53 then some (1442695040888963407, 1347) else none)) else none) else (bif Nat.blt o 12 then (bif Nat.beq o 4 then (bif Nat.beq i 149 then some (1000000000, 901) else none) else none) else (bif Nat.beq o 12 then (bif Nat.blt i 546 then (bif Nat.beq i 316 then some (1000000000, 1850) else none) else (bif Nat.blt i 548 then (bif Nat.beq i 546 then some (6364136223846793005, 2177) else none) else (bif Nat.beq i 548 then some (1442695040888963407, 2178) else none))) else none))
def zFR (o i : Nat) : Option (Nat × Nat × Nat) := bif Nat.blt o 13 && Nat.blt i 700 then zFRt o i else none
def zCT (o i : Nat) : Option (Int32 × Nat) := bif Nat.blt o 13 && Nat.blt i 700 then zCTt o i else none
def zCL (o i : Nat) : Option (Int64 × Nat) := bif Nat.blt o 13 && Nat.blt i 700 then zCLt o i else none
end
section
/-! A small machine over pure states, and its step function; its steps are steps of the JVM (zst_ok below).
S: the pure states of a world; ids number its cells; a value's references are ids. -/
abbrev zc : Type := (Nat × vp_A) ⊕ (Nat × List Value)
abbrev MD : Type := Nat × MethodName × ByteArray × Nat × Option FieldType × (Nat × Nat × Nat) × (Nat → Option (Instr × Nat × Nat × Nat × Int32))
abbrev ZF (S : Type) : Type := Nat × List (Option Value) × List Value × S
/-- a world: cell of an id, how many ids, how many slots, writes to a field, to an array of ints, of longs -/
abbrev ZW (S : Type) : Type := (S → Nat → zc) × (S → Nat) × (S → Nat) × (S → Nat → Nat → Value → Option S) × (S → Nat → Nat → Int32 → Option S) × (S → Nat → Nat → Int64 → Option S)
def zfe (M : MD) (pc : Nat) : Option (Instr × Nat × Nat × Nat × Int32) := bif Nat.blt pc M.2.2.2.2.2.1.2.2 then M.2.2.2.2.2.2 pc else none
def zTk (i : Instr) (pc tg : Nat) (v : Int32) : Bool := match i with
  | .if_icmp _ off => decide ((pc : Int) + off = (tg : Int))
  | .ifCond _ off => decide ((pc : Int) + off = (tg : Int))
  | .goto off => decide ((pc : Int) + off = (tg : Int))
  | .ifnonnull off => decide ((pc : Int) + off = (tg : Int))
  | .iconst n => decide (Int32.ofInt n = v)
  | .bipush n => decide ((Int8.ofInt n).toInt32 = v)
  | .sipush n => decide ((Int16.ofInt n).toInt32 = v)
  | .iinc _ n => decide (Int32.ofInt n = v)
  | _ => true
def zMb (M : MD) : Bool := (List.range M.2.2.2.2.2.1.2.2).all fun pc => match M.2.2.2.2.2.2 pc with
  | none => true
  | some (i, n, nx, tg, v) => decide (decode M.2.2.1 pc = .ok (i, n)) && Nat.beq nx (pc + n) && zTk i pc tg v
theorem zfe_ok {M : MD} (hM : zMb M = true) {pc n nx tg : Nat} {i : Instr} {v : Int32} (h : zfe M pc = some (i, n, nx, tg, v)) : decode M.2.2.1 pc = .ok (i, n) ∧ nx = pc + n ∧ zTk i pc tg v = true := by
  unfold zfe at h
  cases hb : Nat.blt pc M.2.2.2.2.2.1.2.2 with
  | false => rw [hb] at h; cases h
  | true =>
    rw [hb] at h
    have h1 : pc < M.2.2.2.2.2.1.2.2 := Nat.le_of_ble_eq_true hb
    have h2 := List.all_eq_true.mp hM pc (List.mem_range.mpr h1)
    have h3 : M.2.2.2.2.2.2 pc = some (i, n, nx, tg, v) := h
    rw [h3] at h2
    simp only [Bool.and_eq_true, decide_eq_true_eq] at h2
    exact ⟨h2.1.1, Nat.eq_of_beq_eq_true h2.1.2, h2.2⟩
def ze (ad : Nat → Nat) (v : Value) : Value := match v with
  | .ref k => .ref (ad k)
  | v => v
theorem ze_cat (ad : Nat → Nat) (v : Value) : (ze ad v).category = v.category := by cases v <;> rfl
def zca (ad : Nat → Nat) (a : vp_A) : vp_A := match a with
  | (n, .inr (.inr (.inr (.inr g)))) => (n, .inr (.inr (.inr (.inr (fun i => (g i).map ad)))))
  | a => a
def zcc (dA : Nat → ClassId) (ad : Nat → Nat) (x : zc) : va_E := match x with
  | .inl a => .inl (dA a.1, zca ad a.2)
  | .inr o => .inr (o.1, o.2.map (ze ad))
/-- the kinds of arrays: ints, booleans, longs, references -/
def ztys (dA : Nat → ClassId) : List (ClassId × FieldType) := [(dA 0, .int), (dA 1, .boolean), (dA 2, .long), (dA 3, .object "MinimalTables$Kernel"), (dA 4, .object "MinimalTables$Automaton"), (dA 5, .object "MinimalTables$Actions")]
def zws {S : Type} (Z : ZW S) (dA : Nat → ClassId) (ad : Nat → Nat) (s : S) : va_W := (List.range (Z.2.1 s)).map fun k => (ad k, zcc dA ad (Z.1 s k))
theorem zws_at {S : Type} {Z : ZW S} {dA : Nat → ClassId} {ad : Nat → Nat} {s : S} {k : Nat} (h : k < Z.2.1 s) : (zws Z dA ad s)[k]? = some (ad k, zcc dA ad (Z.1 s k)) := by
  simp [zws, h]
/-- locals -/
def zlv (ad : Nat → Nat) (ls : Array Slot) (nL : Nat) (l : List (Option Value)) : Prop := l.length = nL ∧ ls.size = nL ∧ lv_wf ls ∧ ∀ (i : Nat) (v : Value), l[i]? = some (some v) → ls[i]? = some (.val (ze ad v))
def zas (ad : Nat → Nat) (l : List (Option Value)) : List (Nat × Value) := (List.range l.length).filterMap fun i => match l[i]? with
  | some (some v) => some (i, ze ad v)
  | _ => none
theorem zas_mem {ad : Nat → Nat} {l : List (Option Value)} {i : Nat} {v : Value} (h : l[i]? = some (some v)) : (i, ze ad v) ∈ zas ad l := by
  refine List.mem_filterMap.mpr ⟨i, List.mem_range.mpr (List.getElem?_eq_some_iff.mp h).1, ?_⟩
  rw [h]
theorem zas_of {ad : Nat → Nat} {l : List (Option Value)} {q : Nat × Value} (h : q ∈ zas ad l) : ∃ v, l[q.1]? = some (some v) ∧ q.2 = ze ad v := by
  obtain ⟨i, -, hi⟩ := List.mem_filterMap.mp h
  split at hi
  · rename_i v hv
    cases hi
    exact ⟨v, hv, rfl⟩
  · cases hi
theorem zlv_has {ad : Nat → Nat} {ls : Array Slot} {nL : Nat} {l : List (Option Value)} (h : zlv ad ls nL l) : lv_has ls nL (zas ad l) := by
  refine ⟨h.2.1, h.2.2.1, fun q hq => ?_⟩
  obtain ⟨v, h1, h2⟩ := zas_of hq
  rw [h2]
  exact h.2.2.2 _ _ h1
/-- a store makes a long that stands one place before it void -/
def zk (l : List (Option Value)) (i : Nat) : List (Option Value) := match i with
  | 0 => l
  | j + 1 => match l[j]? with
    | some (some w) => bif Nat.beq w.category 2 then l.set j none else l
    | _ => l
def zst1 (l : List (Option Value)) (i : Nat) (v : Value) : List (Option Value) := (zk l i).set i (some v)
def zst2 (l : List (Option Value)) (i : Nat) (v : Value) : List (Option Value) := ((zk l i).set i (some v)).set (i + 1) none
theorem zk_len (l : List (Option Value)) (i : Nat) : (zk l i).length = l.length := by
  cases i with
  | zero => rfl
  | succ j =>
    simp only [zk]
    split
    · rename_i w _
      cases Nat.beq w.category 2 <;> simp
    · rfl
theorem zk_at {l : List (Option Value)} {i j : Nat} {w : Value} (h : (zk l i)[j]? = some (some w)) : l[j]? = some (some w) ∧ ¬ (j + 1 = i ∧ w.category = 2) := by
  cases i with
  | zero => exact ⟨h, fun q => absurd q.1 (Nat.succ_ne_zero j)⟩
  | succ k =>
    simp only [zk] at h
    split at h
    · rename_i u hu
      cases hb : Nat.beq u.category 2 with
      | true =>
        rw [hb] at h
        simp only [cond_true] at h
        by_cases hj : j = k
        · subst hj
          rw [List.getElem?_set] at h
          simp at h
        · rw [List.getElem?_set_ne (fun q => hj q.symm)] at h
          exact ⟨h, fun q => hj (Nat.succ.inj q.1)⟩
      | false =>
        rw [hb] at h
        simp only [cond_false] at h
        refine ⟨h, fun q => ?_⟩
        have hj : j = k := Nat.succ.inj q.1
        subst hj
        rw [hu] at h
        cases h
        rw [q.2] at hb
        cases hb
    · rename_i hn
      refine ⟨h, fun q => ?_⟩
      have hj : j = k := Nat.succ.inj q.1
      subst hj
      exact hn w h
theorem zlv_st1 {ad : Nat → Nat} {ls ls' : Array Slot} {nL i : Nat} {l : List (Option Value)} {v : Value} (h : zlv ad ls nL l) (h' : lv_has ls' nL ((i, ze ad v) :: (zas ad l).filter (fun q => !(q.1 == i) && !(q.1 + 1 == i && q.2.category == 2)))) : zlv ad ls' nL (zst1 l i v) := by
  refine ⟨by simp [zst1, zk_len, h.1], h'.1, h'.2.1, fun j w hj => ?_⟩
  unfold zst1 at hj
  by_cases e : i = j
  · subst e
    rw [List.getElem?_set] at hj
    split at hj
    · split at hj
      · cases hj
        exact h'.2.2 _ List.mem_cons_self
      · cases hj
    · rename_i q; exact absurd rfl q
  · rw [List.getElem?_set_ne e] at hj
    obtain ⟨h1, h2⟩ := zk_at hj
    refine h'.2.2 (j, ze ad w) (List.mem_cons_of_mem _ (List.mem_filter.mpr ⟨zas_mem h1, ?_⟩))
    simp only [Bool.and_eq_true, Bool.not_eq_true', beq_eq_false_iff_ne, ne_eq, Bool.and_eq_false_iff, ze_cat]
    refine ⟨fun q => e q.symm, ?_⟩
    by_cases q : j + 1 = i
    · exact Or.inr fun z => h2 ⟨q, z⟩
    · exact Or.inl q
theorem zlv_st2 {ad : Nat → Nat} {ls ls' : Array Slot} {nL i : Nat} {l : List (Option Value)} {v : Value} (h : zlv ad ls nL l) (h' : lv_has ls' nL ((i, ze ad v) :: (zas ad l).filter (fun q => !(q.1 == i) && (!(q.1 == i + 1) && !(q.1 + 1 == i && q.2.category == 2))))) : zlv ad ls' nL (zst2 l i v) := by
  refine ⟨by simp [zst2, zk_len, h.1], h'.1, h'.2.1, fun j w hj => ?_⟩
  unfold zst2 at hj
  by_cases e2 : i + 1 = j
  · subst e2
    rw [List.getElem?_set] at hj
    simp at hj
  · rw [List.getElem?_set_ne e2] at hj
    by_cases e : i = j
    · subst e
      rw [List.getElem?_set] at hj
      split at hj
      · split at hj
        · cases hj
          exact h'.2.2 _ List.mem_cons_self
        · cases hj
      · rename_i q; exact absurd rfl q
    · rw [List.getElem?_set_ne e] at hj
      obtain ⟨h1, h2⟩ := zk_at hj
      refine h'.2.2 (j, ze ad w) (List.mem_cons_of_mem _ (List.mem_filter.mpr ⟨zas_mem h1, ?_⟩))
      simp only [Bool.and_eq_true, Bool.not_eq_true', beq_eq_false_iff_ne, ne_eq, Bool.and_eq_false_iff, ze_cat]
      refine ⟨fun q => e q.symm, fun q => e2 q.symm, ?_⟩
      by_cases q : j + 1 = i
      · exact Or.inr fun z => h2 ⟨q, z⟩
      · exact Or.inl q
/-- fewer locals known -/
def zle (l' l : List (Option Value)) : Prop := match l', l with
  | [], [] => True
  | none :: a, _ :: b => zle a b
  | some v :: a, some w :: b => v = w ∧ zle a b
  | _, _ => False
theorem zle_len : ∀ {l' l : List (Option Value)}, zle l' l → l'.length = l.length
  | [], [], _ => rfl
  | none :: a, _ :: b, h => by simp only [List.length_cons]; rw [zle_len (l' := a) (l := b) h]
  | some v :: a, some w :: b, h => by simp only [List.length_cons]; rw [zle_len (l' := a) (l := b) h.2]
  | some v :: a, none :: b, h => h.elim
  | some v :: a, [], h => h.elim
  | none :: a, [], h => h.elim
  | [], _ :: _, h => h.elim
theorem zle_at : ∀ {l' l : List (Option Value)}, zle l' l → ∀ {i : Nat} {v : Value}, l'[i]? = some (some v) → l[i]? = some (some v)
  | [], [], _, i, v, hv => by simp at hv
  | none :: a, _ :: b, h, i, v, hv => by
    cases i with
    | zero => simp at hv
    | succ i => simp only [List.getElem?_cons_succ] at hv ⊢; exact zle_at (l' := a) (l := b) h hv
  | some v :: a, some w :: b, h, i, u, hv => by
    cases i with
    | zero => simp only [List.getElem?_cons_zero] at hv ⊢; rw [← h.1]; exact hv
    | succ i => simp only [List.getElem?_cons_succ] at hv ⊢; exact zle_at (l' := a) (l := b) h.2 hv
  | some v :: a, none :: b, h, _, _, _ => h.elim
  | some v :: a, [], h, _, _, _ => h.elim
  | none :: a, [], h, _, _, _ => h.elim
  | [], _ :: _, h, _, _, _ => h.elim
theorem zlv_le {ad : Nat → Nat} {ls : Array Slot} {nL : Nat} {l l' : List (Option Value)} (h : zlv ad ls nL l) (hl : zle l' l) : zlv ad ls nL l' := ⟨(zle_len hl).trans h.1, h.2.1, h.2.2.1, fun i v hi => h.2.2.2 i v (zle_at hl hi)⟩
def zT : List Cond := lw_tbl.filter goodWord
theorem zT_place {w : Cond} (p : Nat) (h : lw_tbl[p]? = some w) (hg : goodWord w = true) : w ∈ zT := List.mem_filter.mpr ⟨List.mem_of_getElem? h, hg⟩
theorem zT_good {w : Cond} (h : w ∈ zT) : (w.onTables && w.keeps) = true ∨ ∃ ty, w = .arrayClass ty := good_of_word (List.mem_filter.mp h).2
/-- fields by class number -/
def ztyF (ci k : Nat) : FieldType := (([tyX0, tyX1, tyX2, tyX3, tyX4, tyX5, tyX6, tyX7, tyX8, tyX9, tyX10, tyX11, tyX12] : List (Nat → FieldType)).getD ci (fun _ => .int)) k
def zfinF (ci k : Nat) : Bool := match (vwCl)[ci]? with
  | some (_, T, _) => (T k).2.2.2
  | none => true
/-- may a value be put into a field: what must hold of it -/
def zfit (t : FieldType) (v : Value) : Option (Option Prop) := match t, v with
  | .int, .int _ => some none
  | .long, .long _ => some none
  | .boolean, .int x => some (some (x = 0 ∨ x = 1))
  | _, _ => none
/-- one instruction that is neither a branch nor a call nor a return nor makes a cell: what it asks, and the next frame -/
def zex {S : Type} (Z : ZW S) (o : Nat) (i : Instr) (n nx tg : Nat) (v : Int32) (l : List (Option Value)) (st : List Value) (s : S) : Option (Option Prop × ZF S) :=
  match i, n with
  | .iload_n k, 1 => match l[k.val]? with
    | some (some (.int x)) => some (none, nx, l, .int x :: st, s)
    | _ => none
  | .iload k, 2 => match l[k]? with
    | some (some (.int x)) => some (none, nx, l, .int x :: st, s)
    | _ => none
  | .aload_n k, 1 => match l[k.val]? with
    | some (some (.ref x)) => some (none, nx, l, .ref x :: st, s)
    | _ => none
  | .aload k, 2 => match l[k]? with
    | some (some (.ref x)) => some (none, nx, l, .ref x :: st, s)
    | _ => none
  | .lload_n k, 1 => match l[k.val]? with
    | some (some (.long x)) => some (none, nx, l, .long x :: st, s)
    | _ => none
  | .lload k, 2 => match l[k]? with
    | some (some (.long x)) => some (none, nx, l, .long x :: st, s)
    | _ => none
  | .istore_n k, 1 => match st with
    | .int x :: r => bif Nat.blt k.val l.length then some (none, nx, zst1 l k.val (.int x), r, s) else none
    | _ => none
  | .istore k, 2 => match st with
    | .int x :: r => bif Nat.blt k l.length then some (none, nx, zst1 l k (.int x), r, s) else none
    | _ => none
  | .astore_n k, 1 => match st with
    | .ref x :: r => bif Nat.blt k.val l.length then some (none, nx, zst1 l k.val (.ref x), r, s) else none
    | _ => none
  | .astore k, 2 => match st with
    | .ref x :: r => bif Nat.blt k l.length then some (none, nx, zst1 l k (.ref x), r, s) else none
    | _ => none
  | .lstore_n k, 1 => match st with
    | .long x :: r => bif Nat.blt (k.val + 1) l.length then some (none, nx, zst2 l k.val (.long x), r, s) else none
    | _ => none
  | .lstore k, 2 => match st with
    | .long x :: r => bif Nat.blt (k + 1) l.length then some (none, nx, zst2 l k (.long x), r, s) else none
    | _ => none
  | .iinc k _, 3 => match l[k]? with
    | some (some (.int x)) => some (none, nx, zst1 l k (.int (x + v)), st, s)
    | _ => none
  | .iconst _, 1 => some (none, nx, l, .int v :: st, s)
  | .bipush _, 2 => some (none, nx, l, .int v :: st, s)
  | .sipush _, 3 => some (none, nx, l, .int v :: st, s)
  | .lconst k, 1 => some (none, nx, l, .long (Int64.ofNat k.val) :: st, s)
  | .ldc k, 2 => match zCT o k with
    | some q => some (none, nx, l, .int q.1 :: st, s)
    | none => none
  | .ldc_w k, 3 => match zCT o k with
    | some q => some (none, nx, l, .int q.1 :: st, s)
    | none => none
  | .ldc2_w k, 3 => match zCL o k with
    | some q => some (none, nx, l, .long q.1 :: st, s)
    | none => none
  | .iadd, 1 => match st with
    | .int y :: .int x :: r => some (none, nx, l, .int (x + y) :: r, s)
    | _ => none
  | .isub, 1 => match st with
    | .int y :: .int x :: r => some (none, nx, l, .int (x - y) :: r, s)
    | _ => none
  | .imul, 1 => match st with
    | .int y :: .int x :: r => some (none, nx, l, .int (x * y) :: r, s)
    | _ => none
  | .iand, 1 => match st with
    | .int y :: .int x :: r => some (none, nx, l, .int (x &&& y) :: r, s)
    | _ => none
  | .ior, 1 => match st with
    | .int y :: .int x :: r => some (none, nx, l, .int (x ||| y) :: r, s)
    | _ => none
  | .ixor, 1 => match st with
    | .int y :: .int x :: r => some (none, nx, l, .int (x ^^^ y) :: r, s)
    | _ => none
  | .ishl, 1 => match st with
    | .int y :: .int x :: r => some (none, nx, l, .int (x <<< (y &&& 31)) :: r, s)
    | _ => none
  | .ishr, 1 => match st with
    | .int y :: .int x :: r => some (none, nx, l, .int (x >>> (y &&& 31)) :: r, s)
    | _ => none
  | .iushr, 1 => match st with
    | .int y :: .int x :: r => some (none, nx, l, .int ((x.toUInt32 >>> (y.toUInt32 &&& Int32.toUInt32 31)).toInt32) :: r, s)
    | _ => none
  | .idiv, 1 => match st with
    | .int y :: .int x :: r => some (some (¬ y = 0), nx, l, .int (x / y) :: r, s)
    | _ => none
  | .irem, 1 => match st with
    | .int y :: .int x :: r => some (some (¬ y = 0), nx, l, .int (x - x / y * y) :: r, s)
    | _ => none
  | .ladd, 1 => match st with
    | .long y :: .long x :: r => some (none, nx, l, .long (x + y) :: r, s)
    | _ => none
  | .lmul, 1 => match st with
    | .long y :: .long x :: r => some (none, nx, l, .long (x * y) :: r, s)
    | _ => none
  | .lrem, 1 => match st with
    | .long y :: .long x :: r => some (some (¬ y = 0), nx, l, .long (x - x / y * y) :: r, s)
    | _ => none
  | .lushr, 1 => match st with
    | .int y :: .long x :: r => some (none, nx, l, .long ((x.toUInt64 >>> (y.toInt64.toUInt64 &&& Int64.toUInt64 63)).toInt64) :: r, s)
    | _ => none
  | .i2l, 1 => match st with
    | .int x :: r => some (none, nx, l, .long x.toInt64 :: r, s)
    | _ => none
  | .l2i, 1 => match st with
    | .long x :: r => some (none, nx, l, .int x.toInt32 :: r, s)
    | _ => none
  | .dup, 1 => match st with
    | a :: r => bif Nat.beq a.category 1 then some (none, nx, l, a :: a :: r, s) else none
    | _ => none
  | .pop, 1 => match st with
    | a :: r => bif Nat.beq a.category 1 then some (none, nx, l, r, s) else none
    | _ => none
  | .dup2, 1 => match st with
    | a :: b :: r => bif Nat.beq a.category 1 && Nat.beq b.category 1 then some (none, nx, l, a :: b :: a :: b :: r, s) else none
    | _ => none
  | .goto _, 3 => some (none, tg, l, st, s)
  | .getfield k, 3 => match zFR o k, st with
    | some (ci, j, _), .ref a :: r => match Z.1 s a with
      | .inr (cj, fs) => bif Nat.beq ci cj && Nat.blt a (Z.2.1 s) then (match fs[j]? with
        | some w => some (none, nx, l, w :: r, s)
        | none => none) else none
      | _ => none
    | _, _ => none
  | .putfield k, 3 => match zFR o k, st with
    | some (ci, j, _), w :: .ref a :: r => match Z.1 s a with
      | .inr (cj, fs) => bif Nat.beq ci cj && Nat.blt a (Z.2.1 s) && Nat.blt j fs.length && !(zfinF ci j) then (match zfit (ztyF ci j) w, Z.2.2.2.1 s a j w with
        | some q, some s' => some (q, nx, l, r, s')
        | _, _ => none) else none
      | _ => none
    | _, _ => none
  | .iaload, 1 => match st with
    | .int j :: .ref a :: r => match Z.1 s a with
      | .inl (0, nn, .inl g) => bif Nat.blt a (Z.2.1 s) then some (some (vp_in j nn), nx, l, .int (g j.toNatClampNeg) :: r, s) else none
      | _ => none
    | _ => none
  | .baload, 1 => match st with
    | .int j :: .ref a :: r => match Z.1 s a with
      | .inl (1, nn, .inl g) => bif Nat.blt a (Z.2.1 s) then some (some (vp_in j nn), nx, l, .int (g j.toNatClampNeg) :: r, s) else none
      | _ => none
    | _ => none
  | .laload, 1 => match st with
    | .int j :: .ref a :: r => match Z.1 s a with
      | .inl (2, nn, .inr (.inl g)) => bif Nat.blt a (Z.2.1 s) then some (some (vp_in j nn), nx, l, .long (g j.toNatClampNeg) :: r, s) else none
      | _ => none
    | _ => none
  | .aaload, 1 => match st with
    | .int j :: .ref a :: r => match Z.1 s a with
      | .inl (t, nn, .inr (.inr (.inr (.inr g)))) => bif Nat.blt a (Z.2.1 s) && Nat.blt 2 t && Nat.blt t 6 then some (some (vp_in j nn), nx, l, va_rf (g j.toNatClampNeg) :: r, s) else none
      | _ => none
    | _ => none
  | .iastore, 1 => match st with
    | .int x :: .int j :: .ref a :: r => match Z.1 s a with
      | .inl (0, nn, .inl _) => bif Nat.blt a (Z.2.1 s) then (match Z.2.2.2.2.1 s a j.toNatClampNeg x with
        | some s' => some (some (vp_in j nn), nx, l, r, s')
        | none => none) else none
      | _ => none
    | _ => none
  | .bastore, 1 => match st with
    | .int x :: .int j :: .ref a :: r => match Z.1 s a with
      | .inl (1, nn, .inl _) => bif Nat.blt a (Z.2.1 s) then (match Z.2.2.2.2.1 s a j.toNatClampNeg (vp_nar .boolean x) with
        | some s' => some (some (vp_in j nn), nx, l, r, s')
        | none => none) else none
      | _ => none
    | _ => none
  | .lastore, 1 => match st with
    | .long x :: .int j :: .ref a :: r => match Z.1 s a with
      | .inl (2, nn, .inr (.inl _)) => bif Nat.blt a (Z.2.1 s) then (match Z.2.2.2.2.2 s a j.toNatClampNeg x with
        | some s' => some (some (vp_in j nn), nx, l, r, s')
        | none => none) else none
      | _ => none
    | _ => none
  | .arraylength, 1 => match st with
    | .ref a :: r => match Z.1 s a with
      | .inl (t, q) => bif Nat.blt a (Z.2.1 s) && Nat.blt t 6 then some (none, nx, l, .int (Int32.ofNat q.1) :: r, s) else none
      | _ => none
    | _ => none
  | .ifnonnull _, 3 => match st with
    | .ref _ :: r => some (none, tg, l, r, s)
    | .null :: r => some (none, nx, l, r, s)
    | _ => none
  | _, _ => none
def zst {S : Type} (Z : ZW S) (M : MD) (f : ZF S) : Option (Option Prop × ZF S) := match zfe M f.1 with
  | none => none
  | some (i, n, nx, tg, v) => zex Z M.1 i n nx tg v f.2.1 f.2.2.1 f.2.2.2
/-- n instructions: what they ask, one behind the other -/
def zsteps {S : Type} (Z : ZW S) (M : MD) : Nat → ZF S → Option (Prop × ZF S)
  | 0, f => some (True, f)
  | n + 1, f => match zst Z M f with
    | none => none
    | some (none, f1) => zsteps Z M n f1
    | some (some P, f1) => match zsteps Z M n f1 with
      | none => none
      | some (Q, f2) => some (P ∧ Q, f2)
/-- a branch: its condition, where it goes if it holds, where else -/
def zbx (c : Jvm.ClassFile.Cond) (x y : Int32) : Prop := match c with
  | .eq => x = y
  | .ne => ¬ x = y
  | .lt => x < y
  | .ge => y ≤ x
  | .gt => y < x
  | .le => x ≤ y
def zbr {S : Type} (M : MD) (f : ZF S) : Option (Prop × ZF S × ZF S) := match zfe M f.1 with
  | some (.if_icmp c _, 3, nx, tg, _) => match f.2.2.1 with
    | .int y :: .int x :: r => some (zbx c x y, (tg, f.2.1, r, f.2.2.2), (nx, f.2.1, r, f.2.2.2))
    | _ => none
  | some (.ifCond c _, 3, nx, tg, _) => match f.2.2.1 with
    | .int x :: r => some (zbx c x 0, (tg, f.2.1, r, f.2.2.2), (nx, f.2.1, r, f.2.2.2))
    | _ => none
  | _ => none
end
section
/-! The machine's steps are steps of the JVM. -/
def zcn (o : Nat) : String := match (vwCl)[o]? with
  | some q => q.1
  | none => ""
/-- what the tables say of a method's own rows -/
def ZMo (M : MD) : Prop := zMb M = true ∧ (M.1 < 13 → zcn M.1 = M.2.1.cls)
def zall {α : Type} (f : Nat → Nat → Option α) (P : Nat → Nat → α → Bool) : Bool := (List.range 13).all fun o => (List.range 700).all fun i => match f o i with
  | none => true
  | some x => P o i x
def zFRp (o i : Nat) (x : Nat × Nat × Nat) : Bool := match (vwCl)[x.1]? with
  | none => false
  | some q => Nat.blt x.2.1 q.2.2 && decide (lw_tbl[x.2.2]? = some (Cond.fieldLink (zcn o) i (q.2.1 x.2.1).1 (q.2.1 x.2.1).2.1 (q.2.1 x.2.1).2.2.1)) && decide (parseFieldDescriptor (q.2.1 x.2.1).2.2.1 = some (ztyF x.1 x.2.1))
def zCTp (o i : Nat) (x : Int32 × Nat) : Bool := decide (lw_tbl[x.2]? = some (Cond.constant (zcn o) i x.1))
def zCLp (o i : Nat) (x : Int64 × Nat) : Bool := decide (lw_tbl[x.2]? = some (Cond.constantLong (zcn o) i x.1))
set_option maxRecDepth 100000 in
theorem zFRb_ok : zall zFRt zFRp = true := by decide +kernel
set_option maxRecDepth 100000 in
theorem zCTb_ok : zall zCTt zCTp = true := by decide +kernel
set_option maxRecDepth 100000 in
theorem zCLb_ok : zall zCLt zCLp = true := by decide +kernel
theorem zrow {α : Type} {f : Nat → Nat → Option α} {P : Nat → Nat → α → Bool} (h : zall f P = true) {o i : Nat} {x : α} (hx : (bif Nat.blt o 13 && Nat.blt i 700 then f o i else none) = some x) : P o i x = true ∧ o < 13 := by
  cases hb : (Nat.blt o 13 && Nat.blt i 700) with
  | false => rw [hb] at hx; cases hx
  | true =>
    rw [hb] at hx
    rw [Bool.and_eq_true] at hb
    have h1 : o < 13 := Nat.le_of_ble_eq_true hb.1
    have h2 := List.all_eq_true.mp (List.all_eq_true.mp h o (List.mem_range.mpr h1)) i (List.mem_range.mpr (Nat.le_of_ble_eq_true hb.2))
    have h3 : f o i = some x := hx
    rw [h3] at h2
    exact ⟨h2, h1⟩
theorem zFR_ok {o i ci k p : Nat} (h : zFR o i = some (ci, k, p)) : o < 13 ∧ ∃ (C : String) (T : u_T) (N : Nat), (vwCl)[ci]? = some (C, T, N) ∧ k < N ∧ Cond.fieldLink (zcn o) i (T k).1 (T k).2.1 (T k).2.2.1 ∈ zT ∧ parseFieldDescriptor (T k).2.2.1 = some (ztyF ci k) := by
  unfold zFR at h
  obtain ⟨h1, h2⟩ := zrow zFRb_ok h
  refine ⟨h2, ?_⟩
  unfold zFRp at h1
  dsimp only at h1
  cases hc : (vwCl)[ci]? with
  | none => rw [hc] at h1; cases h1
  | some q =>
    obtain ⟨C, T, N⟩ := q
    rw [hc] at h1
    simp only [Bool.and_eq_true, decide_eq_true_eq] at h1
    exact ⟨C, T, N, rfl, Nat.le_of_ble_eq_true h1.1.1, zT_place p h1.1.2 rfl, h1.2⟩
theorem zCT_ok {o i : Nat} {q : Int32 × Nat} (h : zCT o i = some q) : o < 13 ∧ Cond.constant (zcn o) i q.1 ∈ zT := by
  unfold zCT at h
  obtain ⟨h1, h2⟩ := zrow zCTb_ok h
  unfold zCTp at h1
  exact ⟨h2, zT_place q.2 (of_decide_eq_true h1) rfl⟩
theorem zCL_ok {o i : Nat} {q : Int64 × Nat} (h : zCL o i = some q) : o < 13 ∧ Cond.constantLong (zcn o) i q.1 ∈ zT := by
  unfold zCL at h
  obtain ⟨h1, h2⟩ := zrow zCLb_ok h
  unfold zCLp at h1
  exact ⟨h2, zT_place q.2 (of_decide_eq_true h1) rfl⟩
/-- each class's words are in the tables -/
def zClb (ci : Nat) : Bool := match (vwCl)[ci]?, zPl[ci]? with
  | some q, some ps => decide (u_ws q.1 q.2.1 q.2.2 = ps.filterMap (fun i => lw_tbl[i]?)) && (u_ws q.1 q.2.1 q.2.2).all goodWord
  | _, _ => false
set_option maxRecDepth 100000 in
theorem zCl_ok : (List.range 13).all zClb = true := by decide +kernel
theorem zcl_in {ci : Nat} {C : String} {T : u_T} {N : Nat} (h : (vwCl)[ci]? = some (C, T, N)) : ∀ w ∈ u_ws C T N, w ∈ zT := by
  intro w hw
  have hlt : ci < 13 := (List.getElem?_eq_some_iff.mp h).1
  have h1 := List.all_eq_true.mp zCl_ok ci (List.mem_range.mpr hlt)
  unfold zClb at h1
  rw [h] at h1
  cases hp : zPl[ci]? with
  | none => rw [hp] at h1; cases h1
  | some ps =>
    rw [hp] at h1
    simp only [Bool.and_eq_true, decide_eq_true_eq] at h1
    refine List.mem_filter.mpr ⟨?_, List.all_eq_true.mp h1.2 w hw⟩
    rw [h1.1] at hw
    obtain ⟨i, -, hi⟩ := List.mem_filterMap.mp hw
    exact List.mem_of_getElem? hi
theorem zcl_nm {ci : Nat} {C : String} {T : u_T} {N : Nat} (h : (vwCl)[ci]? = some (C, T, N)) : ∀ a, a < N → ∀ b, b < N → a ≠ b → (T a).2.1 ≠ (T b).2.1 := by
  match ci, h with
  | 0, h => cases h; exact nmX0
  | 1, h => cases h; exact nmX1
  | 2, h => cases h; exact nmX2
  | 3, h => cases h; exact nmX3
  | 4, h => cases h; exact nmX4
  | 5, h => cases h; exact nmX5
  | 6, h => cases h; exact nmX6
  | 7, h => cases h; exact nmX7
  | 8, h => cases h; exact nmX8
  | 9, h => cases h; exact nmX9
  | 10, h => cases h; exact nmX10
  | 11, h => cases h; exact nmX11
  | 12, h => cases h; exact nmX12
  | _ + 13, h => cases h
theorem zcl_ty {ci : Nat} {C : String} {T : u_T} {N : Nat} (h : (vwCl)[ci]? = some (C, T, N)) : ∀ k, k < N → parseFieldDescriptor (T k).2.2.1 = some (ztyF ci k) := by
  match ci, h with
  | 0, h => cases h; exact tyX0_ok
  | 1, h => cases h; exact tyX1_ok
  | 2, h => cases h; exact tyX2_ok
  | 3, h => cases h; exact tyX3_ok
  | 4, h => cases h; exact tyX4_ok
  | 5, h => cases h; exact tyX5_ok
  | 6, h => cases h; exact tyX6_ok
  | 7, h => cases h; exact tyX7_ok
  | 8, h => cases h; exact tyX8_ok
  | 9, h => cases h; exact tyX9_ok
  | 10, h => cases h; exact tyX10_ok
  | 11, h => cases h; exact tyX11_ok
  | 12, h => cases h; exact tyX12_ok
  | _ + 13, h => cases h
end
section
/-! Rn: from this frame the method comes to its end, with the answer r, the world at s'. -/
section ZRun
variable {S : Type}
def ZC (M : MD) (p : Program) (s : State) (m : MethodId) (args : Array Value) (meth : Method) (c : Code) : Prop :=
  p.tables.exec = Jvm.exec ∧ c.code = M.2.2.1 ∧ c.maxLocals = M.2.2.2.1 ∧ meth.sig.returnType = M.2.2.2.2.1 ∧ (∀ w ∈ zT, w.before args s = true) ∧ s.vm.findClass M.2.1.cls = some m.cls ∧ meth.locks = false ∧ ZMo M
def ZH (Z : ZW S) (dC : Nat → ClassId) (dI : Nat → Nat → Nat) (dA : Nat → ClassId) (ad : Nat → Nat) (A : Nat → Prop) (s0 : State) (H : Heap) (locs : List Loc) (s : S) : Prop :=
  va_P (dC, dI) vwCl (zws Z dA ad s) H ∧ va_K (dC, dI) vwCl (ztys dA) s0 ∧ va_D A (zws Z dA ad s) ∧ va_S A s0.heap H locs ∧ (∀ q, s0.heap.size ≤ q → A q) ∧ ∀ k, Z.2.1 s ≤ k → ad k = 0
def zQ (Z : ZW S) (dC : Nat → ClassId) (dI : Nat → Nat → Nat) (dA : Nat → ClassId) (ad0 : Nat → Nat) (nn : Nat) (A : Nat → Prop) (r : Option Value) (s' : S) : Array Value → State → Outcome → State → Prop := fun _ st oc t =>
  (∃ ad' : Nat → Nat, (∀ k, k < nn → ad' k = ad0 k) ∧ (∀ k, Z.2.1 s' ≤ k → ad' k = 0) ∧ oc = .returned (r.map (ze ad')) ∧ va_P (dC, dI) vwCl (zws Z dA ad' s') t.heap ∧ va_K (dC, dI) vwCl (ztys dA) t ∧ va_D A (zws Z dA ad' s')) ∧ va_F A st t
def Rn (Z : ZW S) (M : MD) (f : ZF S) (r : Option Value) (s' : S) : Prop :=
  (Z.2.1 f.2.2.2 ≤ Z.2.1 s' ∧ Z.2.2.1 f.2.2.2 ≤ Z.2.2.1 s') ∧
  ∀ (p : Program) (l : Launch) (e : Env) (R : Room) (s : State) (m : MethodId) (args : Array Value) (below : List Frame) (meth : Method) (c : Code) (H : Heap) (locs : List Loc) (ls : Array Slot) (A : Nat → Prop) (dC : Nat → ClassId) (dI : Nat → Nat → Nat) (dA : Nat → ClassId) (ad ad0 : Nat → Nat) (nn k0 n0 : Nat),
    ZC M p s m args meth c → (M.2.2.2.2.2.1.1 ≤ R.frames ∧ M.2.2.2.2.2.1.2.1 ≤ R.locals ∧ Z.2.1 s' - k0 ≤ R.cells ∧ Z.2.2.1 s' - n0 ≤ R.slots) →
    ZH Z dC dI dA ad A s H locs f.2.2.2 → zlv ad ls M.2.2.2.1 f.2.1 → (nn ≤ Z.2.1 f.2.2.2 ∧ ∀ k, k < nn → ad k = ad0 k) → (k0 ≤ Z.2.1 f.2.2.2 ∧ n0 ≤ Z.2.2.1 f.2.2.2) →
    W p l e R s m args below meth c H locs (Z.2.1 f.2.2.2 - k0) (Z.2.2.1 f.2.2.2 - n0) (MQ below (zQ Z dC dI dA ad0 nn A r s') args s (Z.2.1 s' - k0) (Z.2.2.1 s' - n0) A) (F0 m f.1 ls (f.2.2.1.map (ze ad)))
variable {Z : ZW S} {M : MD} {pc nx n tg : Nat} {i : Instr} {v : Int32} {l l' : List (Option Value)} {st st' : List Value} {s s' sE : S} {r : Option Value}
theorem zD {p : Program} {s0 : State} {m : MethodId} {args : Array Value} {meth : Method} {c : Code} (hC : ZC M p s0 m args meth c) (hfe : zfe M pc = some (i, n, nx, tg, v)) : decode M.2.2.1 pc = .ok (i, n) ∧ nx = pc + n ∧ zTk i pc tg v = true := zfe_ok hC.2.2.2.2.2.2.2.1 hfe
/-- one step: what the row of the instruction gives -/
theorem Rn_gen (hc : Z.2.1 s' = Z.2.1 s ∧ Z.2.2.1 s' = Z.2.2.1 s)
    (hx : ∀ (p : Program) (l0 : Launch) (e : Env) (R : Room) (s0 : State) (m : MethodId) (args : Array Value) (below : List Frame) (meth : Method) (c : Code) (H : Heap) (locs : List Loc) (cells slots : Nat) (Q : State → Prop) (ls : Array Slot) (A : Nat → Prop) (dC : Nat → ClassId) (dI : Nat → Nat → Nat) (dA : Nat → ClassId) (ad : Nat → Nat),
      ZC M p s0 m args meth c → ZH Z dC dI dA ad A s0 H locs s → zlv ad ls M.2.2.2.1 l →
      (∀ (H' : Heap) (locs' : List Loc) (ls' : Array Slot), ZH Z dC dI dA ad A s0 H' locs' s' → zlv ad ls' M.2.2.2.1 l' → W p l0 e R s0 m args below meth c H' locs' cells slots Q (F0 m nx ls' (st'.map (ze ad)))) →
      W p l0 e R s0 m args below meth c H locs cells slots Q (F0 m pc ls (st.map (ze ad))))
    (k : Rn Z M (nx, l', st', s') r sE) : Rn Z M (pc, l, st, s) r sE := by
  obtain ⟨k1, k2⟩ := k
  dsimp only at k1 k2
  rw [hc.1, hc.2] at k1 k2
  refine ⟨k1, ?_⟩
  intro p l0 e R s0 m args below meth c H locs ls A dC dI dA ad ad0 nn k0 n0 hC hR hH hl ha hk
  dsimp only at hH hl ha hk ⊢
  exact hx p l0 e R s0 m args below meth c H locs _ _ _ ls A dC dI dA ad hC hH hl (fun H' locs' ls' h1 h2 => k2 p l0 e R s0 m args below meth c H' locs' ls' A dC dI dA ad ad0 nn k0 n0 hC hR h1 h2 ha hk)
/-- the locals and the heap stay -/
theorem Rn_pure (hx : ∀ (p : Program) (l0 : Launch) (e : Env) (R : Room) (s0 : State) (m : MethodId) (args : Array Value) (below : List Frame) (meth : Method) (c : Code) (H : Heap) (locs : List Loc) (cells slots : Nat) (Q : State → Prop) (ls : Array Slot) (A : Nat → Prop) (dC : Nat → ClassId) (dI : Nat → Nat → Nat) (dA : Nat → ClassId) (ad : Nat → Nat),
      ZC M p s0 m args meth c → ZH Z dC dI dA ad A s0 H locs s → zlv ad ls M.2.2.2.1 l →
      W p l0 e R s0 m args below meth c H locs cells slots Q (F0 m nx ls (st'.map (ze ad))) →
      W p l0 e R s0 m args below meth c H locs cells slots Q (F0 m pc ls (st.map (ze ad))))
    (k : Rn Z M (nx, l, st', s) r sE) : Rn Z M (pc, l, st, s) r sE :=
  Rn_gen ⟨rfl, rfl⟩ (fun p l0 e R s0 m args below meth c H locs cells slots Q ls A dC dI dA ad hC hH hl w => hx p l0 e R s0 m args below meth c H locs cells slots Q ls A dC dI dA ad hC hH hl (w H locs ls hH hl)) k
/-- only locals change -/
theorem Rn_loc (hx : ∀ (p : Program) (l0 : Launch) (e : Env) (R : Room) (s0 : State) (m : MethodId) (args : Array Value) (below : List Frame) (meth : Method) (c : Code) (H : Heap) (locs : List Loc) (cells slots : Nat) (Q : State → Prop) (ls : Array Slot) (ad : Nat → Nat),
      ZC M p s0 m args meth c → zlv ad ls M.2.2.2.1 l →
      (∀ ls' : Array Slot, zlv ad ls' M.2.2.2.1 l' → W p l0 e R s0 m args below meth c H locs cells slots Q (F0 m nx ls' (st'.map (ze ad)))) →
      W p l0 e R s0 m args below meth c H locs cells slots Q (F0 m pc ls (st.map (ze ad))))
    (k : Rn Z M (nx, l', st', s) r sE) : Rn Z M (pc, l, st, s) r sE :=
  Rn_gen ⟨rfl, rfl⟩ (fun p l0 e R s0 m args below meth c H locs cells slots Q ls A dC dI dA ad hC hH hl w => hx p l0 e R s0 m args below meth c H locs cells slots Q ls ad hC hl (fun ls' h => w H locs ls' hH h)) k
/-- a world's writes are what they say -/
def ZOk (Z : ZW S) : Prop :=
  (∀ (s : S) (a k : Nat) (v : Value) (s' : S), Z.2.2.2.1 s a k v = some s' → a < Z.2.1 s → (Z.2.1 s' = Z.2.1 s ∧ Z.2.2.1 s' = Z.2.2.1 s) ∧ (∀ b, b ≠ a → Z.1 s' b = Z.1 s b) ∧ ∀ ci fs, Z.1 s a = .inr (ci, fs) → k < fs.length → Z.1 s' a = .inr (ci, fs.set k v)) ∧
  (∀ (s : S) (a k : Nat) (x : Int32) (s' : S), Z.2.2.2.2.1 s a k x = some s' → a < Z.2.1 s → (Z.2.1 s' = Z.2.1 s ∧ Z.2.2.1 s' = Z.2.2.1 s) ∧ (∀ b, b ≠ a → Z.1 s' b = Z.1 s b) ∧ ∀ t nn g, Z.1 s a = .inl (t, nn, .inl g) → Z.1 s' a = .inl (t, nn, .inl (upd g k x))) ∧
  (∀ (s : S) (a k : Nat) (x : Int64) (s' : S), Z.2.2.2.2.2 s a k x = some s' → a < Z.2.1 s → (Z.2.1 s' = Z.2.1 s ∧ Z.2.2.1 s' = Z.2.2.1 s) ∧ (∀ b, b ≠ a → Z.1 s' b = Z.1 s b) ∧ ∀ t nn g, Z.1 s a = .inl (t, nn, .inr (.inl g)) → Z.1 s' a = .inl (t, nn, .inr (.inl (vp_updL g k x))))
theorem zws_set {dA : Nat → ClassId} {ad : Nat → Nat} {a : Nat} (hc : Z.2.1 s' = Z.2.1 s) (ho : ∀ b, b ≠ a → Z.1 s' b = Z.1 s b) : zws Z dA ad s' = (zws Z dA ad s).set a (ad a, zcc dA ad (Z.1 s' a)) := by
  apply List.ext_getElem?
  intro k
  by_cases hk : k = a
  · subst hk
    rw [List.getElem?_set]
    simp only [if_true, zws, hc, List.length_map, List.length_range]
    split
    · rename_i h; simp [h]
    · rename_i h; simp [Nat.le_of_not_lt h]
  · rw [List.getElem?_set_ne (fun q => hk q.symm)]
    simp only [zws, hc, List.getElem?_map]
    cases hq : (List.range (Z.2.1 s))[k]? with
    | none => rfl
    | some j =>
      have : j = k := by
        have := List.getElem?_eq_some_iff.mp hq
        obtain ⟨h1, h2⟩ := this
        simpa using h2.symm
      subst this
      simp only [Option.map_some, ho j hk]
/-- the locals: weaker -/
theorem Rn_le (hl : zle l' l) (k : Rn Z M (pc, l', st, s) r sE) : Rn Z M (pc, l, st, s) r sE := by
  obtain ⟨k1, k2⟩ := k
  refine ⟨k1, ?_⟩
  intro p l0 e R s0 m args below meth c H locs ls A dC dI dA ad ad0 nn k0 n0 hC hR hH hlv ha hk
  exact k2 p l0 e R s0 m args below meth c H locs ls A dC dI dA ad ad0 nn k0 n0 hC hR hH (zlv_le hlv hl) ha hk
end ZRun
end
section
section ZStep
variable {S : Type} {Z : ZW S} {M : MD} {pc nx n tg : Nat} {i : Instr} {v : Int32} {l l' : List (Option Value)} {st st' : List Value} {s s' sE : S} {r : Option Value}
theorem zgo_ok {i0 : Int} (hfe : zfe M pc = some (.goto i0, 3, nx, tg, v)) (k : Rn Z M (tg, l, st, s) r sE) : Rn Z M (pc, l, st, s) r sE := by
  refine Rn_pure (fun p l0 e R s0 m args below meth c H locs cells slots Q ls A dC dI dA ad hC hH hl w => ?_) k
  obtain ⟨hd, -, ht⟩ := zD hC hfe
  exact lv_goto hC.1 hC.2.1 hd (of_decide_eq_true ht) w
theorem zP2 {P : Option Prop} (hP : ∀ q, P = some q → q) {q : Prop} (h : P = some q) : q := hP q h
/-- ZH behind a write of one cell -/
theorem ZH_set {dC : Nat → ClassId} {dI : Nat → Nat → Nat} {dA : Nat → ClassId} {ad : Nat → Nat} {A : Nat → Prop} {s0 : State} {H H1 : Heap} {locs locs1 : List Loc} {a : Nat} {x : va_E} (hH : ZH Z dC dI dA ad A s0 H locs s) (hc : Z.2.1 s' = Z.2.1 s) (ho : ∀ b, b ≠ a → Z.1 s' b = Z.1 s b) (hx : zcc dA ad (Z.1 s' a) = x)
    (h1 : va_P (dC, dI) vwCl ((zws Z dA ad s).set a (ad a, x)) H1) (h2 : va_D A ((zws Z dA ad s).set a (ad a, x))) (h3 : va_S A s0.heap H1 locs1) : ZH Z dC dI dA ad A s0 H1 locs1 s' := by
  have e : zws Z dA ad s' = (zws Z dA ad s).set a (ad a, x) := by rw [zws_set hc ho, hx]
  exact ⟨by rw [e]; exact h1, hH.2.1, by rw [e]; exact h2, h3, hH.2.2.2.2.1, fun k hk => hH.2.2.2.2.2 k (by rw [← hc]; exact hk)⟩
theorem zown {p : Program} {s0 : State} {m : MethodId} {args : Array Value} {meth : Method} {c : Code} (hC : ZC M p s0 m args meth c) (h : M.1 < 13) : s0.vm.findClass (zcn M.1) = some m.cls := by rw [hC.2.2.2.2.2.2.2.2 h]; exact hC.2.2.2.2.2.1
theorem zfit_ok {t : FieldType} {w : Value} {q : Option Prop} (h : zfit t w = some q) (hP : ∀ x, q = some x → x) (ad : Nat → Nat) : narrow t (ze ad w) = ze ad w ∧ fits t (ze ad w) = true := by
  unfold zfit at h
  split at h
  · exact ⟨rfl, rfl⟩
  · exact ⟨rfl, rfl⟩
  · cases h
    rcases hP _ rfl with rfl | rfl <;> exact ⟨rfl, rfl⟩
  · cases h
set_option maxHeartbeats 4000000 in
theorem zex_ok (hZ : ZOk Z) (hfe : zfe M pc = some (i, n, nx, tg, v)) {P : Option Prop} {f' : ZF S} (h : zex Z M.1 i n nx tg v l st s = some (P, f')) (hP : ∀ q, P = some q → q) (k : Rn Z M f' r sE) : Rn Z M (pc, l, st, s) r sE := by
  unfold zex at h
  split at h
  · -- iload_n
    split at h
    · rename_i x hx
      cases h
      refine Rn_pure (fun p l0 e R s0 m args below meth c H locs cells slots Q ls A dC dI dA ad hC hH hl w => ?_) k
      obtain ⟨hd, rfl, -⟩ := zD hC hfe
      exact lv_iload_n hC.1 hC.2.1 hd rfl (hl.2.2.2 _ _ hx) w
    · cases h
  · -- iload
    split at h
    · rename_i x hx
      cases h
      refine Rn_pure (fun p l0 e R s0 m args below meth c H locs cells slots Q ls A dC dI dA ad hC hH hl w => ?_) k
      obtain ⟨hd, rfl, -⟩ := zD hC hfe
      exact lv_iload hC.1 hC.2.1 hd (hl.2.2.2 _ _ hx) w
    · cases h
  · -- aload_n
    split at h
    · rename_i x hx
      cases h
      refine Rn_pure (fun p l0 e R s0 m args below meth c H locs cells slots Q ls A dC dI dA ad hC hH hl w => ?_) k
      obtain ⟨hd, rfl, -⟩ := zD hC hfe
      exact lv_aload_n hC.1 hC.2.1 hd rfl (hl.2.2.2 _ _ hx) w
    · cases h
  · -- aload
    split at h
    · rename_i x hx
      cases h
      refine Rn_pure (fun p l0 e R s0 m args below meth c H locs cells slots Q ls A dC dI dA ad hC hH hl w => ?_) k
      obtain ⟨hd, rfl, -⟩ := zD hC hfe
      exact lv_aload hC.1 hC.2.1 hd (hl.2.2.2 _ _ hx) w
    · cases h
  · -- lload_n
    split at h
    · rename_i x hx
      cases h
      refine Rn_pure (fun p l0 e R s0 m args below meth c H locs cells slots Q ls A dC dI dA ad hC hH hl w => ?_) k
      obtain ⟨hd, rfl, -⟩ := zD hC hfe
      exact lv_lload_n hC.1 hC.2.1 hd rfl (hl.2.2.2 _ _ hx) w
    · cases h
  · -- lload
    split at h
    · rename_i x hx
      cases h
      refine Rn_pure (fun p l0 e R s0 m args below meth c H locs cells slots Q ls A dC dI dA ad hC hH hl w => ?_) k
      obtain ⟨hd, rfl, -⟩ := zD hC hfe
      exact lv_lload hC.1 hC.2.1 hd (hl.2.2.2 _ _ hx) w
    · cases h
  · -- istore_n
    split at h
    · rename_i x rr
      cases hb : Nat.blt _ l.length with
      | false => rw [hb] at h; cases h
      | true =>
        rw [hb] at h
        cases h
        refine Rn_loc (fun p l0 e R s0 m args below meth c H locs cells slots Q ls ad hC hl w => ?_) k
        obtain ⟨hd, rfl, -⟩ := zD hC hfe
        exact lv_istore_n hC.1 hC.2.1 hd rfl (zlv_has hl) (by rw [← hl.1]; exact Nat.le_of_ble_eq_true hb) rfl (fun ls' h' => w ls' (zlv_st1 (v := .int x) hl h'))
    · cases h
  · -- istore
    split at h
    · rename_i x rr
      cases hb : Nat.blt _ l.length with
      | false => rw [hb] at h; cases h
      | true =>
        rw [hb] at h
        cases h
        refine Rn_loc (fun p l0 e R s0 m args below meth c H locs cells slots Q ls ad hC hl w => ?_) k
        obtain ⟨hd, rfl, -⟩ := zD hC hfe
        exact lv_istore hC.1 hC.2.1 hd (zlv_has hl) (by rw [← hl.1]; exact Nat.le_of_ble_eq_true hb) rfl (fun ls' h' => w ls' (zlv_st1 (v := .int x) hl h'))
    · cases h
  · -- astore_n
    split at h
    · rename_i x rr
      cases hb : Nat.blt _ l.length with
      | false => rw [hb] at h; cases h
      | true =>
        rw [hb] at h
        cases h
        refine Rn_loc (fun p l0 e R s0 m args below meth c H locs cells slots Q ls ad hC hl w => ?_) k
        obtain ⟨hd, rfl, -⟩ := zD hC hfe
        exact lv_astore_n hC.1 hC.2.1 hd rfl (zlv_has hl) (by rw [← hl.1]; exact Nat.le_of_ble_eq_true hb) rfl (fun ls' h' => w ls' (zlv_st1 (v := .ref x) hl h'))
    · cases h
  · -- astore
    split at h
    · rename_i x rr
      cases hb : Nat.blt _ l.length with
      | false => rw [hb] at h; cases h
      | true =>
        rw [hb] at h
        cases h
        refine Rn_loc (fun p l0 e R s0 m args below meth c H locs cells slots Q ls ad hC hl w => ?_) k
        obtain ⟨hd, rfl, -⟩ := zD hC hfe
        exact lv_astore hC.1 hC.2.1 hd (zlv_has hl) (by rw [← hl.1]; exact Nat.le_of_ble_eq_true hb) rfl (fun ls' h' => w ls' (zlv_st1 (v := .ref x) hl h'))
    · cases h
  · -- lstore_n
    split at h
    · rename_i x rr
      cases hb : Nat.blt _ l.length with
      | false => rw [hb] at h; cases h
      | true =>
        rw [hb] at h
        cases h
        refine Rn_loc (fun p l0 e R s0 m args below meth c H locs cells slots Q ls ad hC hl w => ?_) k
        obtain ⟨hd, rfl, -⟩ := zD hC hfe
        exact lv_lstore_n hC.1 hC.2.1 hd rfl (zlv_has hl) (by rw [← hl.1]; exact Nat.le_of_ble_eq_true hb) rfl (fun ls' h' => w ls' (zlv_st2 (v := .long x) hl h'))
    · cases h
  · -- lstore
    split at h
    · rename_i x rr
      cases hb : Nat.blt _ l.length with
      | false => rw [hb] at h; cases h
      | true =>
        rw [hb] at h
        cases h
        refine Rn_loc (fun p l0 e R s0 m args below meth c H locs cells slots Q ls ad hC hl w => ?_) k
        obtain ⟨hd, rfl, -⟩ := zD hC hfe
        exact lv_lstore hC.1 hC.2.1 hd (zlv_has hl) (by rw [← hl.1]; exact Nat.le_of_ble_eq_true hb) rfl (fun ls' h' => w ls' (zlv_st2 (v := .long x) hl h'))
    · cases h
  · -- iinc
    split at h
    · rename_i x hx
      cases h
      refine Rn_loc (fun p l0 e R s0 m args below meth c H locs cells slots Q ls ad hC hl w => ?_) k
      obtain ⟨hd, rfl, ht⟩ := zD hC hfe
      have hv : Int32.ofInt _ = v := of_decide_eq_true ht
      obtain ⟨q, hq⟩ := List.getElem?_of_mem (zas_mem (ad := ad) hx)
      exact lv_iinc (v := x + v) hC.1 hC.2.1 hd (zlv_has hl) hq (by rw [hv]) (by rw [← hl.1]; exact (List.getElem?_eq_some_iff.mp hx).1) rfl (fun ls' h' => w ls' (zlv_st1 (v := .int (x + v)) hl h'))
    · cases h
  · -- iconst
    cases h
    refine Rn_pure (fun p l0 e R s0 m args below meth c H locs cells slots Q ls A dC dI dA ad hC hH hl w => ?_) k
    obtain ⟨hd, rfl, ht⟩ := zD hC hfe
    exact lv_iconst hC.1 hC.2.1 hd (of_decide_eq_true ht) w
  · -- bipush
    cases h
    refine Rn_pure (fun p l0 e R s0 m args below meth c H locs cells slots Q ls A dC dI dA ad hC hH hl w => ?_) k
    obtain ⟨hd, rfl, ht⟩ := zD hC hfe
    exact lv_bipush hC.1 hC.2.1 hd (of_decide_eq_true ht) w
  · -- sipush
    cases h
    refine Rn_pure (fun p l0 e R s0 m args below meth c H locs cells slots Q ls A dC dI dA ad hC hH hl w => ?_) k
    obtain ⟨hd, rfl, ht⟩ := zD hC hfe
    exact lv_sipush hC.1 hC.2.1 hd (of_decide_eq_true ht) w
  · -- lconst
    cases h
    refine Rn_pure (fun p l0 e R s0 m args below meth c H locs cells slots Q ls A dC dI dA ad hC hH hl w => ?_) k
    obtain ⟨hd, rfl, ht⟩ := zD hC hfe
    exact lv_lconst hC.1 hC.2.1 hd rfl w
  · -- ldc
    split at h
    · rename_i q hq
      cases h
      refine Rn_pure (fun p l0 e R s0 m args below meth c H locs cells slots Q ls A dC dI dA ad hC hH hl w => ?_) k
      obtain ⟨hd, rfl, ht⟩ := zD hC hfe
      obtain ⟨ho, hw⟩ := zCT_ok hq
      exact lv_ldc hC.1 hC.2.1 (zown hC ho) (hC.2.2.2.2.1 _ hw) hd w
    · cases h
  · -- ldc_w
    split at h
    · rename_i q hq
      cases h
      refine Rn_pure (fun p l0 e R s0 m args below meth c H locs cells slots Q ls A dC dI dA ad hC hH hl w => ?_) k
      obtain ⟨hd, rfl, ht⟩ := zD hC hfe
      obtain ⟨ho, hw⟩ := zCT_ok hq
      exact lv_ldcw hC.1 hC.2.1 (zown hC ho) (hC.2.2.2.2.1 _ hw) hd w
    · cases h
  · -- ldc2_w
    split at h
    · rename_i q hq
      cases h
      refine Rn_pure (fun p l0 e R s0 m args below meth c H locs cells slots Q ls A dC dI dA ad hC hH hl w => ?_) k
      obtain ⟨hd, rfl, ht⟩ := zD hC hfe
      obtain ⟨ho, hw⟩ := zCL_ok hq
      exact lv_ldc2 hC.1 hC.2.1 (zown hC ho) (hC.2.2.2.2.1 _ hw) hd w
    · cases h
  · -- iadd
    split at h
    · cases h
      refine Rn_pure (fun p l0 e R s0 m args below meth c H locs cells slots Q ls A dC dI dA ad hC hH hl w => ?_) k
      obtain ⟨hd, rfl, -⟩ := zD hC hfe
      exact lv_iadd hC.1 hC.2.1 hd w
    · cases h
  · -- isub
    split at h
    · cases h
      refine Rn_pure (fun p l0 e R s0 m args below meth c H locs cells slots Q ls A dC dI dA ad hC hH hl w => ?_) k
      obtain ⟨hd, rfl, -⟩ := zD hC hfe
      exact lv_isub hC.1 hC.2.1 hd w
    · cases h
  · -- imul
    split at h
    · cases h
      refine Rn_pure (fun p l0 e R s0 m args below meth c H locs cells slots Q ls A dC dI dA ad hC hH hl w => ?_) k
      obtain ⟨hd, rfl, -⟩ := zD hC hfe
      exact lv_imul hC.1 hC.2.1 hd w
    · cases h
  · -- iand
    split at h
    · cases h
      refine Rn_pure (fun p l0 e R s0 m args below meth c H locs cells slots Q ls A dC dI dA ad hC hH hl w => ?_) k
      obtain ⟨hd, rfl, -⟩ := zD hC hfe
      exact lv_iand hC.1 hC.2.1 hd w
    · cases h
  · -- ior
    split at h
    · cases h
      refine Rn_pure (fun p l0 e R s0 m args below meth c H locs cells slots Q ls A dC dI dA ad hC hH hl w => ?_) k
      obtain ⟨hd, rfl, -⟩ := zD hC hfe
      exact lv_ior hC.1 hC.2.1 hd w
    · cases h
  · -- ixor
    split at h
    · cases h
      refine Rn_pure (fun p l0 e R s0 m args below meth c H locs cells slots Q ls A dC dI dA ad hC hH hl w => ?_) k
      obtain ⟨hd, rfl, -⟩ := zD hC hfe
      exact lv_ixor hC.1 hC.2.1 hd w
    · cases h
  · -- ishl
    split at h
    · cases h
      refine Rn_pure (fun p l0 e R s0 m args below meth c H locs cells slots Q ls A dC dI dA ad hC hH hl w => ?_) k
      obtain ⟨hd, rfl, -⟩ := zD hC hfe
      exact lv_ishl hC.1 hC.2.1 hd w
    · cases h
  · -- ishr
    split at h
    · cases h
      refine Rn_pure (fun p l0 e R s0 m args below meth c H locs cells slots Q ls A dC dI dA ad hC hH hl w => ?_) k
      obtain ⟨hd, rfl, -⟩ := zD hC hfe
      exact lv_ishr hC.1 hC.2.1 hd w
    · cases h
  · -- iushr
    split at h
    · cases h
      refine Rn_pure (fun p l0 e R s0 m args below meth c H locs cells slots Q ls A dC dI dA ad hC hH hl w => ?_) k
      obtain ⟨hd, rfl, -⟩ := zD hC hfe
      exact lv_iushr hC.1 hC.2.1 hd rfl w
    · cases h
  · -- idiv
    split at h
    · cases h
      refine Rn_pure (fun p l0 e R s0 m args below meth c H locs cells slots Q ls A dC dI dA ad hC hH hl w => ?_) k
      obtain ⟨hd, rfl, -⟩ := zD hC hfe
      exact lv_idiv hC.1 hC.2.1 hd (hP _ rfl) w
    · cases h
  · -- irem
    split at h
    · cases h
      refine Rn_pure (fun p l0 e R s0 m args below meth c H locs cells slots Q ls A dC dI dA ad hC hH hl w => ?_) k
      obtain ⟨hd, rfl, -⟩ := zD hC hfe
      exact lv_irem hC.1 hC.2.1 hd (hP _ rfl) w
    · cases h
  · -- ladd
    split at h
    · cases h
      refine Rn_pure (fun p l0 e R s0 m args below meth c H locs cells slots Q ls A dC dI dA ad hC hH hl w => ?_) k
      obtain ⟨hd, rfl, -⟩ := zD hC hfe
      exact lv_ladd hC.1 hC.2.1 hd w
    · cases h
  · -- lmul
    split at h
    · cases h
      refine Rn_pure (fun p l0 e R s0 m args below meth c H locs cells slots Q ls A dC dI dA ad hC hH hl w => ?_) k
      obtain ⟨hd, rfl, -⟩ := zD hC hfe
      exact lv_lmul hC.1 hC.2.1 hd w
    · cases h
  · -- lrem
    split at h
    · cases h
      refine Rn_pure (fun p l0 e R s0 m args below meth c H locs cells slots Q ls A dC dI dA ad hC hH hl w => ?_) k
      obtain ⟨hd, rfl, -⟩ := zD hC hfe
      exact lv_lrem hC.1 hC.2.1 hd (hP _ rfl) w
    · cases h
  · -- lushr
    split at h
    · cases h
      refine Rn_pure (fun p l0 e R s0 m args below meth c H locs cells slots Q ls A dC dI dA ad hC hH hl w => ?_) k
      obtain ⟨hd, rfl, -⟩ := zD hC hfe
      exact lv_lushr hC.1 hC.2.1 hd rfl w
    · cases h
  · -- i2l
    split at h
    · cases h
      refine Rn_pure (fun p l0 e R s0 m args below meth c H locs cells slots Q ls A dC dI dA ad hC hH hl w => ?_) k
      obtain ⟨hd, rfl, -⟩ := zD hC hfe
      exact lv_i2l hC.1 hC.2.1 hd rfl w
    · cases h
  · -- l2i
    split at h
    · cases h
      refine Rn_pure (fun p l0 e R s0 m args below meth c H locs cells slots Q ls A dC dI dA ad hC hH hl w => ?_) k
      obtain ⟨hd, rfl, -⟩ := zD hC hfe
      exact lv_l2i hC.1 hC.2.1 hd rfl w
    · cases h
  · -- dup
    split at h
    · rename_i a rr
      cases hb : Nat.beq a.category 1 with
      | false => rw [hb] at h; cases h
      | true =>
        rw [hb] at h
        cases h
        refine Rn_pure (fun p l0 e R s0 m args below meth c H locs cells slots Q ls A dC dI dA ad hC hH hl w => ?_) k
        obtain ⟨hd, rfl, -⟩ := zD hC hfe
        exact lv_dup hC.1 hC.2.1 hd (by rw [ze_cat]; exact Nat.eq_of_beq_eq_true hb) w
    · cases h
  · -- pop
    split at h
    · rename_i a rr
      cases hb : Nat.beq a.category 1 with
      | false => rw [hb] at h; cases h
      | true =>
        rw [hb] at h
        cases h
        refine Rn_pure (fun p l0 e R s0 m args below meth c H locs cells slots Q ls A dC dI dA ad hC hH hl w => ?_) k
        obtain ⟨hd, rfl, -⟩ := zD hC hfe
        exact lv_pop hC.1 hC.2.1 hd (by rw [ze_cat]; exact Nat.eq_of_beq_eq_true hb) w
    · cases h
  · -- dup2
    split at h
    · rename_i a b rr
      cases hb : (Nat.beq a.category 1 && Nat.beq b.category 1) with
      | false => rw [hb] at h; cases h
      | true =>
        rw [hb] at h
        cases h
        rw [Bool.and_eq_true] at hb
        refine Rn_pure (fun p l0 e R s0 m args below meth c H locs cells slots Q ls A dC dI dA ad hC hH hl w => ?_) k
        obtain ⟨hd, rfl, -⟩ := zD hC hfe
        exact lv_dup2_11 hC.1 hC.2.1 hd (by rw [ze_cat]; exact Nat.eq_of_beq_eq_true hb.1) (by rw [ze_cat]; exact Nat.eq_of_beq_eq_true hb.2) w
    · cases h
  · -- goto
    cases h
    refine Rn_pure (fun p l0 e R s0 m args below meth c H locs cells slots Q ls A dC dI dA ad hC hH hl w => ?_) k
    obtain ⟨hd, -, ht⟩ := zD hC hfe
    exact lv_goto hC.1 hC.2.1 hd (of_decide_eq_true ht) w
  · -- getfield
    split at h
    · rename_i ci j pl a rr hfr
      split at h
      · rename_i cj fs hcell
        cases hb : (Nat.beq ci cj && Nat.blt a (Z.2.1 s)) with
        | false => rw [hb] at h; cases h
        | true =>
          rw [hb] at h
          simp only [cond_true] at h
          rw [Bool.and_eq_true] at hb
          have e1 : ci = cj := Nat.eq_of_beq_eq_true hb.1
          have ha : a < Z.2.1 s := Nat.le_of_ble_eq_true hb.2
          subst e1
          split at h
          · rename_i w hw
            cases h
            obtain ⟨ho, C, T, N, hc, hk, hl1, hty⟩ := zFR_ok hfr
            refine Rn_pure (fun p l0 e R s0 m args below meth c H locs cells slots Q ls A dC dI dA ad hC hH hl ww => ?_) k
            obtain ⟨hd, rfl, -⟩ := zD hC hfe
            have hat : (zws Z dA ad s)[a]? = some (ad a, .inr (ci, fs.map (ze ad))) := by rw [zws_at ha, hcell]; rfl
            exact va_get (v := ze ad w) hC.1 hC.2.1 hC.2.2.2.2.1 (zcl_in hc) (zown hC ho) hH.2.1 hH.1 a hat hc j hk (hC.2.2.2.2.1 _ hl1) (fun _ q => q) (by rw [List.getElem?_map, hw]; rfl) hd ww
          · cases h
      · cases h
    · cases h
  · -- putfield
    split at h
    · rename_i ci j pl w a rr hfr
      split at h
      · rename_i cj fs hcell
        cases hb : (Nat.beq ci cj && Nat.blt a (Z.2.1 s) && Nat.blt j fs.length && !(zfinF ci j)) with
        | false => rw [hb] at h; cases h
        | true =>
          rw [hb] at h
          simp only [cond_true] at h
          simp only [Bool.and_eq_true] at hb
          obtain ⟨⟨⟨hb1, hb2⟩, hb3⟩, hb4⟩ := hb
          have e1 : ci = cj := Nat.eq_of_beq_eq_true hb1
          have ha : a < Z.2.1 s := Nat.le_of_ble_eq_true hb2
          have hj : j < fs.length := Nat.le_of_ble_eq_true hb3
          subst e1
          split at h
          · rename_i q s1 hq hs1
            cases h
            obtain ⟨ho, C, T, N, hc, hk, hl1, hty⟩ := zFR_ok hfr
            obtain ⟨hcn, hoth, hself⟩ := hZ.1 _ _ _ _ _ hs1 ha
            have hfin : (T j).2.2.2 = false := by
              have : zfinF ci j = (T j).2.2.2 := by unfold zfinF; rw [hc]
              rw [← this]; simpa using hb4
            refine Rn_gen (s' := s1) (l' := l) (st' := rr) (nx := nx) hcn (fun p l0 e R s0 m args below meth c H locs cells slots Q ls A dC dI dA ad hC hH hl ww => ?_) k
            obtain ⟨hd, hnx, -⟩ := zD hC hfe
            subst hnx
            have hat : (zws Z dA ad s)[a]? = some (ad a, .inr (ci, fs.map (ze ad))) := by rw [zws_at ha, hcell]; rfl
            obtain ⟨hn, hft⟩ := zfit_ok hq hP ad
            exact va_put (v := ze ad w) (ty := ztyF ci j) hC.1 hC.2.1 hC.2.2.2.2.1 (zcl_in hc) (ztyF ci) (zcl_ty hc) (zcl_nm hc) (zown hC ho) hH.2.1 hH.1 hH.2.2.1 hH.2.2.2.1 a hat hc j hk (hC.2.2.2.2.1 _ hl1) (fun _ q => q) hfin hty hn hft (by simpa using hj) hd
              (fun H1 locs1 h1 h2 h3 => ww H1 locs1 ls (ZH_set (a := a) hH hcn.1 hoth (by rw [hself ci fs hcell hj]; simp [zcc, List.map_set]) h1 h2 h3) hl)
          · cases h
      · cases h
    · cases h
  · -- iaload
    split at h
    · rename_i j a rr
      split at h
      · rename_i nn g hcell
        cases hb : Nat.blt a (Z.2.1 s) with
        | false => rw [hb] at h; cases h
        | true =>
          rw [hb] at h
          cases h
          have ha : a < Z.2.1 s := Nat.le_of_ble_eq_true hb
          refine Rn_pure (fun p l0 e R s0 m args below meth c H locs cells slots Q ls A dC dI dA ad hC hH hl ww => ?_) k
          obtain ⟨hd, rfl, -⟩ := zD hC hfe
          exact va_iald (cA := dA 0) (n := nn) (f := g) hC.1 hC.2.1 hH.2.1 hH.1 a 0 (by rw [zws_at ha, hcell]; rfl) rfl (hP _ rfl) hd ww
      · cases h
    · cases h
  · -- baload
    split at h
    · rename_i j a rr
      split at h
      · rename_i nn g hcell
        cases hb : Nat.blt a (Z.2.1 s) with
        | false => rw [hb] at h; cases h
        | true =>
          rw [hb] at h
          cases h
          have ha : a < Z.2.1 s := Nat.le_of_ble_eq_true hb
          refine Rn_pure (fun p l0 e R s0 m args below meth c H locs cells slots Q ls A dC dI dA ad hC hH hl ww => ?_) k
          obtain ⟨hd, rfl, -⟩ := zD hC hfe
          exact va_zald (cA := dA 1) (n := nn) (f := g) hC.1 hC.2.1 hH.2.1 hH.1 a 1 (by rw [zws_at ha, hcell]; rfl) rfl (hP _ rfl) hd ww
      · cases h
    · cases h
  · -- laload
    split at h
    · rename_i j a rr
      split at h
      · rename_i nn g hcell
        cases hb : Nat.blt a (Z.2.1 s) with
        | false => rw [hb] at h; cases h
        | true =>
          rw [hb] at h
          cases h
          have ha : a < Z.2.1 s := Nat.le_of_ble_eq_true hb
          refine Rn_pure (fun p l0 e R s0 m args below meth c H locs cells slots Q ls A dC dI dA ad hC hH hl ww => ?_) k
          obtain ⟨hd, rfl, -⟩ := zD hC hfe
          exact va_lald (cA := dA 2) (n := nn) (f := g) hC.1 hC.2.1 hH.2.1 hH.1 a 2 (by rw [zws_at ha, hcell]; rfl) rfl (hP _ rfl) hd ww
      · cases h
    · cases h
  · -- aaload
    split at h
    · rename_i j a rr
      split at h
      · rename_i t nn g hcell
        cases hb : (Nat.blt a (Z.2.1 s) && Nat.blt 2 t && Nat.blt t 6) with
        | false => rw [hb] at h; cases h
        | true =>
          rw [hb] at h
          cases h
          simp only [Bool.and_eq_true] at hb
          have ha : a < Z.2.1 s := Nat.le_of_ble_eq_true hb.1.1
          have ht1 : 2 < t := Nat.le_of_ble_eq_true hb.1.2
          have ht2 : t < 6 := Nat.le_of_ble_eq_true hb.2
          have htt : t = 3 ∨ t = 4 ∨ t = 5 := by omega
          refine Rn_pure (fun p l0 e R s0 m args below meth c H locs cells slots Q ls A dC dI dA ad hC hH hl ww => ?_) k
          obtain ⟨hd, rfl, -⟩ := zD hC hfe
          have hat : (zws Z dA ad s)[a]? = some (ad a, .inl (dA t, nn, .inr (.inr (.inr (.inr (fun i => (g i).map ad)))))) := by rw [zws_at ha, hcell]; rfl
          have hrf : ∀ q : Option Nat, ze ad (va_rf q) = va_rf (q.map ad) := fun q => by cases q <;> rfl
          have ww' : W p l0 e R s0 m args below meth c H locs cells slots Q (F0 m (pc + 1) ls (va_rf ((fun i => (g i).map ad) j.toNatClampNeg) :: rr.map (ze ad))) := by rw [← hrf]; exact ww
          rcases htt with rfl | rfl | rfl
          · exact va_aldq (C := "MinimalTables$Kernel") hC.1 hC.2.1 hH.2.1 hH.1 a 3 hat rfl (hP _ rfl) hd ww'
          · exact va_aldq (C := "MinimalTables$Automaton") hC.1 hC.2.1 hH.2.1 hH.1 a 4 hat rfl (hP _ rfl) hd ww'
          · exact va_aldq (C := "MinimalTables$Actions") hC.1 hC.2.1 hH.2.1 hH.1 a 5 hat rfl (hP _ rfl) hd ww'
      · cases h
    · cases h
  · -- iastore
    split at h
    · rename_i x j a rr
      split at h
      · rename_i nn g hcell
        cases hb : Nat.blt a (Z.2.1 s) with
        | false => rw [hb] at h; cases h
        | true =>
          rw [hb] at h
          simp only [cond_true] at h
          have ha : a < Z.2.1 s := Nat.le_of_ble_eq_true hb
          split at h
          · rename_i s1 hs1
            cases h
            obtain ⟨hcn, hoth, hself⟩ := hZ.2.1 _ _ _ _ _ hs1 ha
            refine Rn_gen (s' := s1) (l' := l) (st' := rr) (nx := nx) hcn (fun p l0 e R s0 m args below meth c H locs cells slots Q ls A dC dI dA ad hC hH hl ww => ?_) k
            obtain ⟨hd, hnx, -⟩ := zD hC hfe
            subst hnx
            exact va_iast (cA := dA 0) (n := nn) (f := g) (x := x) (i := j) hC.1 hC.2.1 hH.2.1 hH.1 hH.2.2.1 hH.2.2.2.1 a 0 (by rw [zws_at ha, hcell]; rfl) rfl (hP _ rfl) hd
              (fun H1 locs1 h1 h2 h3 => ww H1 locs1 ls (ZH_set (a := a) hH hcn.1 hoth (by rw [hself _ _ _ hcell]; rfl) h1 h2 h3) hl)
          · cases h
      · cases h
    · cases h
  · -- bastore
    split at h
    · rename_i x j a rr
      split at h
      · rename_i nn g hcell
        cases hb : Nat.blt a (Z.2.1 s) with
        | false => rw [hb] at h; cases h
        | true =>
          rw [hb] at h
          simp only [cond_true] at h
          have ha : a < Z.2.1 s := Nat.le_of_ble_eq_true hb
          split at h
          · rename_i s1 hs1
            cases h
            obtain ⟨hcn, hoth, hself⟩ := hZ.2.1 _ _ _ _ _ hs1 ha
            refine Rn_gen (s' := s1) (l' := l) (st' := rr) (nx := nx) hcn (fun p l0 e R s0 m args below meth c H locs cells slots Q ls A dC dI dA ad hC hH hl ww => ?_) k
            obtain ⟨hd, hnx, -⟩ := zD hC hfe
            subst hnx
            exact va_zast (cA := dA 1) (n := nn) (f := g) (x := x) (i := j) hC.1 hC.2.1 hH.2.1 hH.1 hH.2.2.1 hH.2.2.2.1 a 1 (by rw [zws_at ha, hcell]; rfl) rfl (hP _ rfl) hd
              (fun H1 locs1 h1 h2 h3 => ww H1 locs1 ls (ZH_set (a := a) hH hcn.1 hoth (by rw [hself _ _ _ hcell]; rfl) h1 h2 h3) hl)
          · cases h
      · cases h
    · cases h
  · -- lastore
    split at h
    · rename_i x j a rr
      split at h
      · rename_i nn g hcell
        cases hb : Nat.blt a (Z.2.1 s) with
        | false => rw [hb] at h; cases h
        | true =>
          rw [hb] at h
          simp only [cond_true] at h
          have ha : a < Z.2.1 s := Nat.le_of_ble_eq_true hb
          split at h
          · rename_i s1 hs1
            cases h
            obtain ⟨hcn, hoth, hself⟩ := hZ.2.2 _ _ _ _ _ hs1 ha
            refine Rn_gen (s' := s1) (l' := l) (st' := rr) (nx := nx) hcn (fun p l0 e R s0 m args below meth c H locs cells slots Q ls A dC dI dA ad hC hH hl ww => ?_) k
            obtain ⟨hd, hnx, -⟩ := zD hC hfe
            subst hnx
            exact va_last (cA := dA 2) (n := nn) (f := g) (x := x) (i := j) hC.1 hC.2.1 hH.2.1 hH.1 hH.2.2.1 hH.2.2.2.1 a 2 (by rw [zws_at ha, hcell]; rfl) rfl (hP _ rfl) hd
              (fun H1 locs1 h1 h2 h3 => ww H1 locs1 ls (ZH_set (a := a) hH hcn.1 hoth (by rw [hself _ _ _ hcell]; rfl) h1 h2 h3) hl)
          · cases h
      · cases h
    · cases h
  · -- arraylength
    split at h
    · rename_i a rr
      split at h
      · rename_i t q hcell
        cases hb : (Nat.blt a (Z.2.1 s) && Nat.blt t 6) with
        | false => rw [hb] at h; cases h
        | true =>
          rw [hb] at h
          cases h
          simp only [Bool.and_eq_true] at hb
          have ha : a < Z.2.1 s := Nat.le_of_ble_eq_true hb.1
          have ht2 : t < 6 := Nat.le_of_ble_eq_true hb.2
          have htt : t = 0 ∨ t = 1 ∨ t = 2 ∨ t = 3 ∨ t = 4 ∨ t = 5 := by omega
          refine Rn_pure (fun p l0 e R s0 m args below meth c H locs cells slots Q ls A dC dI dA ad hC hH hl ww => ?_) k
          obtain ⟨hd, rfl, -⟩ := zD hC hfe
          have hat : (zws Z dA ad s)[a]? = some (ad a, .inl (dA t, zca ad q)) := by rw [zws_at ha, hcell]; rfl
          have hq1 : Int32.ofNat (zca ad q).1 = Int32.ofNat q.1 := by unfold zca; split <;> rfl
          rcases htt with rfl | rfl | rfl | rfl | rfl | rfl
          · exact va_alen (ty := .int) hC.1 hC.2.1 hH.2.1 hH.1 a 0 hat rfl hq1 hd ww
          · exact va_alen (ty := .boolean) hC.1 hC.2.1 hH.2.1 hH.1 a 1 hat rfl hq1 hd ww
          · exact va_alen (ty := .long) hC.1 hC.2.1 hH.2.1 hH.1 a 2 hat rfl hq1 hd ww
          · exact va_alen (ty := .object "MinimalTables$Kernel") hC.1 hC.2.1 hH.2.1 hH.1 a 3 hat rfl hq1 hd ww
          · exact va_alen (ty := .object "MinimalTables$Automaton") hC.1 hC.2.1 hH.2.1 hH.1 a 4 hat rfl hq1 hd ww
          · exact va_alen (ty := .object "MinimalTables$Actions") hC.1 hC.2.1 hH.2.1 hH.1 a 5 hat rfl hq1 hd ww
      · cases h
    · cases h
  · -- ifnonnull
    split at h
    · cases h
      refine Rn_pure (fun p l0 e R s0 m args below meth c H locs cells slots Q ls A dC dI dA ad hC hH hl w => ?_) k
      obtain ⟨hd, -, ht⟩ := zD hC hfe
      exact lv_ifnonnull hC.1 hC.2.1 hd (of_decide_eq_true ht) w
    · cases h
      refine Rn_pure (fun p l0 e R s0 m args below meth c H locs cells slots Q ls A dC dI dA ad hC hH hl w => ?_) k
      obtain ⟨hd, rfl, -⟩ := zD hC hfe
      exact lv_ifnonnullN hC.1 hC.2.1 hd w
    · cases h
  · cases h
theorem zst_ok (hZ : ZOk Z) {f f' : ZF S} {P : Option Prop} (h : zst Z M f = some (P, f')) (hP : ∀ q, P = some q → q) (k : Rn Z M f' r sE) : Rn Z M f r sE := by
  obtain ⟨pc, l, st, s⟩ := f
  unfold zst at h
  dsimp only at h
  split at h
  · cases h
  · rename_i i n nx tg v hfe
    exact zex_ok hZ hfe h hP k
theorem Rn_go (hZ : ZOk Z) (n : Nat) : ∀ {f f' : ZF S} {P : Prop}, zsteps Z M n f = some (P, f') → P → Rn Z M f' r sE → Rn Z M f r sE := by
  induction n with
  | zero =>
    intro f f' P h hP k
    cases h
    exact k
  | succ n ih =>
    intro f f' P h hP k
    unfold zsteps at h
    split at h
    · cases h
    · rename_i f1 h1
      exact zst_ok hZ h1 (fun q hq => by cases hq) (ih h hP k)
    · rename_i P1 f1 h1
      split at h
      · cases h
      · rename_i Q f2 h2
        cases h
        exact zst_ok hZ h1 (fun q hq => by cases hq; exact hP.1) (ih h2 hP.2 k)
end ZStep
end
section
section ZCalls
variable {S : Type} {Z : ZW S} {M M' : MD} {pc nx n tg : Nat} {i : Instr} {v : Int32} {l l' : List (Option Value)} {st st' : List Value} {s s' sE s1 : S} {r r1 : Option Value}
theorem zbi_ok {c : Jvm.ClassFile.Cond} {off : Int} {x y : Int32} (hfe : zfe M pc = some (.if_icmp c off, 3, nx, tg, v)) (ht : zbx c x y → Rn Z M (tg, l, st, s) r sE) (hf : ¬ zbx c x y → Rn Z M (nx, l, st, s) r sE) : Rn Z M (pc, l, .int y :: .int x :: st, s) r sE := by
  by_cases hc : zbx c x y
  · refine Rn_pure (fun p l0 e R s0 m args below meth c0 H locs cells slots Q ls A dC dI dA ad hC hH hl w => ?_) (ht hc)
    obtain ⟨hd, rfl, hk⟩ := zD hC hfe
    have hg : (pc : Int) + off = (tg : Int) := of_decide_eq_true hk
    cases c with
    | eq => exact lv_icmp_eq hC.1 hC.2.1 hd hg (fun _ => w) (fun q => absurd hc q)
    | ne => exact lv_icmp_ne hC.1 hC.2.1 hd hg (fun _ => w) (fun q => absurd q hc)
    | lt => exact lv_icmp_lt hC.1 hC.2.1 hd hg (fun _ => w) (fun q => absurd hc q)
    | ge => exact lv_icmp_ge hC.1 hC.2.1 hd hg (fun _ => w) (fun q => absurd hc q)
    | gt => exact lv_icmp_gt hC.1 hC.2.1 hd hg (fun _ => w) (fun q => absurd hc q)
    | le => exact lv_icmp_le hC.1 hC.2.1 hd hg (fun _ => w) (fun q => absurd hc q)
  · refine Rn_pure (fun p l0 e R s0 m args below meth c0 H locs cells slots Q ls A dC dI dA ad hC hH hl w => ?_) (hf hc)
    obtain ⟨hd, rfl, hk⟩ := zD hC hfe
    have hg : (pc : Int) + off = (tg : Int) := of_decide_eq_true hk
    cases c with
    | eq => exact lv_icmp_eq hC.1 hC.2.1 hd hg (fun q => absurd q hc) (fun _ => w)
    | ne => exact lv_icmp_ne hC.1 hC.2.1 hd hg (fun q => absurd q hc) (fun _ => w)
    | lt => exact lv_icmp_lt hC.1 hC.2.1 hd hg (fun q => absurd q hc) (fun _ => w)
    | ge => exact lv_icmp_ge hC.1 hC.2.1 hd hg (fun q => absurd q hc) (fun _ => w)
    | gt => exact lv_icmp_gt hC.1 hC.2.1 hd hg (fun q => absurd q hc) (fun _ => w)
    | le => exact lv_icmp_le hC.1 hC.2.1 hd hg (fun q => absurd q hc) (fun _ => w)
theorem zbc_ok {c : Jvm.ClassFile.Cond} {off : Int} {x : Int32} (hfe : zfe M pc = some (.ifCond c off, 3, nx, tg, v)) (ht : zbx c x 0 → Rn Z M (tg, l, st, s) r sE) (hf : ¬ zbx c x 0 → Rn Z M (nx, l, st, s) r sE) : Rn Z M (pc, l, .int x :: st, s) r sE := by
  by_cases hc : zbx c x 0
  · refine Rn_pure (fun p l0 e R s0 m args below meth c0 H locs cells slots Q ls A dC dI dA ad hC hH hl w => ?_) (ht hc)
    obtain ⟨hd, rfl, hk⟩ := zD hC hfe
    have hg : (pc : Int) + off = (tg : Int) := of_decide_eq_true hk
    cases c with
    | eq => exact lv_if_eq hC.1 hC.2.1 hd hg (fun _ => w) (fun q => absurd hc q)
    | ne => exact lv_if_ne hC.1 hC.2.1 hd hg (fun _ => w) (fun q => absurd q hc)
    | lt => exact lv_if_lt hC.1 hC.2.1 hd hg (fun _ => w) (fun q => absurd hc q)
    | ge => exact lv_if_ge hC.1 hC.2.1 hd hg (fun _ => w) (fun q => absurd hc q)
    | gt => exact lv_if_gt hC.1 hC.2.1 hd hg (fun _ => w) (fun q => absurd hc q)
    | le => exact lv_if_le hC.1 hC.2.1 hd hg (fun _ => w) (fun q => absurd hc q)
  · refine Rn_pure (fun p l0 e R s0 m args below meth c0 H locs cells slots Q ls A dC dI dA ad hC hH hl w => ?_) (hf hc)
    obtain ⟨hd, rfl, hk⟩ := zD hC hfe
    have hg : (pc : Int) + off = (tg : Int) := of_decide_eq_true hk
    cases c with
    | eq => exact lv_if_eq hC.1 hC.2.1 hd hg (fun q => absurd q hc) (fun _ => w)
    | ne => exact lv_if_ne hC.1 hC.2.1 hd hg (fun q => absurd q hc) (fun _ => w)
    | lt => exact lv_if_lt hC.1 hC.2.1 hd hg (fun q => absurd q hc) (fun _ => w)
    | ge => exact lv_if_ge hC.1 hC.2.1 hd hg (fun q => absurd q hc) (fun _ => w)
    | gt => exact lv_if_gt hC.1 hC.2.1 hd hg (fun q => absurd q hc) (fun _ => w)
    | le => exact lv_if_le hC.1 hC.2.1 hd hg (fun q => absurd q hc) (fun _ => w)
/-- a branch -/
theorem Rn_br {f fa fb : ZF S} {c : Prop} (h : zbr M f = some (c, fa, fb)) (ht : c → Rn Z M fa r sE) (hf : ¬ c → Rn Z M fb r sE) : Rn Z M f r sE := by
  obtain ⟨pc, l, st, s⟩ := f
  unfold zbr at h
  dsimp only at h
  split at h
  · rename_i c0 off nx tg v hfe
    split at h
    · cases h
      exact zbi_ok hfe ht hf
    · cases h
  · rename_i c0 off nx tg v hfe
    split at h
    · cases h
      exact zbc_ok hfe ht hf
    · cases h
  · cases h
/-- what a return gives -/
theorem zend {dC : Nat → ClassId} {dI : Nat → Nat → Nat} {dA : Nat → ClassId} {ad ad0 : Nat → Nat} {nn : Nat} {A : Nat → Prop} {s0 : State} {H : Heap} {locs : List Loc} {args : Array Value} (hH : ZH Z dC dI dA ad A s0 H locs s) (ha : nn ≤ Z.2.1 s ∧ ∀ k, k < nn → ad k = ad0 k) (r : Option Value) (t : State) (ht : t.heap = H) (hW : s0.WarmedH t.vm) : zQ Z dC dI dA ad0 nn A r s args s0 (.returned (r.map (ze ad))) t :=
  ⟨⟨ad, ha.2, hH.2.2.2.2.2, rfl, by rw [ht]; exact hH.1, va_K.moved hW.alike hH.2.1, hH.2.2.1⟩, hH.2.2.2.1.F ht⟩
theorem Rn_iret {x : Int32} (hfe : zfe M pc = some (.ireturn, 1, nx, tg, v)) (hr : M.2.2.2.2.1 = some .int) : Rn Z M (pc, l, [.int x], s) (some (.int x)) s := by
  refine ⟨⟨Nat.le_refl _, Nat.le_refl _⟩, ?_⟩
  intro p l0 e R s0 m args below meth c H locs ls A dC dI dA ad ad0 nn k0 n0 hC hR hH hlv ha hk
  exact W.iret (v := x) hC.1 hC.2.1 (hC.2.2.2.1.trans hr) (fun t ht hW => zend hH ha (some (.int x)) t ht hW) hH.2.2.2.1.2.2 (zD hC hfe).1 hC.2.2.2.2.2.2.1
theorem Rn_zret {x : Int32} (hfe : zfe M pc = some (.ireturn, 1, nx, tg, v)) (hr : M.2.2.2.2.1 = some .boolean) (hx : x = 0 ∨ x = 1) : Rn Z M (pc, l, [.int x], s) (some (.int x)) s := by
  refine ⟨⟨Nat.le_refl _, Nat.le_refl _⟩, ?_⟩
  intro p l0 e R s0 m args below meth c H locs ls A dC dI dA ad ad0 nn k0 n0 hC hR hH hlv ha hk
  exact W.zret (v := x) (ty := .boolean) hC.1 hC.2.1 (hC.2.2.2.1.trans hr) (by rcases hx with rfl | rfl <;> rfl) (fun t ht hW => zend hH ha (some (.int x)) t ht hW) hH.2.2.2.1.2.2 (zD hC hfe).1 hC.2.2.2.2.2.2.1
theorem Rn_vret (hfe : zfe M pc = some (.return_, 1, nx, tg, v)) (hr : M.2.2.2.2.1 = none) : Rn Z M (pc, l, [], s) none s := by
  refine ⟨⟨Nat.le_refl _, Nat.le_refl _⟩, ?_⟩
  intro p l0 e R s0 m args below meth c H locs ls A dC dI dA ad ad0 nn k0 n0 hC hR hH hlv ha hk
  exact W.vret hC.1 hC.2.1 (hC.2.2.2.1.trans hr) (fun t ht hW => zend hH ha none t ht hW) hH.2.2.2.1.2.2 (zD hC hfe).1 hC.2.2.2.2.2.2.1
theorem Rn_aret {a : Nat} {C : String} (hfe : zfe M pc = some (.areturn, 1, nx, tg, v)) (hr : M.2.2.2.2.1 = some (.object C)) : Rn Z M (pc, l, [.ref a], s) (some (.ref a)) s := by
  refine ⟨⟨Nat.le_refl _, Nat.le_refl _⟩, ?_⟩
  intro p l0 e R s0 m args below meth c H locs ls A dC dI dA ad ad0 nn k0 n0 hC hR hH hlv ha hk
  exact W.aret (v := .ref (ad a)) (rt := .object C) hC.1 hC.2.1 (hC.2.2.2.1.trans hr) (Or.inl ⟨C, rfl⟩) (Or.inr ⟨_, rfl⟩) (fun t ht hW => zend hH ha (some (.ref a)) t ht hW) hH.2.2.2.1.2.2 (zD hC hfe).1 hC.2.2.2.2.2.2.1
/-- the locals with which a method begins -/
def zarg : List Value → List (Option Value)
  | [] => []
  | v :: vs => bif Nat.beq v.category 2 then some v :: none :: zarg vs else some v :: zarg vs
def zargs (nL : Nat) (as : List Value) : List (Option Value) := zarg as ++ List.replicate (nL - (zarg as).length) none
theorem zarg_sl (ad : Nat → Nat) : ∀ as : List Value, (lg_sl (as.map (ze ad))).length = (zarg as).length
  | [] => rfl
  | v :: vs => by
    have ih := zarg_sl ad vs
    have hc := ze_cat ad v
    unfold lg_sl at ih ⊢
    simp only [List.map_cons, List.flatMap_cons, List.length_append, ih, zarg, hc]
    cases hb : Nat.beq v.category 2 with
    | true =>
      rw [if_pos (Nat.eq_of_beq_eq_true hb)]
      simp only [cond_true, List.length_cons, List.length_nil]
      omega
    | false =>
      rw [if_neg (fun q => by rw [q] at hb; cases hb)]
      simp only [cond_false, List.length_cons, List.length_nil]
      omega
theorem zarg_at (ad : Nat → Nat) : ∀ (as : List Value) (o i : Nat) (w : Value), (zarg as)[i]? = some (some w) → (o + i, ze ad w) ∈ lv_args o (as.map (ze ad))
  | [], o, i, w, h => by simp [zarg] at h
  | v :: vs, o, i, w, h => by
    unfold zarg at h
    cases hb : Nat.beq v.category 2 with
    | true =>
      rw [hb] at h
      have hc : (ze ad v).category = 2 := by rw [ze_cat]; exact Nat.eq_of_beq_eq_true hb
      simp only [cond_true] at h
      match i, h with
      | 0, h => simp at h; subst h; exact List.mem_cons_self
      | 1, h => simp at h
      | i + 2, h =>
        simp only [List.getElem?_cons_succ] at h
        have h2 := zarg_at ad vs (o + 2) i w h
        simp only [List.map_cons, lv_args, hc, if_true]
        refine List.mem_cons_of_mem _ ?_
        have e : o + (i + 2) = o + 2 + i := by omega
        rw [e]
        exact h2
    | false =>
      rw [hb] at h
      have hc : ¬ (ze ad v).category = 2 := by rw [ze_cat]; intro q; rw [q] at hb; cases hb
      simp only [cond_false] at h
      match i, h with
      | 0, h => simp at h; subst h; exact List.mem_cons_self
      | i + 1, h =>
        simp only [List.getElem?_cons_succ] at h
        have h2 := zarg_at ad vs (o + 1) i w h
        simp only [List.map_cons, lv_args, hc, if_false]
        refine List.mem_cons_of_mem _ ?_
        have e : o + (i + 1) = o + 1 + i := by omega
        rw [e]
        exact h2
/-- a method, called with these arguments in this world, answers r and leaves that world -/
def Ev (Z : ZW S) (M : MD) (as : List Value) (s : S) (r : Option Value) (s' : S) : Prop :=
  (Z.2.1 s ≤ Z.2.1 s' ∧ Z.2.2.1 s ≤ Z.2.2.1 s') ∧ ∀ (l : Launch) (dC : Nat → ClassId) (dI : Nat → Nat → Nat) (dA : Nat → ClassId) (ad : Nat → Nat) (sz : Nat),
    Met l M.2.1 (Cond.code M.2.1 M.2.2.1 M.2.2.2.1 M.2.2.2.2.1 :: zT) ({ frames := M.2.2.2.2.2.1.1, cells := Z.2.1 s' - Z.2.1 s, slots := Z.2.2.1 s' - Z.2.2.1 s, locals := M.2.2.2.2.2.1.2.1 })
      (va_Pc (as.map (ze ad)) (fun U => U.heap.size = sz ∧ va_P (dC, dI) vwCl (zws Z dA ad s) U.heap ∧ va_K (dC, dI) vwCl (ztys dA) U ∧ va_D (fun _ => True) (zws Z dA ad s) ∧ ∀ k, Z.2.1 s ≤ k → ad k = 0))
      (zQ Z dC dI dA ad (Z.2.1 s) (va_A (zws Z dA ad s) sz) r s') (Z.2.1 s' - Z.2.1 s) (Z.2.2.1 s' - Z.2.2.1 s) (va_A (zws Z dA ad s) sz)
theorem Ev_of {as : List Value} (hM : ZMo M) (hp : plainName M.2.1.cls = true) (hn : Nat.ble (zarg as).length M.2.2.2.1 = true) (h : Rn Z M (0, zargs M.2.2.2.1 as, [], s) r s') : Ev Z M as s r s' := by
  refine ⟨h.1, ?_⟩
  intro l dC dI dA ad sz
  refine Met.ofW (cc := M.2.2.1) (maxL := M.2.2.2.1) (ret := M.2.2.2.2.1) hp rfl ?_
  intro p e s0 m args below meth c s₁ B hml hv
  obtain ⟨rfl, hsz, hP, hK, hD0, had⟩ := hv
  have hts : ∀ w ∈ zT, w.before _ s0 = true := fun w hw => atoms_spec (ws := Cond.code M.2.1 M.2.2.1 M.2.2.2.1 M.2.2.2.2.1 :: zT) B.pre w (List.mem_cons_of_mem _ hw)
  have hown : s0.vm.findClass M.2.1.cls = some m.cls := findClass_of_methodNamed B.named
  have hle : (zarg as).length ≤ M.2.2.2.1 := Nat.le_of_ble_eq_true hn
  have hl0 := lv_entry (as.map (ze ad)) (n := M.2.2.2.1) (by rw [zarg_sl]; exact hle)
  rw [lg_entry_eq]
  generalize (lg_sl (as.map (ze ad)) ++ List.replicate (M.2.2.2.1 - (lg_sl (as.map (ze ad))).length) Slot.unset).toArray = ls at hl0 ⊢
  subst hsz
  have hlv : zlv ad ls M.2.2.2.1 (zargs M.2.2.2.1 as) := by
    refine ⟨by simp [zargs]; omega, hl0.1, hl0.2.1, fun i w hi => ?_⟩
    have h1 : (zarg as)[i]? = some (some w) := by
      unfold zargs at hi
      by_cases q : i < (zarg as).length
      · rw [List.getElem?_append_left q] at hi; exact hi
      · rw [List.getElem?_append_right (Nat.le_of_not_lt q)] at hi
        have := List.eq_of_mem_replicate (List.mem_of_getElem? hi)
        cases this
    have h2 := zarg_at ad as 0 i w h1
    rw [Nat.zero_add] at h2
    exact hl0.2.2 _ h2
  have key := h.2 p l e (headSpec (Cond.code M.2.1 M.2.2.1 M.2.2.2.1 M.2.2.2.2.1 :: zT) ({ frames := M.2.2.2.2.2.1.1, cells := Z.2.1 s' - Z.2.1 s, slots := Z.2.2.1 s' - Z.2.2.1 s, locals := M.2.2.2.2.2.1.2.1 })).room s0 m (as.map (ze ad)).toArray below meth c s0.heap [] ls (va_A (zws Z dA ad s) s0.heap.size) dC dI dA ad ad (Z.2.1 s) (Z.2.1 s) (Z.2.2.1 s)
    ⟨B.exec, B.bytes, hml, B.returns, hts, hown, B.notSynchronized, hM⟩ ⟨Nat.le_refl _, Nat.le_refl _, Nat.le_refl _, Nat.le_refl _⟩ ⟨hP, hK, hD0.self, va_S.rf, fun q hq => Or.inr hq, had⟩ hlv ⟨Nat.le_refl _, fun _ _ => rfl⟩ ⟨Nat.le_refl _, Nat.le_refl _⟩
  dsimp only at key
  rw [Nat.sub_self, Nat.sub_self] at key
  exact key
end ZCalls
end
section
section ZInv
variable {S : Type} {Z : ZW S} {M M' : MD} {pc nx n tg : Nat} {i : Instr} {v : Int32} {l l' : List (Option Value)} {st st' : List Value} {s s' sE s1 : S} {r r1 : Option Value}
/-- what the tables say of a method that is called; n: how many arguments its descriptor has -/
def ZMs (M : MD) (n : Nat) : Prop := Cond.code M.2.1 M.2.2.1 M.2.2.2.1 M.2.2.2.2.1 ∈ zT ∧ Cond.initialized M.2.1.cls ∈ zT ∧ (M.2.1.cls ≠ "java/lang/invoke/MethodHandle" ∧ M.2.1.cls ≠ "java/lang/invoke/VarHandle" ∧ (parseMethodDescriptor M.2.1.desc).map (fun d => d.parameters.length) = some n)
def ZMv (M : MD) (n : Nat) : Prop := ZMs M n ∧ Cond.instanceMethod M.2.1 ∈ zT ∧ Cond.selects M.2.1.cls M.2.1 M.2.1 ∈ zT ∧ M.1 < 13 ∧ zcn M.1 = M.2.1.cls
def ZMt (M : MD) (n : Nat) : Prop := ZMs M n ∧ Cond.static M.2.1 ∈ zT
/-- room for a call, what stands below it on the stack -/
def zcr (M M' : MD) (st : List Value) : Bool := Nat.ble (M'.2.2.2.2.2.1.1 + 1) M.2.2.2.2.2.1.1 && Nat.ble (8 + (M'.2.2.2.1 + 11) + M'.2.2.2.2.2.1.2.1) M.2.2.2.2.2.1.2.1 && Nat.ble ((st.map fun v => v.category).sum) 8
/-- the receiver is of the callee's class -/
def zrc (Z : ZW S) (M' : MD) (s : S) (b : Nat) : Bool := match Z.1 s b with
  | .inr (ci, _) => Nat.beq ci M'.1 && Nat.blt b (Z.2.1 s)
  | _ => false
/-- references below m only -/
def zsv (m : Nat) (v : Value) : Bool := match v with
  | .ref k => Nat.blt k m
  | _ => true
def zsf (m : Nat) (l : List (Option Value)) (st : List Value) : Bool := (l.all fun o => match o with
  | some v => zsv m v
  | none => true) && st.all (zsv m)
theorem zsv_ok {m : Nat} {v : Value} {ad ad' : Nat → Nat} (h : zsv m v = true) (ha : ∀ k, k < m → ad' k = ad k) : ze ad' v = ze ad v := by
  cases v with
  | ref k => show Value.ref (ad' k) = Value.ref (ad k); rw [ha k (Nat.le_of_ble_eq_true h)]
  | _ => rfl
theorem zcat_sum (ad : Nat → Nat) (st : List Value) : ((st.map (ze ad)).map fun v => v.category).sum = (st.map fun v => v.category).sum := by
  rw [List.map_map]
  congr 1
  apply List.map_congr_left
  intro v _
  exact ze_cat ad v
theorem zPc_blind {as : List Value} {dC : Nat → ClassId} {dI : Nat → Nat → Nat} {dA : Nat → ClassId} {ad : Nat → Nat} {sz : Nat} : FrameBlind (va_Pc (as.map (ze ad)) (fun U => U.heap.size = sz ∧ va_P (dC, dI) vwCl (zws Z dA ad s) U.heap ∧ va_K (dC, dI) vwCl (ztys dA) U ∧ va_D (fun _ => True) (zws Z dA ad s) ∧ ∀ k, Z.2.1 s ≤ k → ad k = 0)) :=
  fun a U g mk q => by
    obtain ⟨q0, q1, qP, qK, qD, qE⟩ := q
    exact ⟨q0, q1, qP, va_K.moved (u := U) (U := U.calling g mk a) (Vm.Alike.refl U.vm) qK, qD, qE⟩
/-- behind a call -/
theorem zback {p : Program} {l0 : Launch} {e : Env} {R : Room} {s0 : State} {m : MethodId} {args a : Array Value} {below : List Frame} {meth : Method} {c : Code} {H : Heap} {locs : List Loc} {cells slots mc ms : Nat} {Q : State → Prop} {ls : Array Slot} {A : Nat → Prop} {dC : Nat → ClassId} {dI : Nat → Nat → Nat} {dA : Nat → ClassId} {ad : Nat → Nat} {st0 rest : List Value}
    (hH : ZH Z dC dI dA ad A s0 H locs s)
    (hr : va_Run p l0 e R s0 m args below meth c H locs cells slots mc ms (F0 m pc ls st0) rest (zQ Z dC dI dA ad (Z.2.1 s) (va_A (zws Z dA ad s) H.size) r1 s1 a) (va_A (zws Z dA ad s) H.size))
    (kk : ∀ (H1 : Heap) (locs1 : List Loc) (ad' : Nat → Nat), (∀ k, k < Z.2.1 s → ad' k = ad k) → ZH Z dC dI dA ad' A s0 H1 locs1 s1 → W p l0 e R s0 m args below meth c H1 locs1 (cells + mc) (slots + ms) Q (F0 m (pc + 3) ls ((r1.map (ze ad')).toList ++ rest))) : W p l0 e R s0 m args below meth c H locs cells slots Q (F0 m pc ls st0) := by
  obtain ⟨hP, hK, hD, hS, hA, had⟩ := hH
  have hsub : ∀ q, va_A (zws Z dA ad s) H.size q → A q := by
    intro q hq
    rcases hq with ⟨k, e, hk⟩ | hq
    · exact hD.2 k _ hk
    · exact hA q (Nat.le_trans hS.1 hq)
  intro T hT X
  obtain ⟨v, st₀, t, T', L, h0, X', hL, e1, e2, ⟨⟨ad', ha1, ha2, hv, hP1, hK1, hD1⟩, hz, hk⟩, stp⟩ := hr T hT X
  cases hv
  rw [h0] at hz hk
  have hS' : va_S A s0.heap T'.heap (locs ++ L) := ⟨Nat.le_trans hS.1 (by rw [e1]; exact hz), fun q h1 h2 => by
      rw [e1, hk q (Nat.lt_of_lt_of_le h1 hS.1) (fun z => h2 (hsub q z))]; exact hS.2.1 q h1 h2, fun q hq => by
      rcases List.mem_append.mp hq with h | h
      · exact hS.2.2 q h
      · exact hsub _ (hL q h)⟩
  obtain ⟨t2, a1, b1⟩ := kk T'.heap (locs ++ L) ad' ha1 ⟨by rw [e1]; exact hP1, hK, hD1.weaken (fun _ _ _ h => hsub _ h), hS', hA, ha2⟩ T' rfl X'
  exact ⟨t2, stp t2 a1, b1⟩
theorem zlv_ad {ad ad' : Nat → Nat} {ls : Array Slot} {nL m : Nat} (h : zlv ad ls nL l) (ha : ∀ k, k < m → ad' k = ad k) (hs : zsf m l st = true) : zlv ad' ls nL l := by
  refine ⟨h.1, h.2.1, h.2.2.1, fun i v hi => ?_⟩
  rw [h.2.2.2 i v hi]
  unfold zsf at hs
  rw [Bool.and_eq_true] at hs
  have := List.all_eq_true.mp hs.1 (some v) (List.mem_of_getElem? hi)
  rw [zsv_ok this ha]
theorem zst_ad {ad ad' : Nat → Nat} {m : Nat} (ha : ∀ k, k < m → ad' k = ad k) (hs : zsf m l st = true) : st.map (ze ad) = st.map (ze ad') := by
  unfold zsf at hs
  rw [Bool.and_eq_true] at hs
  apply List.map_congr_left
  intro v hv
  exact (zsv_ok (List.all_eq_true.mp hs.2 v hv) ha).symm
theorem zad_eq {ad ad' : Nat → Nat} {m : Nat} (ha : ∀ k, k < m → ad' k = ad k) (h1 : ∀ k, m ≤ k → ad' k = 0) (h2 : ∀ k, m ≤ k → ad k = 0) : ad' = ad := by
  funext k
  by_cases h : k < m
  · exact ha k h
  · rw [h1 k (Nat.le_of_not_lt h), h2 k (Nat.le_of_not_lt h)]
theorem zgoodW {own : String} {idx : Nat} (hl : Cond.methodLink own idx M'.2.1 ∈ zT) (hM : ZMv M' n) : GoodIn zT (wsV own idx M'.2.1.cls M'.2.1 (Cond.code M'.2.1 M'.2.2.1 M'.2.2.2.1 M'.2.2.2.2.1 :: zT)) := by
  intro w hw
  have : w ∈ zT := by
    unfold wsV at hw
    rcases List.mem_append.mp hw with h | h
    · simp only [List.mem_cons, List.not_mem_nil, or_false] at h
      rcases h with rfl | rfl | rfl | rfl
      · exact hl
      · exact hM.2.1
      · exact hM.2.2.1
      · exact hM.1.2.1
    · rcases List.mem_cons.mp h with rfl | h
      · exact hM.1.1
      · exact h
  exact ⟨this, zT_good this⟩
theorem zgoodS {own : String} {idx : Nat} (hl : Cond.methodLink own idx M'.2.1 ∈ zT) (hM : ZMt M' n) : GoodIn zT (va_wsS own idx M'.2.1 (Cond.code M'.2.1 M'.2.2.1 M'.2.2.2.1 M'.2.2.2.2.1 :: zT)) := by
  intro w hw
  have : w ∈ zT := by
    unfold va_wsS at hw
    rcases List.mem_append.mp hw with h | h
    · simp only [List.mem_cons, List.not_mem_nil, or_false] at h
      rcases h with rfl | rfl | rfl
      · exact hl
      · exact hM.2
      · exact hM.1.2.1
    · rcases List.mem_cons.mp h with rfl | h
      · exact hM.1.1
      · exact h
  exact ⟨this, zT_good this⟩
/-- a call of a method of an object; 'hg': the world keeps its number of cells, or what the frame refers to is old -/
theorem Rn_callV {idx b : Nat} {as stk : List Value} (hfe : zfe M pc = some (.invokevirtual idx, 3, nx, tg, v)) (hlk : Cond.methodLink M.2.1.cls idx M'.2.1 ∈ zT) (hM : ZMv M' n) (ev : Ev Z M' (.ref b :: as) s r1 s1)
    (hst : stk = as.reverse ++ .ref b :: st) (hn : as.length = n) (hcr : zcr M M' st = true) (hrc : zrc Z M' s b = true) (hg : Z.2.1 s1 = Z.2.1 s ∨ zsf (Z.2.1 s) l st = true)
    (k : Rn Z M (nx, l, r1.toList ++ st, s1) r sE) : Rn Z M (pc, l, stk, s) r sE := by
  subst hst
  obtain ⟨⟨k1, k1'⟩, k2⟩ := k
  obtain ⟨⟨v1, v1'⟩, v2⟩ := ev
  dsimp only at k1 k1' k2
  refine ⟨⟨Nat.le_trans v1 k1, Nat.le_trans v1' k1'⟩, ?_⟩
  intro p l0 e R s0 m args below meth c H locs ls A dC dI dA ad ad0 nn k0 n0 hC hR hH hlv ha hk
  dsimp only at hH hlv ha hk ⊢
  obtain ⟨hd, hnx, -⟩ := zD hC hfe
  unfold zcr at hcr
  simp only [Bool.and_eq_true] at hcr
  obtain ⟨⟨hr1, hr2⟩, hr3⟩ := hcr
  have hr1 := Nat.le_of_ble_eq_true hr1
  have hr2 := Nat.le_of_ble_eq_true hr2
  have hr3 := Nat.le_of_ble_eq_true hr3
  obtain ⟨hb1, ci, fs, hb2, hb3⟩ : b < Z.2.1 s ∧ ∃ ci fs, Z.1 s b = .inr (ci, fs) ∧ ci = M'.1 := by
    unfold zrc at hrc
    split at hrc
    · rename_i ci fs hc
      rw [Bool.and_eq_true] at hrc
      exact ⟨Nat.le_of_ble_eq_true hrc.2, ci, fs, hc, Nat.eq_of_beq_eq_true hrc.1⟩
    · cases hrc
  have hat : (zws Z dA ad s)[b]? = some (ad b, .inr (ci, fs.map (ze ad))) := by rw [zws_at hb1, hb2]; rfl
  obtain ⟨q, hq, hqn⟩ : ∃ q, (vwCl)[ci]? = some q ∧ q.1 = M'.2.1.cls := by
    have h1 := hM.2.2.2.2
    have h2 := hM.2.2.2.1
    rw [← hb3] at h1 h2
    unfold zcn at h1
    cases hv : (vwCl)[ci]? with
    | none =>
      rw [List.getElem?_eq_none_iff] at hv
      exact absurd h2 (Nat.not_lt.mpr hv)
    | some q => rw [hv] at h1; exact ⟨q, rfl, h1⟩
  have hrecv : ∃ cell : Cell, H[ad b]? = some cell ∧ cell.vm.isStatics = false ∧ s0.vm.findClass M'.2.1.cls = some cell.cls := by
    rw [← hqn]
    exact va_recv hH.2.1 hH.1 hq hat
  have hrun := va_runV (b := ad b) (As := as.map (ze ad)) (rest := st.map (ze ad)) (cells := Z.2.1 s - k0) (slots := Z.2.2.1 s - n0) (locs := locs) (g := F0 m pc ls (((as.reverse ++ Value.ref b :: st)).map (ze ad))) (e := e) (below := below) (meth := meth) (R := R) ⟨hC.1, hC.2.1, hC.2.2.1, hC.2.2.2.2.2.1, hC.2.2.2.2.1⟩ (v2 l0 dC dI dA ad H.size)
    (cwV n hC.2.2.2.2.1 (zgoodW hlk hM) rfl rfl rfl ⟨rfl, hM.1.2.2⟩ ⟨Nat.le_trans hr1 hR.1, Nat.le_trans hr2 hR.2.1⟩)
    ⟨zPc_blind, hrecv, fun U hU hW => ⟨rfl, by rw [hU], by rw [hU]; exact hH.1, va_K.moved hW.alike hH.2.1, hH.2.2.1.weaken (fun _ _ _ _ => trivial), hH.2.2.2.2.2⟩⟩ rfl (by simpa using hn) hlv.2.1 (by simp [ze]) (lv_room (by rw [zcat_sum]; exact hr3)) hd
    ⟨Nat.le_trans (by omega) hR.2.2.1, Nat.le_trans (by omega) hR.2.2.2⟩
  refine zback hH hrun (fun H1 locs1 ad' hag hH1 => ?_)
  have e1 : Z.2.1 s - k0 + (Z.2.1 s1 - Z.2.1 s) = Z.2.1 s1 - k0 := by omega
  have e2 : Z.2.2.1 s - n0 + (Z.2.2.1 s1 - Z.2.2.1 s) = Z.2.2.1 s1 - n0 := by omega
  have hl2 : zlv ad' ls M.2.2.2.1 l ∧ st.map (ze ad) = st.map (ze ad') := by
    rcases hg with hg | hg
    · have : ad' = ad := zad_eq hag (fun k hk => hH1.2.2.2.2.2 k (by rw [hg]; exact hk)) hH.2.2.2.2.2
      rw [this]
      exact ⟨hlv, rfl⟩
    · exact ⟨zlv_ad hlv hag hg, zst_ad hag hg⟩
  have key := k2 p l0 e R s0 m args below meth c H1 locs1 ls A dC dI dA ad' ad0 nn k0 n0 hC hR hH1 hl2.1 ⟨Nat.le_trans ha.1 v1, fun k hk => by rw [hag k (Nat.lt_of_lt_of_le hk ha.1), ha.2 k hk]⟩ ⟨Nat.le_trans hk.1 v1, Nat.le_trans hk.2 v1'⟩
  rw [e1, e2, hl2.2, ← hnx]
  have e3 : (r1.toList ++ st).map (ze ad') = (r1.map (ze ad')).toList ++ st.map (ze ad') := by cases r1 <;> simp
  rw [← e3]
  exact key
theorem Rn_callS {idx : Nat} {as stk : List Value} (hfe : zfe M pc = some (.invokestatic idx, 3, nx, tg, v)) (hlk : Cond.methodLink M.2.1.cls idx M'.2.1 ∈ zT) (hM : ZMt M' n) (ev : Ev Z M' as s r1 s1)
    (hst : stk = as.reverse ++ st) (hn : as.length = n) (hcr : zcr M M' st = true) (hg : Z.2.1 s1 = Z.2.1 s ∨ zsf (Z.2.1 s) l st = true)
    (k : Rn Z M (nx, l, r1.toList ++ st, s1) r sE) : Rn Z M (pc, l, stk, s) r sE := by
  subst hst
  obtain ⟨⟨k1, k1'⟩, k2⟩ := k
  obtain ⟨⟨v1, v1'⟩, v2⟩ := ev
  dsimp only at k1 k1' k2
  refine ⟨⟨Nat.le_trans v1 k1, Nat.le_trans v1' k1'⟩, ?_⟩
  intro p l0 e R s0 m args below meth c H locs ls A dC dI dA ad ad0 nn k0 n0 hC hR hH hlv ha hk
  dsimp only at hH hlv ha hk ⊢
  obtain ⟨hd, hnx, -⟩ := zD hC hfe
  unfold zcr at hcr
  simp only [Bool.and_eq_true] at hcr
  obtain ⟨⟨hr1, hr2⟩, hr3⟩ := hcr
  have hr1 := Nat.le_of_ble_eq_true hr1
  have hr2 := Nat.le_of_ble_eq_true hr2
  have hr3 := Nat.le_of_ble_eq_true hr3
  have hrun := va_runS (As := as.map (ze ad)) (rest := st.map (ze ad)) (H := H) (cells := Z.2.1 s - k0) (slots := Z.2.2.1 s - n0) (locs := locs) (g := F0 m pc ls (((as.reverse ++ st)).map (ze ad))) (e := e) (below := below) (meth := meth) (R := R) ⟨hC.1, hC.2.1, hC.2.2.1, hC.2.2.2.2.2.1, hC.2.2.2.2.1⟩ (v2 l0 dC dI dA ad H.size)
    (va_cwS n hC.2.2.2.2.1 (zgoodS hlk hM) rfl rfl rfl hM.1.2.2 ⟨Nat.le_trans hr1 hR.1, Nat.le_trans hr2 hR.2.1⟩)
    ⟨zPc_blind, fun U hU hW => ⟨rfl, by rw [hU], by rw [hU]; exact hH.1, va_K.moved hW.alike hH.2.1, hH.2.2.1.weaken (fun _ _ _ _ => trivial), hH.2.2.2.2.2⟩⟩ rfl (by simpa using hn) hlv.2.1 (by simp) (lv_room (by rw [zcat_sum]; exact hr3)) hd
    ⟨Nat.le_trans (by omega) hR.2.2.1, Nat.le_trans (by omega) hR.2.2.2⟩
  refine zback hH hrun (fun H1 locs1 ad' hag hH1 => ?_)
  have e1 : Z.2.1 s - k0 + (Z.2.1 s1 - Z.2.1 s) = Z.2.1 s1 - k0 := by omega
  have e2 : Z.2.2.1 s - n0 + (Z.2.2.1 s1 - Z.2.2.1 s) = Z.2.2.1 s1 - n0 := by omega
  have hl2 : zlv ad' ls M.2.2.2.1 l ∧ st.map (ze ad) = st.map (ze ad') := by
    rcases hg with hg | hg
    · have : ad' = ad := zad_eq hag (fun k hk => hH1.2.2.2.2.2 k (by rw [hg]; exact hk)) hH.2.2.2.2.2
      rw [this]
      exact ⟨hlv, rfl⟩
    · exact ⟨zlv_ad hlv hag hg, zst_ad hag hg⟩
  have key := k2 p l0 e R s0 m args below meth c H1 locs1 ls A dC dI dA ad' ad0 nn k0 n0 hC hR hH1 hl2.1 ⟨Nat.le_trans ha.1 v1, fun k hk => by rw [hag k (Nat.lt_of_lt_of_le hk ha.1), ha.2 k hk]⟩ ⟨Nat.le_trans hk.1 v1, Nat.le_trans hk.2 v1'⟩
  rw [e1, e2, hl2.2, ← hnx]
  have e3 : (r1.toList ++ st).map (ze ad') = (r1.map (ze ad')).toList ++ st.map (ze ad') := by cases r1 <;> simp
  rw [← e3]
  exact key
end ZInv
end
