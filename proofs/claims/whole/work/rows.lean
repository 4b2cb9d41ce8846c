section
-- ===== PART A: goes FIRST, ahead of the names: the tables' words, and 'selects' of the private methods out of them =====
/-- a private method of a class that the tables say can be made, by its rows of tables_1 -/
def lw_okq (q : MethodName × Nat) : Prop := (q.1.cls ≠ "java/lang/invoke/MethodHandle" ∧ q.1.cls ≠ "java/lang/invoke/VarHandle") ∧ Cond.instantiable q.1.cls q.2 ∈ tables_1 ∧ Cond.privateMethod q.1 ∈ tables_1 ∧ Cond.instanceMethod q.1 ∈ tables_1
theorem lw_p0 : lw_okq (⟨"PutOn", "isClock", "(I)Z"⟩, 11) := ⟨⟨by decide +kernel, by decide +kernel⟩, List.mem_of_getElem? (i := 20) (by decide +kernel), List.mem_of_getElem? (i := 354) (by decide +kernel), List.mem_of_getElem? (i := 355) (by decide +kernel)⟩
theorem lw_p1 : lw_okq (⟨"PutOn", "isDoer", "(I)Z"⟩, 11) := ⟨⟨by decide +kernel, by decide +kernel⟩, List.mem_of_getElem? (i := 20) (by decide +kernel), List.mem_of_getElem? (i := 358) (by decide +kernel), List.mem_of_getElem? (i := 359) (by decide +kernel)⟩
theorem lw_p2 : lw_okq (⟨"PutOn", "worked", "()LPutOn$Worlds;"⟩, 11) := ⟨⟨by decide +kernel, by decide +kernel⟩, List.mem_of_getElem? (i := 20) (by decide +kernel), List.mem_of_getElem? (i := 384) (by decide +kernel), List.mem_of_getElem? (i := 385) (by decide +kernel)⟩
theorem lw_p3 : lw_okq (⟨"PutOn$Worlds", "howLikely", "(I)I"⟩, 13) := ⟨⟨by decide +kernel, by decide +kernel⟩, List.mem_of_getElem? (i := 28) (by decide +kernel), List.mem_of_getElem? (i := 392) (by decide +kernel), List.mem_of_getElem? (i := 393) (by decide +kernel)⟩
theorem lw_p4 : lw_okq (⟨"PutOn$Worlds", "name", "(IIIIII)V"⟩, 13) := ⟨⟨by decide +kernel, by decide +kernel⟩, List.mem_of_getElem? (i := 28) (by decide +kernel), List.mem_of_getElem? (i := 406) (by decide +kernel), List.mem_of_getElem? (i := 407) (by decide +kernel)⟩
theorem lw_p5 : lw_okq (⟨"PutOn$Text", "push", "(I)V"⟩, 5) := ⟨⟨by decide +kernel, by decide +kernel⟩, List.mem_of_getElem? (i := 124) (by decide +kernel), List.mem_of_getElem? (i := 414) (by decide +kernel), List.mem_of_getElem? (i := 415) (by decide +kernel)⟩
theorem lw_p6 : lw_okq (⟨"PutOn$Text", "pop", "()I"⟩, 5) := ⟨⟨by decide +kernel, by decide +kernel⟩, List.mem_of_getElem? (i := 124) (by decide +kernel), List.mem_of_getElem? (i := 418) (by decide +kernel), List.mem_of_getElem? (i := 419) (by decide +kernel)⟩
theorem lw_p7 : lw_okq (⟨"PutOn$Worlds", "play", "(I)V"⟩, 13) := ⟨⟨by decide +kernel, by decide +kernel⟩, List.mem_of_getElem? (i := 28) (by decide +kernel), List.mem_of_getElem? (i := 434) (by decide +kernel), List.mem_of_getElem? (i := 435) (by decide +kernel)⟩
theorem lw_p8 : lw_okq (⟨"PutOn$Worlds", "begin", "(I)V"⟩, 13) := ⟨⟨by decide +kernel, by decide +kernel⟩, List.mem_of_getElem? (i := 28) (by decide +kernel), List.mem_of_getElem? (i := 438) (by decide +kernel), List.mem_of_getElem? (i := 439) (by decide +kernel)⟩
theorem lw_p9 : lw_okq (⟨"PutOn$Worlds", "visit", "(IIII)V"⟩, 13) := ⟨⟨by decide +kernel, by decide +kernel⟩, List.mem_of_getElem? (i := 28) (by decide +kernel), List.mem_of_getElem? (i := 446) (by decide +kernel), List.mem_of_getElem? (i := 447) (by decide +kernel)⟩
theorem lw_p10 : lw_okq (⟨"PutOn$Doer", "trusts", "(I)Z"⟩, 3) := ⟨⟨by decide +kernel, by decide +kernel⟩, List.mem_of_getElem? (i := 76) (by decide +kernel), List.mem_of_getElem? (i := 454) (by decide +kernel), List.mem_of_getElem? (i := 455) (by decide +kernel)⟩
theorem lw_p11 : lw_okq (⟨"PutOn$Doer", "dares", "(I)Z"⟩, 3) := ⟨⟨by decide +kernel, by decide +kernel⟩, List.mem_of_getElem? (i := 76) (by decide +kernel), List.mem_of_getElem? (i := 458) (by decide +kernel), List.mem_of_getElem? (i := 459) (by decide +kernel)⟩
theorem lw_p12 : lw_okq (⟨"PutOn$Worlds", "rightIn", "(I)I"⟩, 13) := ⟨⟨by decide +kernel, by decide +kernel⟩, List.mem_of_getElem? (i := 28) (by decide +kernel), List.mem_of_getElem? (i := 467) (by decide +kernel), List.mem_of_getElem? (i := 468) (by decide +kernel)⟩
theorem lw_p13 : lw_okq (⟨"PutOn$Worlds", "chanceOf", "(I)J"⟩, 13) := ⟨⟨by decide +kernel, by decide +kernel⟩, List.mem_of_getElem? (i := 28) (by decide +kernel), List.mem_of_getElem? (i := 471) (by decide +kernel), List.mem_of_getElem? (i := 472) (by decide +kernel)⟩
theorem lw_p14 : lw_okq (⟨"PutOn$Worlds", "timeIn", "(I)I"⟩, 13) := ⟨⟨by decide +kernel, by decide +kernel⟩, List.mem_of_getElem? (i := 28) (by decide +kernel), List.mem_of_getElem? (i := 475) (by decide +kernel), List.mem_of_getElem? (i := 476) (by decide +kernel)⟩
theorem lw_p15 : lw_okq (⟨"PutOn$Reader", "split", "([II)V"⟩, 6) := ⟨⟨by decide +kernel, by decide +kernel⟩, List.mem_of_getElem? (i := 209) (by decide +kernel), List.mem_of_getElem? (i := 494) (by decide +kernel), List.mem_of_getElem? (i := 495) (by decide +kernel)⟩
def lw_privs_1 : List (MethodName × Nat) := [(⟨"PutOn", "isClock", "(I)Z"⟩, 11), (⟨"PutOn", "isDoer", "(I)Z"⟩, 11), (⟨"PutOn", "worked", "()LPutOn$Worlds;"⟩, 11), (⟨"PutOn$Worlds", "howLikely", "(I)I"⟩, 13), (⟨"PutOn$Worlds", "name", "(IIIIII)V"⟩, 13), (⟨"PutOn$Text", "push", "(I)V"⟩, 5), (⟨"PutOn$Text", "pop", "()I"⟩, 5), (⟨"PutOn$Worlds", "play", "(I)V"⟩, 13), (⟨"PutOn$Worlds", "begin", "(I)V"⟩, 13), (⟨"PutOn$Worlds", "visit", "(IIII)V"⟩, 13), (⟨"PutOn$Doer", "trusts", "(I)Z"⟩, 3), (⟨"PutOn$Doer", "dares", "(I)Z"⟩, 3), (⟨"PutOn$Worlds", "rightIn", "(I)I"⟩, 13), (⟨"PutOn$Worlds", "chanceOf", "(I)J"⟩, 13), (⟨"PutOn$Worlds", "timeIn", "(I)I"⟩, 13), (⟨"PutOn$Reader", "split", "([II)V"⟩, 6)]
theorem lw_r1 : ∀ q ∈ lw_privs_1, lw_okq q := List.forall_mem_cons.mpr ⟨lw_p0, List.forall_mem_cons.mpr ⟨lw_p1, List.forall_mem_cons.mpr ⟨lw_p2, List.forall_mem_cons.mpr ⟨lw_p3, List.forall_mem_cons.mpr ⟨lw_p4, List.forall_mem_cons.mpr ⟨lw_p5, List.forall_mem_cons.mpr ⟨lw_p6, List.forall_mem_cons.mpr ⟨lw_p7, List.forall_mem_cons.mpr ⟨lw_p8, List.forall_mem_cons.mpr ⟨lw_p9, List.forall_mem_cons.mpr ⟨lw_p10, List.forall_mem_cons.mpr ⟨lw_p11, List.forall_mem_cons.mpr ⟨lw_p12, List.forall_mem_cons.mpr ⟨lw_p13, List.forall_mem_cons.mpr ⟨lw_p14, List.forall_mem_cons.mpr ⟨lw_p15, fun _ h => absurd h List.not_mem_nil⟩⟩⟩⟩⟩⟩⟩⟩⟩⟩⟩⟩⟩⟩⟩⟩
theorem lw_p16 : lw_okq (⟨"PutOn$Reader", "add", "(II)V"⟩, 6) := ⟨⟨by decide +kernel, by decide +kernel⟩, List.mem_of_getElem? (i := 209) (by decide +kernel), List.mem_of_getElem? (i := 510) (by decide +kernel), List.mem_of_getElem? (i := 511) (by decide +kernel)⟩
theorem lw_p17 : lw_okq (⟨"PutOn$Reader", "part", "(II)Z"⟩, 6) := ⟨⟨by decide +kernel, by decide +kernel⟩, List.mem_of_getElem? (i := 209) (by decide +kernel), List.mem_of_getElem? (i := 589) (by decide +kernel), List.mem_of_getElem? (i := 590) (by decide +kernel)⟩
theorem lw_p18 : lw_okq (⟨"PutOn$Reader", "accept", "(I)Z"⟩, 6) := ⟨⟨by decide +kernel, by decide +kernel⟩, List.mem_of_getElem? (i := 209) (by decide +kernel), List.mem_of_getElem? (i := 593) (by decide +kernel), List.mem_of_getElem? (i := 594) (by decide +kernel)⟩
theorem lw_p19 : lw_okq (⟨"PutOn$Reader", "token", "()I"⟩, 6) := ⟨⟨by decide +kernel, by decide +kernel⟩, List.mem_of_getElem? (i := 209) (by decide +kernel), List.mem_of_getElem? (i := 597) (by decide +kernel), List.mem_of_getElem? (i := 598) (by decide +kernel)⟩
theorem lw_p20 : lw_okq (⟨"PutOn$Reader", "any", "(I)Z"⟩, 6) := ⟨⟨by decide +kernel, by decide +kernel⟩, List.mem_of_getElem? (i := 209) (by decide +kernel), List.mem_of_getElem? (i := 601) (by decide +kernel), List.mem_of_getElem? (i := 602) (by decide +kernel)⟩
theorem lw_p21 : lw_okq (⟨"PutOn$Reader", "every", "(I)Z"⟩, 6) := ⟨⟨by decide +kernel, by decide +kernel⟩, List.mem_of_getElem? (i := 209) (by decide +kernel), List.mem_of_getElem? (i := 605) (by decide +kernel), List.mem_of_getElem? (i := 606) (by decide +kernel)⟩
theorem lw_p22 : lw_okq (⟨"PutOn$Reader", "denial", "(I)Z"⟩, 6) := ⟨⟨by decide +kernel, by decide +kernel⟩, List.mem_of_getElem? (i := 209) (by decide +kernel), List.mem_of_getElem? (i := 609) (by decide +kernel), List.mem_of_getElem? (i := 610) (by decide +kernel)⟩
theorem lw_p23 : lw_okq (⟨"PutOn$Reader", "comparison", "(I)Z"⟩, 6) := ⟨⟨by decide +kernel, by decide +kernel⟩, List.mem_of_getElem? (i := 209) (by decide +kernel), List.mem_of_getElem? (i := 613) (by decide +kernel), List.mem_of_getElem? (i := 614) (by decide +kernel)⟩
theorem lw_p24 : lw_okq (⟨"PutOn$Reader", "sum", "(I)Z"⟩, 6) := ⟨⟨by decide +kernel, by decide +kernel⟩, List.mem_of_getElem? (i := 209) (by decide +kernel), List.mem_of_getElem? (i := 617) (by decide +kernel), List.mem_of_getElem? (i := 618) (by decide +kernel)⟩
theorem lw_p25 : lw_okq (⟨"PutOn$Reader", "term", "(I)Z"⟩, 6) := ⟨⟨by decide +kernel, by decide +kernel⟩, List.mem_of_getElem? (i := 209) (by decide +kernel), List.mem_of_getElem? (i := 621) (by decide +kernel), List.mem_of_getElem? (i := 622) (by decide +kernel)⟩
theorem lw_p26 : lw_okq (⟨"PutOn$Reader", "one", "(I)Z"⟩, 6) := ⟨⟨by decide +kernel, by decide +kernel⟩, List.mem_of_getElem? (i := 209) (by decide +kernel), List.mem_of_getElem? (i := 625) (by decide +kernel), List.mem_of_getElem? (i := 626) (by decide +kernel)⟩
theorem lw_p27 : lw_okq (⟨"PutOn", "isWorld", "(I)Z"⟩, 11) := ⟨⟨by decide +kernel, by decide +kernel⟩, List.mem_of_getElem? (i := 20) (by decide +kernel), List.mem_of_getElem? (i := 647) (by decide +kernel), List.mem_of_getElem? (i := 648) (by decide +kernel)⟩
theorem lw_p28 : lw_okq (⟨"PutOn$Known", "sumTimes", "(LPutOn$Worlds;)V"⟩, 2) := ⟨⟨by decide +kernel, by decide +kernel⟩, List.mem_of_getElem? (i := 237) (by decide +kernel), List.mem_of_getElem? (i := 683) (by decide +kernel), List.mem_of_getElem? (i := 684) (by decide +kernel)⟩
theorem lw_p29 : lw_okq (⟨"PutOn$Known", "chanceOfSaying", "(LPutOn$Worlds;I)J"⟩, 2) := ⟨⟨by decide +kernel, by decide +kernel⟩, List.mem_of_getElem? (i := 237) (by decide +kernel), List.mem_of_getElem? (i := 731) (by decide +kernel), List.mem_of_getElem? (i := 732) (by decide +kernel)⟩
theorem lw_p30 : lw_okq (⟨"PutOn$Known", "blindBy", "(LPutOn$Worlds;II)V"⟩, 2) := ⟨⟨by decide +kernel, by decide +kernel⟩, List.mem_of_getElem? (i := 237) (by decide +kernel), List.mem_of_getElem? (i := 747) (by decide +kernel), List.mem_of_getElem? (i := 748) (by decide +kernel)⟩
theorem lw_p31 : lw_okq (⟨"PutOn$Known", "blindAllOf", "(I)V"⟩, 2) := ⟨⟨by decide +kernel, by decide +kernel⟩, List.mem_of_getElem? (i := 237) (by decide +kernel), List.mem_of_getElem? (i := 751) (by decide +kernel), List.mem_of_getElem? (i := 752) (by decide +kernel)⟩
def lw_privs_2 : List (MethodName × Nat) := [(⟨"PutOn$Reader", "add", "(II)V"⟩, 6), (⟨"PutOn$Reader", "part", "(II)Z"⟩, 6), (⟨"PutOn$Reader", "accept", "(I)Z"⟩, 6), (⟨"PutOn$Reader", "token", "()I"⟩, 6), (⟨"PutOn$Reader", "any", "(I)Z"⟩, 6), (⟨"PutOn$Reader", "every", "(I)Z"⟩, 6), (⟨"PutOn$Reader", "denial", "(I)Z"⟩, 6), (⟨"PutOn$Reader", "comparison", "(I)Z"⟩, 6), (⟨"PutOn$Reader", "sum", "(I)Z"⟩, 6), (⟨"PutOn$Reader", "term", "(I)Z"⟩, 6), (⟨"PutOn$Reader", "one", "(I)Z"⟩, 6), (⟨"PutOn", "isWorld", "(I)Z"⟩, 11), (⟨"PutOn$Known", "sumTimes", "(LPutOn$Worlds;)V"⟩, 2), (⟨"PutOn$Known", "chanceOfSaying", "(LPutOn$Worlds;I)J"⟩, 2), (⟨"PutOn$Known", "blindBy", "(LPutOn$Worlds;II)V"⟩, 2), (⟨"PutOn$Known", "blindAllOf", "(I)V"⟩, 2)]
theorem lw_r2 : ∀ q ∈ lw_privs_2, lw_okq q := List.forall_mem_cons.mpr ⟨lw_p16, List.forall_mem_cons.mpr ⟨lw_p17, List.forall_mem_cons.mpr ⟨lw_p18, List.forall_mem_cons.mpr ⟨lw_p19, List.forall_mem_cons.mpr ⟨lw_p20, List.forall_mem_cons.mpr ⟨lw_p21, List.forall_mem_cons.mpr ⟨lw_p22, List.forall_mem_cons.mpr ⟨lw_p23, List.forall_mem_cons.mpr ⟨lw_p24, List.forall_mem_cons.mpr ⟨lw_p25, List.forall_mem_cons.mpr ⟨lw_p26, List.forall_mem_cons.mpr ⟨lw_p27, List.forall_mem_cons.mpr ⟨lw_p28, List.forall_mem_cons.mpr ⟨lw_p29, List.forall_mem_cons.mpr ⟨lw_p30, List.forall_mem_cons.mpr ⟨lw_p31, fun _ h => absurd h List.not_mem_nil⟩⟩⟩⟩⟩⟩⟩⟩⟩⟩⟩⟩⟩⟩⟩⟩
theorem lw_p32 : lw_okq (⟨"PutOn$Known", "wrongIn", "(LPutOn$Worlds;I)I"⟩, 2) := ⟨⟨by decide +kernel, by decide +kernel⟩, List.mem_of_getElem? (i := 237) (by decide +kernel), List.mem_of_getElem? (i := 782) (by decide +kernel), List.mem_of_getElem? (i := 783) (by decide +kernel)⟩
theorem lw_p33 : lw_okq (⟨"PutOn$Known", "isAsTold", "(LPutOn$Worlds;ILPutOn$Sheet;)Z"⟩, 2) := ⟨⟨by decide +kernel, by decide +kernel⟩, List.mem_of_getElem? (i := 237) (by decide +kernel), List.mem_of_getElem? (i := 818) (by decide +kernel), List.mem_of_getElem? (i := 819) (by decide +kernel)⟩
theorem lw_p34 : lw_okq (⟨"PutOnModel", "spell", "(IIIIIIIII)V"⟩, 49) := ⟨⟨by decide +kernel, by decide +kernel⟩, List.mem_of_getElem? (i := 918) (by decide +kernel), List.mem_of_getElem? (i := 924) (by decide +kernel), List.mem_of_getElem? (i := 925) (by decide +kernel)⟩
theorem lw_p35 : lw_okq (⟨"PutOnModel", "isClock", "(I)Z"⟩, 49) := ⟨⟨by decide +kernel, by decide +kernel⟩, List.mem_of_getElem? (i := 918) (by decide +kernel), List.mem_of_getElem? (i := 1096) (by decide +kernel), List.mem_of_getElem? (i := 1097) (by decide +kernel)⟩
theorem lw_p36 : lw_okq (⟨"PutOnModel", "isDoer", "(I)Z"⟩, 49) := ⟨⟨by decide +kernel, by decide +kernel⟩, List.mem_of_getElem? (i := 918) (by decide +kernel), List.mem_of_getElem? (i := 1100) (by decide +kernel), List.mem_of_getElem? (i := 1101) (by decide +kernel)⟩
theorem lw_p37 : lw_okq (⟨"PutOnModel", "cameOf", "(I)I"⟩, 49) := ⟨⟨by decide +kernel, by decide +kernel⟩, List.mem_of_getElem? (i := 918) (by decide +kernel), List.mem_of_getElem? (i := 1109) (by decide +kernel), List.mem_of_getElem? (i := 1110) (by decide +kernel)⟩
theorem lw_p38 : lw_okq (⟨"PutOnModel", "read", "(II)I"⟩, 49) := ⟨⟨by decide +kernel, by decide +kernel⟩, List.mem_of_getElem? (i := 918) (by decide +kernel), List.mem_of_getElem? (i := 1116) (by decide +kernel), List.mem_of_getElem? (i := 1117) (by decide +kernel)⟩
theorem lw_p39 : lw_okq (⟨"PutOnModel", "next", "()V"⟩, 49) := ⟨⟨by decide +kernel, by decide +kernel⟩, List.mem_of_getElem? (i := 918) (by decide +kernel), List.mem_of_getElem? (i := 1120) (by decide +kernel), List.mem_of_getElem? (i := 1121) (by decide +kernel)⟩
theorem lw_p40 : lw_okq (⟨"PutOnModel", "byteAt", "(I)I"⟩, 49) := ⟨⟨by decide +kernel, by decide +kernel⟩, List.mem_of_getElem? (i := 918) (by decide +kernel), List.mem_of_getElem? (i := 1124) (by decide +kernel), List.mem_of_getElem? (i := 1125) (by decide +kernel)⟩
theorem lw_p41 : lw_okq (⟨"PutOnModel", "isWord", "(IIIIIIII)Z"⟩, 49) := ⟨⟨by decide +kernel, by decide +kernel⟩, List.mem_of_getElem? (i := 918) (by decide +kernel), List.mem_of_getElem? (i := 1133) (by decide +kernel), List.mem_of_getElem? (i := 1134) (by decide +kernel)⟩
theorem lw_p42 : lw_okq (⟨"PutOnModel", "isLetter", "(II)Z"⟩, 49) := ⟨⟨by decide +kernel, by decide +kernel⟩, List.mem_of_getElem? (i := 918) (by decide +kernel), List.mem_of_getElem? (i := 1137) (by decide +kernel), List.mem_of_getElem? (i := 1138) (by decide +kernel)⟩
theorem lw_p43 : lw_okq (⟨"PutOnModel", "part", "(Z)I"⟩, 49) := ⟨⟨by decide +kernel, by decide +kernel⟩, List.mem_of_getElem? (i := 918) (by decide +kernel), List.mem_of_getElem? (i := 1141) (by decide +kernel), List.mem_of_getElem? (i := 1142) (by decide +kernel)⟩
theorem lw_p44 : lw_okq (⟨"PutOnModel", "fail", "()V"⟩, 49) := ⟨⟨by decide +kernel, by decide +kernel⟩, List.mem_of_getElem? (i := 918) (by decide +kernel), List.mem_of_getElem? (i := 1145) (by decide +kernel), List.mem_of_getElem? (i := 1146) (by decide +kernel)⟩
theorem lw_p45 : lw_okq (⟨"PutOnModel", "either0", "()I"⟩, 49) := ⟨⟨by decide +kernel, by decide +kernel⟩, List.mem_of_getElem? (i := 918) (by decide +kernel), List.mem_of_getElem? (i := 1149) (by decide +kernel), List.mem_of_getElem? (i := 1150) (by decide +kernel)⟩
theorem lw_p46 : lw_okq (⟨"PutOnModel", "both0", "()I"⟩, 49) := ⟨⟨by decide +kernel, by decide +kernel⟩, List.mem_of_getElem? (i := 918) (by decide +kernel), List.mem_of_getElem? (i := 1153) (by decide +kernel), List.mem_of_getElem? (i := 1154) (by decide +kernel)⟩
theorem lw_p47 : lw_okq (⟨"PutOnModel", "not0", "()I"⟩, 49) := ⟨⟨by decide +kernel, by decide +kernel⟩, List.mem_of_getElem? (i := 918) (by decide +kernel), List.mem_of_getElem? (i := 1157) (by decide +kernel), List.mem_of_getElem? (i := 1158) (by decide +kernel)⟩
def lw_privs_3 : List (MethodName × Nat) := [(⟨"PutOn$Known", "wrongIn", "(LPutOn$Worlds;I)I"⟩, 2), (⟨"PutOn$Known", "isAsTold", "(LPutOn$Worlds;ILPutOn$Sheet;)Z"⟩, 2), (⟨"PutOnModel", "spell", "(IIIIIIIII)V"⟩, 49), (⟨"PutOnModel", "isClock", "(I)Z"⟩, 49), (⟨"PutOnModel", "isDoer", "(I)Z"⟩, 49), (⟨"PutOnModel", "cameOf", "(I)I"⟩, 49), (⟨"PutOnModel", "read", "(II)I"⟩, 49), (⟨"PutOnModel", "next", "()V"⟩, 49), (⟨"PutOnModel", "byteAt", "(I)I"⟩, 49), (⟨"PutOnModel", "isWord", "(IIIIIIII)Z"⟩, 49), (⟨"PutOnModel", "isLetter", "(II)Z"⟩, 49), (⟨"PutOnModel", "part", "(Z)I"⟩, 49), (⟨"PutOnModel", "fail", "()V"⟩, 49), (⟨"PutOnModel", "either0", "()I"⟩, 49), (⟨"PutOnModel", "both0", "()I"⟩, 49), (⟨"PutOnModel", "not0", "()I"⟩, 49)]
theorem lw_r3 : ∀ q ∈ lw_privs_3, lw_okq q := List.forall_mem_cons.mpr ⟨lw_p32, List.forall_mem_cons.mpr ⟨lw_p33, List.forall_mem_cons.mpr ⟨lw_p34, List.forall_mem_cons.mpr ⟨lw_p35, List.forall_mem_cons.mpr ⟨lw_p36, List.forall_mem_cons.mpr ⟨lw_p37, List.forall_mem_cons.mpr ⟨lw_p38, List.forall_mem_cons.mpr ⟨lw_p39, List.forall_mem_cons.mpr ⟨lw_p40, List.forall_mem_cons.mpr ⟨lw_p41, List.forall_mem_cons.mpr ⟨lw_p42, List.forall_mem_cons.mpr ⟨lw_p43, List.forall_mem_cons.mpr ⟨lw_p44, List.forall_mem_cons.mpr ⟨lw_p45, List.forall_mem_cons.mpr ⟨lw_p46, List.forall_mem_cons.mpr ⟨lw_p47, fun _ h => absurd h List.not_mem_nil⟩⟩⟩⟩⟩⟩⟩⟩⟩⟩⟩⟩⟩⟩⟩⟩
theorem lw_p48 : lw_okq (⟨"PutOnModel", "opens", "()Z"⟩, 49) := ⟨⟨by decide +kernel, by decide +kernel⟩, List.mem_of_getElem? (i := 918) (by decide +kernel), List.mem_of_getElem? (i := 1161) (by decide +kernel), List.mem_of_getElem? (i := 1162) (by decide +kernel)⟩
theorem lw_p49 : lw_okq (⟨"PutOnModel", "not1", "()I"⟩, 49) := ⟨⟨by decide +kernel, by decide +kernel⟩, List.mem_of_getElem? (i := 918) (by decide +kernel), List.mem_of_getElem? (i := 1165) (by decide +kernel), List.mem_of_getElem? (i := 1166) (by decide +kernel)⟩
theorem lw_p50 : lw_okq (⟨"PutOnModel", "not2", "()I"⟩, 49) := ⟨⟨by decide +kernel, by decide +kernel⟩, List.mem_of_getElem? (i := 918) (by decide +kernel), List.mem_of_getElem? (i := 1169) (by decide +kernel), List.mem_of_getElem? (i := 1170) (by decide +kernel)⟩
theorem lw_p51 : lw_okq (⟨"PutOnModel", "not3", "()I"⟩, 49) := ⟨⟨by decide +kernel, by decide +kernel⟩, List.mem_of_getElem? (i := 918) (by decide +kernel), List.mem_of_getElem? (i := 1173) (by decide +kernel), List.mem_of_getElem? (i := 1174) (by decide +kernel)⟩
theorem lw_p52 : lw_okq (⟨"PutOnModel", "not4", "()I"⟩, 49) := ⟨⟨by decide +kernel, by decide +kernel⟩, List.mem_of_getElem? (i := 918) (by decide +kernel), List.mem_of_getElem? (i := 1177) (by decide +kernel), List.mem_of_getElem? (i := 1178) (by decide +kernel)⟩
theorem lw_p53 : lw_okq (⟨"PutOnModel", "not5", "()I"⟩, 49) := ⟨⟨by decide +kernel, by decide +kernel⟩, List.mem_of_getElem? (i := 918) (by decide +kernel), List.mem_of_getElem? (i := 1181) (by decide +kernel), List.mem_of_getElem? (i := 1182) (by decide +kernel)⟩
theorem lw_p54 : lw_okq (⟨"PutOnModel", "added5", "()I"⟩, 49) := ⟨⟨by decide +kernel, by decide +kernel⟩, List.mem_of_getElem? (i := 918) (by decide +kernel), List.mem_of_getElem? (i := 1185) (by decide +kernel), List.mem_of_getElem? (i := 1186) (by decide +kernel)⟩
theorem lw_p55 : lw_okq (⟨"PutOnModel", "term5", "()I"⟩, 49) := ⟨⟨by decide +kernel, by decide +kernel⟩, List.mem_of_getElem? (i := 918) (by decide +kernel), List.mem_of_getElem? (i := 1189) (by decide +kernel), List.mem_of_getElem? (i := 1190) (by decide +kernel)⟩
theorem lw_p56 : lw_okq (⟨"PutOnModel", "atom5", "()I"⟩, 49) := ⟨⟨by decide +kernel, by decide +kernel⟩, List.mem_of_getElem? (i := 918) (by decide +kernel), List.mem_of_getElem? (i := 1193) (by decide +kernel), List.mem_of_getElem? (i := 1194) (by decide +kernel)⟩
theorem lw_p57 : lw_okq (⟨"PutOnModel", "isSign", "(I)Z"⟩, 49) := ⟨⟨by decide +kernel, by decide +kernel⟩, List.mem_of_getElem? (i := 918) (by decide +kernel), List.mem_of_getElem? (i := 1197) (by decide +kernel), List.mem_of_getElem? (i := 1198) (by decide +kernel)⟩
theorem lw_p58 : lw_okq (⟨"PutOnModel", "name", "()I"⟩, 49) := ⟨⟨by decide +kernel, by decide +kernel⟩, List.mem_of_getElem? (i := 918) (by decide +kernel), List.mem_of_getElem? (i := 1201) (by decide +kernel), List.mem_of_getElem? (i := 1202) (by decide +kernel)⟩
theorem lw_p59 : lw_okq (⟨"PutOnModel", "added4", "()I"⟩, 49) := ⟨⟨by decide +kernel, by decide +kernel⟩, List.mem_of_getElem? (i := 918) (by decide +kernel), List.mem_of_getElem? (i := 1207) (by decide +kernel), List.mem_of_getElem? (i := 1208) (by decide +kernel)⟩
theorem lw_p60 : lw_okq (⟨"PutOnModel", "term4", "()I"⟩, 49) := ⟨⟨by decide +kernel, by decide +kernel⟩, List.mem_of_getElem? (i := 918) (by decide +kernel), List.mem_of_getElem? (i := 1211) (by decide +kernel), List.mem_of_getElem? (i := 1212) (by decide +kernel)⟩
theorem lw_p61 : lw_okq (⟨"PutOnModel", "atom4", "()I"⟩, 49) := ⟨⟨by decide +kernel, by decide +kernel⟩, List.mem_of_getElem? (i := 918) (by decide +kernel), List.mem_of_getElem? (i := 1215) (by decide +kernel), List.mem_of_getElem? (i := 1216) (by decide +kernel)⟩
theorem lw_p62 : lw_okq (⟨"PutOnModel", "either5", "()I"⟩, 49) := ⟨⟨by decide +kernel, by decide +kernel⟩, List.mem_of_getElem? (i := 918) (by decide +kernel), List.mem_of_getElem? (i := 1219) (by decide +kernel), List.mem_of_getElem? (i := 1220) (by decide +kernel)⟩
theorem lw_p63 : lw_okq (⟨"PutOnModel", "both5", "()I"⟩, 49) := ⟨⟨by decide +kernel, by decide +kernel⟩, List.mem_of_getElem? (i := 918) (by decide +kernel), List.mem_of_getElem? (i := 1223) (by decide +kernel), List.mem_of_getElem? (i := 1224) (by decide +kernel)⟩
def lw_privs_4 : List (MethodName × Nat) := [(⟨"PutOnModel", "opens", "()Z"⟩, 49), (⟨"PutOnModel", "not1", "()I"⟩, 49), (⟨"PutOnModel", "not2", "()I"⟩, 49), (⟨"PutOnModel", "not3", "()I"⟩, 49), (⟨"PutOnModel", "not4", "()I"⟩, 49), (⟨"PutOnModel", "not5", "()I"⟩, 49), (⟨"PutOnModel", "added5", "()I"⟩, 49), (⟨"PutOnModel", "term5", "()I"⟩, 49), (⟨"PutOnModel", "atom5", "()I"⟩, 49), (⟨"PutOnModel", "isSign", "(I)Z"⟩, 49), (⟨"PutOnModel", "name", "()I"⟩, 49), (⟨"PutOnModel", "added4", "()I"⟩, 49), (⟨"PutOnModel", "term4", "()I"⟩, 49), (⟨"PutOnModel", "atom4", "()I"⟩, 49), (⟨"PutOnModel", "either5", "()I"⟩, 49), (⟨"PutOnModel", "both5", "()I"⟩, 49)]
theorem lw_r4 : ∀ q ∈ lw_privs_4, lw_okq q := List.forall_mem_cons.mpr ⟨lw_p48, List.forall_mem_cons.mpr ⟨lw_p49, List.forall_mem_cons.mpr ⟨lw_p50, List.forall_mem_cons.mpr ⟨lw_p51, List.forall_mem_cons.mpr ⟨lw_p52, List.forall_mem_cons.mpr ⟨lw_p53, List.forall_mem_cons.mpr ⟨lw_p54, List.forall_mem_cons.mpr ⟨lw_p55, List.forall_mem_cons.mpr ⟨lw_p56, List.forall_mem_cons.mpr ⟨lw_p57, List.forall_mem_cons.mpr ⟨lw_p58, List.forall_mem_cons.mpr ⟨lw_p59, List.forall_mem_cons.mpr ⟨lw_p60, List.forall_mem_cons.mpr ⟨lw_p61, List.forall_mem_cons.mpr ⟨lw_p62, List.forall_mem_cons.mpr ⟨lw_p63, fun _ h => absurd h List.not_mem_nil⟩⟩⟩⟩⟩⟩⟩⟩⟩⟩⟩⟩⟩⟩⟩⟩
theorem lw_p64 : lw_okq (⟨"PutOnModel", "added3", "()I"⟩, 49) := ⟨⟨by decide +kernel, by decide +kernel⟩, List.mem_of_getElem? (i := 918) (by decide +kernel), List.mem_of_getElem? (i := 1227) (by decide +kernel), List.mem_of_getElem? (i := 1228) (by decide +kernel)⟩
theorem lw_p65 : lw_okq (⟨"PutOnModel", "term3", "()I"⟩, 49) := ⟨⟨by decide +kernel, by decide +kernel⟩, List.mem_of_getElem? (i := 918) (by decide +kernel), List.mem_of_getElem? (i := 1231) (by decide +kernel), List.mem_of_getElem? (i := 1232) (by decide +kernel)⟩
theorem lw_p66 : lw_okq (⟨"PutOnModel", "atom3", "()I"⟩, 49) := ⟨⟨by decide +kernel, by decide +kernel⟩, List.mem_of_getElem? (i := 918) (by decide +kernel), List.mem_of_getElem? (i := 1235) (by decide +kernel), List.mem_of_getElem? (i := 1236) (by decide +kernel)⟩
theorem lw_p67 : lw_okq (⟨"PutOnModel", "either4", "()I"⟩, 49) := ⟨⟨by decide +kernel, by decide +kernel⟩, List.mem_of_getElem? (i := 918) (by decide +kernel), List.mem_of_getElem? (i := 1239) (by decide +kernel), List.mem_of_getElem? (i := 1240) (by decide +kernel)⟩
theorem lw_p68 : lw_okq (⟨"PutOnModel", "both4", "()I"⟩, 49) := ⟨⟨by decide +kernel, by decide +kernel⟩, List.mem_of_getElem? (i := 918) (by decide +kernel), List.mem_of_getElem? (i := 1243) (by decide +kernel), List.mem_of_getElem? (i := 1244) (by decide +kernel)⟩
theorem lw_p69 : lw_okq (⟨"PutOnModel", "added2", "()I"⟩, 49) := ⟨⟨by decide +kernel, by decide +kernel⟩, List.mem_of_getElem? (i := 918) (by decide +kernel), List.mem_of_getElem? (i := 1247) (by decide +kernel), List.mem_of_getElem? (i := 1248) (by decide +kernel)⟩
theorem lw_p70 : lw_okq (⟨"PutOnModel", "term2", "()I"⟩, 49) := ⟨⟨by decide +kernel, by decide +kernel⟩, List.mem_of_getElem? (i := 918) (by decide +kernel), List.mem_of_getElem? (i := 1251) (by decide +kernel), List.mem_of_getElem? (i := 1252) (by decide +kernel)⟩
theorem lw_p71 : lw_okq (⟨"PutOnModel", "atom2", "()I"⟩, 49) := ⟨⟨by decide +kernel, by decide +kernel⟩, List.mem_of_getElem? (i := 918) (by decide +kernel), List.mem_of_getElem? (i := 1255) (by decide +kernel), List.mem_of_getElem? (i := 1256) (by decide +kernel)⟩
theorem lw_p72 : lw_okq (⟨"PutOnModel", "either3", "()I"⟩, 49) := ⟨⟨by decide +kernel, by decide +kernel⟩, List.mem_of_getElem? (i := 918) (by decide +kernel), List.mem_of_getElem? (i := 1259) (by decide +kernel), List.mem_of_getElem? (i := 1260) (by decide +kernel)⟩
theorem lw_p73 : lw_okq (⟨"PutOnModel", "both3", "()I"⟩, 49) := ⟨⟨by decide +kernel, by decide +kernel⟩, List.mem_of_getElem? (i := 918) (by decide +kernel), List.mem_of_getElem? (i := 1263) (by decide +kernel), List.mem_of_getElem? (i := 1264) (by decide +kernel)⟩
theorem lw_p74 : lw_okq (⟨"PutOnModel", "added1", "()I"⟩, 49) := ⟨⟨by decide +kernel, by decide +kernel⟩, List.mem_of_getElem? (i := 918) (by decide +kernel), List.mem_of_getElem? (i := 1267) (by decide +kernel), List.mem_of_getElem? (i := 1268) (by decide +kernel)⟩
theorem lw_p75 : lw_okq (⟨"PutOnModel", "term1", "()I"⟩, 49) := ⟨⟨by decide +kernel, by decide +kernel⟩, List.mem_of_getElem? (i := 918) (by decide +kernel), List.mem_of_getElem? (i := 1271) (by decide +kernel), List.mem_of_getElem? (i := 1272) (by decide +kernel)⟩
theorem lw_p76 : lw_okq (⟨"PutOnModel", "atom1", "()I"⟩, 49) := ⟨⟨by decide +kernel, by decide +kernel⟩, List.mem_of_getElem? (i := 918) (by decide +kernel), List.mem_of_getElem? (i := 1275) (by decide +kernel), List.mem_of_getElem? (i := 1276) (by decide +kernel)⟩
theorem lw_p77 : lw_okq (⟨"PutOnModel", "either2", "()I"⟩, 49) := ⟨⟨by decide +kernel, by decide +kernel⟩, List.mem_of_getElem? (i := 918) (by decide +kernel), List.mem_of_getElem? (i := 1279) (by decide +kernel), List.mem_of_getElem? (i := 1280) (by decide +kernel)⟩
theorem lw_p78 : lw_okq (⟨"PutOnModel", "both2", "()I"⟩, 49) := ⟨⟨by decide +kernel, by decide +kernel⟩, List.mem_of_getElem? (i := 918) (by decide +kernel), List.mem_of_getElem? (i := 1283) (by decide +kernel), List.mem_of_getElem? (i := 1284) (by decide +kernel)⟩
theorem lw_p79 : lw_okq (⟨"PutOnModel", "added0", "()I"⟩, 49) := ⟨⟨by decide +kernel, by decide +kernel⟩, List.mem_of_getElem? (i := 918) (by decide +kernel), List.mem_of_getElem? (i := 1287) (by decide +kernel), List.mem_of_getElem? (i := 1288) (by decide +kernel)⟩
def lw_privs_5 : List (MethodName × Nat) := [(⟨"PutOnModel", "added3", "()I"⟩, 49), (⟨"PutOnModel", "term3", "()I"⟩, 49), (⟨"PutOnModel", "atom3", "()I"⟩, 49), (⟨"PutOnModel", "either4", "()I"⟩, 49), (⟨"PutOnModel", "both4", "()I"⟩, 49), (⟨"PutOnModel", "added2", "()I"⟩, 49), (⟨"PutOnModel", "term2", "()I"⟩, 49), (⟨"PutOnModel", "atom2", "()I"⟩, 49), (⟨"PutOnModel", "either3", "()I"⟩, 49), (⟨"PutOnModel", "both3", "()I"⟩, 49), (⟨"PutOnModel", "added1", "()I"⟩, 49), (⟨"PutOnModel", "term1", "()I"⟩, 49), (⟨"PutOnModel", "atom1", "()I"⟩, 49), (⟨"PutOnModel", "either2", "()I"⟩, 49), (⟨"PutOnModel", "both2", "()I"⟩, 49), (⟨"PutOnModel", "added0", "()I"⟩, 49)]
theorem lw_r5 : ∀ q ∈ lw_privs_5, lw_okq q := List.forall_mem_cons.mpr ⟨lw_p64, List.forall_mem_cons.mpr ⟨lw_p65, List.forall_mem_cons.mpr ⟨lw_p66, List.forall_mem_cons.mpr ⟨lw_p67, List.forall_mem_cons.mpr ⟨lw_p68, List.forall_mem_cons.mpr ⟨lw_p69, List.forall_mem_cons.mpr ⟨lw_p70, List.forall_mem_cons.mpr ⟨lw_p71, List.forall_mem_cons.mpr ⟨lw_p72, List.forall_mem_cons.mpr ⟨lw_p73, List.forall_mem_cons.mpr ⟨lw_p74, List.forall_mem_cons.mpr ⟨lw_p75, List.forall_mem_cons.mpr ⟨lw_p76, List.forall_mem_cons.mpr ⟨lw_p77, List.forall_mem_cons.mpr ⟨lw_p78, List.forall_mem_cons.mpr ⟨lw_p79, fun _ h => absurd h List.not_mem_nil⟩⟩⟩⟩⟩⟩⟩⟩⟩⟩⟩⟩⟩⟩⟩⟩
theorem lw_p80 : lw_okq (⟨"PutOnModel", "term0", "()I"⟩, 49) := ⟨⟨by decide +kernel, by decide +kernel⟩, List.mem_of_getElem? (i := 918) (by decide +kernel), List.mem_of_getElem? (i := 1291) (by decide +kernel), List.mem_of_getElem? (i := 1292) (by decide +kernel)⟩
theorem lw_p81 : lw_okq (⟨"PutOnModel", "atom0", "()I"⟩, 49) := ⟨⟨by decide +kernel, by decide +kernel⟩, List.mem_of_getElem? (i := 918) (by decide +kernel), List.mem_of_getElem? (i := 1295) (by decide +kernel), List.mem_of_getElem? (i := 1296) (by decide +kernel)⟩
theorem lw_p82 : lw_okq (⟨"PutOnModel", "either1", "()I"⟩, 49) := ⟨⟨by decide +kernel, by decide +kernel⟩, List.mem_of_getElem? (i := 918) (by decide +kernel), List.mem_of_getElem? (i := 1299) (by decide +kernel), List.mem_of_getElem? (i := 1300) (by decide +kernel)⟩
theorem lw_p83 : lw_okq (⟨"PutOnModel", "both1", "()I"⟩, 49) := ⟨⟨by decide +kernel, by decide +kernel⟩, List.mem_of_getElem? (i := 918) (by decide +kernel), List.mem_of_getElem? (i := 1303) (by decide +kernel), List.mem_of_getElem? (i := 1304) (by decide +kernel)⟩
theorem lw_p84 : lw_okq (⟨"PutOnModel", "isWorld", "(I)Z"⟩, 49) := ⟨⟨by decide +kernel, by decide +kernel⟩, List.mem_of_getElem? (i := 918) (by decide +kernel), List.mem_of_getElem? (i := 1328) (by decide +kernel), List.mem_of_getElem? (i := 1329) (by decide +kernel)⟩
theorem lw_p85 : lw_okq (⟨"PutOnModel", "makes", "(I)V"⟩, 49) := ⟨⟨by decide +kernel, by decide +kernel⟩, List.mem_of_getElem? (i := 918) (by decide +kernel), List.mem_of_getElem? (i := 1334) (by decide +kernel), List.mem_of_getElem? (i := 1335) (by decide +kernel)⟩
theorem lw_p86 : lw_okq (⟨"PutOnModel", "goesThrough", "(III)V"⟩, 49) := ⟨⟨by decide +kernel, by decide +kernel⟩, List.mem_of_getElem? (i := 918) (by decide +kernel), List.mem_of_getElem? (i := 1338) (by decide +kernel), List.mem_of_getElem? (i := 1339) (by decide +kernel)⟩
theorem lw_p87 : lw_okq (⟨"PutOnModel", "does", "(IIIII)Z"⟩, 49) := ⟨⟨by decide +kernel, by decide +kernel⟩, List.mem_of_getElem? (i := 918) (by decide +kernel), List.mem_of_getElem? (i := 1342) (by decide +kernel), List.mem_of_getElem? (i := 1343) (by decide +kernel)⟩
theorem lw_p88 : lw_okq (⟨"PutOnModel", "addsBy", "(IIII)I"⟩, 49) := ⟨⟨by decide +kernel, by decide +kernel⟩, List.mem_of_getElem? (i := 918) (by decide +kernel), List.mem_of_getElem? (i := 1346) (by decide +kernel), List.mem_of_getElem? (i := 1347) (by decide +kernel)⟩
theorem lw_p89 : lw_okq (⟨"PutOnModel", "addsOf", "(III)I"⟩, 49) := ⟨⟨by decide +kernel, by decide +kernel⟩, List.mem_of_getElem? (i := 918) (by decide +kernel), List.mem_of_getElem? (i := 1350) (by decide +kernel), List.mem_of_getElem? (i := 1351) (by decide +kernel)⟩
theorem lw_p90 : lw_okq (⟨"PutOnModel", "gathers", "()V"⟩, 49) := ⟨⟨by decide +kernel, by decide +kernel⟩, List.mem_of_getElem? (i := 918) (by decide +kernel), List.mem_of_getElem? (i := 1366) (by decide +kernel), List.mem_of_getElem? (i := 1367) (by decide +kernel)⟩
theorem lw_p91 : lw_okq (⟨"PutOnModel", "worlds", "()I"⟩, 49) := ⟨⟨by decide +kernel, by decide +kernel⟩, List.mem_of_getElem? (i := 918) (by decide +kernel), List.mem_of_getElem? (i := 1370) (by decide +kernel), List.mem_of_getElem? (i := 1371) (by decide +kernel)⟩
theorem lw_p92 : lw_okq (⟨"PutOnModel", "times", "()I"⟩, 49) := ⟨⟨by decide +kernel, by decide +kernel⟩, List.mem_of_getElem? (i := 918) (by decide +kernel), List.mem_of_getElem? (i := 1385) (by decide +kernel), List.mem_of_getElem? (i := 1386) (by decide +kernel)⟩
theorem lw_p93 : lw_okq (⟨"PutOnModel", "seenMany", "()I"⟩, 49) := ⟨⟨by decide +kernel, by decide +kernel⟩, List.mem_of_getElem? (i := 918) (by decide +kernel), List.mem_of_getElem? (i := 1397) (by decide +kernel), List.mem_of_getElem? (i := 1398) (by decide +kernel)⟩
theorem lw_p94 : lw_okq (⟨"PutOnModel", "alike", "(I)J"⟩, 49) := ⟨⟨by decide +kernel, by decide +kernel⟩, List.mem_of_getElem? (i := 918) (by decide +kernel), List.mem_of_getElem? (i := 1401) (by decide +kernel), List.mem_of_getElem? (i := 1402) (by decide +kernel)⟩
theorem lw_p95 : lw_okq (⟨"PutOnModel", "saysIn", "(II)I"⟩, 49) := ⟨⟨by decide +kernel, by decide +kernel⟩, List.mem_of_getElem? (i := 918) (by decide +kernel), List.mem_of_getElem? (i := 1405) (by decide +kernel), List.mem_of_getElem? (i := 1406) (by decide +kernel)⟩
def lw_privs_6 : List (MethodName × Nat) := [(⟨"PutOnModel", "term0", "()I"⟩, 49), (⟨"PutOnModel", "atom0", "()I"⟩, 49), (⟨"PutOnModel", "either1", "()I"⟩, 49), (⟨"PutOnModel", "both1", "()I"⟩, 49), (⟨"PutOnModel", "isWorld", "(I)Z"⟩, 49), (⟨"PutOnModel", "makes", "(I)V"⟩, 49), (⟨"PutOnModel", "goesThrough", "(III)V"⟩, 49), (⟨"PutOnModel", "does", "(IIIII)Z"⟩, 49), (⟨"PutOnModel", "addsBy", "(IIII)I"⟩, 49), (⟨"PutOnModel", "addsOf", "(III)I"⟩, 49), (⟨"PutOnModel", "gathers", "()V"⟩, 49), (⟨"PutOnModel", "worlds", "()I"⟩, 49), (⟨"PutOnModel", "times", "()I"⟩, 49), (⟨"PutOnModel", "seenMany", "()I"⟩, 49), (⟨"PutOnModel", "alike", "(I)J"⟩, 49), (⟨"PutOnModel", "saysIn", "(II)I"⟩, 49)]
theorem lw_r6 : ∀ q ∈ lw_privs_6, lw_okq q := List.forall_mem_cons.mpr ⟨lw_p80, List.forall_mem_cons.mpr ⟨lw_p81, List.forall_mem_cons.mpr ⟨lw_p82, List.forall_mem_cons.mpr ⟨lw_p83, List.forall_mem_cons.mpr ⟨lw_p84, List.forall_mem_cons.mpr ⟨lw_p85, List.forall_mem_cons.mpr ⟨lw_p86, List.forall_mem_cons.mpr ⟨lw_p87, List.forall_mem_cons.mpr ⟨lw_p88, List.forall_mem_cons.mpr ⟨lw_p89, List.forall_mem_cons.mpr ⟨lw_p90, List.forall_mem_cons.mpr ⟨lw_p91, List.forall_mem_cons.mpr ⟨lw_p92, List.forall_mem_cons.mpr ⟨lw_p93, List.forall_mem_cons.mpr ⟨lw_p94, List.forall_mem_cons.mpr ⟨lw_p95, fun _ h => absurd h List.not_mem_nil⟩⟩⟩⟩⟩⟩⟩⟩⟩⟩⟩⟩⟩⟩⟩⟩
theorem lw_p96 : lw_okq (⟨"PutOnModel", "tellsAll", "(I)Z"⟩, 49) := ⟨⟨by decide +kernel, by decide +kernel⟩, List.mem_of_getElem? (i := 918) (by decide +kernel), List.mem_of_getElem? (i := 1413) (by decide +kernel), List.mem_of_getElem? (i := 1414) (by decide +kernel)⟩
theorem lw_p97 : lw_okq (⟨"PutOnModel", "areMore", "(III)Z"⟩, 49) := ⟨⟨by decide +kernel, by decide +kernel⟩, List.mem_of_getElem? (i := 918) (by decide +kernel), List.mem_of_getElem? (i := 1417) (by decide +kernel), List.mem_of_getElem? (i := 1418) (by decide +kernel)⟩
theorem lw_p98 : lw_okq (⟨"PutOnModel", "mindsOf", "(II)I"⟩, 49) := ⟨⟨by decide +kernel, by decide +kernel⟩, List.mem_of_getElem? (i := 918) (by decide +kernel), List.mem_of_getElem? (i := 1433) (by decide +kernel), List.mem_of_getElem? (i := 1434) (by decide +kernel)⟩
theorem lw_p99 : lw_okq (⟨"PutOnModel", "isSo", "(II)Z"⟩, 49) := ⟨⟨by decide +kernel, by decide +kernel⟩, List.mem_of_getElem? (i := 918) (by decide +kernel), List.mem_of_getElem? (i := 1453) (by decide +kernel), List.mem_of_getElem? (i := 1454) (by decide +kernel)⟩
theorem lw_p100 : lw_okq (⟨"PutOnModel", "draws", "(I)I"⟩, 49) := ⟨⟨by decide +kernel, by decide +kernel⟩, List.mem_of_getElem? (i := 918) (by decide +kernel), List.mem_of_getElem? (i := 1470) (by decide +kernel), List.mem_of_getElem? (i := 1471) (by decide +kernel)⟩
def lw_privs_7 : List (MethodName × Nat) := [(⟨"PutOnModel", "tellsAll", "(I)Z"⟩, 49), (⟨"PutOnModel", "areMore", "(III)Z"⟩, 49), (⟨"PutOnModel", "mindsOf", "(II)I"⟩, 49), (⟨"PutOnModel", "isSo", "(II)Z"⟩, 49), (⟨"PutOnModel", "draws", "(I)I"⟩, 49)]
theorem lw_r7 : ∀ q ∈ lw_privs_7, lw_okq q := List.forall_mem_cons.mpr ⟨lw_p96, List.forall_mem_cons.mpr ⟨lw_p97, List.forall_mem_cons.mpr ⟨lw_p98, List.forall_mem_cons.mpr ⟨lw_p99, List.forall_mem_cons.mpr ⟨lw_p100, fun _ h => absurd h List.not_mem_nil⟩⟩⟩⟩⟩
def lw_privs : List (MethodName × Nat) := lw_privs_1 ++ (lw_privs_2 ++ (lw_privs_3 ++ (lw_privs_4 ++ (lw_privs_5 ++ (lw_privs_6 ++ (lw_privs_7))))))
def lw_tbl : List Cond := k2_sels lw_privs ++ tables_1
theorem lw_privs_ok : ∀ q ∈ lw_privs, lw_okq q := by
  show ∀ q ∈ lw_privs_1 ++ (lw_privs_2 ++ (lw_privs_3 ++ (lw_privs_4 ++ (lw_privs_5 ++ (lw_privs_6 ++ (lw_privs_7)))))), lw_okq q
  exact List.forall_mem_append.mpr ⟨lw_r1, List.forall_mem_append.mpr ⟨lw_r2, List.forall_mem_append.mpr ⟨lw_r3, List.forall_mem_append.mpr ⟨lw_r4, List.forall_mem_append.mpr ⟨lw_r5, List.forall_mem_append.mpr ⟨lw_r6, lw_r7⟩⟩⟩⟩⟩⟩
end
section
-- class tables (out of claim/NAMES.whole), the layout of all cells that the two constructors make
def RX0 : String := "PutOn$Clock"
def TX0 : u_T := fun k => match k with
  | 0 => ("PutOn$Clock", "room", "I", false)
  | 1 => ("PutOn$Clock", "off", "I", false)
  | 2 => ("PutOn$Clock", "self", "I", false)
  | _ => ("PutOn$Clock", "saw", "I", false)
def tyX0 : Nat → FieldType := fun k => match k with
  | 0 => .int
  | 1 => .int
  | 2 => .int
  | _ => .int
theorem nmX0 : ∀ a, a < 4 → ∀ b, b < 4 → a ≠ b → (TX0 a).2.1 ≠ (TX0 b).2.1 := by decide +kernel
theorem tyX0_ok : ∀ k, k < 4 → parseFieldDescriptor (TX0 k).2.2.1 = some (tyX0 k) := by decide +kernel
def RX1 : String := "PutOn$Doer"
def TX1 : u_T := fun k => match k with
  | 0 => ("PutOn$Doer", "kind", "I", false)
  | 1 => ("PutOn$Doer", "number", "I", false)
  | _ => ("PutOn$Doer", "way", "I", false)
def tyX1 : Nat → FieldType := fun k => match k with
  | 0 => .int
  | 1 => .int
  | _ => .int
theorem nmX1 : ∀ a, a < 3 → ∀ b, b < 3 → a ≠ b → (TX1 a).2.1 ≠ (TX1 b).2.1 := by decide +kernel
theorem tyX1_ok : ∀ k, k < 3 → parseFieldDescriptor (TX1 k).2.2.1 = some (tyX1 k) := by decide +kernel
def RX2 : String := "PutOn$House"
def TX2 : u_T := fun k => match k with
  | 0 => ("PutOn$House", "clocks", "[LPutOn$Clock;", true)
  | 1 => ("PutOn$House", "doers", "[LPutOn$Doer;", true)
  | 2 => ("PutOn$House", "clockCount", "I", false)
  | 3 => ("PutOn$House", "doerCount", "I", false)
  | _ => ("PutOn$House", "rule", "I", false)
def tyX2 : Nat → FieldType := fun k => match k with
  | 0 => .array (.object "PutOn$Clock")
  | 1 => .array (.object "PutOn$Doer")
  | 2 => .int
  | 3 => .int
  | _ => .int
theorem nmX2 : ∀ a, a < 5 → ∀ b, b < 5 → a ≠ b → (TX2 a).2.1 ≠ (TX2 b).2.1 := by decide +kernel
theorem tyX2_ok : ∀ k, k < 5 → parseFieldDescriptor (TX2 k).2.2.1 = some (tyX2 k) := by decide +kernel
def RX3 : String := "PutOn$Known"
def TX3 : u_T := fun k => match k with
  | 0 => ("PutOn$Known", "sums", "LPutOn$Sums;", true)
  | _ => ("PutOn$Known", "blind", "[Z", true)
def tyX3 : Nat → FieldType := fun k => match k with
  | 0 => .object "PutOn$Sums"
  | _ => .array .boolean
theorem nmX3 : ∀ a, a < 2 → ∀ b, b < 2 → a ≠ b → (TX3 a).2.1 ≠ (TX3 b).2.1 := by decide +kernel
theorem tyX3_ok : ∀ k, k < 2 → parseFieldDescriptor (TX3 k).2.2.1 = some (tyX3 k) := by decide +kernel
def RX4 : String := "PutOn$Reader"
def TX4 : u_T := fun k => match k with
  | 0 => ("PutOn$Reader", "tokens", "[I", true)
  | 1 => ("PutOn$Reader", "places", "[I", true)
  | 2 => ("PutOn$Reader", "ends", "[I", true)
  | 3 => ("PutOn$Reader", "count", "I", false)
  | 4 => ("PutOn$Reader", "next", "I", false)
  | _ => ("PutOn$Reader", "text", "LPutOn$Text;", true)
def tyX4 : Nat → FieldType := fun k => match k with
  | 0 => .array .int
  | 1 => .array .int
  | 2 => .array .int
  | 3 => .int
  | 4 => .int
  | _ => .object "PutOn$Text"
theorem nmX4 : ∀ a, a < 6 → ∀ b, b < 6 → a ≠ b → (TX4 a).2.1 ≠ (TX4 b).2.1 := by decide +kernel
theorem tyX4_ok : ∀ k, k < 6 → parseFieldDescriptor (TX4 k).2.2.1 = some (tyX4 k) := by decide +kernel
def RX5 : String := "PutOn$Sheet"
def TX5 : u_T := fun k => match k with
  | 0 => ("PutOn$Sheet", "cells", "[I", true)
  | 1 => ("PutOn$Sheet", "sort", "I", false)
  | _ => ("PutOn$Sheet", "size", "I", false)
def tyX5 : Nat → FieldType := fun k => match k with
  | 0 => .array .int
  | 1 => .int
  | _ => .int
theorem nmX5 : ∀ a, a < 3 → ∀ b, b < 3 → a ≠ b → (TX5 a).2.1 ≠ (TX5 b).2.1 := by decide +kernel
theorem tyX5_ok : ∀ k, k < 3 → parseFieldDescriptor (TX5 k).2.2.1 = some (tyX5 k) := by decide +kernel
def RX6 : String := "PutOn$Sums"
def TX6 : u_T := fun k => match k with
  | 0 => ("PutOn$Sums", "keys", "[I", true)
  | 1 => ("PutOn$Sums", "sums", "[J", true)
  | _ => ("PutOn$Sums", "count", "I", false)
def tyX6 : Nat → FieldType := fun k => match k with
  | 0 => .array .int
  | 1 => .array .long
  | _ => .int
theorem nmX6 : ∀ a, a < 3 → ∀ b, b < 3 → a ≠ b → (TX6 a).2.1 ≠ (TX6 b).2.1 := by decide +kernel
theorem tyX6_ok : ∀ k, k < 3 → parseFieldDescriptor (TX6 k).2.2.1 = some (tyX6 k) := by decide +kernel
def RX7 : String := "PutOn$Text"
def TX7 : u_T := fun k => match k with
  | 0 => ("PutOn$Text", "code", "[I", true)
  | 1 => ("PutOn$Text", "ends", "[I", true)
  | 2 => ("PutOn$Text", "stack", "[I", true)
  | 3 => ("PutOn$Text", "size", "I", false)
  | _ => ("PutOn$Text", "top", "I", false)
def tyX7 : Nat → FieldType := fun k => match k with
  | 0 => .array .int
  | 1 => .array .int
  | 2 => .array .int
  | 3 => .int
  | _ => .int
theorem nmX7 : ∀ a, a < 5 → ∀ b, b < 5 → a ≠ b → (TX7 a).2.1 ≠ (TX7 b).2.1 := by decide +kernel
theorem tyX7_ok : ∀ k, k < 5 → parseFieldDescriptor (TX7 k).2.2.1 = some (tyX7 k) := by decide +kernel
def RX8 : String := "PutOn$Worlds"
def TX8 : u_T := fun k => match k with
  | 0 => ("PutOn$Worlds", "at", "[[I", true)
  | 1 => ("PutOn$Worlds", "done", "[[I", true)
  | 2 => ("PutOn$Worlds", "right", "[I", true)
  | 3 => ("PutOn$Worlds", "fits", "[Z", true)
  | 4 => ("PutOn$Worlds", "times", "[I", true)
  | 5 => ("PutOn$Worlds", "chances", "[J", true)
  | 6 => ("PutOn$Worlds", "came", "[I", true)
  | 7 => ("PutOn$Worlds", "names", "[I", true)
  | 8 => ("PutOn$Worlds", "house", "LPutOn$House;", true)
  | 9 => ("PutOn$Worlds", "rule", "LPutOn$Text;", false)
  | 10 => ("PutOn$Worlds", "count", "I", false)
  | 11 => ("PutOn$Worlds", "all", "J", false)
  | _ => ("PutOn$Worlds", "stale", "Z", false)
def tyX8 : Nat → FieldType := fun k => match k with
  | 0 => .array (.array .int)
  | 1 => .array (.array .int)
  | 2 => .array .int
  | 3 => .array .boolean
  | 4 => .array .int
  | 5 => .array .long
  | 6 => .array .int
  | 7 => .array .int
  | 8 => .object "PutOn$House"
  | 9 => .object "PutOn$Text"
  | 10 => .int
  | 11 => .long
  | _ => .boolean
theorem nmX8 : ∀ a, a < 13 → ∀ b, b < 13 → a ≠ b → (TX8 a).2.1 ≠ (TX8 b).2.1 := by decide +kernel
theorem tyX8_ok : ∀ k, k < 13 → parseFieldDescriptor (TX8 k).2.2.1 = some (tyX8 k) := by decide +kernel
def RX9 : String := "PutOn"
def TX9 : u_T := fun k => match k with
  | 0 => ("PutOn", "worlds", "LPutOn$Worlds;", true)
  | 1 => ("PutOn", "house", "LPutOn$House;", true)
  | 2 => ("PutOn", "kept", "LPutOn$House;", true)
  | 3 => ("PutOn", "isKept", "Z", false)
  | 4 => ("PutOn", "texts", "[LPutOn$Text;", true)
  | 5 => ("PutOn", "textCount", "I", false)
  | 6 => ("PutOn", "tape", "[I", true)
  | 7 => ("PutOn", "tapeSize", "I", false)
  | 8 => ("PutOn", "reader", "LPutOn$Reader;", true)
  | 9 => ("PutOn", "known", "LPutOn$Known;", true)
  | _ => ("PutOn", "sheets", "[LPutOn$Sheet;", true)
def tyX9 : Nat → FieldType := fun k => match k with
  | 0 => .object "PutOn$Worlds"
  | 1 => .object "PutOn$House"
  | 2 => .object "PutOn$House"
  | 3 => .boolean
  | 4 => .array (.object "PutOn$Text")
  | 5 => .int
  | 6 => .array .int
  | 7 => .int
  | 8 => .object "PutOn$Reader"
  | 9 => .object "PutOn$Known"
  | _ => .array (.object "PutOn$Sheet")
theorem nmX9 : ∀ a, a < 11 → ∀ b, b < 11 → a ≠ b → (TX9 a).2.1 ≠ (TX9 b).2.1 := by decide +kernel
theorem tyX9_ok : ∀ k, k < 11 → parseFieldDescriptor (TX9 k).2.2.1 = some (tyX9 k) := by decide +kernel
def RX10 : String := "PutOnModel"
def TX10 : u_T := fun k => match k with
  | 0 => ("PutOnModel", "thrown", "I", false)
  | 1 => ("PutOnModel", "texts", "[I", true)
  | 2 => ("PutOnModel", "textSize", "[I", true)
  | 3 => ("PutOnModel", "textCount", "I", false)
  | 4 => ("PutOnModel", "rule", "I", false)
  | 5 => ("PutOnModel", "tape", "[I", true)
  | 6 => ("PutOnModel", "taped", "I", false)
  | 7 => ("PutOnModel", "offs", "[I", true)
  | 8 => ("PutOnModel", "rooms", "[I", true)
  | 9 => ("PutOnModel", "selfs", "[I", true)
  | 10 => ("PutOnModel", "saw", "[I", true)
  | 11 => ("PutOnModel", "clockCount", "I", false)
  | 12 => ("PutOnModel", "kinds", "[I", true)
  | 13 => ("PutOnModel", "numbers", "[I", true)
  | 14 => ("PutOnModel", "waysOf", "[I", true)
  | 15 => ("PutOnModel", "doers", "I", false)
  | 16 => ("PutOnModel", "ofClock", "I", false)
  | 17 => ("PutOnModel", "ofWho", "I", false)
  | 18 => ("PutOnModel", "ofRoom", "I", false)
  | 19 => ("PutOnModel", "ofOff", "I", false)
  | 20 => ("PutOnModel", "ofDone", "I", false)
  | 21 => ("PutOnModel", "ofRooms", "I", false)
  | 22 => ("PutOnModel", "from", "I", false)
  | 23 => ("PutOnModel", "size", "I", false)
  | 24 => ("PutOnModel", "here", "I", false)
  | 25 => ("PutOnModel", "token", "I", false)
  | 26 => ("PutOnModel", "tokenAt", "I", false)
  | 27 => ("PutOnModel", "tokenWorth", "J", false)
  | 28 => ("PutOnModel", "open", "I", false)
  | 29 => ("PutOnModel", "bad", "Z", false)
  | 30 => ("PutOnModel", "fault", "I", false)
  | 31 => ("PutOnModel", "atRow", "[I", true)
  | 32 => ("PutOnModel", "doneRow", "[I", true)
  | 33 => ("PutOnModel", "chances", "[J", true)
  | 34 => ("PutOnModel", "rightRow", "[I", true)
  | 35 => ("PutOnModel", "fitRow", "[I", true)
  | 36 => ("PutOnModel", "timeRow", "[I", true)
  | 37 => ("PutOnModel", "all", "J", false)
  | 38 => ("PutOnModel", "likeliest", "I", false)
  | 39 => ("PutOnModel", "likely", "J", false)
  | 40 => ("PutOnModel", "clocksKept", "[I", true)
  | 41 => ("PutOnModel", "doersKept", "[I", true)
  | 42 => ("PutOnModel", "clockKept", "I", false)
  | 43 => ("PutOnModel", "doerKept", "I", false)
  | 44 => ("PutOnModel", "ruleKept", "I", false)
  | 45 => ("PutOnModel", "isThere", "[Z", true)
  | 46 => ("PutOnModel", "sorts", "[I", true)
  | 47 => ("PutOnModel", "sheetSize", "[I", true)
  | _ => ("PutOnModel", "items", "[I", true)
def tyX10 : Nat → FieldType := fun k => match k with
  | 0 => .int
  | 1 => .array .int
  | 2 => .array .int
  | 3 => .int
  | 4 => .int
  | 5 => .array .int
  | 6 => .int
  | 7 => .array .int
  | 8 => .array .int
  | 9 => .array .int
  | 10 => .array .int
  | 11 => .int
  | 12 => .array .int
  | 13 => .array .int
  | 14 => .array .int
  | 15 => .int
  | 16 => .int
  | 17 => .int
  | 18 => .int
  | 19 => .int
  | 20 => .int
  | 21 => .int
  | 22 => .int
  | 23 => .int
  | 24 => .int
  | 25 => .int
  | 26 => .int
  | 27 => .long
  | 28 => .int
  | 29 => .boolean
  | 30 => .int
  | 31 => .array .int
  | 32 => .array .int
  | 33 => .array .long
  | 34 => .array .int
  | 35 => .array .int
  | 36 => .array .int
  | 37 => .long
  | 38 => .int
  | 39 => .long
  | 40 => .array .int
  | 41 => .array .int
  | 42 => .int
  | 43 => .int
  | 44 => .int
  | 45 => .array .boolean
  | 46 => .array .int
  | 47 => .array .int
  | _ => .array .int
theorem nmX10 : ∀ a, a < 49 → ∀ b, b < 49 → a ≠ b → (TX10 a).2.1 ≠ (TX10 b).2.1 := by decide +kernel
theorem tyX10_ok : ∀ k, k < 49 → parseFieldDescriptor (TX10 k).2.2.1 = some (tyX10 k) := by decide +kernel
def zT : List Cond := lw_tbl.filter goodWord
theorem zT_mem {w : Cond} {i : Nat} (h : lw_tbl[i]? = some w) (hg : goodWord w = true) : w ∈ zT := List.mem_filter.mpr ⟨List.mem_of_getElem? h, hg⟩
set_option maxRecDepth 100000 in
theorem inX0 : ∀ w ∈ u_ws RX0 TX0 4, w ∈ zT := by decide +kernel
set_option maxRecDepth 100000 in
theorem inX1 : ∀ w ∈ u_ws RX1 TX1 3, w ∈ zT := by decide +kernel
set_option maxRecDepth 100000 in
theorem inX2 : ∀ w ∈ u_ws RX2 TX2 5, w ∈ zT := by decide +kernel
set_option maxRecDepth 100000 in
theorem inX3 : ∀ w ∈ u_ws RX3 TX3 2, w ∈ zT := by decide +kernel
set_option maxRecDepth 100000 in
theorem inX4 : ∀ w ∈ u_ws RX4 TX4 6, w ∈ zT := by decide +kernel
set_option maxRecDepth 100000 in
theorem inX5 : ∀ w ∈ u_ws RX5 TX5 3, w ∈ zT := by decide +kernel
set_option maxRecDepth 100000 in
theorem inX6 : ∀ w ∈ u_ws RX6 TX6 3, w ∈ zT := by decide +kernel
set_option maxRecDepth 100000 in
theorem inX7 : ∀ w ∈ u_ws RX7 TX7 5, w ∈ zT := by decide +kernel
set_option maxRecDepth 100000 in
theorem inX8 : ∀ w ∈ u_ws RX8 TX8 13, w ∈ zT := by decide +kernel
set_option maxRecDepth 100000 in
theorem inX9 : ∀ w ∈ u_ws RX9 TX9 11, w ∈ zT := by decide +kernel
set_option maxRecDepth 100000 in
theorem inX10 : ∀ w ∈ u_ws RX10 TX10 49, w ∈ zT := by decide +kernel
def zcl : List vw_C := [(RX0, TX0, 4), (RX1, TX1, 3), (RX2, TX2, 5), (RX3, TX3, 2), (RX4, TX4, 6), (RX5, TX5, 3), (RX6, TX6, 3), (RX7, TX7, 5), (RX8, TX8, 13), (RX9, TX9, 11), (RX10, TX10, 49)]
def zft (ci : Nat) : Nat → FieldType := match ci with
  | 0 => tyX0
  | 1 => tyX1
  | 2 => tyX2
  | 3 => tyX3
  | 4 => tyX4
  | 5 => tyX5
  | 6 => tyX6
  | 7 => tyX7
  | 8 => tyX8
  | 9 => tyX9
  | _ => tyX10
theorem zcl_ok : ∀ (ci : Nat) (r : vw_C), zcl[ci]? = some r → (∀ w ∈ u_ws r.1 r.2.1 r.2.2, w ∈ zT) ∧ (∀ k, k < r.2.2 → parseFieldDescriptor (r.2.1 k).2.2.1 = some (zft ci k)) ∧ (∀ a, a < r.2.2 → ∀ b, b < r.2.2 → a ≠ b → (r.2.1 a).2.1 ≠ (r.2.1 b).2.1) := by
  intro ci r h
  match ci, h with
  | 0, h => cases h; exact ⟨inX0, tyX0_ok, nmX0⟩
  | 1, h => cases h; exact ⟨inX1, tyX1_ok, nmX1⟩
  | 2, h => cases h; exact ⟨inX2, tyX2_ok, nmX2⟩
  | 3, h => cases h; exact ⟨inX3, tyX3_ok, nmX3⟩
  | 4, h => cases h; exact ⟨inX4, tyX4_ok, nmX4⟩
  | 5, h => cases h; exact ⟨inX5, tyX5_ok, nmX5⟩
  | 6, h => cases h; exact ⟨inX6, tyX6_ok, nmX6⟩
  | 7, h => cases h; exact ⟨inX7, tyX7_ok, nmX7⟩
  | 8, h => cases h; exact ⟨inX8, tyX8_ok, nmX8⟩
  | 9, h => cases h; exact ⟨inX9, tyX9_ok, nmX9⟩
  | 10, h => cases h; exact ⟨inX10, tyX10_ok, nmX10⟩
  | k + 11, h => simp [zcl] at h
def SH : List (Nat ⊕ (FieldType × Nat)) := [.inl 9, .inl 8, .inr (.array .int, 32), .inr (.int, 6), .inr (.int, 6), .inr (.int, 6), .inr (.int, 6), .inr (.int, 6), .inr (.int, 6), .inr (.int, 6), .inr (.int, 6), .inr (.int, 6), .inr (.int, 6), .inr (.int, 6), .inr (.int, 6), .inr (.int, 6), .inr (.int, 6), .inr (.int, 6), .inr (.int, 6), .inr (.int, 6), .inr (.int, 6), .inr (.int, 6), .inr (.int, 6), .inr (.int, 6), .inr (.int, 6), .inr (.int, 6), .inr (.int, 6), .inr (.int, 6), .inr (.int, 6), .inr (.int, 6), .inr (.int, 6), .inr (.int, 6), .inr (.int, 6), .inr (.int, 6), .inr (.int, 6), .inr (.array .int, 32), .inr (.int, 6), .inr (.int, 6), .inr (.int, 6), .inr (.int, 6), .inr (.int, 6), .inr (.int, 6), .inr (.int, 6), .inr (.int, 6), .inr (.int, 6), .inr (.int, 6), .inr (.int, 6), .inr (.int, 6), .inr (.int, 6), .inr (.int, 6), .inr (.int, 6), .inr (.int, 6), .inr (.int, 6), .inr (.int, 6), .inr (.int, 6), .inr (.int, 6), .inr (.int, 6), .inr (.int, 6), .inr (.int, 6), .inr (.int, 6), .inr (.int, 6), .inr (.int, 6), .inr (.int, 6), .inr (.int, 6), .inr (.int, 6), .inr (.int, 6), .inr (.int, 6), .inr (.int, 6), .inr (.int, 32), .inr (.boolean, 32), .inr (.int, 32), .inr (.long, 32), .inr (.int, 5), .inr (.int, 6), .inl 2, .inr (.object "PutOn$Clock", 6), .inr (.object "PutOn$Doer", 5), .inl 0, .inl 0, .inl 0, .inl 0, .inl 0, .inl 0, .inl 1, .inl 1, .inl 1, .inl 1, .inl 1, .inl 7, .inr (.int, 160), .inr (.int, 3), .inr (.int, 160), .inl 2, .inr (.object "PutOn$Clock", 6), .inr (.object "PutOn$Doer", 5), .inl 0, .inl 0, .inl 0, .inl 0, .inl 0, .inl 0, .inl 1, .inl 1, .inl 1, .inl 1, .inl 1, .inr (.object "PutOn$Text", 6), .inr (.int, 160), .inl 4, .inr (.int, 161), .inr (.int, 161), .inr (.int, 161), .inl 7, .inr (.int, 160), .inr (.int, 3), .inr (.int, 160), .inl 3, .inl 6, .inr (.int, 32), .inr (.long, 32), .inr (.boolean, 64), .inr (.object "PutOn$Sheet", 4), .inl 7, .inr (.int, 160), .inr (.int, 3), .inr (.int, 160), .inl 7, .inr (.int, 160), .inr (.int, 3), .inr (.int, 160), .inl 7, .inr (.int, 160), .inr (.int, 3), .inr (.int, 160), .inl 7, .inr (.int, 160), .inr (.int, 3), .inr (.int, 160), .inl 7, .inr (.int, 160), .inr (.int, 3), .inr (.int, 160), .inl 7, .inr (.int, 160), .inr (.int, 3), .inr (.int, 160), .inl 5, .inr (.int, 40), .inl 5, .inr (.int, 40), .inl 5, .inr (.int, 40), .inl 5, .inr (.int, 40), .inl 10, .inr (.int, 960), .inr (.int, 6), .inr (.int, 160), .inr (.int, 6), .inr (.int, 6), .inr (.int, 6), .inr (.int, 6), .inr (.int, 5), .inr (.int, 5), .inr (.int, 5), .inr (.int, 192), .inr (.int, 192), .inr (.long, 32), .inr (.int, 32), .inr (.int, 32), .inr (.int, 32), .inr (.int, 24), .inr (.int, 10), .inr (.boolean, 4), .inr (.int, 4), .inr (.int, 4), .inr (.int, 160)]
def NF : Nat := 177
theorem SH_len : SH.length = NF := by decide +kernel
def zsz (x : Nat ⊕ (FieldType × Nat)) : Nat := match x with
  | .inl ci => match zcl[ci]? with
    | some r => r.2.2
    | none => 0
  | .inr a => a.2
def zs (n : Nat) : Nat := ((SH.take n).map zsz).sum
-- P = 0
-- W = 1
-- AT = 2
-- DN = 35
-- RI = 68
-- FI = 69
-- TI = 70
-- CH = 71
-- CM = 72
-- NM = 73
-- H = 74
-- T0 = 88
-- K = 92
-- TX = 106
-- TP = 107
-- RD = 108
-- RT = 109
-- RP = 110
-- RE = 111
-- TR = 112
-- KN = 116
-- SU = 117
-- SK = 118
-- SS = 119
-- BL = 120
-- SHS = 121
-- T1 = 122
-- S1 = 146
-- M = 154
-- Mtexts = 155
-- MtextSize = 156
-- Mtape = 157
-- Moffs = 158
-- Mrooms = 159
-- Mselfs = 160
-- Msaw = 161
-- Mkinds = 162
-- Mnumbers = 163
-- MwaysOf = 164
-- MatRow = 165
-- MdoneRow = 166
-- Mchances = 167
-- MrightRow = 168
-- MfitRow = 169
-- MtimeRow = 170
-- MclocksKept = 171
-- MdoersKept = 172
-- MisThere = 173
-- Msorts = 174
-- MsheetSize = 175
-- Mitems = 176
end
section
-- THE LAYER: a memory of ints, longs, references by the cell's number and the slot; judgements Go (from a place in a method) and Call over it
abbrev Mm : Type := (Nat → Nat → Int32) × (Nat → Nat → Int64) × (Nat → Nat → Option Nat)
def u2 {α : Type} (f : Nat → Nat → α) (i k : Nat) (x : α) : Nat → Nat → α := fun a b => if a = i ∧ b = k then x else f a b
def mI (w : Mm) (i k : Nat) (x : Int32) : Mm := (u2 w.1 i k x, w.2.1, w.2.2)
def mJ (w : Mm) (i k : Nat) (x : Int64) : Mm := (w.1, u2 w.2.1 i k x, w.2.2)
def mR (w : Mm) (i k : Nat) (x : Option Nat) : Mm := (w.1, w.2.1, u2 w.2.2 i k x)
theorem u2_same {α : Type} (f : Nat → Nat → α) (i k : Nat) (x : α) : u2 f i k x i k = x := if_pos ⟨rfl, rfl⟩
theorem u2_cell {α : Type} (f : Nat → Nat → α) {i j : Nat} (k : Nat) (x : α) (h : j ≠ i) (b : Nat) : u2 f i k x j b = f j b := if_neg (fun q => h q.1)
theorem u2_slot {α : Type} (f : Nat → Nat → α) (i : Nat) {k b : Nat} (x : α) (h : b ≠ k) (j : Nat) : u2 f i k x j b = f j b := if_neg (fun q => h q.2)
abbrev zG : Type := va_G × (FieldType → ClassId) × Nat × (Nat → Nat)
/-- the address of a cell; from 100000 on what was there before -/
def ad (g : zG) (i : Nat) : Nat := if i < 100000 then g.2.2.1 + i else g.2.2.2 (i - 100000)
def zv (g : zG) (v : Value) : Value := match v with
  | .ref i => .ref (ad g i)
  | v => v
theorem zv_cat (g : zG) (v : Value) : (zv g v).category = v.category := by cases v <;> rfl
def zl (g : zG) (q : Nat × Value) : Nat × Value := (q.1, zv g q.2)
def fv (g : zG) (w : Mm) (ty : FieldType) (i k : Nat) : Value := match ty with
  | .long => .long (w.2.1 i k)
  | .object _ => va_rf ((w.2.2 i k).map (ad g))
  | .array _ => va_rf ((w.2.2 i k).map (ad g))
  | _ => .int (w.1 i k)
def cellAt (g : zG) (w : Mm) (i : Nat) (H : Heap) : Prop := match SH[i]? with
  | some (.inl ci) => ∃ r : vw_C, zcl[ci]? = some r ∧ t_OB (g.2.2.1 + i) (g.1.1 ci) r.2.2 (g.1.2 ci) H (fun k => fv g w (zft ci k) i k)
  | some (.inr a) => H[g.2.2.1 + i]? = some (arrV (g.2.1 a.1) a.2 (fun k => fv g w a.1 i k))
  | none => False
def zP (g : zG) (n : Nat) (w : Mm) (H : Heap) : Prop := H.size = g.2.2.1 + n ∧ n ≤ NF ∧ ∀ i, i < n → cellAt g w i H
def zA (g : zG) : Nat → Prop := fun q => g.2.2.1 ≤ q
def zat : List FieldType := [.int, .long, .boolean, .array .int, .object "PutOn$Clock", .object "PutOn$Doer", .object "PutOn$Text", .object "PutOn$Sheet"]
def zNest : Cond → Bool
  | .fieldLinkNest .. => true
  | .methodLinkNest .. => true
  | _ => false
def stN : Nat → String
  | 0 => "LEAST"
  | 1 => "MOST"
  | _ => "ABOVE"
def stV : Nat → Nat → Int32
  | 0 => fun k => [-120, 0, 0, -1, 0, 0].getD k 0
  | 1 => fun k => [120, 5, 1, 1439, 9, 63].getD k 0
  | _ => fun k => [-1, 0, 0, 1, 2, 0].getD k 0
/-- what was there before: the static rows of ints -/
def zX (g : zG) (U : State) (H : Heap) : Prop := ∀ j, j < 3 → va_Z "PutOn" (stN j) "[I" (.ref (ad g (100000 + j))) (zA g) U H ∧ va_T .int (ad g (100000 + j)) 6 (fun k => .int (stV j k)) (zA g) U H
/-- the class of rows of rows of ints -/
def zII (U : State) : Prop := ∃ (cA cI : ClassId) (k : Class), U.vm.findClass ("[" ++ (FieldType.array .int).toString) = some cA ∧ U.vm.classes[cA]? = some k ∧ k.kind = .array cI (.array .int) ∧ U.vm.findClass (FieldType.array .int).toString = some cI
theorem zII.moved {u U : State} (hvm : u.vm.Alike U.vm) (h : zII u) : zII U := by
  obtain ⟨cA, cI, k, h1, h2, h3, h4⟩ := h
  obtain ⟨k', hk', he⟩ := hvm.2.2 _ _ h2
  exact ⟨cA, cI, k', by rw [hvm.findClass]; exact h1, hk', by rw [he]; exact h3, by rw [hvm.findClass]; exact h4⟩
def zK (g : zG) (U : State) : Prop := va_K g.1 zcl [] U ∧ (∀ ty ∈ zat, ArrOfT U (g.2.1 ty) ty ∧ va_RA U (g.2.1 ty) ty) ∧ (∀ w ∈ lw_tbl, zNest w = true → va_Nw w U) ∧ (∀ C : String, Cond.arrayOver (.object C) ∈ lw_tbl → va_AO C U) ∧ zII U
theorem zK.warm {g : zG} {s U : State} (hW : s.WarmedH U.vm) (h : zK g s) : zK g U := by
  obtain ⟨h1, h2, h3, h4, h5⟩ := h
  refine ⟨va_K.moved hW.alike h1, fun ty ht => ⟨arrOfT_moved hW.alike (h2 ty ht).1, (h2 ty ht).2.moved hW.alike⟩, fun w hw hz => ?_, fun C hC => va_AO.moved hW.alike (h4 C hC), zII.moved hW.alike h5⟩
  have h6 := h3 w hw hz
  cases w <;> first | exact va_Nw.warmF hW h6 | exact va_Nw.warmM hW h6 | (simp [zNest] at hz)
theorem zX.warm {g : zG} {s U : State} {H : Heap} (hW : s.WarmedH U.vm) (h : zX g s H) : zX g U H := fun j hj => ⟨va_Z.moved hW.alike (h j hj).1, va_T.moved hW.alike (h j hj).2⟩
theorem zX.kept {g : zG} {U : State} {H H1 : Heap} (h : zX g U H) (hq : ∀ a : Nat, a < H.size → ¬ zA g a → H1[a]? = H[a]?) : zX g U H1 := fun j hj => ⟨va_Z.kept (h j hj).1 hq, va_T.kept (h j hj).2 hq⟩
/-- a method: its name, code, words of locals, the type that it answers -/
abbrev zM : Type := MethodName × ByteArray × Nat × Option FieldType
def zC (d : Nat) (M : zM) (n0 nE : Nat) (p : Program) (R : Room) (s : State) (m : MethodId) (args : Array Value) (meth : Method) (c : Code) (g : zG) : Prop :=
  p.tables.exec = Jvm.exec ∧ c.code = M.2.1 ∧ c.maxLocals = M.2.2.1 ∧ s.vm.findClass M.1.cls = some m.cls ∧ (∀ w ∈ zT, w.before args s = true) ∧ (zK g s ∧ zX g s s.heap) ∧ (d ≤ R.frames ∧ 45 * d ≤ R.locals ∧ nE - n0 ≤ R.cells ∧ zs nE - zs n0 ≤ R.slots ∧ n0 ≤ nE) ∧ (M.1.name = "<init>" → meth.name = "<init>") ∧ g.2.2.1 ≤ s.heap.size
def zR (M : zM) (pc : Nat) (r : Option Value) : Prop := match r with
  | none => M.2.2.2 = none ∧ decode M.2.1 pc = .ok (.return_, 1)
  | some (.int x) => decode M.2.1 pc = .ok (.ireturn, 1) ∧ ∃ ty, M.2.2.2 = some ty ∧ narrow ty (.int x) = .int x
  | some (.long _) => decode M.2.1 pc = .ok (.lreturn, 1) ∧ M.2.2.2 = some .long
  | some (.ref _) => decode M.2.1 pc = .ok (.areturn, 1) ∧ ∃ C, M.2.2.2 = some (.object C)
  | _ => False
def zE (M : zM) (n0 nE : Nat) (g : zG) (p : Program) (l : Launch) (e : Env) (R : Room) (s : State) (m : MethodId) (args : Array Value) (below : List Frame) (meth : Method) (c : Code) (Z : State → Prop) (Q : Option Value → Mm → Prop) : Prop :=
  ∀ (r : Option Value) (w : Mm) (H : Heap) (locs : List Loc) (ls : Array Slot) (pc : Nat), zP g nE w H → va_S (zA g) s.heap H locs → Q r w → zR M pc r → W p l e R s m args below meth c H locs (nE - n0) (zs nE - zs n0) Z (F0 m pc ls ((r.map (zv g)).toList))
/-- from this place the method comes to its end, and Q holds of its answer and the memory then -/
def Go (d : Nat) (M : zM) (n0 nE n : Nat) (pc : Nat) (L : List (Nat × Value)) (S : List Value) (w : Mm) (Q : Option Value → Mm → Prop) : Prop :=
  ∀ (p : Program) (l : Launch) (e : Env) (R : Room) (s : State) (m : MethodId) (args : Array Value) (below : List Frame) (meth : Method) (c : Code) (g : zG) (Z : State → Prop),
    zC d M n0 nE p R s m args meth c g → zE M n0 nE g p l e R s m args below meth c Z Q →
    ∀ (H : Heap) (locs : List Loc) (ls : Array Slot), zP g n w H → va_S (zA g) s.heap H locs → lv_has ls M.2.2.1 (L.map (zl g)) →
      W p l e R s m args below meth c H locs (n - n0) (zs n - zs n0) Z (F0 m pc ls (S.map (zv g)))
def zws (M : zM) : List Cond := Cond.code M.1 M.2.1 M.2.2.1 M.2.2.2 :: zT
def zrm (d n0 nE : Nat) : Room := { frames := d, cells := nE - n0, slots := zs nE - zs n0, locals := 45 * d }
def zQc (g : zG) (nE : Nat) (Q : Option Value → Mm → Prop) : Array Value → State → Outcome → State → Prop := fun _ st o t =>
  (∃ (r : Option Value) (w : Mm), o = .returned (r.map (zv g)) ∧ Q r w ∧ zP g nE w t.heap) ∧ va_F (zA g) st t
def zPc (g : zG) (n0 : Nat) (as : List Value) (w : Mm) : Array Value → State → Prop := va_Pc (as.map (zv g)) (fun U => (zK g U ∧ zX g U U.heap) ∧ zP g n0 w U.heap)
/-- the method, called with these arguments, returns, and Q holds of its answer and the memory then -/
def Call (d : Nat) (M : zM) (n0 nE : Nat) (as : List Value) (w : Mm) (Q : Option Value → Mm → Prop) : Prop :=
  n0 ≤ nE ∧ ∀ (l : Launch) (g : zG), Met l M.1 (zws M) (zrm d n0 nE) (zPc g n0 as w) (zQc g nE Q) (nE - n0) (zs nE - zs n0) (zA g)
theorem lv_args_map (g : zG) : ∀ (as : List Value) (i : Nat), lv_args i (as.map (zv g)) = (lv_args i as).map (zl g)
  | [], _ => rfl
  | v :: as, i => by
    simp only [List.map_cons, lv_args, zv_cat, lv_args_map g as]
    rfl
theorem lg_sl_map (g : zG) (as : List Value) : (lg_sl (as.map (zv g))).length = (lg_sl as).length := by
  induction as with
  | nil => rfl
  | cons v as ih =>
    simp only [lg_sl, List.map_cons, List.flatMap_cons, List.length_append, zv_cat] at ih ⊢
    rw [ih]
    congr 1
    split <;> rfl
set_option maxHeartbeats 1000000 in
theorem call_of_go {d : Nat} {M : zM} {n0 nE : Nat} {as : List Value} {w : Mm} {Q : Option Value → Mm → Prop} (hn : n0 ≤ nE) (hp : plainName M.1.cls = true) (hla : (lg_sl as).length ≤ M.2.2.1) (h : Go d M n0 nE n0 0 (lv_args 0 as) [] w Q) : Call d M n0 nE as w Q := by
  refine ⟨hn, fun l g => ?_⟩
  refine Met.ofW (cc := M.2.1) (maxL := M.2.2.1) (ret := M.2.2.2) hp rfl ?_
  intro p e s m args below meth c s₁ B hml hv
  obtain ⟨rfl, hK, hP⟩ := hv
  have hx := B.exec
  have hb := B.bytes
  have hr := B.returns
  have hts := atoms_spec (ws := zws M) B.pre
  have hown : s.vm.findClass M.1.cls = some m.cls := findClass_of_methodNamed B.named
  have hlocks := B.notSynchronized
  have hin : meth.name = M.1.name := (name_of_methodNamed B.named B.method).1
  have hl := lv_entry (as.map (zv g)) (n := M.2.2.1) (by rw [lg_sl_map]; exact hla)
  rw [lg_entry_eq]
  generalize (lg_sl (as.map (zv g)) ++ List.replicate (M.2.2.1 - (lg_sl (as.map (zv g))).length) Slot.unset).toArray = ls at hl ⊢
  have hG := h p l e (headSpec (zws M) (zrm d n0 nE)).room s m (as.map (zv g)).toArray below meth c g (MQ below (zQc g nE Q) (as.map (zv g)).toArray s (nE - n0) (zs nE - zs n0) (zA g))
    ⟨hx, hb, hml, hown, fun w hw => hts w (List.mem_cons_of_mem _ hw), hK, ⟨Nat.le_refl _, Nat.le_refl _, Nat.le_refl _, Nat.le_refl _, hn⟩, fun q => hin.trans q, by rw [hP.1]; omega⟩ ?_ s.heap [] ls hP va_S.rf (by rw [← lv_args_map]; exact hl)
  · rw [Nat.sub_self, Nat.sub_self] at hG
    exact hG
  · intro r w' H locs ls pc hP' hS hQ hR
    match r, hR with
    | none, hR => exact W.vret hx hb (hr.trans hR.1) (fun t ht _ => ⟨⟨none, w', rfl, hQ, by rw [ht]; exact hP'⟩, hS.F ht⟩) hS.2.2 hR.2
    | some (.int x), hR =>
      obtain ⟨h1, ty, h2, h3⟩ := hR
      exact W.zret hx hb (hr.trans h2) h3 (fun t ht _ => ⟨⟨some (.int x), w', rfl, hQ, by rw [ht]; exact hP'⟩, hS.F ht⟩) hS.2.2 h1
    | some (.long x), hR => exact W.lret hx hb (hr.trans hR.2) (fun t ht _ => ⟨⟨some (.long x), w', rfl, hQ, by rw [ht]; exact hP'⟩, hS.F ht⟩) hS.2.2 hR.1
    | some (.ref a), hR =>
      obtain ⟨h1, C, h2⟩ := hR
      exact W.aret hx hb (hr.trans h2) (Or.inl ⟨C, rfl⟩) (Or.inr ⟨_, rfl⟩) (fun t ht _ => ⟨⟨some (.ref a), w', rfl, hQ, by rw [ht]; exact hP'⟩, hS.F ht⟩) hS.2.2 h1
end
