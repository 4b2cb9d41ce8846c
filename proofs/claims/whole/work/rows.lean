section
-- ===== PART A: goes FIRST, ahead of the names: the tables' words, and 'selects' of the private methods out of them =====
/-- a private method of a class that the tables say can be made, by its rows of tables_1 -/
def lw_okq (q : MethodName × Nat) : Prop := (q.1.cls ≠ "java/lang/invoke/MethodHandle" ∧ q.1.cls ≠ "java/lang/invoke/VarHandle") ∧ Cond.instantiable q.1.cls q.2 ∈ tables_1 ∧ Cond.privateMethod q.1 ∈ tables_1 ∧ Cond.instanceMethod q.1 ∈ tables_1
theorem lw_p0 : lw_okq (⟨"PutOn", "isClock", "(I)Z"⟩, 11) := ⟨⟨by decide +kernel, by decide +kernel⟩, List.mem_of_getElem? (i := 20) (by decide +kernel), List.mem_of_getElem? (i := 354) (by decide +kernel), List.mem_of_getElem? (i := 355) (by decide +kernel)⟩
theorem lw_p1 : lw_okq (⟨"PutOn", "isDoer", "(I)Z"⟩, 11) := ⟨⟨by decide +kernel, by decide +kernel⟩, List.mem_of_getElem? (i := 20) (by decide +kernel), List.mem_of_getElem? (i := 358) (by decide +kernel), List.mem_of_getElem? (i := 359) (by decide +kernel)⟩
theorem lw_p2 : lw_okq (⟨"PutOn", "worked", "()LPutOn$Worlds;"⟩, 11) := ⟨⟨by decide +kernel, by decide +kernel⟩, List.mem_of_getElem? (i := 20) (by decide +kernel), List.mem_of_getElem? (i := 384) (by decide +kernel), List.mem_of_getElem? (i := 385) (by decide +kernel)⟩
theorem lw_p3 : lw_okq (⟨"PutOn$Worlds", "howLikely", "(I)I"⟩, 13) := ⟨⟨by decide +kernel, by decide +kernel⟩, List.mem_of_getElem? (i := 28) (by decide +kernel), List.mem_of_getElem? (i := 392) (by decide +kernel), List.mem_of_getElem? (i := 393) (by decide +kernel)⟩
theorem lw_p4 : lw_okq (⟨"PutOn$Worlds", "name", "(IIIIII)V"⟩, 13) := ⟨⟨by decide +kernel, by decide +kernel⟩, List.mem_of_getElem? (i := 28) (by decide +kernel), List.mem_of_getElem? (i := 406) (by decide +kernel), List.mem_of_getElem? (i := 407) (by decide +kernel)⟩
theorem lw_p5 : lw_okq (⟨"PutOn$Text", "push", "(I)V"⟩, 5) := ⟨⟨by decide +kernel, by decide +kernel⟩, List.mem_of_getElem? (i := 124) (by decide +kernel), List.mem_of_getElem? (i := 414) (by decide +kernel), List.mem_of_getElem? (i := 415) (by decide +kernel)⟩
theorem lw_p6 : lw_okq (⟨"PutOn$Text", "pop", "()I"⟩, 5) := ⟨⟨by decide +kernel, by decide +kernel⟩, List.mem_of_getElem? (i := 124) (by decide +kernel), List.mem_of_getElem? (i := 418) (by decide +kernel), List.mem_of_getElem? (i := 419) (by decide +kernel)⟩
theorem lw_p7 : lw_okq (⟨"PutOn$Worlds", "play", "(I)V"⟩, 13) := ⟨⟨by decide +kernel, by decide +kernel⟩, List.mem_of_getElem? (i := 28) (by decide +kernel), List.mem_of_getElem? (i := 434) (by decide +kernel), List.mem_of_getElem? (i := 435) (by decide +kernel)⟩
theorem lw_p8 : lw_okq (⟨"PutOn$Worlds", "begin", "(I)V"⟩, 13) := ⟨⟨by decide +kernel, by decide +kernel⟩, List.mem_of_getElem? (i := 28) (by decide +kernel), List.mem_of_getElem? (i := 438) (by decide +kernel), List.mem_of_getElem? (i := 439) (by decide +kernel)⟩
theorem lw_p9 : lw_okq (⟨"PutOn$Worlds", "visit", "(IIII)V"⟩, 13) := ⟨⟨by decide +kernel, by decide +kernel⟩, List.mem_of_getElem? (i := 28) (by decide +kernel), List.mem_of_getElem? (i := 446) (by decide +kernel), List.mem_of_getElem? (i := 447) (by decide +kernel)⟩
theorem lw_p10 : lw_okq (⟨"PutOn$Doer", "trusts", "(I)Z"⟩, 3) := ⟨⟨by decide +kernel, by decide +kernel⟩, List.mem_of_getElem? (i := 76) (by decide +kernel), List.mem_of_getElem? (i := 454) (by decide +kernel), List.mem_of_getElem? (i := 455) (by decide +kernel)⟩
theorem lw_p11 : lw_okq (⟨"PutOn$Doer", "dares", "(I)Z"⟩, 3) := ⟨⟨by decide +kernel, by decide +kernel⟩, List.mem_of_getElem? (i := 76) (by decide +kernel), List.mem_of_getElem? (i := 458) (by decide +kernel), List.mem_of_getElem? (i := 459) (by decide +kernel)⟩
theorem lw_p12 : lw_okq (⟨"PutOn$Worlds", "rightIn", "(I)I"⟩, 13) := ⟨⟨by decide +kernel, by decide +kernel⟩, List.mem_of_getElem? (i := 28) (by decide +kernel), List.mem_of_getElem? (i := 467) (by decide +kernel), List.mem_of_getElem? (i := 468) (by decide +kernel)⟩
theorem lw_p13 : lw_okq (⟨"PutOn$Worlds", "chanceOf", "(I)J"⟩, 13) := ⟨⟨by decide +kernel, by decide +kernel⟩, List.mem_of_getElem? (i := 28) (by decide +kernel), List.mem_of_getElem? (i := 471) (by decide +kernel), List.mem_of_getElem? (i := 472) (by decide +kernel)⟩
theorem lw_p14 : lw_okq (⟨"PutOn$Worlds", "timeIn", "(I)I"⟩, 13) := ⟨⟨by decide +kernel, by decide +kernel⟩, List.mem_of_getElem? (i := 28) (by decide +kernel), List.mem_of_getElem? (i := 475) (by decide +kernel), List.mem_of_getElem? (i := 476) (by decide +kernel)⟩
theorem lw_p15 : lw_okq (⟨"PutOn$Reader", "split", "([II)V"⟩, 6) := ⟨⟨by decide +kernel, by decide +kernel⟩, List.mem_of_getElem? (i := 209) (by decide +kernel), List.mem_of_getElem? (i := 494) (by decide +kernel), List.mem_of_getElem? (i := 495) (by decide +kernel)⟩
def lw_privs_1 : List (MethodName × Nat) := [(⟨"PutOn", "isClock", "(I)Z"⟩, 11), (⟨"PutOn", "isDoer", "(I)Z"⟩, 11), (⟨"PutOn", "worked", "()LPutOn$Worlds;"⟩, 11), (⟨"PutOn$Worlds", "howLikely", "(I)I"⟩, 13), (⟨"PutOn$Worlds", "name", "(IIIIII)V"⟩, 13), (⟨"PutOn$Text", "push", "(I)V"⟩, 5), (⟨"PutOn$Text", "pop", "()I"⟩, 5), (⟨"PutOn$Worlds", "play", "(I)V"⟩, 13), (⟨"PutOn$Worlds", "begin", "(I)V"⟩, 13), (⟨"PutOn$Worlds", "visit", "(IIII)V"⟩, 13), (⟨"PutOn$Doer", "trusts", "(I)Z"⟩, 3), (⟨"PutOn$Doer", "dares", "(I)Z"⟩, 3), (⟨"PutOn$Worlds", "rightIn", "(I)I"⟩, 13), (⟨"PutOn$Worlds", "chanceOf", "(I)J"⟩, 13), (⟨"PutOn$Worlds", "timeIn", "(I)I"⟩, 13), (⟨"PutOn$Reader", "split", "([II)V"⟩, 6)]
theorem lw_r1 : ∀ q ∈ lw_privs_1, lw_okq q := List.forall_mem_cons.mpr ⟨lw_p0, List.forall_mem_cons.mpr ⟨lw_p1, List.forall_mem_cons.mpr ⟨lw_p2, List.forall_mem_cons.mpr ⟨lw_p3, List.forall_mem_cons.mpr ⟨lw_p4, List.forall_mem_cons.mpr ⟨lw_p5, List.forall_mem_cons.mpr ⟨lw_p6, List.forall_mem_cons.mpr ⟨lw_p7, List.forall_mem_cons.mpr ⟨lw_p8, List.forall_mem_cons.mpr ⟨lw_p9, List.forall_mem_cons.mpr ⟨lw_p10, List.forall_mem_cons.mpr ⟨lw_p11, List.forall_mem_cons.mpr ⟨lw_p12, List.forall_mem_cons.mpr ⟨lw_p13, List.forall_mem_cons.mpr ⟨lw_p14, List.forall_mem_cons.mpr ⟨lw_p15, fun _ h => absurd h List.not_mem_nil⟩⟩⟩⟩⟩⟩⟩⟩⟩⟩⟩⟩⟩⟩⟩⟩
theorem lw_p16 : lw_okq (⟨"PutOn$Reader", "add", "(II)V"⟩, 6) := ⟨⟨by decide +kernel, by decide +kernel⟩, List.mem_of_getElem? (i := 209) (by decide +kernel), List.mem_of_getElem? (i := 510) (by decide +kernel), List.mem_of_getElem? (i := 511) (by decide +kernel)⟩
theorem lw_p17 : lw_okq (⟨"PutOn$Reader", "part", "(II)Z"⟩, 6) := ⟨⟨by decide +kernel, by decide +kernel⟩, List.mem_of_getElem? (i := 209) (by decide +kernel), List.mem_of_getElem? (i := 589) (by decide +kernel), List.mem_of_getElem? (i := 590) (by decide +kernel)⟩
theorem lw_p18 : lw_okq (⟨"PutOn$Reader", "accept", "(I)Z"⟩, 6) := ⟨⟨by decide +kernel, by decide +kernel⟩, List.mem_of_getElem? (i := 209) (by decide +kernel), List.mem_of_getElem? (i := 593) (by decide +kernel), List.mem_of_getElem? (i := 594) (by decide +kernel)⟩
theorem lw_p19 : lw_okq (⟨"PutOn$Reader", "token", "()I"⟩, 6) := ⟨⟨by decide +kernel, by decide +kernel⟩, List.mem_of_getElem? (i := 209) (by decide +kernel), List.mem_of_getElem? (i := 597) (by decide +kernel), List.mem_of_getElem? (i := 598) (by decide +kernel)⟩
theorem lw_p20 : lw_okq (⟨"PutOn$Reader", "any", "(I)Z"⟩, 6) := ⟨⟨by decide +kernel, by decide +kernel⟩, List.mem_of_getElem? (i := 209) (by decide +kernel), List.mem_of_getElem? (i := 601) (by decide +kernel), List.mem_of_getElem? (i := 602) (by decide +kernel)⟩
theorem lw_p21 : lw_okq (⟨"PutOn$Reader", "every", "(I)Z"⟩, 6) := ⟨⟨by decide +kernel, by decide +kernel⟩, List.mem_of_getElem? (i := 209) (by decide +kernel), List.mem_of_getElem? (i := 605) (by decide +kernel), List.mem_of_getElem? (i := 606) (by decide +kernel)⟩
theorem lw_p22 : lw_okq (⟨"PutOn$Reader", "denial", "(I)Z"⟩, 6) := ⟨⟨by decide +kernel, by decide +kernel⟩, List.mem_of_getElem? (i := 209) (by decide +kernel), List.mem_of_getElem? (i := 609) (by decide +kernel), List.mem_of_getElem? (i := 610) (by decide +kernel)⟩
theorem lw_p23 : lw_okq (⟨"PutOn$Reader", "comparison", "(I)Z"⟩, 6) := ⟨⟨by decide +kernel, by decide +kernel⟩, List.mem_of_getElem? (i := 209) (by decide +kernel), List.mem_of_getElem? (i := 613) (by decide +kernel), List.mem_of_getElem? (i := 614) (by decide +kernel)⟩
theorem lw_p24 : lw_okq (⟨"PutOn$Reader", "sum", "(I)Z"⟩, 6) := ⟨⟨by decide +kernel, by decide +kernel⟩, List.mem_of_getElem? (i := 209) (by decide +kernel), List.mem_of_getElem? (i := 617) (by decide +kernel), List.mem_of_getElem? (i := 618) (by decide +kernel)⟩
theorem lw_p25 : lw_okq (⟨"PutOn$Reader", "term", "(I)Z"⟩, 6) := ⟨⟨by decide +kernel, by decide +kernel⟩, List.mem_of_getElem? (i := 209) (by decide +kernel), List.mem_of_getElem? (i := 621) (by decide +kernel), List.mem_of_getElem? (i := 622) (by decide +kernel)⟩
theorem lw_p26 : lw_okq (⟨"PutOn$Reader", "one", "(I)Z"⟩, 6) := ⟨⟨by decide +kernel, by decide +kernel⟩, List.mem_of_getElem? (i := 209) (by decide +kernel), List.mem_of_getElem? (i := 625) (by decide +kernel), List.mem_of_getElem? (i := 626) (by decide +kernel)⟩
theorem lw_p27 : lw_okq (⟨"PutOn", "isWorld", "(I)Z"⟩, 11) := ⟨⟨by decide +kernel, by decide +kernel⟩, List.mem_of_getElem? (i := 20) (by decide +kernel), List.mem_of_getElem? (i := 647) (by decide +kernel), List.mem_of_getElem? (i := 648) (by decide +kernel)⟩
theorem lw_p28 : lw_okq (⟨"PutOn$Known", "sumTimes", "(LPutOn$Worlds;)V"⟩, 2) := ⟨⟨by decide +kernel, by decide +kernel⟩, List.mem_of_getElem? (i := 237) (by decide +kernel), List.mem_of_getElem? (i := 683) (by decide +kernel), List.mem_of_getElem? (i := 684) (by decide +kernel)⟩
theorem lw_p29 : lw_okq (⟨"PutOn$Known", "chanceOfSaying", "(LPutOn$Worlds;I)J"⟩, 2) := ⟨⟨by decide +kernel, by decide +kernel⟩, List.mem_of_getElem? (i := 237) (by decide +kernel), List.mem_of_getElem? (i := 731) (by decide +kernel), List.mem_of_getElem? (i := 732) (by decide +kernel)⟩
theorem lw_p30 : lw_okq (⟨"PutOn$Known", "blindBy", "(LPutOn$Worlds;II)V"⟩, 2) := ⟨⟨by decide +kernel, by decide +kernel⟩, List.mem_of_getElem? (i := 237) (by decide +kernel), List.mem_of_getElem? (i := 747) (by decide +kernel), List.mem_of_getElem? (i := 748) (by decide +kernel)⟩
theorem lw_p31 : lw_okq (⟨"PutOn$Known", "blindAllOf", "(I)V"⟩, 2) := ⟨⟨by decide +kernel, by decide +kernel⟩, List.mem_of_getElem? (i := 237) (by decide +kernel), List.mem_of_getElem? (i := 751) (by decide +kernel), List.mem_of_getElem? (i := 752) (by decide +kernel)⟩
def lw_privs_2 : List (MethodName × Nat) := [(⟨"PutOn$Reader", "add", "(II)V"⟩, 6), (⟨"PutOn$Reader", "part", "(II)Z"⟩, 6), (⟨"PutOn$Reader", "accept", "(I)Z"⟩, 6), (⟨"PutOn$Reader", "token", "()I"⟩, 6), (⟨"PutOn$Reader", "any", "(I)Z"⟩, 6), (⟨"PutOn$Reader", "every", "(I)Z"⟩, 6), (⟨"PutOn$Reader", "denial", "(I)Z"⟩, 6), (⟨"PutOn$Reader", "comparison", "(I)Z"⟩, 6), (⟨"PutOn$Reader", "sum", "(I)Z"⟩, 6), (⟨"PutOn$Reader", "term", "(I)Z"⟩, 6), (⟨"PutOn$Reader", "one", "(I)Z"⟩, 6), (⟨"PutOn", "isWorld", "(I)Z"⟩, 11), (⟨"PutOn$Known", "sumTimes", "(LPutOn$Worlds;)V"⟩, 2), (⟨"PutOn$Known", "chanceOfSaying", "(LPutOn$Worlds;I)J"⟩, 2), (⟨"PutOn$Known", "blindBy", "(LPutOn$Worlds;II)V"⟩, 2), (⟨"PutOn$Known", "blindAllOf", "(I)V"⟩, 2)]
theorem lw_r2 : ∀ q ∈ lw_privs_2, lw_okq q := List.forall_mem_cons.mpr ⟨lw_p16, List.forall_mem_cons.mpr ⟨lw_p17, List.forall_mem_cons.mpr ⟨lw_p18, List.forall_mem_cons.mpr ⟨lw_p19, List.forall_mem_cons.mpr ⟨lw_p20, List.forall_mem_cons.mpr ⟨lw_p21, List.forall_mem_cons.mpr ⟨lw_p22, List.forall_mem_cons.mpr ⟨lw_p23, List.forall_mem_cons.mpr ⟨lw_p24, List.forall_mem_cons.mpr ⟨lw_p25, List.forall_mem_cons.mpr ⟨lw_p26, List.forall_mem_cons.mpr ⟨lw_p27, List.forall_mem_cons.mpr ⟨lw_p28, List.forall_mem_cons.mpr ⟨lw_p29, List.forall_mem_cons.mpr ⟨lw_p30, List.forall_mem_cons.mpr ⟨lw_p31, fun _ h => absurd h List.not_mem_nil⟩⟩⟩⟩⟩⟩⟩⟩⟩⟩⟩⟩⟩⟩⟩⟩
theorem lw_p32 : lw_okq (⟨"PutOn$Known", "wrongIn", "(LPutOn$Worlds;I)I"⟩, 2) := ⟨⟨by decide +kernel, by decide +kernel⟩, List.mem_of_getElem? (i := 237) (by decide +kernel), List.mem_of_getElem? (i := 782) (by decide +kernel), List.mem_of_getElem? (i := 783) (by decide +kernel)⟩
theorem lw_p33 : lw_okq (⟨"PutOn$Known", "isAsTold", "(LPutOn$Worlds;ILPutOn$Sheet;)Z"⟩, 2) := ⟨⟨by decide +kernel, by decide +kernel⟩, List.mem_of_getElem? (i := 237) (by decide +kernel), List.mem_of_getElem? (i := 818) (by decide +kernel), List.mem_of_getElem? (i := 819) (by decide +kernel)⟩
theorem lw_p34 : lw_okq (⟨"PutOnModel", "spell", "(IIIIIIIII)V"⟩, 49) := ⟨⟨by decide +kernel, by decide +kernel⟩, List.mem_of_getElem? (i := 918) (by decide +kernel), List.mem_of_getElem? (i := 924) (by decide +kernel), List.mem_of_getElem? (i := 925) (by decide +kernel)⟩
theorem lw_p35 : lw_okq (⟨"PutOnModel", "isClock", "(I)Z"⟩, 49) := ⟨⟨by decide +kernel, by decide +kernel⟩, List.mem_of_getElem? (i := 918) (by decide +kernel), List.mem_of_getElem? (i := 1096) (by decide +kernel), List.mem_of_getElem? (i := 1097) (by decide +kernel)⟩
theorem lw_p36 : lw_okq (⟨"PutOnModel", "isDoer", "(I)Z"⟩, 49) := ⟨⟨by decide +kernel, by decide +kernel⟩, List.mem_of_getElem? (i := 918) (by decide +kernel), List.mem_of_getElem? (i := 1100) (by decide +kernel), List.mem_of_getElem? (i := 1101) (by decide +kernel)⟩
theorem lw_p37 : lw_okq (⟨"PutOnModel", "cameOf", "(I)I"⟩, 49) := ⟨⟨by decide +kernel, by decide +kernel⟩, List.mem_of_getElem? (i := 918) (by decide +kernel), List.mem_of_getElem? (i := 1109) (by decide +kernel), List.mem_of_getElem? (i := 1110) (by decide +kernel)⟩
theorem lw_p38 : lw_okq (⟨"PutOnModel", "read", "(II)I"⟩, 49) := ⟨⟨by decide +kernel, by decide +kernel⟩, List.mem_of_getElem? (i := 918) (by decide +kernel), List.mem_of_getElem? (i := 1116) (by decide +kernel), List.mem_of_getElem? (i := 1117) (by decide +kernel)⟩
theorem lw_p39 : lw_okq (⟨"PutOnModel", "next", "()V"⟩, 49) := ⟨⟨by decide +kernel, by decide +kernel⟩, List.mem_of_getElem? (i := 918) (by decide +kernel), List.mem_of_getElem? (i := 1120) (by decide +kernel), List.mem_of_getElem? (i := 1121) (by decide +kernel)⟩
theorem lw_p40 : lw_okq (⟨"PutOnModel", "byteAt", "(I)I"⟩, 49) := ⟨⟨by decide +kernel, by decide +kernel⟩, List.mem_of_getElem? (i := 918) (by decide +kernel), List.mem_of_getElem? (i := 1124) (by decide +kernel), List.mem_of_getElem? (i := 1125) (by decide +kernel)⟩
theorem lw_p41 : lw_okq (⟨"PutOnModel", "isWord", "(IIIIIIII)Z"⟩, 49) := ⟨⟨by decide +kernel, by decide +kernel⟩, List.mem_of_getElem? (i := 918) (by decide +kernel), List.mem_of_getElem? (i := 1133) (by decide +kernel), List.mem_of_getElem? (i := 1134) (by decide +kernel)⟩
theorem lw_p42 : lw_okq (⟨"PutOnModel", "isLetter", "(II)Z"⟩, 49) := ⟨⟨by decide +kernel, by decide +kernel⟩, List.mem_of_getElem? (i := 918) (by decide +kernel), List.mem_of_getElem? (i := 1137) (by decide +kernel), List.mem_of_getElem? (i := 1138) (by decide +kernel)⟩
theorem lw_p43 : lw_okq (⟨"PutOnModel", "part", "(Z)I"⟩, 49) := ⟨⟨by decide +kernel, by decide +kernel⟩, List.mem_of_getElem? (i := 918) (by decide +kernel), List.mem_of_getElem? (i := 1141) (by decide +kernel), List.mem_of_getElem? (i := 1142) (by decide +kernel)⟩
theorem lw_p44 : lw_okq (⟨"PutOnModel", "fail", "()V"⟩, 49) := ⟨⟨by decide +kernel, by decide +kernel⟩, List.mem_of_getElem? (i := 918) (by decide +kernel), List.mem_of_getElem? (i := 1145) (by decide +kernel), List.mem_of_getElem? (i := 1146) (by decide +kernel)⟩
theorem lw_p45 : lw_okq (⟨"PutOnModel", "either0", "()I"⟩, 49) := ⟨⟨by decide +kernel, by decide +kernel⟩, List.mem_of_getElem? (i := 918) (by decide +kernel), List.mem_of_getElem? (i := 1149) (by decide +kernel), List.mem_of_getElem? (i := 1150) (by decide +kernel)⟩
theorem lw_p46 : lw_okq (⟨"PutOnModel", "both0", "()I"⟩, 49) := ⟨⟨by decide +kernel, by decide +kernel⟩, List.mem_of_getElem? (i := 918) (by decide +kernel), List.mem_of_getElem? (i := 1153) (by decide +kernel), List.mem_of_getElem? (i := 1154) (by decide +kernel)⟩
theorem lw_p47 : lw_okq (⟨"PutOnModel", "not0", "()I"⟩, 49) := ⟨⟨by decide +kernel, by decide +kernel⟩, List.mem_of_getElem? (i := 918) (by decide +kernel), List.mem_of_getElem? (i := 1157) (by decide +kernel), List.mem_of_getElem? (i := 1158) (by decide +kernel)⟩
def lw_privs_3 : List (MethodName × Nat) := [(⟨"PutOn$Known", "wrongIn", "(LPutOn$Worlds;I)I"⟩, 2), (⟨"PutOn$Known", "isAsTold", "(LPutOn$Worlds;ILPutOn$Sheet;)Z"⟩, 2), (⟨"PutOnModel", "spell", "(IIIIIIIII)V"⟩, 49), (⟨"PutOnModel", "isClock", "(I)Z"⟩, 49), (⟨"PutOnModel", "isDoer", "(I)Z"⟩, 49), (⟨"PutOnModel", "cameOf", "(I)I"⟩, 49), (⟨"PutOnModel", "read", "(II)I"⟩, 49), (⟨"PutOnModel", "next", "()V"⟩, 49), (⟨"PutOnModel", "byteAt", "(I)I"⟩, 49), (⟨"PutOnModel", "isWord", "(IIIIIIII)Z"⟩, 49), (⟨"PutOnModel", "isLetter", "(II)Z"⟩, 49), (⟨"PutOnModel", "part", "(Z)I"⟩, 49), (⟨"PutOnModel", "fail", "()V"⟩, 49), (⟨"PutOnModel", "either0", "()I"⟩, 49), (⟨"PutOnModel", "both0", "()I"⟩, 49), (⟨"PutOnModel", "not0", "()I"⟩, 49)]
theorem lw_r3 : ∀ q ∈ lw_privs_3, lw_okq q := List.forall_mem_cons.mpr ⟨lw_p32, List.forall_mem_cons.mpr ⟨lw_p33, List.forall_mem_cons.mpr ⟨lw_p34, List.forall_mem_cons.mpr ⟨lw_p35, List.forall_mem_cons.mpr ⟨lw_p36, List.forall_mem_cons.mpr ⟨lw_p37, List.forall_mem_cons.mpr ⟨lw_p38, List.forall_mem_cons.mpr ⟨lw_p39, List.forall_mem_cons.mpr ⟨lw_p40, List.forall_mem_cons.mpr ⟨lw_p41, List.forall_mem_cons.mpr ⟨lw_p42, List.forall_mem_cons.mpr ⟨lw_p43, List.forall_mem_cons.mpr ⟨lw_p44, List.forall_mem_cons.mpr ⟨lw_p45, List.forall_mem_cons.mpr ⟨lw_p46, List.forall_mem_cons.mpr ⟨lw_p47, fun _ h => absurd h List.not_mem_nil⟩⟩⟩⟩⟩⟩⟩⟩⟩⟩⟩⟩⟩⟩⟩⟩
theorem lw_p48 : lw_okq (⟨"PutOnModel", "opens", "()Z"⟩, 49) := ⟨⟨by decide +kernel, by decide +kernel⟩, List.mem_of_getElem? (i := 918) (by decide +kernel), List.mem_of_getElem? (i := 1161) (by decide +kernel), List.mem_of_getElem? (i := 1162) (by decide +kernel)⟩
theorem lw_p49 : lw_okq (⟨"PutOnModel", "not1", "()I"⟩, 49) := ⟨⟨by decide +kernel, by decide +kernel⟩, List.mem_of_getElem? (i := 918) (by decide +kernel), List.mem_of_getElem? (i := 1165) (by decide +kernel), List.mem_of_getElem? (i := 1166) (by decide +kernel)⟩
theorem lw_p50 : lw_okq (⟨"PutOnModel", "not2", "()I"⟩, 49) := ⟨⟨by decide +kernel, by decide +kernel⟩, List.mem_of_getElem? (i := 918) (by decide +kernel), List.mem_of_getElem? (i := 1169) (by decide +kernel), List.mem_of_getElem? (i := 1170) (by decide +kernel)⟩
theorem lw_p51 : lw_okq (⟨"PutOnModel", "not3", "()I"⟩, 49) := ⟨⟨by decide +kernel, by decide +kernel⟩, List.mem_of_getElem? (i := 918) (by decide +kernel), List.mem_of_getElem? (i := 1173) (by decide +kernel), List.mem_of_getElem? (i := 1174) (by decide +kernel)⟩
theorem lw_p52 : lw_okq (⟨"PutOnModel", "not4", "()I"⟩, 49) := ⟨⟨by decide +kernel, by decide +kernel⟩, List.mem_of_getElem? (i := 918) (by decide +kernel), List.mem_of_getElem? (i := 1177) (by decide +kernel), List.mem_of_getElem? (i := 1178) (by decide +kernel)⟩
theorem lw_p53 : lw_okq (⟨"PutOnModel", "not5", "()I"⟩, 49) := ⟨⟨by decide +kernel, by decide +kernel⟩, List.mem_of_getElem? (i := 918) (by decide +kernel), List.mem_of_getElem? (i := 1181) (by decide +kernel), List.mem_of_getElem? (i := 1182) (by decide +kernel)⟩
theorem lw_p54 : lw_okq (⟨"PutOnModel", "added5", "()I"⟩, 49) := ⟨⟨by decide +kernel, by decide +kernel⟩, List.mem_of_getElem? (i := 918) (by decide +kernel), List.mem_of_getElem? (i := 1185) (by decide +kernel), List.mem_of_getElem? (i := 1186) (by decide +kernel)⟩
theorem lw_p55 : lw_okq (⟨"PutOnModel", "term5", "()I"⟩, 49) := ⟨⟨by decide +kernel, by decide +kernel⟩, List.mem_of_getElem? (i := 918) (by decide +kernel), List.mem_of_getElem? (i := 1189) (by decide +kernel), List.mem_of_getElem? (i := 1190) (by decide +kernel)⟩
theorem lw_p56 : lw_okq (⟨"PutOnModel", "atom5", "()I"⟩, 49) := ⟨⟨by decide +kernel, by decide +kernel⟩, List.mem_of_getElem? (i := 918) (by decide +kernel), List.mem_of_getElem? (i := 1193) (by decide +kernel), List.mem_of_getElem? (i := 1194) (by decide +kernel)⟩
theorem lw_p57 : lw_okq (⟨"PutOnModel", "isSign", "(I)Z"⟩, 49) := ⟨⟨by decide +kernel, by decide +kernel⟩, List.mem_of_getElem? (i := 918) (by decide +kernel), List.mem_of_getElem? (i := 1197) (by decide +kernel), List.mem_of_getElem? (i := 1198) (by decide +kernel)⟩
theorem lw_p58 : lw_okq (⟨"PutOnModel", "name", "()I"⟩, 49) := ⟨⟨by decide +kernel, by decide +kernel⟩, List.mem_of_getElem? (i := 918) (by decide +kernel), List.mem_of_getElem? (i := 1201) (by decide +kernel), List.mem_of_getElem? (i := 1202) (by decide +kernel)⟩
theorem lw_p59 : lw_okq (⟨"PutOnModel", "added4", "()I"⟩, 49) := ⟨⟨by decide +kernel, by decide +kernel⟩, List.mem_of_getElem? (i := 918) (by decide +kernel), List.mem_of_getElem? (i := 1207) (by decide +kernel), List.mem_of_getElem? (i := 1208) (by decide +kernel)⟩
theorem lw_p60 : lw_okq (⟨"PutOnModel", "term4", "()I"⟩, 49) := ⟨⟨by decide +kernel, by decide +kernel⟩, List.mem_of_getElem? (i := 918) (by decide +kernel), List.mem_of_getElem? (i := 1211) (by decide +kernel), List.mem_of_getElem? (i := 1212) (by decide +kernel)⟩
theorem lw_p61 : lw_okq (⟨"PutOnModel", "atom4", "()I"⟩, 49) := ⟨⟨by decide +kernel, by decide +kernel⟩, List.mem_of_getElem? (i := 918) (by decide +kernel), List.mem_of_getElem? (i := 1215) (by decide +kernel), List.mem_of_getElem? (i := 1216) (by decide +kernel)⟩
theorem lw_p62 : lw_okq (⟨"PutOnModel", "either5", "()I"⟩, 49) := ⟨⟨by decide +kernel, by decide +kernel⟩, List.mem_of_getElem? (i := 918) (by decide +kernel), List.mem_of_getElem? (i := 1219) (by decide +kernel), List.mem_of_getElem? (i := 1220) (by decide +kernel)⟩
theorem lw_p63 : lw_okq (⟨"PutOnModel", "both5", "()I"⟩, 49) := ⟨⟨by decide +kernel, by decide +kernel⟩, List.mem_of_getElem? (i := 918) (by decide +kernel), List.mem_of_getElem? (i := 1223) (by decide +kernel), List.mem_of_getElem? (i := 1224) (by decide +kernel)⟩
def lw_privs_4 : List (MethodName × Nat) := [(⟨"PutOnModel", "opens", "()Z"⟩, 49), (⟨"PutOnModel", "not1", "()I"⟩, 49), (⟨"PutOnModel", "not2", "()I"⟩, 49), (⟨"PutOnModel", "not3", "()I"⟩, 49), (⟨"PutOnModel", "not4", "()I"⟩, 49), (⟨"PutOnModel", "not5", "()I"⟩, 49), (⟨"PutOnModel", "added5", "()I"⟩, 49), (⟨"PutOnModel", "term5", "()I"⟩, 49), (⟨"PutOnModel", "atom5", "()I"⟩, 49), (⟨"PutOnModel", "isSign", "(I)Z"⟩, 49), (⟨"PutOnModel", "name", "()I"⟩, 49), (⟨"PutOnModel", "added4", "()I"⟩, 49), (⟨"PutOnModel", "term4", "()I"⟩, 49), (⟨"PutOnModel", "atom4", "()I"⟩, 49), (⟨"PutOnModel", "either5", "()I"⟩, 49), (⟨"PutOnModel", "both5", "()I"⟩, 49)]
theorem lw_r4 : ∀ q ∈ lw_privs_4, lw_okq q := List.forall_mem_cons.mpr ⟨lw_p48, List.forall_mem_cons.mpr ⟨lw_p49, List.forall_mem_cons.mpr ⟨lw_p50, List.forall_mem_cons.mpr ⟨lw_p51, List.forall_mem_cons.mpr ⟨lw_p52, List.forall_mem_cons.mpr ⟨lw_p53, List.forall_mem_cons.mpr ⟨lw_p54, List.forall_mem_cons.mpr ⟨lw_p55, List.forall_mem_cons.mpr ⟨lw_p56, List.forall_mem_cons.mpr ⟨lw_p57, List.forall_mem_cons.mpr ⟨lw_p58, List.forall_mem_cons.mpr ⟨lw_p59, List.forall_mem_cons.mpr ⟨lw_p60, List.forall_mem_cons.mpr ⟨lw_p61, List.forall_mem_cons.mpr ⟨lw_p62, List.forall_mem_cons.mpr ⟨lw_p63, fun _ h => absurd h List.not_mem_nil⟩⟩⟩⟩⟩⟩⟩⟩⟩⟩⟩⟩⟩⟩⟩⟩
theorem lw_p64 : lw_okq (⟨"PutOnModel", "added3", "()I"⟩, 49) := ⟨⟨by decide +kernel, by decide +kernel⟩, List.mem_of_getElem? (i := 918) (by decide +kernel), List.mem_of_getElem? (i := 1227) (by decide +kernel), List.mem_of_getElem? (i := 1228) (by decide +kernel)⟩
theorem lw_p65 : lw_okq (⟨"PutOnModel", "term3", "()I"⟩, 49) := ⟨⟨by decide +kernel, by decide +kernel⟩, List.mem_of_getElem? (i := 918) (by decide +kernel), List.mem_of_getElem? (i := 1231) (by decide +kernel), List.mem_of_getElem? (i := 1232) (by decide +kernel)⟩
theorem lw_p66 : lw_okq (⟨"PutOnModel", "atom3", "()I"⟩, 49) := ⟨⟨by decide +kernel, by decide +kernel⟩, List.mem_of_getElem? (i := 918) (by decide +kernel), List.mem_of_getElem? (i := 1235) (by decide +kernel), List.mem_of_getElem? (i := 1236) (by decide +kernel)⟩
theorem lw_p67 : lw_okq (⟨"PutOnModel", "either4", "()I"⟩, 49) := ⟨⟨by decide +kernel, by decide +kernel⟩, List.mem_of_getElem? (i := 918) (by decide +kernel), List.mem_of_getElem? (i := 1239) (by decide +kernel), List.mem_of_getElem? (i := 1240) (by decide +kernel)⟩
theorem lw_p68 : lw_okq (⟨"PutOnModel", "both4", "()I"⟩, 49) := ⟨⟨by decide +kernel, by decide +kernel⟩, List.mem_of_getElem? (i := 918) (by decide +kernel), List.mem_of_getElem? (i := 1243) (by decide +kernel), List.mem_of_getElem? (i := 1244) (by decide +kernel)⟩
theorem lw_p69 : lw_okq (⟨"PutOnModel", "added2", "()I"⟩, 49) := ⟨⟨by decide +kernel, by decide +kernel⟩, List.mem_of_getElem? (i := 918) (by decide +kernel), List.mem_of_getElem? (i := 1247) (by decide +kernel), List.mem_of_getElem? (i := 1248) (by decide +kernel)⟩
theorem lw_p70 : lw_okq (⟨"PutOnModel", "term2", "()I"⟩, 49) := ⟨⟨by decide +kernel, by decide +kernel⟩, List.mem_of_getElem? (i := 918) (by decide +kernel), List.mem_of_getElem? (i := 1251) (by decide +kernel), List.mem_of_getElem? (i := 1252) (by decide +kernel)⟩
theorem lw_p71 : lw_okq (⟨"PutOnModel", "atom2", "()I"⟩, 49) := ⟨⟨by decide +kernel, by decide +kernel⟩, List.mem_of_getElem? (i := 918) (by decide +kernel), List.mem_of_getElem? (i := 1255) (by decide +kernel), List.mem_of_getElem? (i := 1256) (by decide +kernel)⟩
theorem lw_p72 : lw_okq (⟨"PutOnModel", "either3", "()I"⟩, 49) := ⟨⟨by decide +kernel, by decide +kernel⟩, List.mem_of_getElem? (i := 918) (by decide +kernel), List.mem_of_getElem? (i := 1259) (by decide +kernel), List.mem_of_getElem? (i := 1260) (by decide +kernel)⟩
theorem lw_p73 : lw_okq (⟨"PutOnModel", "both3", "()I"⟩, 49) := ⟨⟨by decide +kernel, by decide +kernel⟩, List.mem_of_getElem? (i := 918) (by decide +kernel), List.mem_of_getElem? (i := 1263) (by decide +kernel), List.mem_of_getElem? (i := 1264) (by decide +kernel)⟩
theorem lw_p74 : lw_okq (⟨"PutOnModel", "added1", "()I"⟩, 49) := ⟨⟨by decide +kernel, by decide +kernel⟩, List.mem_of_getElem? (i := 918) (by decide +kernel), List.mem_of_getElem? (i := 1267) (by decide +kernel), List.mem_of_getElem? (i := 1268) (by decide +kernel)⟩
theorem lw_p75 : lw_okq (⟨"PutOnModel", "term1", "()I"⟩, 49) := ⟨⟨by decide +kernel, by decide +kernel⟩, List.mem_of_getElem? (i := 918) (by decide +kernel), List.mem_of_getElem? (i := 1271) (by decide +kernel), List.mem_of_getElem? (i := 1272) (by decide +kernel)⟩
theorem lw_p76 : lw_okq (⟨"PutOnModel", "atom1", "()I"⟩, 49) := ⟨⟨by decide +kernel, by decide +kernel⟩, List.mem_of_getElem? (i := 918) (by decide +kernel), List.mem_of_getElem? (i := 1275) (by decide +kernel), List.mem_of_getElem? (i := 1276) (by decide +kernel)⟩
theorem lw_p77 : lw_okq (⟨"PutOnModel", "either2", "()I"⟩, 49) := ⟨⟨by decide +kernel, by decide +kernel⟩, List.mem_of_getElem? (i := 918) (by decide +kernel), List.mem_of_getElem? (i := 1279) (by decide +kernel), List.mem_of_getElem? (i := 1280) (by decide +kernel)⟩
theorem lw_p78 : lw_okq (⟨"PutOnModel", "both2", "()I"⟩, 49) := ⟨⟨by decide +kernel, by decide +kernel⟩, List.mem_of_getElem? (i := 918) (by decide +kernel), List.mem_of_getElem? (i := 1283) (by decide +kernel), List.mem_of_getElem? (i := 1284) (by decide +kernel)⟩
theorem lw_p79 : lw_okq (⟨"PutOnModel", "added0", "()I"⟩, 49) := ⟨⟨by decide +kernel, by decide +kernel⟩, List.mem_of_getElem? (i := 918) (by decide +kernel), List.mem_of_getElem? (i := 1287) (by decide +kernel), List.mem_of_getElem? (i := 1288) (by decide +kernel)⟩
def lw_privs_5 : List (MethodName × Nat) := [(⟨"PutOnModel", "added3", "()I"⟩, 49), (⟨"PutOnModel", "term3", "()I"⟩, 49), (⟨"PutOnModel", "atom3", "()I"⟩, 49), (⟨"PutOnModel", "either4", "()I"⟩, 49), (⟨"PutOnModel", "both4", "()I"⟩, 49), (⟨"PutOnModel", "added2", "()I"⟩, 49), (⟨"PutOnModel", "term2", "()I"⟩, 49), (⟨"PutOnModel", "atom2", "()I"⟩, 49), (⟨"PutOnModel", "either3", "()I"⟩, 49), (⟨"PutOnModel", "both3", "()I"⟩, 49), (⟨"PutOnModel", "added1", "()I"⟩, 49), (⟨"PutOnModel", "term1", "()I"⟩, 49), (⟨"PutOnModel", "atom1", "()I"⟩, 49), (⟨"PutOnModel", "either2", "()I"⟩, 49), (⟨"PutOnModel", "both2", "()I"⟩, 49), (⟨"PutOnModel", "added0", "()I"⟩, 49)]
theorem lw_r5 : ∀ q ∈ lw_privs_5, lw_okq q := List.forall_mem_cons.mpr ⟨lw_p64, List.forall_mem_cons.mpr ⟨lw_p65, List.forall_mem_cons.mpr ⟨lw_p66, List.forall_mem_cons.mpr ⟨lw_p67, List.forall_mem_cons.mpr ⟨lw_p68, List.forall_mem_cons.mpr ⟨lw_p69, List.forall_mem_cons.mpr ⟨lw_p70, List.forall_mem_cons.mpr ⟨lw_p71, List.forall_mem_cons.mpr ⟨lw_p72, List.forall_mem_cons.mpr ⟨lw_p73, List.forall_mem_cons.mpr ⟨lw_p74, List.forall_mem_cons.mpr ⟨lw_p75, List.forall_mem_cons.mpr ⟨lw_p76, List.forall_mem_cons.mpr ⟨lw_p77, List.forall_mem_cons.mpr ⟨lw_p78, List.forall_mem_cons.mpr ⟨lw_p79, fun _ h => absurd h List.not_mem_nil⟩⟩⟩⟩⟩⟩⟩⟩⟩⟩⟩⟩⟩⟩⟩⟩
theorem lw_p80 : lw_okq (⟨"PutOnModel", "term0", "()I"⟩, 49) := ⟨⟨by decide +kernel, by decide +kernel⟩, List.mem_of_getElem? (i := 918) (by decide +kernel), List.mem_of_getElem? (i := 1291) (by decide +kernel), List.mem_of_getElem? (i := 1292) (by decide +kernel)⟩
theorem lw_p81 : lw_okq (⟨"PutOnModel", "atom0", "()I"⟩, 49) := ⟨⟨by decide +kernel, by decide +kernel⟩, List.mem_of_getElem? (i := 918) (by decide +kernel), List.mem_of_getElem? (i := 1295) (by decide +kernel), List.mem_of_getElem? (i := 1296) (by decide +kernel)⟩
theorem lw_p82 : lw_okq (⟨"PutOnModel", "either1", "()I"⟩, 49) := ⟨⟨by decide +kernel, by decide +kernel⟩, List.mem_of_getElem? (i := 918) (by decide +kernel), List.mem_of_getElem? (i := 1299) (by decide +kernel), List.mem_of_getElem? (i := 1300) (by decide +kernel)⟩
theorem lw_p83 : lw_okq (⟨"PutOnModel", "both1", "()I"⟩, 49) := ⟨⟨by decide +kernel, by decide +kernel⟩, List.mem_of_getElem? (i := 918) (by decide +kernel), List.mem_of_getElem? (i := 1303) (by decide +kernel), List.mem_of_getElem? (i := 1304) (by decide +kernel)⟩
theorem lw_p84 : lw_okq (⟨"PutOnModel", "isWorld", "(I)Z"⟩, 49) := ⟨⟨by decide +kernel, by decide +kernel⟩, List.mem_of_getElem? (i := 918) (by decide +kernel), List.mem_of_getElem? (i := 1328) (by decide +kernel), List.mem_of_getElem? (i := 1329) (by decide +kernel)⟩
theorem lw_p85 : lw_okq (⟨"PutOnModel", "makes", "(I)V"⟩, 49) := ⟨⟨by decide +kernel, by decide +kernel⟩, List.mem_of_getElem? (i := 918) (by decide +kernel), List.mem_of_getElem? (i := 1334) (by decide +kernel), List.mem_of_getElem? (i := 1335) (by decide +kernel)⟩
theorem lw_p86 : lw_okq (⟨"PutOnModel", "goesThrough", "(III)V"⟩, 49) := ⟨⟨by decide +kernel, by decide +kernel⟩, List.mem_of_getElem? (i := 918) (by decide +kernel), List.mem_of_getElem? (i := 1338) (by decide +kernel), List.mem_of_getElem? (i := 1339) (by decide +kernel)⟩
theorem lw_p87 : lw_okq (⟨"PutOnModel", "does", "(IIIII)Z"⟩, 49) := ⟨⟨by decide +kernel, by decide +kernel⟩, List.mem_of_getElem? (i := 918) (by decide +kernel), List.mem_of_getElem? (i := 1342) (by decide +kernel), List.mem_of_getElem? (i := 1343) (by decide +kernel)⟩
theorem lw_p88 : lw_okq (⟨"PutOnModel", "addsBy", "(IIII)I"⟩, 49) := ⟨⟨by decide +kernel, by decide +kernel⟩, List.mem_of_getElem? (i := 918) (by decide +kernel), List.mem_of_getElem? (i := 1346) (by decide +kernel), List.mem_of_getElem? (i := 1347) (by decide +kernel)⟩
theorem lw_p89 : lw_okq (⟨"PutOnModel", "addsOf", "(III)I"⟩, 49) := ⟨⟨by decide +kernel, by decide +kernel⟩, List.mem_of_getElem? (i := 918) (by decide +kernel), List.mem_of_getElem? (i := 1350) (by decide +kernel), List.mem_of_getElem? (i := 1351) (by decide +kernel)⟩
theorem lw_p90 : lw_okq (⟨"PutOnModel", "gathers", "()V"⟩, 49) := ⟨⟨by decide +kernel, by decide +kernel⟩, List.mem_of_getElem? (i := 918) (by decide +kernel), List.mem_of_getElem? (i := 1366) (by decide +kernel), List.mem_of_getElem? (i := 1367) (by decide +kernel)⟩
theorem lw_p91 : lw_okq (⟨"PutOnModel", "worlds", "()I"⟩, 49) := ⟨⟨by decide +kernel, by decide +kernel⟩, List.mem_of_getElem? (i := 918) (by decide +kernel), List.mem_of_getElem? (i := 1370) (by decide +kernel), List.mem_of_getElem? (i := 1371) (by decide +kernel)⟩
theorem lw_p92 : lw_okq (⟨"PutOnModel", "times", "()I"⟩, 49) := ⟨⟨by decide +kernel, by decide +kernel⟩, List.mem_of_getElem? (i := 918) (by decide +kernel), List.mem_of_getElem? (i := 1385) (by decide +kernel), List.mem_of_getElem? (i := 1386) (by decide +kernel)⟩
theorem lw_p93 : lw_okq (⟨"PutOnModel", "seenMany", "()I"⟩, 49) := ⟨⟨by decide +kernel, by decide +kernel⟩, List.mem_of_getElem? (i := 918) (by decide +kernel), List.mem_of_getElem? (i := 1397) (by decide +kernel), List.mem_of_getElem? (i := 1398) (by decide +kernel)⟩
theorem lw_p94 : lw_okq (⟨"PutOnModel", "alike", "(I)J"⟩, 49) := ⟨⟨by decide +kernel, by decide +kernel⟩, List.mem_of_getElem? (i := 918) (by decide +kernel), List.mem_of_getElem? (i := 1401) (by decide +kernel), List.mem_of_getElem? (i := 1402) (by decide +kernel)⟩
theorem lw_p95 : lw_okq (⟨"PutOnModel", "saysIn", "(II)I"⟩, 49) := ⟨⟨by decide +kernel, by decide +kernel⟩, List.mem_of_getElem? (i := 918) (by decide +kernel), List.mem_of_getElem? (i := 1405) (by decide +kernel), List.mem_of_getElem? (i := 1406) (by decide +kernel)⟩
def lw_privs_6 : List (MethodName × Nat) := [(⟨"PutOnModel", "term0", "()I"⟩, 49), (⟨"PutOnModel", "atom0", "()I"⟩, 49), (⟨"PutOnModel", "either1", "()I"⟩, 49), (⟨"PutOnModel", "both1", "()I"⟩, 49), (⟨"PutOnModel", "isWorld", "(I)Z"⟩, 49), (⟨"PutOnModel", "makes", "(I)V"⟩, 49), (⟨"PutOnModel", "goesThrough", "(III)V"⟩, 49), (⟨"PutOnModel", "does", "(IIIII)Z"⟩, 49), (⟨"PutOnModel", "addsBy", "(IIII)I"⟩, 49), (⟨"PutOnModel", "addsOf", "(III)I"⟩, 49), (⟨"PutOnModel", "gathers", "()V"⟩, 49), (⟨"PutOnModel", "worlds", "()I"⟩, 49), (⟨"PutOnModel", "times", "()I"⟩, 49), (⟨"PutOnModel", "seenMany", "()I"⟩, 49), (⟨"PutOnModel", "alike", "(I)J"⟩, 49), (⟨"PutOnModel", "saysIn", "(II)I"⟩, 49)]
theorem lw_r6 : ∀ q ∈ lw_privs_6, lw_okq q := List.forall_mem_cons.mpr ⟨lw_p80, List.forall_mem_cons.mpr ⟨lw_p81, List.forall_mem_cons.mpr ⟨lw_p82, List.forall_mem_cons.mpr ⟨lw_p83, List.forall_mem_cons.mpr ⟨lw_p84, List.forall_mem_cons.mpr ⟨lw_p85, List.forall_mem_cons.mpr ⟨lw_p86, List.forall_mem_cons.mpr ⟨lw_p87, List.forall_mem_cons.mpr ⟨lw_p88, List.forall_mem_cons.mpr ⟨lw_p89, List.forall_mem_cons.mpr ⟨lw_p90, List.forall_mem_cons.mpr ⟨lw_p91, List.forall_mem_cons.mpr ⟨lw_p92, List.forall_mem_cons.mpr ⟨lw_p93, List.forall_mem_cons.mpr ⟨lw_p94, List.forall_mem_cons.mpr ⟨lw_p95, fun _ h => absurd h List.not_mem_nil⟩⟩⟩⟩⟩⟩⟩⟩⟩⟩⟩⟩⟩⟩⟩⟩
theorem lw_p96 : lw_okq (⟨"PutOnModel", "tellsAll", "(I)Z"⟩, 49) := ⟨⟨by decide +kernel, by decide +kernel⟩, List.mem_of_getElem? (i := 918) (by decide +kernel), List.mem_of_getElem? (i := 1413) (by decide +kernel), List.mem_of_getElem? (i := 1414) (by decide +kernel)⟩
theorem lw_p97 : lw_okq (⟨"PutOnModel", "areMore", "(III)Z"⟩, 49) := ⟨⟨by decide +kernel, by decide +kernel⟩, List.mem_of_getElem? (i := 918) (by decide +kernel), List.mem_of_getElem? (i := 1417) (by decide +kernel), List.mem_of_getElem? (i := 1418) (by decide +kernel)⟩
theorem lw_p98 : lw_okq (⟨"PutOnModel", "mindsOf", "(II)I"⟩, 49) := ⟨⟨by decide +kernel, by decide +kernel⟩, List.mem_of_getElem? (i := 918) (by decide +kernel), List.mem_of_getElem? (i := 1433) (by decide +kernel), List.mem_of_getElem? (i := 1434) (by decide +kernel)⟩
theorem lw_p99 : lw_okq (⟨"PutOnModel", "isSo", "(II)Z"⟩, 49) := ⟨⟨by decide +kernel, by decide +kernel⟩, List.mem_of_getElem? (i := 918) (by decide +kernel), List.mem_of_getElem? (i := 1453) (by decide +kernel), List.mem_of_getElem? (i := 1454) (by decide +kernel)⟩
theorem lw_p100 : lw_okq (⟨"PutOnModel", "draws", "(I)I"⟩, 49) := ⟨⟨by decide +kernel, by decide +kernel⟩, List.mem_of_getElem? (i := 918) (by decide +kernel), List.mem_of_getElem? (i := 1470) (by decide +kernel), List.mem_of_getElem? (i := 1471) (by decide +kernel)⟩
def lw_privs_7 : List (MethodName × Nat) := [(⟨"PutOnModel", "tellsAll", "(I)Z"⟩, 49), (⟨"PutOnModel", "areMore", "(III)Z"⟩, 49), (⟨"PutOnModel", "mindsOf", "(II)I"⟩, 49), (⟨"PutOnModel", "isSo", "(II)Z"⟩, 49), (⟨"PutOnModel", "draws", "(I)I"⟩, 49)]
theorem lw_r7 : ∀ q ∈ lw_privs_7, lw_okq q := List.forall_mem_cons.mpr ⟨lw_p96, List.forall_mem_cons.mpr ⟨lw_p97, List.forall_mem_cons.mpr ⟨lw_p98, List.forall_mem_cons.mpr ⟨lw_p99, List.forall_mem_cons.mpr ⟨lw_p100, fun _ h => absurd h List.not_mem_nil⟩⟩⟩⟩⟩
def lw_privs : List (MethodName × Nat) := lw_privs_1 ++ (lw_privs_2 ++ (lw_privs_3 ++ (lw_privs_4 ++ (lw_privs_5 ++ (lw_privs_6 ++ (lw_privs_7))))))
def lw_tbl : List Cond := k2_sels lw_privs ++ tables_1
theorem lw_privs_ok : ∀ q ∈ lw_privs, lw_okq q := by
  show ∀ q ∈ lw_privs_1 ++ (lw_privs_2 ++ (lw_privs_3 ++ (lw_privs_4 ++ (lw_privs_5 ++ (lw_privs_6 ++ (lw_privs_7)))))), lw_okq q
  exact List.forall_mem_append.mpr ⟨lw_r1, List.forall_mem_append.mpr ⟨lw_r2, List.forall_mem_append.mpr ⟨lw_r3, List.forall_mem_append.mpr ⟨lw_r4, List.forall_mem_append.mpr ⟨lw_r5, List.forall_mem_append.mpr ⟨lw_r6, lw_r7⟩⟩⟩⟩⟩⟩
end
section
-- class tables (out of claim/NAMES.whole), the layout of all cells that the two constructors make
def RX0 : String := "PutOn$Clock"
def TX0 : u_T := fun k => match k with
  | 0 => ("PutOn$Clock", "room", "I", false)
  | 1 => ("PutOn$Clock", "off", "I", false)
  | 2 => ("PutOn$Clock", "self", "I", false)
  | _ => ("PutOn$Clock", "saw", "I", false)
def tyX0 : Nat → FieldType := fun k => match k with
  | 0 => .int
  | 1 => .int
  | 2 => .int
  | _ => .int
theorem nmX0 : ∀ a, a < 4 → ∀ b, b < 4 → a ≠ b → (TX0 a).2.1 ≠ (TX0 b).2.1 := by decide +kernel
theorem tyX0_ok : ∀ k, k < 4 → parseFieldDescriptor (TX0 k).2.2.1 = some (tyX0 k) := by decide +kernel
def RX1 : String := "PutOn$Doer"
def TX1 : u_T := fun k => match k with
  | 0 => ("PutOn$Doer", "kind", "I", false)
  | 1 => ("PutOn$Doer", "number", "I", false)
  | _ => ("PutOn$Doer", "way", "I", false)
def tyX1 : Nat → FieldType := fun k => match k with
  | 0 => .int
  | 1 => .int
  | _ => .int
theorem nmX1 : ∀ a, a < 3 → ∀ b, b < 3 → a ≠ b → (TX1 a).2.1 ≠ (TX1 b).2.1 := by decide +kernel
theorem tyX1_ok : ∀ k, k < 3 → parseFieldDescriptor (TX1 k).2.2.1 = some (tyX1 k) := by decide +kernel
def RX2 : String := "PutOn$House"
def TX2 : u_T := fun k => match k with
  | 0 => ("PutOn$House", "clocks", "[LPutOn$Clock;", true)
  | 1 => ("PutOn$House", "doers", "[LPutOn$Doer;", true)
  | 2 => ("PutOn$House", "clockCount", "I", false)
  | 3 => ("PutOn$House", "doerCount", "I", false)
  | _ => ("PutOn$House", "rule", "I", false)
def tyX2 : Nat → FieldType := fun k => match k with
  | 0 => .array (.object "PutOn$Clock")
  | 1 => .array (.object "PutOn$Doer")
  | 2 => .int
  | 3 => .int
  | _ => .int
theorem nmX2 : ∀ a, a < 5 → ∀ b, b < 5 → a ≠ b → (TX2 a).2.1 ≠ (TX2 b).2.1 := by decide +kernel
theorem tyX2_ok : ∀ k, k < 5 → parseFieldDescriptor (TX2 k).2.2.1 = some (tyX2 k) := by decide +kernel
def RX3 : String := "PutOn$Known"
def TX3 : u_T := fun k => match k with
  | 0 => ("PutOn$Known", "sums", "LPutOn$Sums;", true)
  | _ => ("PutOn$Known", "blind", "[Z", true)
def tyX3 : Nat → FieldType := fun k => match k with
  | 0 => .object "PutOn$Sums"
  | _ => .array .boolean
theorem nmX3 : ∀ a, a < 2 → ∀ b, b < 2 → a ≠ b → (TX3 a).2.1 ≠ (TX3 b).2.1 := by decide +kernel
theorem tyX3_ok : ∀ k, k < 2 → parseFieldDescriptor (TX3 k).2.2.1 = some (tyX3 k) := by decide +kernel
def RX4 : String := "PutOn$Reader"
def TX4 : u_T := fun k => match k with
  | 0 => ("PutOn$Reader", "tokens", "[I", true)
  | 1 => ("PutOn$Reader", "places", "[I", true)
  | 2 => ("PutOn$Reader", "ends", "[I", true)
  | 3 => ("PutOn$Reader", "count", "I", false)
  | 4 => ("PutOn$Reader", "next", "I", false)
  | _ => ("PutOn$Reader", "text", "LPutOn$Text;", true)
def tyX4 : Nat → FieldType := fun k => match k with
  | 0 => .array .int
  | 1 => .array .int
  | 2 => .array .int
  | 3 => .int
  | 4 => .int
  | _ => .object "PutOn$Text"
theorem nmX4 : ∀ a, a < 6 → ∀ b, b < 6 → a ≠ b → (TX4 a).2.1 ≠ (TX4 b).2.1 := by decide +kernel
theorem tyX4_ok : ∀ k, k < 6 → parseFieldDescriptor (TX4 k).2.2.1 = some (tyX4 k) := by decide +kernel
def RX5 : String := "PutOn$Sheet"
def TX5 : u_T := fun k => match k with
  | 0 => ("PutOn$Sheet", "cells", "[I", true)
  | 1 => ("PutOn$Sheet", "sort", "I", false)
  | _ => ("PutOn$Sheet", "size", "I", false)
def tyX5 : Nat → FieldType := fun k => match k with
  | 0 => .array .int
  | 1 => .int
  | _ => .int
theorem nmX5 : ∀ a, a < 3 → ∀ b, b < 3 → a ≠ b → (TX5 a).2.1 ≠ (TX5 b).2.1 := by decide +kernel
theorem tyX5_ok : ∀ k, k < 3 → parseFieldDescriptor (TX5 k).2.2.1 = some (tyX5 k) := by decide +kernel
def RX6 : String := "PutOn$Sums"
def TX6 : u_T := fun k => match k with
  | 0 => ("PutOn$Sums", "keys", "[I", true)
  | 1 => ("PutOn$Sums", "sums", "[J", true)
  | _ => ("PutOn$Sums", "count", "I", false)
def tyX6 : Nat → FieldType := fun k => match k with
  | 0 => .array .int
  | 1 => .array .long
  | _ => .int
theorem nmX6 : ∀ a, a < 3 → ∀ b, b < 3 → a ≠ b → (TX6 a).2.1 ≠ (TX6 b).2.1 := by decide +kernel
theorem tyX6_ok : ∀ k, k < 3 → parseFieldDescriptor (TX6 k).2.2.1 = some (tyX6 k) := by decide +kernel
def RX7 : String := "PutOn$Text"
def TX7 : u_T := fun k => match k with
  | 0 => ("PutOn$Text", "code", "[I", true)
  | 1 => ("PutOn$Text", "ends", "[I", true)
  | 2 => ("PutOn$Text", "stack", "[I", true)
  | 3 => ("PutOn$Text", "size", "I", false)
  | _ => ("PutOn$Text", "top", "I", false)
def tyX7 : Nat → FieldType := fun k => match k with
  | 0 => .array .int
  | 1 => .array .int
  | 2 => .array .int
  | 3 => .int
  | _ => .int
theorem nmX7 : ∀ a, a < 5 → ∀ b, b < 5 → a ≠ b → (TX7 a).2.1 ≠ (TX7 b).2.1 := by decide +kernel
theorem tyX7_ok : ∀ k, k < 5 → parseFieldDescriptor (TX7 k).2.2.1 = some (tyX7 k) := by decide +kernel
def RX8 : String := "PutOn$Worlds"
def TX8 : u_T := fun k => match k with
  | 0 => ("PutOn$Worlds", "at", "[[I", true)
  | 1 => ("PutOn$Worlds", "done", "[[I", true)
  | 2 => ("PutOn$Worlds", "right", "[I", true)
  | 3 => ("PutOn$Worlds", "fits", "[Z", true)
  | 4 => ("PutOn$Worlds", "times", "[I", true)
  | 5 => ("PutOn$Worlds", "chances", "[J", true)
  | 6 => ("PutOn$Worlds", "came", "[I", true)
  | 7 => ("PutOn$Worlds", "names", "[I", true)
  | 8 => ("PutOn$Worlds", "house", "LPutOn$House;", true)
  | 9 => ("PutOn$Worlds", "rule", "LPutOn$Text;", false)
  | 10 => ("PutOn$Worlds", "count", "I", false)
  | 11 => ("PutOn$Worlds", "all", "J", false)
  | _ => ("PutOn$Worlds", "stale", "Z", false)
def tyX8 : Nat → FieldType := fun k => match k with
  | 0 => .array (.array .int)
  | 1 => .array (.array .int)
  | 2 => .array .int
  | 3 => .array .boolean
  | 4 => .array .int
  | 5 => .array .long
  | 6 => .array .int
  | 7 => .array .int
  | 8 => .object "PutOn$House"
  | 9 => .object "PutOn$Text"
  | 10 => .int
  | 11 => .long
  | _ => .boolean
theorem nmX8 : ∀ a, a < 13 → ∀ b, b < 13 → a ≠ b → (TX8 a).2.1 ≠ (TX8 b).2.1 := by decide +kernel
theorem tyX8_ok : ∀ k, k < 13 → parseFieldDescriptor (TX8 k).2.2.1 = some (tyX8 k) := by decide +kernel
def RX9 : String := "PutOn"
def TX9 : u_T := fun k => match k with
  | 0 => ("PutOn", "worlds", "LPutOn$Worlds;", true)
  | 1 => ("PutOn", "house", "LPutOn$House;", true)
  | 2 => ("PutOn", "kept", "LPutOn$House;", true)
  | 3 => ("PutOn", "isKept", "Z", false)
  | 4 => ("PutOn", "texts", "[LPutOn$Text;", true)
  | 5 => ("PutOn", "textCount", "I", false)
  | 6 => ("PutOn", "tape", "[I", true)
  | 7 => ("PutOn", "tapeSize", "I", false)
  | 8 => ("PutOn", "reader", "LPutOn$Reader;", true)
  | 9 => ("PutOn", "known", "LPutOn$Known;", true)
  | _ => ("PutOn", "sheets", "[LPutOn$Sheet;", true)
def tyX9 : Nat → FieldType := fun k => match k with
  | 0 => .object "PutOn$Worlds"
  | 1 => .object "PutOn$House"
  | 2 => .object "PutOn$House"
  | 3 => .boolean
  | 4 => .array (.object "PutOn$Text")
  | 5 => .int
  | 6 => .array .int
  | 7 => .int
  | 8 => .object "PutOn$Reader"
  | 9 => .object "PutOn$Known"
  | _ => .array (.object "PutOn$Sheet")
theorem nmX9 : ∀ a, a < 11 → ∀ b, b < 11 → a ≠ b → (TX9 a).2.1 ≠ (TX9 b).2.1 := by decide +kernel
theorem tyX9_ok : ∀ k, k < 11 → parseFieldDescriptor (TX9 k).2.2.1 = some (tyX9 k) := by decide +kernel
def RX10 : String := "PutOnModel"
def TX10 : u_T := fun k => match k with
  | 0 => ("PutOnModel", "thrown", "I", false)
  | 1 => ("PutOnModel", "texts", "[I", true)
  | 2 => ("PutOnModel", "textSize", "[I", true)
  | 3 => ("PutOnModel", "textCount", "I", false)
  | 4 => ("PutOnModel", "rule", "I", false)
  | 5 => ("PutOnModel", "tape", "[I", true)
  | 6 => ("PutOnModel", "taped", "I", false)
  | 7 => ("PutOnModel", "offs", "[I", true)
  | 8 => ("PutOnModel", "rooms", "[I", true)
  | 9 => ("PutOnModel", "selfs", "[I", true)
  | 10 => ("PutOnModel", "saw", "[I", true)
  | 11 => ("PutOnModel", "clockCount", "I", false)
  | 12 => ("PutOnModel", "kinds", "[I", true)
  | 13 => ("PutOnModel", "numbers", "[I", true)
  | 14 => ("PutOnModel", "waysOf", "[I", true)
  | 15 => ("PutOnModel", "doers", "I", false)
  | 16 => ("PutOnModel", "ofClock", "I", false)
  | 17 => ("PutOnModel", "ofWho", "I", false)
  | 18 => ("PutOnModel", "ofRoom", "I", false)
  | 19 => ("PutOnModel", "ofOff", "I", false)
  | 20 => ("PutOnModel", "ofDone", "I", false)
  | 21 => ("PutOnModel", "ofRooms", "I", false)
  | 22 => ("PutOnModel", "from", "I", false)
  | 23 => ("PutOnModel", "size", "I", false)
  | 24 => ("PutOnModel", "here", "I", false)
  | 25 => ("PutOnModel", "token", "I", false)
  | 26 => ("PutOnModel", "tokenAt", "I", false)
  | 27 => ("PutOnModel", "tokenWorth", "J", false)
  | 28 => ("PutOnModel", "open", "I", false)
  | 29 => ("PutOnModel", "bad", "Z", false)
  | 30 => ("PutOnModel", "fault", "I", false)
  | 31 => ("PutOnModel", "atRow", "[I", true)
  | 32 => ("PutOnModel", "doneRow", "[I", true)
  | 33 => ("PutOnModel", "chances", "[J", true)
  | 34 => ("PutOnModel", "rightRow", "[I", true)
  | 35 => ("PutOnModel", "fitRow", "[I", true)
  | 36 => ("PutOnModel", "timeRow", "[I", true)
  | 37 => ("PutOnModel", "all", "J", false)
  | 38 => ("PutOnModel", "likeliest", "I", false)
  | 39 => ("PutOnModel", "likely", "J", false)
  | 40 => ("PutOnModel", "clocksKept", "[I", true)
  | 41 => ("PutOnModel", "doersKept", "[I", true)
  | 42 => ("PutOnModel", "clockKept", "I", false)
  | 43 => ("PutOnModel", "doerKept", "I", false)
  | 44 => ("PutOnModel", "ruleKept", "I", false)
  | 45 => ("PutOnModel", "isThere", "[Z", true)
  | 46 => ("PutOnModel", "sorts", "[I", true)
  | 47 => ("PutOnModel", "sheetSize", "[I", true)
  | _ => ("PutOnModel", "items", "[I", true)
def tyX10 : Nat → FieldType := fun k => match k with
  | 0 => .int
  | 1 => .array .int
  | 2 => .array .int
  | 3 => .int
  | 4 => .int
  | 5 => .array .int
  | 6 => .int
  | 7 => .array .int
  | 8 => .array .int
  | 9 => .array .int
  | 10 => .array .int
  | 11 => .int
  | 12 => .array .int
  | 13 => .array .int
  | 14 => .array .int
  | 15 => .int
  | 16 => .int
  | 17 => .int
  | 18 => .int
  | 19 => .int
  | 20 => .int
  | 21 => .int
  | 22 => .int
  | 23 => .int
  | 24 => .int
  | 25 => .int
  | 26 => .int
  | 27 => .long
  | 28 => .int
  | 29 => .boolean
  | 30 => .int
  | 31 => .array .int
  | 32 => .array .int
  | 33 => .array .long
  | 34 => .array .int
  | 35 => .array .int
  | 36 => .array .int
  | 37 => .long
  | 38 => .int
  | 39 => .long
  | 40 => .array .int
  | 41 => .array .int
  | 42 => .int
  | 43 => .int
  | 44 => .int
  | 45 => .array .boolean
  | 46 => .array .int
  | 47 => .array .int
  | _ => .array .int
theorem nmX10 : ∀ a, a < 49 → ∀ b, b < 49 → a ≠ b → (TX10 a).2.1 ≠ (TX10 b).2.1 := by decide +kernel
theorem tyX10_ok : ∀ k, k < 49 → parseFieldDescriptor (TX10 k).2.2.1 = some (tyX10 k) := by decide +kernel
def zT : List Cond := lw_tbl.filter goodWord
theorem zT_mem {w : Cond} {i : Nat} (h : lw_tbl[i]? = some w) (hg : goodWord w = true) : w ∈ zT := List.mem_filter.mpr ⟨List.mem_of_getElem? h, hg⟩
set_option maxRecDepth 100000 in
theorem inX0 : ∀ w ∈ u_ws RX0 TX0 4, w ∈ zT := by decide +kernel
set_option maxRecDepth 100000 in
theorem inX1 : ∀ w ∈ u_ws RX1 TX1 3, w ∈ zT := by decide +kernel
set_option maxRecDepth 100000 in
theorem inX2 : ∀ w ∈ u_ws RX2 TX2 5, w ∈ zT := by decide +kernel
set_option maxRecDepth 100000 in
theorem inX3 : ∀ w ∈ u_ws RX3 TX3 2, w ∈ zT := by decide +kernel
set_option maxRecDepth 100000 in
theorem inX4 : ∀ w ∈ u_ws RX4 TX4 6, w ∈ zT := by decide +kernel
set_option maxRecDepth 100000 in
theorem inX5 : ∀ w ∈ u_ws RX5 TX5 3, w ∈ zT := by decide +kernel
set_option maxRecDepth 100000 in
theorem inX6 : ∀ w ∈ u_ws RX6 TX6 3, w ∈ zT := by decide +kernel
set_option maxRecDepth 100000 in
theorem inX7 : ∀ w ∈ u_ws RX7 TX7 5, w ∈ zT := by decide +kernel
set_option maxRecDepth 100000 in
theorem inX8 : ∀ w ∈ u_ws RX8 TX8 13, w ∈ zT := by decide +kernel
set_option maxRecDepth 100000 in
theorem inX9 : ∀ w ∈ u_ws RX9 TX9 11, w ∈ zT := by decide +kernel
set_option maxRecDepth 100000 in
theorem inX10 : ∀ w ∈ u_ws RX10 TX10 49, w ∈ zT := by decide +kernel
def zcl : List vw_C := [(RX0, TX0, 4), (RX1, TX1, 3), (RX2, TX2, 5), (RX3, TX3, 2), (RX4, TX4, 6), (RX5, TX5, 3), (RX6, TX6, 3), (RX7, TX7, 5), (RX8, TX8, 13), (RX9, TX9, 11), (RX10, TX10, 49)]
def zft (ci : Nat) : Nat → FieldType := match ci with
  | 0 => tyX0
  | 1 => tyX1
  | 2 => tyX2
  | 3 => tyX3
  | 4 => tyX4
  | 5 => tyX5
  | 6 => tyX6
  | 7 => tyX7
  | 8 => tyX8
  | 9 => tyX9
  | _ => tyX10
theorem zcl_ok : ∀ (ci : Nat) (r : vw_C), zcl[ci]? = some r → (∀ w ∈ u_ws r.1 r.2.1 r.2.2, w ∈ zT) ∧ (∀ k, k < r.2.2 → parseFieldDescriptor (r.2.1 k).2.2.1 = some (zft ci k)) ∧ (∀ a, a < r.2.2 → ∀ b, b < r.2.2 → a ≠ b → (r.2.1 a).2.1 ≠ (r.2.1 b).2.1) := by
  intro ci r h
  match ci, h with
  | 0, h => cases h; exact ⟨inX0, tyX0_ok, nmX0⟩
  | 1, h => cases h; exact ⟨inX1, tyX1_ok, nmX1⟩
  | 2, h => cases h; exact ⟨inX2, tyX2_ok, nmX2⟩
  | 3, h => cases h; exact ⟨inX3, tyX3_ok, nmX3⟩
  | 4, h => cases h; exact ⟨inX4, tyX4_ok, nmX4⟩
  | 5, h => cases h; exact ⟨inX5, tyX5_ok, nmX5⟩
  | 6, h => cases h; exact ⟨inX6, tyX6_ok, nmX6⟩
  | 7, h => cases h; exact ⟨inX7, tyX7_ok, nmX7⟩
  | 8, h => cases h; exact ⟨inX8, tyX8_ok, nmX8⟩
  | 9, h => cases h; exact ⟨inX9, tyX9_ok, nmX9⟩
  | 10, h => cases h; exact ⟨inX10, tyX10_ok, nmX10⟩
  | k + 11, h => simp [zcl] at h
def SH : List (Nat ⊕ (FieldType × Nat)) := [.inl 9, .inl 8, .inr (.array .int, 32), .inr (.int, 6), .inr (.int, 6), .inr (.int, 6), .inr (.int, 6), .inr (.int, 6), .inr (.int, 6), .inr (.int, 6), .inr (.int, 6), .inr (.int, 6), .inr (.int, 6), .inr (.int, 6), .inr (.int, 6), .inr (.int, 6), .inr (.int, 6), .inr (.int, 6), .inr (.int, 6), .inr (.int, 6), .inr (.int, 6), .inr (.int, 6), .inr (.int, 6), .inr (.int, 6), .inr (.int, 6), .inr (.int, 6), .inr (.int, 6), .inr (.int, 6), .inr (.int, 6), .inr (.int, 6), .inr (.int, 6), .inr (.int, 6), .inr (.int, 6), .inr (.int, 6), .inr (.int, 6), .inr (.array .int, 32), .inr (.int, 6), .inr (.int, 6), .inr (.int, 6), .inr (.int, 6), .inr (.int, 6), .inr (.int, 6), .inr (.int, 6), .inr (.int, 6), .inr (.int, 6), .inr (.int, 6), .inr (.int, 6), .inr (.int, 6), .inr (.int, 6), .inr (.int, 6), .inr (.int, 6), .inr (.int, 6), .inr (.int, 6), .inr (.int, 6), .inr (.int, 6), .inr (.int, 6), .inr (.int, 6), .inr (.int, 6), .inr (.int, 6), .inr (.int, 6), .inr (.int, 6), .inr (.int, 6), .inr (.int, 6), .inr (.int, 6), .inr (.int, 6), .inr (.int, 6), .inr (.int, 6), .inr (.int, 6), .inr (.int, 32), .inr (.boolean, 32), .inr (.int, 32), .inr (.long, 32), .inr (.int, 5), .inr (.int, 6), .inl 2, .inr (.object "PutOn$Clock", 6), .inr (.object "PutOn$Doer", 5), .inl 0, .inl 0, .inl 0, .inl 0, .inl 0, .inl 0, .inl 1, .inl 1, .inl 1, .inl 1, .inl 1, .inl 7, .inr (.int, 160), .inr (.int, 3), .inr (.int, 160), .inl 2, .inr (.object "PutOn$Clock", 6), .inr (.object "PutOn$Doer", 5), .inl 0, .inl 0, .inl 0, .inl 0, .inl 0, .inl 0, .inl 1, .inl 1, .inl 1, .inl 1, .inl 1, .inr (.object "PutOn$Text", 6), .inr (.int, 160), .inl 4, .inr (.int, 161), .inr (.int, 161), .inr (.int, 161), .inl 7, .inr (.int, 160), .inr (.int, 3), .inr (.int, 160), .inl 3, .inl 6, .inr (.int, 32), .inr (.long, 32), .inr (.boolean, 64), .inr (.object "PutOn$Sheet", 4), .inl 7, .inr (.int, 160), .inr (.int, 3), .inr (.int, 160), .inl 7, .inr (.int, 160), .inr (.int, 3), .inr (.int, 160), .inl 7, .inr (.int, 160), .inr (.int, 3), .inr (.int, 160), .inl 7, .inr (.int, 160), .inr (.int, 3), .inr (.int, 160), .inl 7, .inr (.int, 160), .inr (.int, 3), .inr (.int, 160), .inl 7, .inr (.int, 160), .inr (.int, 3), .inr (.int, 160), .inl 5, .inr (.int, 40), .inl 5, .inr (.int, 40), .inl 5, .inr (.int, 40), .inl 5, .inr (.int, 40), .inl 10, .inr (.int, 960), .inr (.int, 6), .inr (.int, 160), .inr (.int, 6), .inr (.int, 6), .inr (.int, 6), .inr (.int, 6), .inr (.int, 5), .inr (.int, 5), .inr (.int, 5), .inr (.int, 192), .inr (.int, 192), .inr (.long, 32), .inr (.int, 32), .inr (.int, 32), .inr (.int, 32), .inr (.int, 24), .inr (.int, 10), .inr (.boolean, 4), .inr (.int, 4), .inr (.int, 4), .inr (.int, 160)]
def NF : Nat := 177
theorem SH_len : SH.length = NF := by decide +kernel
def zsz (x : Nat ⊕ (FieldType × Nat)) : Nat := match x with
  | .inl ci => match zcl[ci]? with
    | some r => r.2.2
    | none => 0
  | .inr a => a.2
def zs (n : Nat) : Nat := ((SH.take n).map zsz).sum
-- P = 0
-- W = 1
-- AT = 2
-- DN = 35
-- RI = 68
-- FI = 69
-- TI = 70
-- CH = 71
-- CM = 72
-- NM = 73
-- H = 74
-- T0 = 88
-- K = 92
-- TX = 106
-- TP = 107
-- RD = 108
-- RT = 109
-- RP = 110
-- RE = 111
-- TR = 112
-- KN = 116
-- SU = 117
-- SK = 118
-- SS = 119
-- BL = 120
-- SHS = 121
-- T1 = 122
-- S1 = 146
-- M = 154
-- Mtexts = 155
-- MtextSize = 156
-- Mtape = 157
-- Moffs = 158
-- Mrooms = 159
-- Mselfs = 160
-- Msaw = 161
-- Mkinds = 162
-- Mnumbers = 163
-- MwaysOf = 164
-- MatRow = 165
-- MdoneRow = 166
-- Mchances = 167
-- MrightRow = 168
-- MfitRow = 169
-- MtimeRow = 170
-- MclocksKept = 171
-- MdoersKept = 172
-- MisThere = 173
-- Msorts = 174
-- MsheetSize = 175
-- Mitems = 176
end
section
-- THE LAYER: a memory of ints, longs, references by the cell's number and the slot; judgements Go (from a place in a method) and Call over it
abbrev Mm : Type := (Nat → Nat → Int32) × (Nat → Nat → Int64) × (Nat → Nat → Option Nat)
def u2 {α : Type} (f : Nat → Nat → α) (i k : Nat) (x : α) : Nat → Nat → α := fun a b => if a = i ∧ b = k then x else f a b
def mI (w : Mm) (i k : Nat) (x : Int32) : Mm := (u2 w.1 i k x, w.2.1, w.2.2)
def mJ (w : Mm) (i k : Nat) (x : Int64) : Mm := (w.1, u2 w.2.1 i k x, w.2.2)
def mR (w : Mm) (i k : Nat) (x : Option Nat) : Mm := (w.1, w.2.1, u2 w.2.2 i k x)
theorem u2_same {α : Type} (f : Nat → Nat → α) (i k : Nat) (x : α) : u2 f i k x i k = x := if_pos ⟨rfl, rfl⟩
theorem u2_cell {α : Type} (f : Nat → Nat → α) {i j : Nat} (k : Nat) (x : α) (h : j ≠ i) (b : Nat) : u2 f i k x j b = f j b := if_neg (fun q => h q.1)
theorem u2_slot {α : Type} (f : Nat → Nat → α) (i : Nat) {k b : Nat} (x : α) (h : b ≠ k) (j : Nat) : u2 f i k x j b = f j b := if_neg (fun q => h q.2)
abbrev zG : Type := va_G × (FieldType → ClassId) × Nat × (Nat → Nat)
/-- the address of a cell; from 100000 on what was there before -/
def ad (g : zG) (i : Nat) : Nat := if i < 100000 then g.2.2.1 + i else g.2.2.2 (i - 100000)
def zv (g : zG) (v : Value) : Value := match v with
  | .ref i => .ref (ad g i)
  | v => v
theorem zv_cat (g : zG) (v : Value) : (zv g v).category = v.category := by cases v <;> rfl
def zl (g : zG) (q : Nat × Value) : Nat × Value := (q.1, zv g q.2)
def fv (g : zG) (w : Mm) (ty : FieldType) (i k : Nat) : Value := match ty with
  | .long => .long (w.2.1 i k)
  | .object _ => va_rf ((w.2.2 i k).map (ad g))
  | .array _ => va_rf ((w.2.2 i k).map (ad g))
  | _ => .int (w.1 i k)
def cellAt (g : zG) (w : Mm) (i : Nat) (H : Heap) : Prop := match SH[i]? with
  | some (.inl ci) => ∃ r : vw_C, zcl[ci]? = some r ∧ t_OB (g.2.2.1 + i) (g.1.1 ci) r.2.2 (g.1.2 ci) H (fun k => fv g w (zft ci k) i k)
  | some (.inr a) => H[g.2.2.1 + i]? = some (arrV (g.2.1 a.1) a.2 (fun k => fv g w a.1 i k))
  | none => False
def zP (g : zG) (n : Nat) (w : Mm) (H : Heap) : Prop := H.size = g.2.2.1 + n ∧ n ≤ NF ∧ ∀ i, i < n → cellAt g w i H
def zA (g : zG) : Nat → Prop := fun q => g.2.2.1 ≤ q
def zat : List FieldType := [.int, .long, .boolean, .array .int, .object "PutOn$Clock", .object "PutOn$Doer", .object "PutOn$Text", .object "PutOn$Sheet"]
def zNest : Cond → Bool
  | .fieldLinkNest .. => true
  | .methodLinkNest .. => true
  | _ => false
def stN : Nat → String
  | 0 => "LEAST"
  | 1 => "MOST"
  | _ => "ABOVE"
def stV : Nat → Nat → Int32
  | 0 => fun k => [-120, 0, 0, -1, 0, 0].getD k 0
  | 1 => fun k => [120, 5, 1, 1439, 9, 63].getD k 0
  | _ => fun k => [-1, 0, 0, 1, 2, 0].getD k 0
/-- what was there before: the static rows of ints -/
def sLen : List Nat := [5, 3, 4, 3, 4, 5, 4, 4, 5, 2, 3, 3]
def sByt : List (List Int32) := [[99, 108, 111, 99, 107], [119, 104, 111], [114, 111, 111, 109], [111, 102, 102], [100, 111, 110, 101], [114, 111, 111, 109, 115], [99, 97, 109, 101], [97, 100, 100, 115], [109, 105, 110, 100, 115], [111, 114], [97, 110, 100], [110, 111, 116]]
def sTx : List String := ["clock", "who", "room", "off", "done", "rooms", "came", "adds", "minds", "or", "and", "not"]
def bfT : String := "Ljava/util/function/BiFunction;"
def prC : String := "jdk/internal/util/Preconditions"
def zS (g : zG) (U : State) (H : Heap) : Prop := vk_S 12 sLen sByt (fun j => ad g (100010 + j)) (fun j => ad g (100030 + j)) (zA g) U H ∧ (∀ j, j < 12 → vk_R "PutOn$Reader" (94 + 2 * j) (sTx.getD j "") (ad g (100010 + j)) U) ∧ va_Z "java/lang/String" "COMPACT_STRINGS" "Z" (.int 1) (zA g) U H ∧ (va_Z prC "SIOOBE_FORMATTER" bfT .null (zA g) U H ∨ va_Z prC "SIOOBE_FORMATTER" bfT (.ref (ad g 100050)) (zA g) U H)
def zX (g : zG) (U : State) (H : Heap) : Prop := (∀ j, j < 3 → va_Z "PutOn" (stN j) "[I" (.ref (ad g (100000 + j))) (zA g) U H ∧ va_T .int (ad g (100000 + j)) 6 (fun k => .int (stV j k)) (zA g) U H) ∧ zS g U H
/-- the class of rows of rows of ints -/
def zII (U : State) : Prop := ∃ (cA cI : ClassId) (k : Class), U.vm.findClass ("[" ++ (FieldType.array .int).toString) = some cA ∧ U.vm.classes[cA]? = some k ∧ k.kind = .array cI (.array .int) ∧ U.vm.findClass (FieldType.array .int).toString = some cI
theorem zII.moved {u U : State} (hvm : u.vm.Alike U.vm) (h : zII u) : zII U := by
  obtain ⟨cA, cI, k, h1, h2, h3, h4⟩ := h
  obtain ⟨k', hk', he⟩ := hvm.2.2 _ _ h2
  exact ⟨cA, cI, k', by rw [hvm.findClass]; exact h1, hk', by rw [he]; exact h3, by rw [hvm.findClass]; exact h4⟩
def zK (g : zG) (U : State) : Prop := va_K g.1 zcl [] U ∧ (∀ ty ∈ zat, ArrOfT U (g.2.1 ty) ty ∧ va_RA U (g.2.1 ty) ty) ∧ (∀ w ∈ lw_tbl, zNest w = true → va_Nw w U) ∧ (∀ C : String, Cond.arrayOver (.object C) ∈ lw_tbl → va_AO C U) ∧ zII U
theorem zK.warm {g : zG} {s U : State} (hW : s.WarmedH U.vm) (h : zK g s) : zK g U := by
  obtain ⟨h1, h2, h3, h4, h5⟩ := h
  refine ⟨va_K.moved hW.alike h1, fun ty ht => ⟨arrOfT_moved hW.alike (h2 ty ht).1, (h2 ty ht).2.moved hW.alike⟩, fun w hw hz => ?_, fun C hC => va_AO.moved hW.alike (h4 C hC), zII.moved hW.alike h5⟩
  have h6 := h3 w hw hz
  cases w <;> first | exact va_Nw.warmF hW h6 | exact va_Nw.warmM hW h6 | (simp [zNest] at hz)
theorem zX.warm {g : zG} {s U : State} {H : Heap} (hW : s.WarmedH U.vm) (h : zX g s H) : zX g U H := ⟨fun j hj => ⟨va_Z.moved hW.alike (h.1 j hj).1, va_T.moved hW.alike (h.1 j hj).2⟩, h.2.1.moved hW.alike, fun j hj => vk_R.warm hW (h.2.2.1 j hj), va_Z.moved hW.alike h.2.2.2.1, h.2.2.2.2.imp (va_Z.moved hW.alike) (va_Z.moved hW.alike)⟩
theorem zX.kept {g : zG} {U : State} {H H1 : Heap} (h : zX g U H) (hq : ∀ a : Nat, a < H.size → ¬ zA g a → H1[a]? = H[a]?) : zX g U H1 := ⟨fun j hj => ⟨va_Z.kept (h.1 j hj).1 hq, va_T.kept (h.1 j hj).2 hq⟩, h.2.1.kept hq, h.2.2.1, va_Z.kept h.2.2.2.1 hq, h.2.2.2.2.imp (fun z => va_Z.kept z hq) (fun z => va_Z.kept z hq)⟩
/-- a method: its name, code, words of locals, the type that it answers -/
abbrev zM : Type := MethodName × ByteArray × Nat × Option FieldType
def zC (d : Nat) (M : zM) (n0 nE : Nat) (p : Program) (R : Room) (s : State) (m : MethodId) (args : Array Value) (meth : Method) (c : Code) (g : zG) : Prop :=
  p.tables.exec = Jvm.exec ∧ c.code = M.2.1 ∧ c.maxLocals = M.2.2.1 ∧ s.vm.findClass M.1.cls = some m.cls ∧ (∀ w ∈ zT, w.before args s = true) ∧ (zK g s ∧ zX g s s.heap) ∧ (d ≤ R.frames ∧ 45 * d ≤ R.locals ∧ nE - n0 ≤ R.cells ∧ zs nE - zs n0 ≤ R.slots ∧ n0 ≤ nE) ∧ (M.1.name = "<init>" → meth.name = "<init>") ∧ g.2.2.1 ≤ s.heap.size
def zR (M : zM) (pc : Nat) (r : Option Value) : Prop := match r with
  | none => M.2.2.2 = none ∧ decode M.2.1 pc = .ok (.return_, 1)
  | some (.int x) => decode M.2.1 pc = .ok (.ireturn, 1) ∧ ∃ ty, M.2.2.2 = some ty ∧ narrow ty (.int x) = .int x
  | some (.long _) => decode M.2.1 pc = .ok (.lreturn, 1) ∧ M.2.2.2 = some .long
  | some (.ref _) => decode M.2.1 pc = .ok (.areturn, 1) ∧ ∃ C, M.2.2.2 = some (.object C)
  | _ => False
def zE (M : zM) (n0 nE : Nat) (g : zG) (p : Program) (l : Launch) (e : Env) (R : Room) (s : State) (m : MethodId) (args : Array Value) (below : List Frame) (meth : Method) (c : Code) (Z : State → Prop) (Q : Option Value → Mm → Prop) : Prop :=
  ∀ (r : Option Value) (w : Mm) (H : Heap) (locs : List Loc) (ls : Array Slot) (pc : Nat), zP g nE w H → va_S (zA g) s.heap H locs → Q r w → zR M pc r → W p l e R s m args below meth c H locs (nE - n0) (zs nE - zs n0) Z (F0 m pc ls ((r.map (zv g)).toList))
/-- from this place the method comes to its end, and Q holds of its answer and the memory then -/
def Go (d : Nat) (M : zM) (n0 nE n : Nat) (pc : Nat) (L : List (Nat × Value)) (S : List Value) (w : Mm) (Q : Option Value → Mm → Prop) : Prop :=
  ∀ (p : Program) (l : Launch) (e : Env) (R : Room) (s : State) (m : MethodId) (args : Array Value) (below : List Frame) (meth : Method) (c : Code) (g : zG) (Z : State → Prop),
    zC d M n0 nE p R s m args meth c g → zE M n0 nE g p l e R s m args below meth c Z Q →
    ∀ (H : Heap) (locs : List Loc) (ls : Array Slot), zP g n w H → va_S (zA g) s.heap H locs → lv_has ls M.2.2.1 (L.map (zl g)) →
      W p l e R s m args below meth c H locs (n - n0) (zs n - zs n0) Z (F0 m pc ls (S.map (zv g)))
def zws (M : zM) : List Cond := Cond.code M.1 M.2.1 M.2.2.1 M.2.2.2 :: zT
def zrm (d n0 nE : Nat) : Room := { frames := d, cells := nE - n0, slots := zs nE - zs n0, locals := 45 * d }
def zQc (g : zG) (nE : Nat) (Q : Option Value → Mm → Prop) : Array Value → State → Outcome → State → Prop := fun _ st o t =>
  (∃ (r : Option Value) (w : Mm), o = .returned (r.map (zv g)) ∧ Q r w ∧ zP g nE w t.heap) ∧ va_F (zA g) st t
def zPc (g : zG) (n0 : Nat) (as : List Value) (w : Mm) : Array Value → State → Prop := va_Pc (as.map (zv g)) (fun U => (zK g U ∧ zX g U U.heap) ∧ zP g n0 w U.heap)
/-- the method, called with these arguments, returns, and Q holds of its answer and the memory then -/
def Call (d : Nat) (M : zM) (n0 nE : Nat) (as : List Value) (w : Mm) (Q : Option Value → Mm → Prop) : Prop :=
  n0 ≤ nE ∧ ∀ (l : Launch) (g : zG), Met l M.1 (zws M) (zrm d n0 nE) (zPc g n0 as w) (zQc g nE Q) (nE - n0) (zs nE - zs n0) (zA g)
theorem lv_args_map (g : zG) : ∀ (as : List Value) (i : Nat), lv_args i (as.map (zv g)) = (lv_args i as).map (zl g)
  | [], _ => rfl
  | v :: as, i => by
    simp only [List.map_cons, lv_args, zv_cat, lv_args_map g as]
    rfl
theorem lg_sl_map (g : zG) (as : List Value) : (lg_sl (as.map (zv g))).length = (lg_sl as).length := by
  induction as with
  | nil => rfl
  | cons v as ih =>
    simp only [lg_sl, List.map_cons, List.flatMap_cons, List.length_append, zv_cat] at ih ⊢
    rw [ih]
    congr 1
    split <;> rfl
set_option maxHeartbeats 1000000 in
theorem call_of_go {d : Nat} {M : zM} {n0 nE : Nat} {as : List Value} {w : Mm} {Q : Option Value → Mm → Prop} (hn : n0 ≤ nE) (hp : plainName M.1.cls = true) (hla : (lg_sl as).length ≤ M.2.2.1) (h : Go d M n0 nE n0 0 (lv_args 0 as) [] w Q) : Call d M n0 nE as w Q := by
  refine ⟨hn, fun l g => ?_⟩
  refine Met.ofW (cc := M.2.1) (maxL := M.2.2.1) (ret := M.2.2.2) hp rfl ?_
  intro p e s m args below meth c s₁ B hml hv
  obtain ⟨rfl, hK, hP⟩ := hv
  have hx := B.exec
  have hb := B.bytes
  have hr := B.returns
  have hts := atoms_spec (ws := zws M) B.pre
  have hown : s.vm.findClass M.1.cls = some m.cls := findClass_of_methodNamed B.named
  have hlocks := B.notSynchronized
  have hin : meth.name = M.1.name := (name_of_methodNamed B.named B.method).1
  have hl := lv_entry (as.map (zv g)) (n := M.2.2.1) (by rw [lg_sl_map]; exact hla)
  rw [lg_entry_eq]
  generalize (lg_sl (as.map (zv g)) ++ List.replicate (M.2.2.1 - (lg_sl (as.map (zv g))).length) Slot.unset).toArray = ls at hl ⊢
  have hG := h p l e (headSpec (zws M) (zrm d n0 nE)).room s m (as.map (zv g)).toArray below meth c g (MQ below (zQc g nE Q) (as.map (zv g)).toArray s (nE - n0) (zs nE - zs n0) (zA g))
    ⟨hx, hb, hml, hown, fun w hw => hts w (List.mem_cons_of_mem _ hw), hK, ⟨Nat.le_refl _, Nat.le_refl _, Nat.le_refl _, Nat.le_refl _, hn⟩, fun q => hin.trans q, by rw [hP.1]; omega⟩ ?_ s.heap [] ls hP va_S.rf (by rw [← lv_args_map]; exact hl)
  · rw [Nat.sub_self, Nat.sub_self] at hG
    exact hG
  · intro r w' H locs ls pc hP' hS hQ hR
    match r, hR with
    | none, hR => exact W.vret hx hb (hr.trans hR.1) (fun t ht _ => ⟨⟨none, w', rfl, hQ, by rw [ht]; exact hP'⟩, hS.F ht⟩) hS.2.2 hR.2
    | some (.int x), hR =>
      obtain ⟨h1, ty, h2, h3⟩ := hR
      exact W.zret hx hb (hr.trans h2) h3 (fun t ht _ => ⟨⟨some (.int x), w', rfl, hQ, by rw [ht]; exact hP'⟩, hS.F ht⟩) hS.2.2 h1
    | some (.long x), hR => exact W.lret hx hb (hr.trans hR.2) (fun t ht _ => ⟨⟨some (.long x), w', rfl, hQ, by rw [ht]; exact hP'⟩, hS.F ht⟩) hS.2.2 hR.1
    | some (.ref a), hR =>
      obtain ⟨h1, C, h2⟩ := hR
      exact W.aret hx hb (hr.trans h2) (Or.inl ⟨C, rfl⟩) (Or.inr ⟨_, rfl⟩) (fun t ht _ => ⟨⟨some (.ref a), w', rfl, hQ, by rw [ht]; exact hP'⟩, hS.F ht⟩) hS.2.2 h1
end
section
def zd (M : zM) (pc : Nat) (i : Instr) (len q : Nat) : Prop := decode M.2.1 pc = .ok (i, len) ∧ pc + len = q
theorem zl_at {g : zG} {ls : Array Slot} {nL : Nat} {L : List (Nat × Value)} (h : lv_has ls nL (L.map (zl g))) {j i : Nat} {v : Value} (hl : L[j]? = some (i, v)) : ls[i]? = some (.val (zv g v)) :=
  h.2.2 (i, zv g v) (List.mem_map.mpr ⟨(i, v), List.mem_of_getElem? hl, rfl⟩)
def zset1 (L : List (Nat × Value)) (i : Nat) (v : Value) : List (Nat × Value) := (i, v) :: L.filter (fun q => !(q.1 == i) && !(q.1 + 1 == i && q.2.category == 2))
def zset2 (L : List (Nat × Value)) (i : Nat) (v : Value) : List (Nat × Value) := (i, v) :: L.filter (fun q => !(q.1 == i) && (!(q.1 == i + 1) && !(q.1 + 1 == i && q.2.category == 2)))
theorem zset1_map (g : zG) (L : List (Nat × Value)) (i : Nat) (v : Value) : (i, zv g v) :: (L.map (zl g)).filter (fun q => !(q.1 == i) && !(q.1 + 1 == i && q.2.category == 2)) = (zset1 L i v).map (zl g) := by
  unfold zset1
  rw [List.map_cons, List.filter_map]
  refine congr (congrArg List.cons rfl) (congrArg (List.map (zl g)) (List.filter_congr fun q _ => ?_))
  show (!((zl g q).1 == i) && !((zl g q).1 + 1 == i && (zl g q).2.category == 2)) = _
  rw [show (zl g q).2.category = q.2.category from zv_cat g q.2]
  rfl
theorem zset2_map (g : zG) (L : List (Nat × Value)) (i : Nat) (v : Value) : (i, zv g v) :: (L.map (zl g)).filter (fun q => !(q.1 == i) && (!(q.1 == i + 1) && !(q.1 + 1 == i && q.2.category == 2))) = (zset2 L i v).map (zl g) := by
  unfold zset2
  rw [List.map_cons, List.filter_map]
  refine congr (congrArg List.cons rfl) (congrArg (List.map (zl g)) (List.filter_congr fun q _ => ?_))
  show (!((zl g q).1 == i) && (!((zl g q).1 == i + 1) && !((zl g q).1 + 1 == i && (zl g q).2.category == 2))) = _
  rw [show (zl g q).2.category = q.2.category from zv_cat g q.2]
  rfl
/-- fewer locals -/
theorem g_sub {d : Nat} {M : zM} {n0 nE n pc : Nat} {L : List (Nat × Value)} {S : List Value} {w : Mm} {Q : Option Value → Mm → Prop} {L' : List (Nat × Value)} (ks : List Nat) (hk : lv_pick L ks = L') (k : Go d M n0 nE n pc L' S w Q) : Go d M n0 nE n pc L S w Q := by
  intro p l e R s m args below meth c g Z hC hE H locs ls hP hS hl
  refine k p l e R s m args below meth c g Z hC hE H locs ls hP hS ⟨hl.1, hl.2.1, fun q hq => ?_⟩
  obtain ⟨a, ha, rfl⟩ := List.mem_map.mp hq
  rw [← hk] at ha
  obtain ⟨j, -, hj⟩ := List.mem_filterMap.mp ha
  exact hl.2.2 _ (List.mem_map.mpr ⟨a, List.mem_of_getElem? hj, rfl⟩)

theorem g_iload {d : Nat} {M : zM} {n0 nE n pc q : Nat} {L : List (Nat × Value)} {S : List Value} {w : Mm} {Q : Option Value → Mm → Prop} {i : Nat} {x : Int32} (j : Nat) (hd : zd M pc (.iload i) 2 q) (hl0 : L[j]? = some (i, .int x)) (k : Go d M n0 nE n q L (.int x :: S) w Q) : Go d M n0 nE n pc L (S) w Q := by
  obtain ⟨hd, rfl⟩ := hd
  intro p l e R s m args below meth c g Z hC hE H locs ls hP hS hl
  obtain ⟨hx, hb, -⟩ := id hC
  exact lv_iload hx hb hd (zl_at hl hl0) (k p l e R s m args below meth c g Z hC hE H locs ls hP hS hl)
theorem g_iload_n {d : Nat} {M : zM} {n0 nE n pc q : Nat} {L : List (Nat × Value)} {S : List Value} {w : Mm} {Q : Option Value → Mm → Prop} {k0 : Fin 4} {i : Nat} {x : Int32} (j : Nat) (hd : zd M pc (.iload_n k0) 1 q) (hi : (k0 : Nat) = i) (hl0 : L[j]? = some (i, .int x)) (k : Go d M n0 nE n q L (.int x :: S) w Q) : Go d M n0 nE n pc L (S) w Q := by
  obtain ⟨hd, rfl⟩ := hd
  intro p l e R s m args below meth c g Z hC hE H locs ls hP hS hl
  obtain ⟨hx, hb, -⟩ := id hC
  exact lv_iload_n hx hb hd hi (zl_at hl hl0) (k p l e R s m args below meth c g Z hC hE H locs ls hP hS hl)
theorem g_lload {d : Nat} {M : zM} {n0 nE n pc q : Nat} {L : List (Nat × Value)} {S : List Value} {w : Mm} {Q : Option Value → Mm → Prop} {i : Nat} {x : Int64} (j : Nat) (hd : zd M pc (.lload i) 2 q) (hl0 : L[j]? = some (i, .long x)) (k : Go d M n0 nE n q L (.long x :: S) w Q) : Go d M n0 nE n pc L (S) w Q := by
  obtain ⟨hd, rfl⟩ := hd
  intro p l e R s m args below meth c g Z hC hE H locs ls hP hS hl
  obtain ⟨hx, hb, -⟩ := id hC
  exact lv_lload hx hb hd (zl_at hl hl0) (k p l e R s m args below meth c g Z hC hE H locs ls hP hS hl)
theorem g_lload_n {d : Nat} {M : zM} {n0 nE n pc q : Nat} {L : List (Nat × Value)} {S : List Value} {w : Mm} {Q : Option Value → Mm → Prop} {k0 : Fin 4} {i : Nat} {x : Int64} (j : Nat) (hd : zd M pc (.lload_n k0) 1 q) (hi : (k0 : Nat) = i) (hl0 : L[j]? = some (i, .long x)) (k : Go d M n0 nE n q L (.long x :: S) w Q) : Go d M n0 nE n pc L (S) w Q := by
  obtain ⟨hd, rfl⟩ := hd
  intro p l e R s m args below meth c g Z hC hE H locs ls hP hS hl
  obtain ⟨hx, hb, -⟩ := id hC
  exact lv_lload_n hx hb hd hi (zl_at hl hl0) (k p l e R s m args below meth c g Z hC hE H locs ls hP hS hl)
theorem g_aload {d : Nat} {M : zM} {n0 nE n pc q : Nat} {L : List (Nat × Value)} {S : List Value} {w : Mm} {Q : Option Value → Mm → Prop} {i : Nat} {x : Nat} (j : Nat) (hd : zd M pc (.aload i) 2 q) (hl0 : L[j]? = some (i, .ref x)) (k : Go d M n0 nE n q L (.ref x :: S) w Q) : Go d M n0 nE n pc L (S) w Q := by
  obtain ⟨hd, rfl⟩ := hd
  intro p l e R s m args below meth c g Z hC hE H locs ls hP hS hl
  obtain ⟨hx, hb, -⟩ := id hC
  exact lv_aload hx hb hd (zl_at hl hl0) (k p l e R s m args below meth c g Z hC hE H locs ls hP hS hl)
theorem g_aload_n {d : Nat} {M : zM} {n0 nE n pc q : Nat} {L : List (Nat × Value)} {S : List Value} {w : Mm} {Q : Option Value → Mm → Prop} {k0 : Fin 4} {i : Nat} {x : Nat} (j : Nat) (hd : zd M pc (.aload_n k0) 1 q) (hi : (k0 : Nat) = i) (hl0 : L[j]? = some (i, .ref x)) (k : Go d M n0 nE n q L (.ref x :: S) w Q) : Go d M n0 nE n pc L (S) w Q := by
  obtain ⟨hd, rfl⟩ := hd
  intro p l e R s m args below meth c g Z hC hE H locs ls hP hS hl
  obtain ⟨hx, hb, -⟩ := id hC
  exact lv_aload_n hx hb hd hi (zl_at hl hl0) (k p l e R s m args below meth c g Z hC hE H locs ls hP hS hl)
theorem g_istore {d : Nat} {M : zM} {n0 nE n pc q : Nat} {L : List (Nat × Value)} {S : List Value} {w : Mm} {Q : Option Value → Mm → Prop} {i : Nat} {x : Int32} {L' : List (Nat × Value)} (hd : zd M pc (.istore i) 2 q) (hn : i < M.2.2.1) (hL : zset1 L i (.int x) = L') (k : Go d M n0 nE n q L' S w Q) : Go d M n0 nE n pc L (.int x :: S) w Q := by
  obtain ⟨hd, rfl⟩ := hd
  intro p l e R s m args below meth c g Z hC hE H locs ls hP hS hl
  obtain ⟨hx, hb, -⟩ := id hC
  subst hL
  exact lv_istore hx hb hd hl hn (zset1_map g L i (.int x)) (fun ls hl => k p l e R s m args below meth c g Z hC hE H locs ls hP hS hl)
theorem g_istore_n {d : Nat} {M : zM} {n0 nE n pc q : Nat} {L : List (Nat × Value)} {S : List Value} {w : Mm} {Q : Option Value → Mm → Prop} {k0 : Fin 4} {i : Nat} {x : Int32} {L' : List (Nat × Value)} (hd : zd M pc (.istore_n k0) 1 q) (hi : (k0 : Nat) = i) (hn : i < M.2.2.1) (hL : zset1 L i (.int x) = L') (k : Go d M n0 nE n q L' S w Q) : Go d M n0 nE n pc L (.int x :: S) w Q := by
  obtain ⟨hd, rfl⟩ := hd
  intro p l e R s m args below meth c g Z hC hE H locs ls hP hS hl
  obtain ⟨hx, hb, -⟩ := id hC
  subst hL
  exact lv_istore_n hx hb hd hi hl hn (zset1_map g L i (.int x)) (fun ls hl => k p l e R s m args below meth c g Z hC hE H locs ls hP hS hl)
theorem g_lstore {d : Nat} {M : zM} {n0 nE n pc q : Nat} {L : List (Nat × Value)} {S : List Value} {w : Mm} {Q : Option Value → Mm → Prop} {i : Nat} {x : Int64} {L' : List (Nat × Value)} (hd : zd M pc (.lstore i) 2 q) (hn : i + 1 < M.2.2.1) (hL : zset2 L i (.long x) = L') (k : Go d M n0 nE n q L' S w Q) : Go d M n0 nE n pc L (.long x :: S) w Q := by
  obtain ⟨hd, rfl⟩ := hd
  intro p l e R s m args below meth c g Z hC hE H locs ls hP hS hl
  obtain ⟨hx, hb, -⟩ := id hC
  subst hL
  exact lv_lstore hx hb hd hl hn (zset2_map g L i (.long x)) (fun ls hl => k p l e R s m args below meth c g Z hC hE H locs ls hP hS hl)
theorem g_lstore_n {d : Nat} {M : zM} {n0 nE n pc q : Nat} {L : List (Nat × Value)} {S : List Value} {w : Mm} {Q : Option Value → Mm → Prop} {k0 : Fin 4} {i : Nat} {x : Int64} {L' : List (Nat × Value)} (hd : zd M pc (.lstore_n k0) 1 q) (hi : (k0 : Nat) = i) (hn : i + 1 < M.2.2.1) (hL : zset2 L i (.long x) = L') (k : Go d M n0 nE n q L' S w Q) : Go d M n0 nE n pc L (.long x :: S) w Q := by
  obtain ⟨hd, rfl⟩ := hd
  intro p l e R s m args below meth c g Z hC hE H locs ls hP hS hl
  obtain ⟨hx, hb, -⟩ := id hC
  subst hL
  exact lv_lstore_n hx hb hd hi hl hn (zset2_map g L i (.long x)) (fun ls hl => k p l e R s m args below meth c g Z hC hE H locs ls hP hS hl)
theorem g_astore {d : Nat} {M : zM} {n0 nE n pc q : Nat} {L : List (Nat × Value)} {S : List Value} {w : Mm} {Q : Option Value → Mm → Prop} {i : Nat} {x : Nat} {L' : List (Nat × Value)} (hd : zd M pc (.astore i) 2 q) (hn : i < M.2.2.1) (hL : zset1 L i (.ref x) = L') (k : Go d M n0 nE n q L' S w Q) : Go d M n0 nE n pc L (.ref x :: S) w Q := by
  obtain ⟨hd, rfl⟩ := hd
  intro p l e R s m args below meth c g Z hC hE H locs ls hP hS hl
  obtain ⟨hx, hb, -⟩ := id hC
  subst hL
  exact lv_astore hx hb hd hl hn (zset1_map g L i (.ref x)) (fun ls hl => k p l e R s m args below meth c g Z hC hE H locs ls hP hS hl)
theorem g_astore_n {d : Nat} {M : zM} {n0 nE n pc q : Nat} {L : List (Nat × Value)} {S : List Value} {w : Mm} {Q : Option Value → Mm → Prop} {k0 : Fin 4} {i : Nat} {x : Nat} {L' : List (Nat × Value)} (hd : zd M pc (.astore_n k0) 1 q) (hi : (k0 : Nat) = i) (hn : i < M.2.2.1) (hL : zset1 L i (.ref x) = L') (k : Go d M n0 nE n q L' S w Q) : Go d M n0 nE n pc L (.ref x :: S) w Q := by
  obtain ⟨hd, rfl⟩ := hd
  intro p l e R s m args below meth c g Z hC hE H locs ls hP hS hl
  obtain ⟨hx, hb, -⟩ := id hC
  subst hL
  exact lv_astore_n hx hb hd hi hl hn (zset1_map g L i (.ref x)) (fun ls hl => k p l e R s m args below meth c g Z hC hE H locs ls hP hS hl)
theorem g_iinc {d : Nat} {M : zM} {n0 nE n pc q : Nat} {L : List (Nat × Value)} {S : List Value} {w : Mm} {Q : Option Value → Mm → Prop} {i : Nat} {x v : Int32} {a : Int} {L' : List (Nat × Value)} (j : Nat) (hd : zd M pc (.iinc i a) 3 q) (hl0 : L[j]? = some (i, .int x)) (hv : x + Int32.ofInt a = v) (hn : i < M.2.2.1) (hL : zset1 L i (.int v) = L') (k : Go d M n0 nE n q L' S w Q) : Go d M n0 nE n pc L S w Q := by
  obtain ⟨hd, rfl⟩ := hd
  intro p l e R s m args below meth c g Z hC hE H locs ls hP hS hl
  obtain ⟨hx, hb, -⟩ := id hC
  subst hL
  exact lv_iinc (lv := L.map (zl g)) (k := j) hx hb hd hl (by rw [List.getElem?_map, hl0]; rfl) hv hn (zset1_map g L i (.int v)) (fun ls hl => k p l e R s m args below meth c g Z hC hE H locs ls hP hS hl)
theorem g_iconst {d : Nat} {M : zM} {n0 nE n pc q : Nat} {L : List (Nat × Value)} {S : List Value} {w : Mm} {Q : Option Value → Mm → Prop} {a : Int} (v : Int32) (hd : zd M pc (.iconst a) 1 q) (hv : Int32.ofInt a = v) (k : Go d M n0 nE n q L (.int v :: S) w Q) : Go d M n0 nE n pc L (S) w Q := by
  obtain ⟨hd, rfl⟩ := hd
  intro p l e R s m args below meth c g Z hC hE H locs ls hP hS hl
  obtain ⟨hx, hb, -⟩ := id hC
  exact lv_iconst hx hb hd hv (k p l e R s m args below meth c g Z hC hE H locs ls hP hS hl)
theorem g_bipush {d : Nat} {M : zM} {n0 nE n pc q : Nat} {L : List (Nat × Value)} {S : List Value} {w : Mm} {Q : Option Value → Mm → Prop} {a : Int} (v : Int32) (hd : zd M pc (.bipush a) 2 q) (hv : (Int8.ofInt a).toInt32 = v) (k : Go d M n0 nE n q L (.int v :: S) w Q) : Go d M n0 nE n pc L (S) w Q := by
  obtain ⟨hd, rfl⟩ := hd
  intro p l e R s m args below meth c g Z hC hE H locs ls hP hS hl
  obtain ⟨hx, hb, -⟩ := id hC
  exact lv_bipush hx hb hd hv (k p l e R s m args below meth c g Z hC hE H locs ls hP hS hl)
theorem g_sipush {d : Nat} {M : zM} {n0 nE n pc q : Nat} {L : List (Nat × Value)} {S : List Value} {w : Mm} {Q : Option Value → Mm → Prop} {a : Int} (v : Int32) (hd : zd M pc (.sipush a) 3 q) (hv : (Int16.ofInt a).toInt32 = v) (k : Go d M n0 nE n q L (.int v :: S) w Q) : Go d M n0 nE n pc L (S) w Q := by
  obtain ⟨hd, rfl⟩ := hd
  intro p l e R s m args below meth c g Z hC hE H locs ls hP hS hl
  obtain ⟨hx, hb, -⟩ := id hC
  exact lv_sipush hx hb hd hv (k p l e R s m args below meth c g Z hC hE H locs ls hP hS hl)
theorem g_lconst {d : Nat} {M : zM} {n0 nE n pc q : Nat} {L : List (Nat × Value)} {S : List Value} {w : Mm} {Q : Option Value → Mm → Prop} {a : Fin 2} (v : Int64) (hd : zd M pc (.lconst a) 1 q) (hv : Int64.ofNat (a : Nat) = v) (k : Go d M n0 nE n q L (.long v :: S) w Q) : Go d M n0 nE n pc L (S) w Q := by
  obtain ⟨hd, rfl⟩ := hd
  intro p l e R s m args below meth c g Z hC hE H locs ls hP hS hl
  obtain ⟨hx, hb, -⟩ := id hC
  exact lv_lconst hx hb hd hv (k p l e R s m args below meth c g Z hC hE H locs ls hP hS hl)
theorem g_ldc {d : Nat} {M : zM} {n0 nE n pc q : Nat} {L : List (Nat × Value)} {S : List Value} {w : Mm} {Q : Option Value → Mm → Prop} {a : Nat} {v : Int32} (hd : zd M pc (.ldc a) 2 q) (hc : Cond.constant M.1.cls a v ∈ zT) (k : Go d M n0 nE n q L (.int v :: S) w Q) : Go d M n0 nE n pc L (S) w Q := by
  obtain ⟨hd, rfl⟩ := hd
  intro p l e R s m args below meth c g Z hC hE H locs ls hP hS hl
  obtain ⟨hx, hb, -⟩ := id hC
  exact lv_ldc hx hb hC.2.2.2.1 (hC.2.2.2.2.1 _ hc) hd (k p l e R s m args below meth c g Z hC hE H locs ls hP hS hl)
theorem g_ldc2 {d : Nat} {M : zM} {n0 nE n pc q : Nat} {L : List (Nat × Value)} {S : List Value} {w : Mm} {Q : Option Value → Mm → Prop} {a : Nat} {v : Int64} (hd : zd M pc (.ldc2_w a) 3 q) (hc : Cond.constantLong M.1.cls a v ∈ zT) (k : Go d M n0 nE n q L (.long v :: S) w Q) : Go d M n0 nE n pc L (S) w Q := by
  obtain ⟨hd, rfl⟩ := hd
  intro p l e R s m args below meth c g Z hC hE H locs ls hP hS hl
  obtain ⟨hx, hb, -⟩ := id hC
  exact lv_ldc2 hx hb hC.2.2.2.1 (hC.2.2.2.2.1 _ hc) hd (k p l e R s m args below meth c g Z hC hE H locs ls hP hS hl)
theorem g_iadd {d : Nat} {M : zM} {n0 nE n pc q : Nat} {L : List (Nat × Value)} {S : List Value} {w : Mm} {Q : Option Value → Mm → Prop} {x y : Int32} (hd : zd M pc (.iadd) 1 q) (k : Go d M n0 nE n q L (.int (x + y) :: S) w Q) : Go d M n0 nE n pc L (.int y :: .int x :: S) w Q := by
  obtain ⟨hd, rfl⟩ := hd
  intro p l e R s m args below meth c g Z hC hE H locs ls hP hS hl
  obtain ⟨hx, hb, -⟩ := id hC
  exact lv_iadd hx hb hd (k p l e R s m args below meth c g Z hC hE H locs ls hP hS hl)
theorem g_isub {d : Nat} {M : zM} {n0 nE n pc q : Nat} {L : List (Nat × Value)} {S : List Value} {w : Mm} {Q : Option Value → Mm → Prop} {x y : Int32} (hd : zd M pc (.isub) 1 q) (k : Go d M n0 nE n q L (.int (x - y) :: S) w Q) : Go d M n0 nE n pc L (.int y :: .int x :: S) w Q := by
  obtain ⟨hd, rfl⟩ := hd
  intro p l e R s m args below meth c g Z hC hE H locs ls hP hS hl
  obtain ⟨hx, hb, -⟩ := id hC
  exact lv_isub hx hb hd (k p l e R s m args below meth c g Z hC hE H locs ls hP hS hl)
theorem g_imul {d : Nat} {M : zM} {n0 nE n pc q : Nat} {L : List (Nat × Value)} {S : List Value} {w : Mm} {Q : Option Value → Mm → Prop} {x y : Int32} (hd : zd M pc (.imul) 1 q) (k : Go d M n0 nE n q L (.int (x * y) :: S) w Q) : Go d M n0 nE n pc L (.int y :: .int x :: S) w Q := by
  obtain ⟨hd, rfl⟩ := hd
  intro p l e R s m args below meth c g Z hC hE H locs ls hP hS hl
  obtain ⟨hx, hb, -⟩ := id hC
  exact lv_imul hx hb hd (k p l e R s m args below meth c g Z hC hE H locs ls hP hS hl)
theorem g_iand {d : Nat} {M : zM} {n0 nE n pc q : Nat} {L : List (Nat × Value)} {S : List Value} {w : Mm} {Q : Option Value → Mm → Prop} {x y : Int32} (hd : zd M pc (.iand) 1 q) (k : Go d M n0 nE n q L (.int (x &&& y) :: S) w Q) : Go d M n0 nE n pc L (.int y :: .int x :: S) w Q := by
  obtain ⟨hd, rfl⟩ := hd
  intro p l e R s m args below meth c g Z hC hE H locs ls hP hS hl
  obtain ⟨hx, hb, -⟩ := id hC
  exact lv_iand hx hb hd (k p l e R s m args below meth c g Z hC hE H locs ls hP hS hl)
theorem g_ior {d : Nat} {M : zM} {n0 nE n pc q : Nat} {L : List (Nat × Value)} {S : List Value} {w : Mm} {Q : Option Value → Mm → Prop} {x y : Int32} (hd : zd M pc (.ior) 1 q) (k : Go d M n0 nE n q L (.int (x ||| y) :: S) w Q) : Go d M n0 nE n pc L (.int y :: .int x :: S) w Q := by
  obtain ⟨hd, rfl⟩ := hd
  intro p l e R s m args below meth c g Z hC hE H locs ls hP hS hl
  obtain ⟨hx, hb, -⟩ := id hC
  exact lv_ior hx hb hd (k p l e R s m args below meth c g Z hC hE H locs ls hP hS hl)
theorem g_ixor {d : Nat} {M : zM} {n0 nE n pc q : Nat} {L : List (Nat × Value)} {S : List Value} {w : Mm} {Q : Option Value → Mm → Prop} {x y : Int32} (hd : zd M pc (.ixor) 1 q) (k : Go d M n0 nE n q L (.int (x ^^^ y) :: S) w Q) : Go d M n0 nE n pc L (.int y :: .int x :: S) w Q := by
  obtain ⟨hd, rfl⟩ := hd
  intro p l e R s m args below meth c g Z hC hE H locs ls hP hS hl
  obtain ⟨hx, hb, -⟩ := id hC
  exact lv_ixor hx hb hd (k p l e R s m args below meth c g Z hC hE H locs ls hP hS hl)
theorem g_ishl {d : Nat} {M : zM} {n0 nE n pc q : Nat} {L : List (Nat × Value)} {S : List Value} {w : Mm} {Q : Option Value → Mm → Prop} {x y : Int32} (hd : zd M pc (.ishl) 1 q) (k : Go d M n0 nE n q L (.int (x <<< (y &&& 31)) :: S) w Q) : Go d M n0 nE n pc L (.int y :: .int x :: S) w Q := by
  obtain ⟨hd, rfl⟩ := hd
  intro p l e R s m args below meth c g Z hC hE H locs ls hP hS hl
  obtain ⟨hx, hb, -⟩ := id hC
  exact lv_ishl hx hb hd (k p l e R s m args below meth c g Z hC hE H locs ls hP hS hl)
theorem g_ishr {d : Nat} {M : zM} {n0 nE n pc q : Nat} {L : List (Nat × Value)} {S : List Value} {w : Mm} {Q : Option Value → Mm → Prop} {x y : Int32} (hd : zd M pc (.ishr) 1 q) (k : Go d M n0 nE n q L (.int (x >>> (y &&& 31)) :: S) w Q) : Go d M n0 nE n pc L (.int y :: .int x :: S) w Q := by
  obtain ⟨hd, rfl⟩ := hd
  intro p l e R s m args below meth c g Z hC hE H locs ls hP hS hl
  obtain ⟨hx, hb, -⟩ := id hC
  exact lv_ishr hx hb hd (k p l e R s m args below meth c g Z hC hE H locs ls hP hS hl)
theorem g_iushr {d : Nat} {M : zM} {n0 nE n pc q : Nat} {L : List (Nat × Value)} {S : List Value} {w : Mm} {Q : Option Value → Mm → Prop} {x y : Int32} (hd : zd M pc (.iushr) 1 q) (k : Go d M n0 nE n q L (.int ((x.toUInt32 >>> (y.toUInt32 &&& Int32.toUInt32 31)).toInt32) :: S) w Q) : Go d M n0 nE n pc L (.int y :: .int x :: S) w Q := by
  obtain ⟨hd, rfl⟩ := hd
  intro p l e R s m args below meth c g Z hC hE H locs ls hP hS hl
  obtain ⟨hx, hb, -⟩ := id hC
  exact lv_iushr hx hb hd rfl (k p l e R s m args below meth c g Z hC hE H locs ls hP hS hl)
theorem g_ineg {d : Nat} {M : zM} {n0 nE n pc q : Nat} {L : List (Nat × Value)} {S : List Value} {w : Mm} {Q : Option Value → Mm → Prop} {x : Int32} (hd : zd M pc (.ineg) 1 q) (k : Go d M n0 nE n q L (.int (-x) :: S) w Q) : Go d M n0 nE n pc L (.int x :: S) w Q := by
  obtain ⟨hd, rfl⟩ := hd
  intro p l e R s m args below meth c g Z hC hE H locs ls hP hS hl
  obtain ⟨hx, hb, -⟩ := id hC
  exact lv_ineg hx hb hd (k p l e R s m args below meth c g Z hC hE H locs ls hP hS hl)
theorem g_idiv {d : Nat} {M : zM} {n0 nE n pc q : Nat} {L : List (Nat × Value)} {S : List Value} {w : Mm} {Q : Option Value → Mm → Prop} {x y : Int32} (hd : zd M pc (.idiv) 1 q) (hne : ¬ y = 0) (k : Go d M n0 nE n q L (.int (x / y) :: S) w Q) : Go d M n0 nE n pc L (.int y :: .int x :: S) w Q := by
  obtain ⟨hd, rfl⟩ := hd
  intro p l e R s m args below meth c g Z hC hE H locs ls hP hS hl
  obtain ⟨hx, hb, -⟩ := id hC
  exact lv_idiv hx hb hd hne (k p l e R s m args below meth c g Z hC hE H locs ls hP hS hl)
theorem irem_eq (x y : Int32) : x - x / y * y = x % y := by
  apply Int32.toInt_inj.mp
  rw [Int32.toInt_sub, Int32.toInt_mul, Int32.toInt_div, Int.sub_bmod_bmod, Int32.toInt_mod]
  have h : (x % y).toInt = x.toInt.tmod y.toInt := Int32.toInt_mod x y
  have e : x.toInt - x.toInt.tdiv y.toInt * y.toInt = x.toInt.tmod y.toInt := by rw [Int.tmod_def, Int.mul_comm]
  rw [← h] at e ⊢
  rw [← Int.sub_bmod_bmod, Int.bmod_mul_bmod, Int.sub_bmod_bmod, e]
  have h1 := Int32.le_toInt (x % y)
  have h2 := Int32.toInt_lt (x % y)
  exact Int.bmod_eq_of_le (by omega) (by omega)
theorem lrem_eq (x y : Int64) : x - x / y * y = x % y := by
  apply Int64.toInt_inj.mp
  rw [Int64.toInt_sub, Int64.toInt_mul, Int64.toInt_div, Int.sub_bmod_bmod, Int64.toInt_mod]
  have h : (x % y).toInt = x.toInt.tmod y.toInt := Int64.toInt_mod x y
  have e : x.toInt - x.toInt.tdiv y.toInt * y.toInt = x.toInt.tmod y.toInt := by rw [Int.tmod_def, Int.mul_comm]
  rw [← h] at e ⊢
  rw [← Int.sub_bmod_bmod, Int.bmod_mul_bmod, Int.sub_bmod_bmod, e]
  have h1 := Int64.le_toInt (x % y)
  have h2 := Int64.toInt_lt (x % y)
  exact Int.bmod_eq_of_le (by omega) (by omega)
theorem g_irem {d : Nat} {M : zM} {n0 nE n pc q : Nat} {L : List (Nat × Value)} {S : List Value} {w : Mm} {Q : Option Value → Mm → Prop} {x y : Int32} (hd : zd M pc (.irem) 1 q) (hne : ¬ y = 0) (k : Go d M n0 nE n q L (.int (x % y) :: S) w Q) : Go d M n0 nE n pc L (.int y :: .int x :: S) w Q := by
  obtain ⟨hd, rfl⟩ := hd
  intro p l e R s m args below meth c g Z hC hE H locs ls hP hS hl
  obtain ⟨hx, hb, -⟩ := id hC
  rw [← irem_eq] at k
  exact lv_irem hx hb hd hne (k p l e R s m args below meth c g Z hC hE H locs ls hP hS hl)
theorem g_lrem {d : Nat} {M : zM} {n0 nE n pc q : Nat} {L : List (Nat × Value)} {S : List Value} {w : Mm} {Q : Option Value → Mm → Prop} {x y : Int64} (hd : zd M pc (.lrem) 1 q) (hne : ¬ y = 0) (k : Go d M n0 nE n q L (.long (x % y) :: S) w Q) : Go d M n0 nE n pc L (.long y :: .long x :: S) w Q := by
  obtain ⟨hd, rfl⟩ := hd
  intro p l e R s m args below meth c g Z hC hE H locs ls hP hS hl
  obtain ⟨hx, hb, -⟩ := id hC
  rw [← lrem_eq] at k
  exact lv_lrem hx hb hd hne (k p l e R s m args below meth c g Z hC hE H locs ls hP hS hl)
theorem g_ldiv {d : Nat} {M : zM} {n0 nE n pc q : Nat} {L : List (Nat × Value)} {S : List Value} {w : Mm} {Q : Option Value → Mm → Prop} {x y : Int64} (hd : zd M pc (.ldiv) 1 q) (hne : ¬ y = 0) (k : Go d M n0 nE n q L (.long (x / y) :: S) w Q) : Go d M n0 nE n pc L (.long y :: .long x :: S) w Q := by
  obtain ⟨hd, rfl⟩ := hd
  intro p l e R s m args below meth c g Z hC hE H locs ls hP hS hl
  obtain ⟨hx, hb, -⟩ := id hC
  exact lv_ldiv hx hb hd hne (k p l e R s m args below meth c g Z hC hE H locs ls hP hS hl)
theorem g_ladd {d : Nat} {M : zM} {n0 nE n pc q : Nat} {L : List (Nat × Value)} {S : List Value} {w : Mm} {Q : Option Value → Mm → Prop} {x y : Int64} (hd : zd M pc (.ladd) 1 q) (k : Go d M n0 nE n q L (.long (x + y) :: S) w Q) : Go d M n0 nE n pc L (.long y :: .long x :: S) w Q := by
  obtain ⟨hd, rfl⟩ := hd
  intro p l e R s m args below meth c g Z hC hE H locs ls hP hS hl
  obtain ⟨hx, hb, -⟩ := id hC
  exact lv_ladd hx hb hd (k p l e R s m args below meth c g Z hC hE H locs ls hP hS hl)
theorem g_lsub {d : Nat} {M : zM} {n0 nE n pc q : Nat} {L : List (Nat × Value)} {S : List Value} {w : Mm} {Q : Option Value → Mm → Prop} {x y : Int64} (hd : zd M pc (.lsub) 1 q) (k : Go d M n0 nE n q L (.long (x - y) :: S) w Q) : Go d M n0 nE n pc L (.long y :: .long x :: S) w Q := by
  obtain ⟨hd, rfl⟩ := hd
  intro p l e R s m args below meth c g Z hC hE H locs ls hP hS hl
  obtain ⟨hx, hb, -⟩ := id hC
  exact lv_lsub hx hb hd (k p l e R s m args below meth c g Z hC hE H locs ls hP hS hl)
theorem g_lmul {d : Nat} {M : zM} {n0 nE n pc q : Nat} {L : List (Nat × Value)} {S : List Value} {w : Mm} {Q : Option Value → Mm → Prop} {x y : Int64} (hd : zd M pc (.lmul) 1 q) (k : Go d M n0 nE n q L (.long (x * y) :: S) w Q) : Go d M n0 nE n pc L (.long y :: .long x :: S) w Q := by
  obtain ⟨hd, rfl⟩ := hd
  intro p l e R s m args below meth c g Z hC hE H locs ls hP hS hl
  obtain ⟨hx, hb, -⟩ := id hC
  exact lv_lmul hx hb hd (k p l e R s m args below meth c g Z hC hE H locs ls hP hS hl)
theorem g_i2l {d : Nat} {M : zM} {n0 nE n pc q : Nat} {L : List (Nat × Value)} {S : List Value} {w : Mm} {Q : Option Value → Mm → Prop} {x : Int32} (hd : zd M pc (.i2l) 1 q) (k : Go d M n0 nE n q L (.long x.toInt64 :: S) w Q) : Go d M n0 nE n pc L (.int x :: S) w Q := by
  obtain ⟨hd, rfl⟩ := hd
  intro p l e R s m args below meth c g Z hC hE H locs ls hP hS hl
  obtain ⟨hx, hb, -⟩ := id hC
  exact lv_i2l hx hb hd rfl (k p l e R s m args below meth c g Z hC hE H locs ls hP hS hl)
theorem g_l2i {d : Nat} {M : zM} {n0 nE n pc q : Nat} {L : List (Nat × Value)} {S : List Value} {w : Mm} {Q : Option Value → Mm → Prop} {x : Int64} (hd : zd M pc (.l2i) 1 q) (k : Go d M n0 nE n q L (.int x.toInt32 :: S) w Q) : Go d M n0 nE n pc L (.long x :: S) w Q := by
  obtain ⟨hd, rfl⟩ := hd
  intro p l e R s m args below meth c g Z hC hE H locs ls hP hS hl
  obtain ⟨hx, hb, -⟩ := id hC
  exact lv_l2i hx hb hd rfl (k p l e R s m args below meth c g Z hC hE H locs ls hP hS hl)
theorem g_i2b {d : Nat} {M : zM} {n0 nE n pc q : Nat} {L : List (Nat × Value)} {S : List Value} {w : Mm} {Q : Option Value → Mm → Prop} {x : Int32} (hd : zd M pc (.i2b) 1 q) (k : Go d M n0 nE n q L (.int x.toInt8.toInt32 :: S) w Q) : Go d M n0 nE n pc L (.int x :: S) w Q := by
  obtain ⟨hd, rfl⟩ := hd
  intro p l e R s m args below meth c g Z hC hE H locs ls hP hS hl
  obtain ⟨hx, hb, -⟩ := id hC
  exact lv_i2b hx hb hd rfl (k p l e R s m args below meth c g Z hC hE H locs ls hP hS hl)
theorem g_i2s {d : Nat} {M : zM} {n0 nE n pc q : Nat} {L : List (Nat × Value)} {S : List Value} {w : Mm} {Q : Option Value → Mm → Prop} {x : Int32} (hd : zd M pc (.i2s) 1 q) (k : Go d M n0 nE n q L (.int x.toInt16.toInt32 :: S) w Q) : Go d M n0 nE n pc L (.int x :: S) w Q := by
  obtain ⟨hd, rfl⟩ := hd
  intro p l e R s m args below meth c g Z hC hE H locs ls hP hS hl
  obtain ⟨hx, hb, -⟩ := id hC
  exact lv_i2s hx hb hd rfl (k p l e R s m args below meth c g Z hC hE H locs ls hP hS hl)
theorem g_dup {d : Nat} {M : zM} {n0 nE n pc q : Nat} {L : List (Nat × Value)} {S : List Value} {w : Mm} {Q : Option Value → Mm → Prop} {va : Value} (hd : zd M pc (.dup) 1 q) (hva : va.category = 1) (k : Go d M n0 nE n q L (va :: va :: S) w Q) : Go d M n0 nE n pc L (va :: S) w Q := by
  obtain ⟨hd, rfl⟩ := hd
  intro p l e R s m args below meth c g Z hC hE H locs ls hP hS hl
  obtain ⟨hx, hb, -⟩ := id hC
  exact lv_dup hx hb hd ((zv_cat g va).trans hva) (k p l e R s m args below meth c g Z hC hE H locs ls hP hS hl)
theorem g_pop {d : Nat} {M : zM} {n0 nE n pc q : Nat} {L : List (Nat × Value)} {S : List Value} {w : Mm} {Q : Option Value → Mm → Prop} {va : Value} (hd : zd M pc (.pop) 1 q) (hva : va.category = 1) (k : Go d M n0 nE n q L (S) w Q) : Go d M n0 nE n pc L (va :: S) w Q := by
  obtain ⟨hd, rfl⟩ := hd
  intro p l e R s m args below meth c g Z hC hE H locs ls hP hS hl
  obtain ⟨hx, hb, -⟩ := id hC
  exact lv_pop hx hb hd ((zv_cat g va).trans hva) (k p l e R s m args below meth c g Z hC hE H locs ls hP hS hl)
theorem g_dup2 {d : Nat} {M : zM} {n0 nE n pc q : Nat} {L : List (Nat × Value)} {S : List Value} {w : Mm} {Q : Option Value → Mm → Prop} {va vb : Value} (hd : zd M pc (.dup2) 1 q) (hva : va.category = 1) (hvb : vb.category = 1) (k : Go d M n0 nE n q L (va :: vb :: va :: vb :: S) w Q) : Go d M n0 nE n pc L (va :: vb :: S) w Q := by
  obtain ⟨hd, rfl⟩ := hd
  intro p l e R s m args below meth c g Z hC hE H locs ls hP hS hl
  obtain ⟨hx, hb, -⟩ := id hC
  exact lv_dup2_11 hx hb hd ((zv_cat g va).trans hva) ((zv_cat g vb).trans hvb) (k p l e R s m args below meth c g Z hC hE H locs ls hP hS hl)
theorem g_dup_x1 {d : Nat} {M : zM} {n0 nE n pc q : Nat} {L : List (Nat × Value)} {S : List Value} {w : Mm} {Q : Option Value → Mm → Prop} {va vb : Value} (hd : zd M pc (.dup_x1) 1 q) (hva : va.category = 1) (hvb : vb.category = 1) (k : Go d M n0 nE n q L (va :: vb :: va :: S) w Q) : Go d M n0 nE n pc L (va :: vb :: S) w Q := by
  obtain ⟨hd, rfl⟩ := hd
  intro p l e R s m args below meth c g Z hC hE H locs ls hP hS hl
  obtain ⟨hx, hb, -⟩ := id hC
  exact lv_dup_x1 hx hb hd ((zv_cat g va).trans hva) ((zv_cat g vb).trans hvb) (k p l e R s m args below meth c g Z hC hE H locs ls hP hS hl)
theorem i_nlt {x y : Int32} : ¬ x < y ↔ y ≤ x := by
  rw [Int32.lt_iff_toInt_lt, Int32.le_iff_toInt_le]; omega
theorem g_icmp_eq {d : Nat} {M : zM} {n0 nE n pc q : Nat} {L : List (Nat × Value)} {S : List Value} {w : Mm} {Q : Option Value → Mm → Prop} {x y : Int32} {off : Int} {tgt : Nat} (hd : zd M pc (.if_icmp .eq off) 3 q) (ht : (pc : Int) + off = (tgt : Int)) (kt : x = y → Go d M n0 nE n tgt L S w Q) (kf : ¬ x = y → Go d M n0 nE n q L S w Q) : Go d M n0 nE n pc L (.int y :: .int x :: S) w Q := by
  obtain ⟨hd, rfl⟩ := hd
  intro p l e R s m args below meth c g Z hC hE H locs ls hP hS hl
  obtain ⟨hx, hb, -⟩ := id hC
  exact lv_icmp_eq hx hb hd ht (fun h => (kt h) p l e R s m args below meth c g Z hC hE H locs ls hP hS hl) (fun h => (kf h) p l e R s m args below meth c g Z hC hE H locs ls hP hS hl)
theorem g_icmp_ne {d : Nat} {M : zM} {n0 nE n pc q : Nat} {L : List (Nat × Value)} {S : List Value} {w : Mm} {Q : Option Value → Mm → Prop} {x y : Int32} {off : Int} {tgt : Nat} (hd : zd M pc (.if_icmp .ne off) 3 q) (ht : (pc : Int) + off = (tgt : Int)) (kt : ¬ x = y → Go d M n0 nE n tgt L S w Q) (kf : x = y → Go d M n0 nE n q L S w Q) : Go d M n0 nE n pc L (.int y :: .int x :: S) w Q := by
  obtain ⟨hd, rfl⟩ := hd
  intro p l e R s m args below meth c g Z hC hE H locs ls hP hS hl
  obtain ⟨hx, hb, -⟩ := id hC
  exact lv_icmp_ne hx hb hd ht (fun h => (kt h) p l e R s m args below meth c g Z hC hE H locs ls hP hS hl) (fun h => (kf h) p l e R s m args below meth c g Z hC hE H locs ls hP hS hl)
theorem g_icmp_lt {d : Nat} {M : zM} {n0 nE n pc q : Nat} {L : List (Nat × Value)} {S : List Value} {w : Mm} {Q : Option Value → Mm → Prop} {x y : Int32} {off : Int} {tgt : Nat} (hd : zd M pc (.if_icmp .lt off) 3 q) (ht : (pc : Int) + off = (tgt : Int)) (kt : x < y → Go d M n0 nE n tgt L S w Q) (kf : ¬ x < y → Go d M n0 nE n q L S w Q) : Go d M n0 nE n pc L (.int y :: .int x :: S) w Q := by
  obtain ⟨hd, rfl⟩ := hd
  intro p l e R s m args below meth c g Z hC hE H locs ls hP hS hl
  obtain ⟨hx, hb, -⟩ := id hC
  exact lv_icmp_lt hx hb hd ht (fun h => (kt h) p l e R s m args below meth c g Z hC hE H locs ls hP hS hl) (fun h => (kf h) p l e R s m args below meth c g Z hC hE H locs ls hP hS hl)
theorem g_icmp_ge {d : Nat} {M : zM} {n0 nE n pc q : Nat} {L : List (Nat × Value)} {S : List Value} {w : Mm} {Q : Option Value → Mm → Prop} {x y : Int32} {off : Int} {tgt : Nat} (hd : zd M pc (.if_icmp .ge off) 3 q) (ht : (pc : Int) + off = (tgt : Int)) (kt : ¬ x < y → Go d M n0 nE n tgt L S w Q) (kf : x < y → Go d M n0 nE n q L S w Q) : Go d M n0 nE n pc L (.int y :: .int x :: S) w Q := by
  obtain ⟨hd, rfl⟩ := hd
  intro p l e R s m args below meth c g Z hC hE H locs ls hP hS hl
  obtain ⟨hx, hb, -⟩ := id hC
  exact lv_icmp_ge hx hb hd ht (fun h => (kt (i_nlt.mpr h)) p l e R s m args below meth c g Z hC hE H locs ls hP hS hl) (fun h => (kf (Classical.not_not.mp (fun z => h (i_nlt.mp z)))) p l e R s m args below meth c g Z hC hE H locs ls hP hS hl)
theorem g_icmp_gt {d : Nat} {M : zM} {n0 nE n pc q : Nat} {L : List (Nat × Value)} {S : List Value} {w : Mm} {Q : Option Value → Mm → Prop} {x y : Int32} {off : Int} {tgt : Nat} (hd : zd M pc (.if_icmp .gt off) 3 q) (ht : (pc : Int) + off = (tgt : Int)) (kt : y < x → Go d M n0 nE n tgt L S w Q) (kf : ¬ y < x → Go d M n0 nE n q L S w Q) : Go d M n0 nE n pc L (.int y :: .int x :: S) w Q := by
  obtain ⟨hd, rfl⟩ := hd
  intro p l e R s m args below meth c g Z hC hE H locs ls hP hS hl
  obtain ⟨hx, hb, -⟩ := id hC
  exact lv_icmp_gt hx hb hd ht (fun h => (kt h) p l e R s m args below meth c g Z hC hE H locs ls hP hS hl) (fun h => (kf h) p l e R s m args below meth c g Z hC hE H locs ls hP hS hl)
theorem g_icmp_le {d : Nat} {M : zM} {n0 nE n pc q : Nat} {L : List (Nat × Value)} {S : List Value} {w : Mm} {Q : Option Value → Mm → Prop} {x y : Int32} {off : Int} {tgt : Nat} (hd : zd M pc (.if_icmp .le off) 3 q) (ht : (pc : Int) + off = (tgt : Int)) (kt : ¬ y < x → Go d M n0 nE n tgt L S w Q) (kf : y < x → Go d M n0 nE n q L S w Q) : Go d M n0 nE n pc L (.int y :: .int x :: S) w Q := by
  obtain ⟨hd, rfl⟩ := hd
  intro p l e R s m args below meth c g Z hC hE H locs ls hP hS hl
  obtain ⟨hx, hb, -⟩ := id hC
  exact lv_icmp_le hx hb hd ht (fun h => (kt (i_nlt.mpr h)) p l e R s m args below meth c g Z hC hE H locs ls hP hS hl) (fun h => (kf (Classical.not_not.mp (fun z => h (i_nlt.mp z)))) p l e R s m args below meth c g Z hC hE H locs ls hP hS hl)
theorem g_if_eq {d : Nat} {M : zM} {n0 nE n pc q : Nat} {L : List (Nat × Value)} {S : List Value} {w : Mm} {Q : Option Value → Mm → Prop} {x : Int32} {off : Int} {tgt : Nat} (hd : zd M pc (.ifCond .eq off) 3 q) (ht : (pc : Int) + off = (tgt : Int)) (kt : x = 0 → Go d M n0 nE n tgt L S w Q) (kf : ¬ x = 0 → Go d M n0 nE n q L S w Q) : Go d M n0 nE n pc L (.int x :: S) w Q := by
  obtain ⟨hd, rfl⟩ := hd
  intro p l e R s m args below meth c g Z hC hE H locs ls hP hS hl
  obtain ⟨hx, hb, -⟩ := id hC
  exact lv_if_eq hx hb hd ht (fun h => (kt h) p l e R s m args below meth c g Z hC hE H locs ls hP hS hl) (fun h => (kf h) p l e R s m args below meth c g Z hC hE H locs ls hP hS hl)
theorem g_if_ne {d : Nat} {M : zM} {n0 nE n pc q : Nat} {L : List (Nat × Value)} {S : List Value} {w : Mm} {Q : Option Value → Mm → Prop} {x : Int32} {off : Int} {tgt : Nat} (hd : zd M pc (.ifCond .ne off) 3 q) (ht : (pc : Int) + off = (tgt : Int)) (kt : ¬ x = 0 → Go d M n0 nE n tgt L S w Q) (kf : x = 0 → Go d M n0 nE n q L S w Q) : Go d M n0 nE n pc L (.int x :: S) w Q := by
  obtain ⟨hd, rfl⟩ := hd
  intro p l e R s m args below meth c g Z hC hE H locs ls hP hS hl
  obtain ⟨hx, hb, -⟩ := id hC
  exact lv_if_ne hx hb hd ht (fun h => (kt h) p l e R s m args below meth c g Z hC hE H locs ls hP hS hl) (fun h => (kf h) p l e R s m args below meth c g Z hC hE H locs ls hP hS hl)
theorem g_if_lt {d : Nat} {M : zM} {n0 nE n pc q : Nat} {L : List (Nat × Value)} {S : List Value} {w : Mm} {Q : Option Value → Mm → Prop} {x : Int32} {off : Int} {tgt : Nat} (hd : zd M pc (.ifCond .lt off) 3 q) (ht : (pc : Int) + off = (tgt : Int)) (kt : x < 0 → Go d M n0 nE n tgt L S w Q) (kf : ¬ x < 0 → Go d M n0 nE n q L S w Q) : Go d M n0 nE n pc L (.int x :: S) w Q := by
  obtain ⟨hd, rfl⟩ := hd
  intro p l e R s m args below meth c g Z hC hE H locs ls hP hS hl
  obtain ⟨hx, hb, -⟩ := id hC
  exact lv_if_lt hx hb hd ht (fun h => (kt h) p l e R s m args below meth c g Z hC hE H locs ls hP hS hl) (fun h => (kf h) p l e R s m args below meth c g Z hC hE H locs ls hP hS hl)
theorem g_if_ge {d : Nat} {M : zM} {n0 nE n pc q : Nat} {L : List (Nat × Value)} {S : List Value} {w : Mm} {Q : Option Value → Mm → Prop} {x : Int32} {off : Int} {tgt : Nat} (hd : zd M pc (.ifCond .ge off) 3 q) (ht : (pc : Int) + off = (tgt : Int)) (kt : ¬ x < 0 → Go d M n0 nE n tgt L S w Q) (kf : x < 0 → Go d M n0 nE n q L S w Q) : Go d M n0 nE n pc L (.int x :: S) w Q := by
  obtain ⟨hd, rfl⟩ := hd
  intro p l e R s m args below meth c g Z hC hE H locs ls hP hS hl
  obtain ⟨hx, hb, -⟩ := id hC
  exact lv_if_ge hx hb hd ht (fun h => (kt (i_nlt.mpr h)) p l e R s m args below meth c g Z hC hE H locs ls hP hS hl) (fun h => (kf (Classical.not_not.mp (fun z => h (i_nlt.mp z)))) p l e R s m args below meth c g Z hC hE H locs ls hP hS hl)
theorem g_if_gt {d : Nat} {M : zM} {n0 nE n pc q : Nat} {L : List (Nat × Value)} {S : List Value} {w : Mm} {Q : Option Value → Mm → Prop} {x : Int32} {off : Int} {tgt : Nat} (hd : zd M pc (.ifCond .gt off) 3 q) (ht : (pc : Int) + off = (tgt : Int)) (kt : 0 < x → Go d M n0 nE n tgt L S w Q) (kf : ¬ 0 < x → Go d M n0 nE n q L S w Q) : Go d M n0 nE n pc L (.int x :: S) w Q := by
  obtain ⟨hd, rfl⟩ := hd
  intro p l e R s m args below meth c g Z hC hE H locs ls hP hS hl
  obtain ⟨hx, hb, -⟩ := id hC
  exact lv_if_gt hx hb hd ht (fun h => (kt h) p l e R s m args below meth c g Z hC hE H locs ls hP hS hl) (fun h => (kf h) p l e R s m args below meth c g Z hC hE H locs ls hP hS hl)
theorem g_if_le {d : Nat} {M : zM} {n0 nE n pc q : Nat} {L : List (Nat × Value)} {S : List Value} {w : Mm} {Q : Option Value → Mm → Prop} {x : Int32} {off : Int} {tgt : Nat} (hd : zd M pc (.ifCond .le off) 3 q) (ht : (pc : Int) + off = (tgt : Int)) (kt : ¬ 0 < x → Go d M n0 nE n tgt L S w Q) (kf : 0 < x → Go d M n0 nE n q L S w Q) : Go d M n0 nE n pc L (.int x :: S) w Q := by
  obtain ⟨hd, rfl⟩ := hd
  intro p l e R s m args below meth c g Z hC hE H locs ls hP hS hl
  obtain ⟨hx, hb, -⟩ := id hC
  exact lv_if_le hx hb hd ht (fun h => (kt (i_nlt.mpr h)) p l e R s m args below meth c g Z hC hE H locs ls hP hS hl) (fun h => (kf (Classical.not_not.mp (fun z => h (i_nlt.mp z)))) p l e R s m args below meth c g Z hC hE H locs ls hP hS hl)
theorem l_nlt {x y : Int64} : ¬ x < y ↔ y ≤ x := by
  rw [Int64.lt_iff_toInt_lt, Int64.le_iff_toInt_le]; omega
theorem g_lcmp {d : Nat} {M : zM} {n0 nE n pc q : Nat} {L : List (Nat × Value)} {S : List Value} {w : Mm} {Q : Option Value → Mm → Prop} {x y : Int64} (hd : zd M pc .lcmp 1 q) (k : Go d M n0 nE n q L (.int (lg_cmp x y) :: S) w Q) : Go d M n0 nE n pc L (.long y :: .long x :: S) w Q := by
  obtain ⟨hd, rfl⟩ := hd
  intro p l e R s m args below meth c g Z hC hE H locs ls hP hS hl
  obtain ⟨hx, hb, -⟩ := id hC
  exact W.lcmp hx hb hd (k p l e R s m args below meth c g Z hC hE H locs ls hP hS hl)
theorem lg_cmp_eq0 (x y : Int64) : lg_cmp x y = 0 ↔ x = y := by
  unfold lg_cmp
  by_cases h : x > y
  · rw [if_pos h]; exact ⟨fun q => absurd q (by decide), fun q => absurd (q ▸ h) (by rw [GT.gt, l_nlt, Int64.le_iff_toInt_le]; omega)⟩
  · rw [if_neg h]
    by_cases h2 : x = y
    · rw [if_pos h2]; exact ⟨fun _ => h2, fun _ => rfl⟩
    · rw [if_neg h2]; exact ⟨fun q => absurd q (by decide), fun q => absurd q h2⟩
theorem g_l_eq {d : Nat} {M : zM} {n0 nE n pc q : Nat} {L : List (Nat × Value)} {S : List Value} {w : Mm} {Q : Option Value → Mm → Prop} {r : Nat} {x y : Int64} {off : Int} {tgt : Nat} (hd : zd M pc .lcmp 1 r) (hd2 : zd M r (.ifCond .eq off) 3 q) (ht : (r : Int) + off = (tgt : Int)) (kt : x = y → Go d M n0 nE n tgt L S w Q) (kf : ¬ x = y → Go d M n0 nE n q L S w Q) : Go d M n0 nE n pc L (.long y :: .long x :: S) w Q :=
  g_lcmp hd (g_if_eq hd2 ht (fun h => kt ((lg_cmp_eq0 x y).mp h)) (fun h => kf (fun z => h ((lg_cmp_eq0 x y).mpr z))))
theorem g_l_ne {d : Nat} {M : zM} {n0 nE n pc q : Nat} {L : List (Nat × Value)} {S : List Value} {w : Mm} {Q : Option Value → Mm → Prop} {r : Nat} {x y : Int64} {off : Int} {tgt : Nat} (hd : zd M pc .lcmp 1 r) (hd2 : zd M r (.ifCond .ne off) 3 q) (ht : (r : Int) + off = (tgt : Int)) (kt : ¬ x = y → Go d M n0 nE n tgt L S w Q) (kf : x = y → Go d M n0 nE n q L S w Q) : Go d M n0 nE n pc L (.long y :: .long x :: S) w Q :=
  g_lcmp hd (g_if_ne hd2 ht (fun h => kt (fun z => h ((lg_cmp_eq0 x y).mpr z))) (fun h => kf ((lg_cmp_eq0 x y).mp h)))
theorem g_l_lt {d : Nat} {M : zM} {n0 nE n pc q : Nat} {L : List (Nat × Value)} {S : List Value} {w : Mm} {Q : Option Value → Mm → Prop} {r : Nat} {x y : Int64} {off : Int} {tgt : Nat} (hd : zd M pc .lcmp 1 r) (hd2 : zd M r (.ifCond .lt off) 3 q) (ht : (r : Int) + off = (tgt : Int)) (kt : x < y → Go d M n0 nE n tgt L S w Q) (kf : ¬ x < y → Go d M n0 nE n q L S w Q) : Go d M n0 nE n pc L (.long y :: .long x :: S) w Q :=
  g_lcmp hd (g_if_lt hd2 ht (fun h => kt ((lg_cmp_lt x y).mp h)) (fun h => kf (fun z => h ((lg_cmp_lt x y).mpr z))))
theorem g_l_ge {d : Nat} {M : zM} {n0 nE n pc q : Nat} {L : List (Nat × Value)} {S : List Value} {w : Mm} {Q : Option Value → Mm → Prop} {r : Nat} {x y : Int64} {off : Int} {tgt : Nat} (hd : zd M pc .lcmp 1 r) (hd2 : zd M r (.ifCond .ge off) 3 q) (ht : (r : Int) + off = (tgt : Int)) (kt : ¬ x < y → Go d M n0 nE n tgt L S w Q) (kf : x < y → Go d M n0 nE n q L S w Q) : Go d M n0 nE n pc L (.long y :: .long x :: S) w Q :=
  g_lcmp hd (g_if_ge hd2 ht (fun h => kt (fun z => h ((lg_cmp_lt x y).mpr z))) (fun h => kf ((lg_cmp_lt x y).mp h)))
theorem g_l_gt {d : Nat} {M : zM} {n0 nE n pc q : Nat} {L : List (Nat × Value)} {S : List Value} {w : Mm} {Q : Option Value → Mm → Prop} {r : Nat} {x y : Int64} {off : Int} {tgt : Nat} (hd : zd M pc .lcmp 1 r) (hd2 : zd M r (.ifCond .gt off) 3 q) (ht : (r : Int) + off = (tgt : Int)) (kt : y < x → Go d M n0 nE n tgt L S w Q) (kf : ¬ y < x → Go d M n0 nE n q L S w Q) : Go d M n0 nE n pc L (.long y :: .long x :: S) w Q :=
  g_lcmp hd (g_if_gt hd2 ht (fun h => kt ((lg_cmp_gt x y).mp h)) (fun h => kf (fun z => h ((lg_cmp_gt x y).mpr z))))
theorem g_l_le {d : Nat} {M : zM} {n0 nE n pc q : Nat} {L : List (Nat × Value)} {S : List Value} {w : Mm} {Q : Option Value → Mm → Prop} {r : Nat} {x y : Int64} {off : Int} {tgt : Nat} (hd : zd M pc .lcmp 1 r) (hd2 : zd M r (.ifCond .le off) 3 q) (ht : (r : Int) + off = (tgt : Int)) (kt : ¬ y < x → Go d M n0 nE n tgt L S w Q) (kf : y < x → Go d M n0 nE n q L S w Q) : Go d M n0 nE n pc L (.long y :: .long x :: S) w Q :=
  g_lcmp hd (g_if_le hd2 ht (fun h => kt (fun z => h ((lg_cmp_gt x y).mpr z))) (fun h => kf ((lg_cmp_gt x y).mp h)))
theorem g_goto {d : Nat} {M : zM} {n0 nE n pc q : Nat} {L : List (Nat × Value)} {S : List Value} {w : Mm} {Q : Option Value → Mm → Prop} {off : Int} {tgt : Nat} (hd : zd M pc (.goto off) 3 q) (ht : (pc : Int) + off = (tgt : Int)) (k : Go d M n0 nE n tgt L S w Q) : Go d M n0 nE n pc L S w Q := by
  obtain ⟨hd, rfl⟩ := hd
  intro p l e R s m args below meth c g Z hC hE H locs ls hP hS hl
  obtain ⟨hx, hb, -⟩ := id hC
  exact lv_goto hx hb hd ht (k p l e R s m args below meth c g Z hC hE H locs ls hP hS hl)
theorem g_tsw {d : Nat} {M : zM} {n0 nE n pc q : Nat} {L : List (Nat × Value)} {S : List Value} {w : Mm} {Q : Option Value → Mm → Prop} {dflt lo hi : Int} {offs : Array Int} {len : Nat} {x : Int32} {off : Int} {tgt : Nat} (hd : zd M pc (.tableswitch dflt lo hi offs) len q) (c0 : Int32) (hx0 : x = c0) (h1 : ¬ c0.toInt < lo) (h2 : ¬ hi < c0.toInt) (ho : offs[(c0.toInt - lo).toNat]? = some off) (ht : (pc : Int) + off = (tgt : Int)) (k : Go d M n0 nE n tgt L S w Q) : Go d M n0 nE n pc L (.int x :: S) w Q := by
  subst hx0
  obtain ⟨hd, rfl⟩ := hd
  intro p l e R s m args below meth c g Z hC hE H locs ls hP hS hl
  obtain ⟨hx, hb, -⟩ := id hC
  exact lv_tableIn hx hb hd h1 h2 ho ht (k p l e R s m args below meth c g Z hC hE H locs ls hP hS hl)
theorem g_tsd {d : Nat} {M : zM} {n0 nE n pc q : Nat} {L : List (Nat × Value)} {S : List Value} {w : Mm} {Q : Option Value → Mm → Prop} {dflt lo hi : Int} {offs : Array Int} {len : Nat} {x : Int32} {tgt : Nat} (cs : List Int32) (hd : zd M pc (.tableswitch dflt lo hi offs) len q) (hc : ∀ c ∈ cs, ¬ x = c) (h1 : ∀ j, j < (hi + 1 - lo).toNat → Int32.ofInt (lo + j) ∈ cs) (ht : (pc : Int) + dflt = (tgt : Int)) (k : Go d M n0 nE n tgt L S w Q) : Go d M n0 nE n pc L (.int x :: S) w Q := by
  obtain ⟨hd, rfl⟩ := hd
  intro p l e R s m args below meth c g Z hC hE H locs ls hP hS hl
  obtain ⟨hx, hb, -⟩ := id hC
  refine lv_tableOut hx hb hd ?_ ht (k p l e R s m args below meth c g Z hC hE H locs ls hP hS hl)
  rcases Int.lt_or_le x.toInt lo with h | h
  · exact Or.inl h
  · rcases Int.lt_or_le hi x.toInt with h3 | h3
    · exact Or.inr h3
    · exfalso
      refine hc _ (h1 (x.toInt - lo).toNat (by omega)) ?_
      rw [show lo + ((x.toInt - lo).toNat : Int) = x.toInt by omega, Int32.ofInt_toInt]
theorem g_lsw {d : Nat} {M : zM} {n0 nE n pc q : Nat} {L : List (Nat × Value)} {S : List Value} {w : Mm} {Q : Option Value → Mm → Prop} {dflt : Int} {ps : Array (Int × Int)} {len : Nat} {x : Int32} {off : Int} {tgt : Nat} (hd : zd M pc (.lookupswitch dflt ps) len q) (hp : (ps.toList.zip (ps.toList.drop 1)).all (fun (a, next) => a.1 < next.1) = true) (ho : Op.lookupswitch.offset ps.toList dflt x.toInt = off) (ht : (pc : Int) + off = (tgt : Int)) (k : Go d M n0 nE n tgt L S w Q) : Go d M n0 nE n pc L (.int x :: S) w Q := by
  obtain ⟨hd, rfl⟩ := hd
  intro p l e R s m args below meth c g Z hC hE H locs ls hP hS hl
  obtain ⟨hx, hb, -⟩ := id hC
  exact lv_lookup hx hb hd hp ho ht (k p l e R s m args below meth c g Z hC hE H locs ls hP hS hl)
theorem g_ret {d : Nat} {M : zM} {n0 nE n pc : Nat} {L : List (Nat × Value)} {S : List Value} {w : Mm} {Q : Option Value → Mm → Prop} (r : Option Value) (hR : zR M pc r) (hn : n = nE) (hS0 : S = r.toList) (h : Q r w) : Go d M n0 nE n pc L S w Q := by
  subst hn
  subst hS0
  intro p l e R s m args below meth c g Z hC hE H locs ls hP hS hl
  have h1 := hE r w H locs ls pc hP hS h hR
  cases r with
  | none => exact h1
  | some v => exact h1
theorem g_mono {d : Nat} {M : zM} {n0 nE n pc : Nat} {L : List (Nat × Value)} {S : List Value} {w : Mm} {Q : Option Value → Mm → Prop} {Q' : Option Value → Mm → Prop} (k : Go d M n0 nE n pc L S w Q') (h : ∀ r w, Q' r w → Q r w) : Go d M n0 nE n pc L S w Q := by
  intro p l e R s m args below meth c g Z hC hE H locs ls hP hS hl
  exact k p l e R s m args below meth c g Z hC (fun r w H locs ls pc h1 h2 h3 h4 => hE r w H locs ls pc h1 h2 (h r w h3) h4) H locs ls hP hS hl
end
section
-- the memory under the layer: cells, rows that read and write them
theorem SH_lt {i : Nat} {x : Nat ⊕ (FieldType × Nat)} (h : SH[i]? = some x) : i < NF := by
  rw [← SH_len]
  exact (List.getElem?_eq_some_iff.mp h).1
theorem NF_lt : NF < 100000 := by decide
theorem ad_lt (g : zG) {i : Nat} (h : i < 100000) : ad g i = g.2.2.1 + i := if_pos h
theorem zP.ad {g : zG} {n i : Nat} {w : Mm} {H : Heap} (h : zP g n w H) (hi : i < n) : ad g i = g.2.2.1 + i := ad_lt g (Nat.lt_trans (Nat.lt_of_lt_of_le hi h.2.1) NF_lt)
theorem zP.obj {g : zG} {n i ci : Nat} {w : Mm} {H : Heap} (h : zP g n w H) (hi : i < n) (hs : SH[i]? = some (.inl ci)) : ∃ r : vw_C, zcl[ci]? = some r ∧ t_OB (g.2.2.1 + i) (g.1.1 ci) r.2.2 (g.1.2 ci) H (fun k => fv g w (zft ci k) i k) := by
  have h1 := h.2.2 i hi
  unfold cellAt at h1
  rw [hs] at h1
  exact h1
theorem zP.arr {g : zG} {n i m : Nat} {ty : FieldType} {w : Mm} {H : Heap} (h : zP g n w H) (hi : i < n) (hs : SH[i]? = some (.inr (ty, m))) : H[g.2.2.1 + i]? = some (arrV (g.2.1 ty) m (fun k => fv g w ty i k)) := by
  have h1 := h.2.2 i hi
  unfold cellAt at h1
  rw [hs] at h1
  exact h1
theorem cellAt.kept {g : zG} {w w' : Mm} {i : Nat} {H H1 : Heap} (h : cellAt g w i H) (hq : H1[g.2.2.1 + i]? = H[g.2.2.1 + i]?) (hw : ∀ ty k, fv g w' ty i k = fv g w ty i k) : cellAt g w' i H1 := by
  unfold cellAt at h ⊢
  split
  · rename_i ci hs
    rw [hs] at h
    obtain ⟨r, h1, h2⟩ := h
    exact ⟨r, h1, (h2.kept hq).to (fun k _ => (hw _ k).symm)⟩
  · rename_i a hs
    rw [hs] at h
    rw [hq]
    simp only [hw]
    exact h
  · rename_i hs
    rw [hs] at h
    exact h
theorem zP.upd {g : zG} {n a : Nat} {w w' : Mm} {H H1 : Heap} (h : zP g n w H) (hw : ∀ j, j ≠ a → ∀ ty k, fv g w' ty j k = fv g w ty j k) (z : H1.size = H.size) (oq : ∀ q : Nat, q ≠ g.2.2.1 + a → H1[q]? = H[q]?) (hc : cellAt g w' a H1) : zP g n w' H1 := by
  refine ⟨z.trans h.1, h.2.1, fun i hi => ?_⟩
  by_cases e : i = a
  · rw [e]; exact hc
  · exact (h.2.2 i hi).kept (oq _ (by omega)) (hw i e)
theorem fv_mI {g : zG} {w : Mm} {i k : Nat} {x : Int32} {j : Nat} (h : j ≠ i) (ty : FieldType) (b : Nat) : fv g (mI w i k x) ty j b = fv g w ty j b := by
  cases ty <;> first | rfl | exact congrArg Value.int (u2_cell w.1 k x h b)
theorem fv_mJ {g : zG} {w : Mm} {i k : Nat} {x : Int64} {j : Nat} (h : j ≠ i) (ty : FieldType) (b : Nat) : fv g (mJ w i k x) ty j b = fv g w ty j b := by
  cases ty <;> first | rfl | exact congrArg Value.long (u2_cell w.2.1 k x h b)
theorem fv_mR {g : zG} {w : Mm} {i k : Nat} {x : Option Nat} {j : Nat} (h : j ≠ i) (ty : FieldType) (b : Nat) : fv g (mR w i k x) ty j b = fv g w ty j b := by
  cases ty <;> first | rfl | exact congrArg (fun o => va_rf (Option.map (ad g) o)) (u2_cell w.2.2 k x h b)
theorem fv_mI_slot {g : zG} {w : Mm} {i k : Nat} {x : Int32} {b : Nat} (h : b ≠ k) (ty : FieldType) (j : Nat) : fv g (mI w i k x) ty j b = fv g w ty j b := by
  cases ty <;> first | rfl | exact congrArg Value.int (u2_slot w.1 i x h j)
theorem fv_mJ_slot {g : zG} {w : Mm} {i k : Nat} {x : Int64} {b : Nat} (h : b ≠ k) (ty : FieldType) (j : Nat) : fv g (mJ w i k x) ty j b = fv g w ty j b := by
  cases ty <;> first | rfl | exact congrArg Value.long (u2_slot w.2.1 i x h j)
theorem fv_mR_slot {g : zG} {w : Mm} {i k : Nat} {x : Option Nat} {b : Nat} (h : b ≠ k) (ty : FieldType) (j : Nat) : fv g (mR w i k x) ty j b = fv g w ty j b := by
  cases ty <;> first | rfl | exact congrArg (fun o => va_rf (Option.map (ad g) o)) (u2_slot w.2.2 i x h j)
def zint (ty : FieldType) : Bool := match ty with
  | .long => false
  | .object _ => false
  | .array _ => false
  | _ => true
def zref (ty : FieldType) : Bool := match ty with
  | .object _ => true
  | .array _ => true
  | _ => false
theorem fv_int {g : zG} {w : Mm} {ty : FieldType} (h : zint ty = true) (i k : Nat) : fv g w ty i k = .int (w.1 i k) := by
  cases ty <;> first | rfl | exact absurd h (by decide) | (simp [zint] at h)
theorem fv_ref {g : zG} {w : Mm} {ty : FieldType} (h : zref ty = true) (i k : Nat) : fv g w ty i k = va_rf ((w.2.2 i k).map (ad g)) := by
  cases ty <;> first | rfl | exact absurd h (by decide)
def zfl (own : String) (idx ci k : Nat) : Prop := ∃ r : vw_C, zcl[ci]? = some r ∧ k < r.2.2 ∧ Cond.fieldLink own idx (r.2.1 k).1 (r.2.1 k).2.1 (r.2.1 k).2.2.1 ∈ zT
def zfp (own : String) (idx ci k : Nat) : Prop := ∃ r : vw_C, zcl[ci]? = some r ∧ k < r.2.2 ∧ Cond.fieldLink own idx (r.2.1 k).1 (r.2.1 k).2.1 (r.2.1 k).2.2.1 ∈ zT ∧ (r.2.1 k).2.2.2 = false
def zff (own : String) (idx ci k : Nat) : Prop := ∃ r : vw_C, zcl[ci]? = some r ∧ k < r.2.2 ∧ Cond.fieldLink own idx (r.2.1 k).1 (r.2.1 k).2.1 (r.2.1 k).2.2.1 ∈ zT ∧ (r.2.1 k).2.2.2 = true ∧ (r.2.1 k).1 = own
section MEM
variable {p : Program} {l : Launch} {e : Env} {R : Room} {s : State} {m : MethodId} {args : Array Value} {below : List Frame} {meth : Method} {c : Code} {H : Heap} {locs : List Loc} {cells slots : Nat} {Q : State → Prop}
variable {d : Nat} {M : zM} {n0 nE n pc : Nat} {w : Mm} {g : zG} {ls : Array Slot} {rest : List Value}
theorem z_get (hC : zC d M n0 nE p R s m args meth c g) (hP : zP g n w H) {i ci k idx : Nat} (hi : i < n) (hs : SH[i]? = some (.inl ci)) (hf : zfl M.1.cls idx ci k) (hd : decode M.2.1 pc = .ok (.getfield idx, 3))
    (kk : W p l e R s m args below meth c H locs cells slots Q (F0 m (pc + 3) ls (fv g w (zft ci k) i k :: rest))) : W p l e R s m args below meth c H locs cells slots Q (F0 m pc ls (.ref (ad g i) :: rest)) := by
  obtain ⟨hx, hb, -, hown, hts, ⟨hK, -⟩, -⟩ := hC
  obtain ⟨r, hr, cell, q1, q2, q3, q4⟩ := hP.obj hi hs
  obtain ⟨r', hr', hk, hlink⟩ := hf
  obtain rfl : r = r' := Option.some.inj (hr.symm.trans hr')
  obtain ⟨hin, hty, hnm⟩ := zcl_ok ci r hr
  obtain ⟨hS, hfc, kC, hkC, hkind⟩ := hK.1.1 ci _ hr
  obtain ⟨cf, kf, fi, f, hif, hsl⟩ := hS k hk
  rw [hP.ad hi]
  refine W.getf hx hb hown (hts _ hlink) hif (u_facts hfc hkC (u_lays hts hin hk) hif).1 q1 (by rw [q3]; exact fun h => by cases h) (v := fv g w (zft ci k) i k) ?_ rfl rfl hd kk
  rw [hsl, q4 k hk]
theorem z_apart (hC : zC d M n0 nE p R s m args meth c g) {ci : Nat} {r : vw_C} (hr : zcl[ci]? = some r) : ∀ x y, x < r.2.2 → y < r.2.2 → x ≠ y → (g.1.2 ci) x ≠ (g.1.2 ci) y := by
  obtain ⟨hx, hb, -, hown, hts, ⟨hK, -⟩, -⟩ := hC
  obtain ⟨hin, hty, hnm⟩ := zcl_ok ci r hr
  exact va_apart (own := M.1.cls) hts hin (zft ci) hty hnm hK.1 hr
theorem z_put (hC : zC d M n0 nE p R s m args meth c g) (hP : zP g n w H) (hSv : va_S (zA g) s.heap H locs) {i ci k idx : Nat} (hi : i < n) (hs : SH[i]? = some (.inl ci)) (hf : zfp M.1.cls idx ci k) (hd : decode M.2.1 pc = .ok (.putfield idx, 3)) {v : Value} (hn : narrow (zft ci k) v = v) (hfit : fits (zft ci k) v = true)
    {w' : Mm} (h1 : ∀ j, j ≠ i → ∀ ty b, fv g w' ty j b = fv g w ty j b) (h2 : ∀ ty b, b ≠ k → fv g w' ty i b = fv g w ty i b) (h3 : fv g w' (zft ci k) i k = v)
    (kk : ∀ (H1 : Heap) (locs1 : List Loc), zP g n w' H1 → va_S (zA g) s.heap H1 locs1 → W p l e R s m args below meth c H1 locs1 cells slots Q (F0 m (pc + 3) ls rest)) : W p l e R s m args below meth c H locs cells slots Q (F0 m pc ls (v :: .ref (ad g i) :: rest)) := by
  have hC0 := hC
  obtain ⟨hx, hb, -, hown, hts, ⟨hK, -⟩, -⟩ := hC
  obtain ⟨r, hr, cell, q1, q2, q3, q4⟩ := hP.obj hi hs
  obtain ⟨r', hr', hk, hlink, hfin⟩ := hf
  obtain rfl : r = r' := Option.some.inj (hr.symm.trans hr')
  obtain ⟨hin, hty, hnm⟩ := zcl_ok ci r hr
  have hap := z_apart hC0 hr
  obtain ⟨hS, hfc, kC, hkC, hkind⟩ := hK.1.1 ci _ hr
  obtain ⟨cf, kf, fi, f, hif, hsl⟩ := hS k hk
  have hlay := hts _ (hin _ (u_in_lay hk))
  unfold u_lay at hlay
  rw [if_neg (by rw [hfin]; decide)] at hlay
  have hst := (u_facts hfc hkC (u_lays hts hin hk) hif).1
  have h6 := u_store hfc hkC hkind hlay hif (hty k hk) hn hfit
  rw [hP.ad hi]
  refine W.putK hx hb (f := f) ⟨hown, hts _ hlink, ⟨_, _, _, hif⟩, hst⟩ (by rw [q2]; exact h6) q1 q3 (by rw [hsl]; exact k2_hasslot (q4 k hk)) rfl rfl hd fun H' e1 e2 e3 => ?_
  rw [hsl] at e1 ⊢
  refine kk H' _ (hP.upd h1 e2 e3 ?_) (hSv.put e2 e3 (Nat.le_add_right _ _))
  unfold cellAt
  rw [hs]
  refine ⟨r, hr, t_OB.to (V := updV (fun b => fv g w (zft ci b) i b) k v) ⟨_, e1, q2, q3, t_set q4 hap hk v⟩ (fun b _ => ?_)⟩
  unfold updV
  by_cases e : b = k
  · rw [if_pos e, e]; exact h3.symm
  · rw [if_neg e]; exact (h2 _ b e).symm
theorem z_putF (hC : zC d M n0 nE p R s m args meth c g) (hP : zP g n w H) (hSv : va_S (zA g) s.heap H locs) {i ci k idx : Nat} (hi : i < n) (hs : SH[i]? = some (.inl ci)) (hf : zff M.1.cls idx ci k) (hini : M.1.name = "<init>") (hd : decode M.2.1 pc = .ok (.putfield idx, 3)) {v : Value} (hn : narrow (zft ci k) v = v) (hfit : fits (zft ci k) v = true)
    {w' : Mm} (h1 : ∀ j, j ≠ i → ∀ ty b, fv g w' ty j b = fv g w ty j b) (h2 : ∀ ty b, b ≠ k → fv g w' ty i b = fv g w ty i b) (h3 : fv g w' (zft ci k) i k = v)
    (kk : ∀ (H1 : Heap) (locs1 : List Loc), zP g n w' H1 → va_S (zA g) s.heap H1 locs1 → W p l e R s m args below meth c H1 locs1 cells slots Q (F0 m (pc + 3) ls rest)) : W p l e R s m args below meth c H locs cells slots Q (F0 m pc ls (v :: .ref (ad g i) :: rest)) := by
  have hC0 := hC
  obtain ⟨hx, hb, -, hown, hts, ⟨hK, -⟩, -, hini2, -⟩ := hC
  obtain ⟨r, hr, cell, q1, q2, q3, q4⟩ := hP.obj hi hs
  obtain ⟨r', hr', hk, hlink, hfin, hdecl⟩ := hf
  obtain rfl : r = r' := Option.some.inj (hr.symm.trans hr')
  obtain ⟨hin, hty, hnm⟩ := zcl_ok ci r hr
  have hap := z_apart hC0 hr
  obtain ⟨hS, hfc, kC, hkC, hkind⟩ := hK.1.1 ci _ hr
  obtain ⟨cf, kf, fi, f, hif, hsl⟩ := hS k hk
  have hlay := hts _ (hin _ (u_in_lay hk))
  unfold u_lay at hlay
  rw [if_pos hfin] at hlay
  have hst := (u_facts hfc hkC (u_lays hts hin hk) hif).1
  have hcf : m.cls = cf := by
    obtain ⟨_, _, c', _, _, _, -, -, hf', -, -, -, hown2, -⟩ := Cond.laysFinal_spec hlay
    have e1 : c' = cf := by have := hif.symm.trans hf'; simp at this; exact this.1.symm
    rw [hdecl] at hown2
    rw [← e1]; exact Option.some.inj (hown.symm.trans hown2)
  have h6 := u_fits hfc hkC hkind (Or.inr hlay) hif (hty k hk) hn hfit
  rw [hP.ad hi]
  refine W.putFinK hx hb hown (hts _ hlink) hif hst hcf (hini2 hini) (by rw [q2]; exact h6) q1 q3 (by rw [hsl]; exact k2_hasslot (q4 k hk)) rfl rfl hd fun H' e1 e2 e3 => ?_
  rw [hsl] at e1 ⊢
  refine kk H' _ (hP.upd h1 e2 e3 ?_) (hSv.put e2 e3 (Nat.le_add_right _ _))
  unfold cellAt
  rw [hs]
  refine ⟨r, hr, t_OB.to (V := updV (fun b => fv g w (zft ci b) i b) k v) ⟨_, e1, q2, q3, t_set q4 hap hk v⟩ (fun b _ => ?_)⟩
  unfold updV
  by_cases e : b = k
  · rw [if_pos e, e]; exact h3.symm
  · rw [if_neg e]; exact (h2 _ b e).symm
end MEM
/-- an index within a row of n -/
def ib (x : Int32) (n : Nat) : Prop := 0 ≤ x.toInt ∧ x.toInt < n
abbrev ix (x : Int32) : Nat := x.toInt.toNat
theorem ib_vp {x : Int32} {n : Nat} (h : ib x n) : ¬ (x < 0 ∨ n ≤ x.toNatClampNeg) := by
  rintro (q | q)
  · have := Int32.lt_iff_toInt_lt.mp q
    rw [Int32.toInt_zero] at this
    unfold ib at h
    omega
  · have : n ≤ x.toInt.toNat := q
    unfold ib at h
    omega
theorem ib_lt {x : Int32} {n : Nat} (h : ib x n) : ix x < n := by
  unfold ib at h
  unfold ix
  omega
theorem ib_clamp {x : Int32} {n : Nat} (h : ib x n) : x.toNatClampNeg < n := ib_lt h
end
section
-- the layer's rows that read and write the memory, and make cells
section GM
variable {d : Nat} {M : zM} {n0 nE n pc q : Nat} {L : List (Nat × Value)} {S : List Value} {w : Mm} {Q : Option Value → Mm → Prop}
theorem g_getI {i ci k idx : Nat} (hd : zd M pc (.getfield idx) 3 q) (hs : SH[i]? = some (.inl ci)) (hi : i < n) (hf : zfl M.1.cls idx ci k) (hz : zint (zft ci k) = true) (kk : Go d M n0 nE n q L (.int (w.1 i k) :: S) w Q) : Go d M n0 nE n pc L (.ref i :: S) w Q := by
  obtain ⟨hd, rfl⟩ := hd
  intro p l e R s m args below meth c g Z hC hE H locs ls hP hS hl
  refine z_get hC hP hi hs hf hd ?_
  rw [fv_int hz]
  exact kk p l e R s m args below meth c g Z hC hE H locs ls hP hS hl
theorem g_getJ {i ci k idx : Nat} (hd : zd M pc (.getfield idx) 3 q) (hs : SH[i]? = some (.inl ci)) (hi : i < n) (hf : zfl M.1.cls idx ci k) (hz : zft ci k = .long) (kk : Go d M n0 nE n q L (.long (w.2.1 i k) :: S) w Q) : Go d M n0 nE n pc L (.ref i :: S) w Q := by
  obtain ⟨hd, rfl⟩ := hd
  intro p l e R s m args below meth c g Z hC hE H locs ls hP hS hl
  refine z_get hC hP hi hs hf hd ?_
  rw [hz]
  exact kk p l e R s m args below meth c g Z hC hE H locs ls hP hS hl
theorem g_getR {i ci k idx j : Nat} (hd : zd M pc (.getfield idx) 3 q) (hs : SH[i]? = some (.inl ci)) (hi : i < n) (hf : zfl M.1.cls idx ci k) (hz : zref (zft ci k) = true) (hj : w.2.2 i k = some j) (kk : Go d M n0 nE n q L (.ref j :: S) w Q) : Go d M n0 nE n pc L (.ref i :: S) w Q := by
  obtain ⟨hd, rfl⟩ := hd
  intro p l e R s m args below meth c g Z hC hE H locs ls hP hS hl
  refine z_get hC hP hi hs hf hd ?_
  rw [fv_ref hz, hj]
  exact kk p l e R s m args below meth c g Z hC hE H locs ls hP hS hl
theorem g_putI {i ci k idx : Nat} {x : Int32} (hd : zd M pc (.putfield idx) 3 q) (hs : SH[i]? = some (.inl ci)) (hi : i < n) (hf : zfp M.1.cls idx ci k) (hz : zint (zft ci k) = true) (hn : narrow (zft ci k) (.int x) = .int x) (hfit : fits (zft ci k) (.int x) = true) (kk : Go d M n0 nE n q L S (mI w i k x) Q) : Go d M n0 nE n pc L (.int x :: .ref i :: S) w Q := by
  obtain ⟨hd, rfl⟩ := hd
  intro p l e R s m args below meth c g Z hC hE H locs ls hP hS hl
  refine z_put hC hP hS hi hs hf hd hn hfit (w' := mI w i k x) (fun j hj ty b => fv_mI hj ty b) (fun ty b hb => fv_mI_slot hb ty i) (by rw [fv_int hz]; exact congrArg Value.int (u2_same _ _ _ _)) (fun H1 locs1 hP hS => ?_)
  exact kk p l e R s m args below meth c g Z hC hE H1 locs1 ls hP hS hl
theorem g_putJ {i ci k idx : Nat} {x : Int64} (hd : zd M pc (.putfield idx) 3 q) (hs : SH[i]? = some (.inl ci)) (hi : i < n) (hf : zfp M.1.cls idx ci k) (hz : zft ci k = .long) (kk : Go d M n0 nE n q L S (mJ w i k x) Q) : Go d M n0 nE n pc L (.long x :: .ref i :: S) w Q := by
  obtain ⟨hd, rfl⟩ := hd
  intro p l e R s m args below meth c g Z hC hE H locs ls hP hS hl
  refine z_put hC hP hS hi hs hf hd (by rw [hz]; rfl) (by rw [hz]; rfl) (w' := mJ w i k x) (fun j hj ty b => fv_mJ hj ty b) (fun ty b hb => fv_mJ_slot hb ty i) (by rw [hz]; exact congrArg Value.long (u2_same _ _ _ _)) (fun H1 locs1 hP hS => ?_)
  exact kk p l e R s m args below meth c g Z hC hE H1 locs1 ls hP hS hl
theorem nar_ref {ty : FieldType} (h : zref ty = true) (a : Nat) : narrow ty (.ref a) = .ref a ∧ fits ty (.ref a) = true := by
  cases ty <;> first | exact ⟨rfl, rfl⟩ | exact absurd h (by decide)
theorem g_putR {i ci k idx j : Nat} (hd : zd M pc (.putfield idx) 3 q) (hs : SH[i]? = some (.inl ci)) (hi : i < n) (hf : zfp M.1.cls idx ci k) (hz : zref (zft ci k) = true) (kk : Go d M n0 nE n q L S (mR w i k (some j)) Q) : Go d M n0 nE n pc L (.ref j :: .ref i :: S) w Q := by
  obtain ⟨hd, rfl⟩ := hd
  intro p l e R s m args below meth c g Z hC hE H locs ls hP hS hl
  refine z_put hC hP hS hi hs hf hd (nar_ref hz _).1 (nar_ref hz _).2 (w' := mR w i k (some j)) (fun j hj ty b => fv_mR hj ty b) (fun ty b hb => fv_mR_slot hb ty i) (by rw [fv_ref hz]; exact congrArg (fun o => va_rf (Option.map (ad g) o)) (u2_same _ _ _ _)) (fun H1 locs1 hP hS => ?_)
  exact kk p l e R s m args below meth c g Z hC hE H1 locs1 ls hP hS hl
theorem g_putRF {i ci k idx j : Nat} (hd : zd M pc (.putfield idx) 3 q) (hs : SH[i]? = some (.inl ci)) (hi : i < n) (hf : zff M.1.cls idx ci k) (hini : M.1.name = "<init>") (hz : zref (zft ci k) = true) (kk : Go d M n0 nE n q L S (mR w i k (some j)) Q) : Go d M n0 nE n pc L (.ref j :: .ref i :: S) w Q := by
  obtain ⟨hd, rfl⟩ := hd
  intro p l e R s m args below meth c g Z hC hE H locs ls hP hS hl
  refine z_putF hC hP hS hi hs hf hini hd (nar_ref hz _).1 (nar_ref hz _).2 (w' := mR w i k (some j)) (fun j hj ty b => fv_mR hj ty b) (fun ty b hb => fv_mR_slot hb ty i) (by rw [fv_ref hz]; exact congrArg (fun o => va_rf (Option.map (ad g) o)) (u2_same _ _ _ _)) (fun H1 locs1 hP hS => ?_)
  exact kk p l e R s m args below meth c g Z hC hE H1 locs1 ls hP hS hl
-- rows of ints, longs, booleans, references
theorem arrO {g : zG} {s : State} (hK : zK g s) {ty : FieldType} (ht : ty ∈ zat) (m : Nat) (f : Nat → Value) : s.isArrayOf (arrV (g.2.1 ty) m f) ty := (hK.2.1 ty ht).1 m f
theorem g_iald {a m : Nat} {x : Int32} (hd : zd M pc .iaload 1 q) (hs : SH[a]? = some (.inr (.int, m))) (ha : a < n) (hx : ib x m) (kk : Go d M n0 nE n q L (.int (w.1 a (ix x)) :: S) w Q) : Go d M n0 nE n pc L (.int x :: .ref a :: S) w Q := by
  obtain ⟨hd, rfl⟩ := hd
  intro p l e R s m args below meth c g Z hC hE H locs ls hP hS hl
  show W p l e R s m args below meth c H locs _ _ Z (F0 m pc ls (.int x :: .ref (ad g a) :: S.map (zv g)))
  rw [hP.ad ha]
  exact W.iald (v := .int (w.1 a (ix x))) hC.1 hC.2.1 (hP.arr ha hs) (arrO hC.2.2.2.2.2.1.1 (by decide) _ _) (fun q => by cases q) (by rw [arrV_size]; exact ib_vp hx) (by rw [arrV_read _ _ (ib_clamp hx)]; rfl) rfl rfl hd (kk p l e R s m args below meth c g Z hC hE H locs ls hP hS hl)
theorem g_zald {a m : Nat} {x : Int32} (hd : zd M pc .baload 1 q) (hs : SH[a]? = some (.inr (.boolean, m))) (ha : a < n) (hx : ib x m) (kk : Go d M n0 nE n q L (.int (w.1 a (ix x)) :: S) w Q) : Go d M n0 nE n pc L (.int x :: .ref a :: S) w Q := by
  obtain ⟨hd, rfl⟩ := hd
  intro p l e R s m args below meth c g Z hC hE H locs ls hP hS hl
  show W p l e R s m args below meth c H locs _ _ Z (F0 m pc ls (.int x :: .ref (ad g a) :: S.map (zv g)))
  rw [hP.ad ha]
  exact W.zald (v := .int (w.1 a (ix x))) hC.1 hC.2.1 (hP.arr ha hs) (arrO hC.2.2.2.2.2.1.1 (by decide) _ _) (fun q => by cases q) (by rw [arrV_size]; exact ib_vp hx) (by rw [arrV_read _ _ (ib_clamp hx)]; rfl) rfl rfl hd (kk p l e R s m args below meth c g Z hC hE H locs ls hP hS hl)
theorem g_lald {a m : Nat} {x : Int32} (hd : zd M pc .laload 1 q) (hs : SH[a]? = some (.inr (.long, m))) (ha : a < n) (hx : ib x m) (kk : Go d M n0 nE n q L (.long (w.2.1 a (ix x)) :: S) w Q) : Go d M n0 nE n pc L (.int x :: .ref a :: S) w Q := by
  obtain ⟨hd, rfl⟩ := hd
  intro p l e R s m args below meth c g Z hC hE H locs ls hP hS hl
  show W p l e R s m args below meth c H locs _ _ Z (F0 m pc ls (.int x :: .ref (ad g a) :: S.map (zv g)))
  rw [hP.ad ha]
  exact W.lald (v := .long (w.2.1 a (ix x))) hC.1 hC.2.1 (hP.arr ha hs) (arrO hC.2.2.2.2.2.1.1 (by decide) _ _) (fun q => by cases q) (by rw [arrV_size]; exact ib_vp hx) (by rw [arrV_read _ _ (ib_clamp hx)]; rfl) rfl rfl hd (kk p l e R s m args below meth c g Z hC hE H locs ls hP hS hl)
theorem g_aald {a m j : Nat} {ty : FieldType} {x : Int32} (hd : zd M pc .aaload 1 q) (hs : SH[a]? = some (.inr (ty, m))) (ha : a < n) (ht : ty ∈ zat) (hz : zref ty = true) (hx : ib x m) (hj : w.2.2 a (ix x) = some j) (kk : Go d M n0 nE n q L (.ref j :: S) w Q) : Go d M n0 nE n pc L (.int x :: .ref a :: S) w Q := by
  obtain ⟨hd, rfl⟩ := hd
  intro p l e R s m args below meth c g Z hC hE H locs ls hP hS hl
  show W p l e R s m args below meth c H locs _ _ Z (F0 m pc ls (.int x :: .ref (ad g a) :: S.map (zv g)))
  rw [hP.ad ha]
  refine W.aald (v := .ref (ad g j)) hC.1 hC.2.1 (hP.arr ha hs) (arrO hC.2.2.2.2.2.1.1 ht _ _) (by cases ty <;> first | rfl | exact absurd hz (by decide)) (fun q => by cases q) (by rw [arrV_size]; exact ib_vp hx) (by rw [arrV_read _ _ (ib_clamp hx)]; rw [fv_ref hz, show w.2.2 a x.toNatClampNeg = some j from hj]; rfl) rfl rfl hd (kk p l e R s m args below meth c g Z hC hE H locs ls hP hS hl)
theorem arr_upd {g : zG} {w w' : Mm} {ty : FieldType} {a k m : Nat} {v : Value} (h1 : ∀ b, b ≠ k → fv g w' ty a b = fv g w ty a b) (h2 : fv g w' ty a k = v) : (arrV (g.2.1 ty) m (fun b => fv g w ty a b)).setSlot k v = arrV (g.2.1 ty) m (fun b => fv g w' ty a b) := by
  rw [arrV_store]
  refine congrArg (arrV _ m) (funext fun b => ?_)
  unfold updV
  by_cases h : b = k
  · rw [if_pos h, h, h2]
  · rw [if_neg h, h1 b h]
theorem cellAt_arr {g : zG} {w : Mm} {H : Heap} {ty : FieldType} {a m : Nat} (hs : SH[a]? = some (.inr (ty, m))) (h : H[g.2.2.1 + a]? = some (arrV (g.2.1 ty) m (fun b => fv g w ty a b))) : cellAt g w a H := by
  unfold cellAt
  rw [hs]
  exact h
theorem g_iast {a m : Nat} {x y : Int32} (hd : zd M pc .iastore 1 q) (hs : SH[a]? = some (.inr (.int, m))) (ha : a < n) (hx : ib x m) (kk : Go d M n0 nE n q L S (mI w a (ix x) y) Q) : Go d M n0 nE n pc L (.int y :: .int x :: .ref a :: S) w Q := by
  obtain ⟨hd, rfl⟩ := hd
  intro p l e R s m args below meth c g Z hC hE H locs ls hP hS hl
  show W p l e R s m args below meth c H locs _ _ Z (F0 m pc ls (.int y :: .int x :: .ref (ad g a) :: S.map (zv g)))
  rw [hP.ad ha]
  refine W.iast hC.1 hC.2.1 (hP.arr ha hs) (arrO hC.2.2.2.2.2.1.1 (by decide) _ _) (fun q => by cases q) (by rw [arrV_size]; exact ib_vp hx) rfl rfl hd fun H1 e1 z oq => ?_
  refine kk p l e R s m args below meth c g Z hC hE H1 _ ls (hP.upd (w' := mI w a (ix x) y) (fun j hj ty b => fv_mI hj ty b) z oq (cellAt_arr hs ?_)) (hS.put z oq (Nat.le_add_right _ _)) hl
  rw [e1]
  exact congrArg some (arr_upd (fun b hb => fv_mI_slot hb .int a) (congrArg Value.int (u2_same _ _ _ _)))
theorem g_last {a m : Nat} {x : Int32} {y : Int64} (hd : zd M pc .lastore 1 q) (hs : SH[a]? = some (.inr (.long, m))) (ha : a < n) (hx : ib x m) (kk : Go d M n0 nE n q L S (mJ w a (ix x) y) Q) : Go d M n0 nE n pc L (.long y :: .int x :: .ref a :: S) w Q := by
  obtain ⟨hd, rfl⟩ := hd
  intro p l e R s m args below meth c g Z hC hE H locs ls hP hS hl
  show W p l e R s m args below meth c H locs _ _ Z (F0 m pc ls (.long y :: .int x :: .ref (ad g a) :: S.map (zv g)))
  rw [hP.ad ha]
  refine W.last hC.1 hC.2.1 (hP.arr ha hs) (arrO hC.2.2.2.2.2.1.1 (by decide) _ _) (fun q => by cases q) (by rw [arrV_size]; exact ib_vp hx) rfl rfl hd fun H1 e1 z oq => ?_
  refine kk p l e R s m args below meth c g Z hC hE H1 _ ls (hP.upd (w' := mJ w a (ix x) y) (fun j hj ty b => fv_mJ hj ty b) z oq (cellAt_arr hs ?_)) (hS.put z oq (Nat.le_add_right _ _)) hl
  rw [e1]
  exact congrArg some (arr_upd (fun b hb => fv_mJ_slot hb .long a) (congrArg Value.long (u2_same _ _ _ _)))
/-- what a row of booleans keeps -/
def nb (x : Int32) : Int32 := vp_nar .boolean x
theorem nb_nar (x : Int32) : narrow .boolean (.int x) = .int (nb x) := by
  unfold nb vp_nar
  cases h : narrow .boolean (.int x) with
  | int y => rfl
  | _ => simp [narrow] at h
theorem g_zast {a m : Nat} {x y : Int32} (hd : zd M pc .bastore 1 q) (hs : SH[a]? = some (.inr (.boolean, m))) (ha : a < n) (hx : ib x m) (kk : Go d M n0 nE n q L S (mI w a (ix x) (nb y)) Q) : Go d M n0 nE n pc L (.int y :: .int x :: .ref a :: S) w Q := by
  obtain ⟨hd, rfl⟩ := hd
  intro p l e R s m args below meth c g Z hC hE H locs ls hP hS hl
  show W p l e R s m args below meth c H locs _ _ Z (F0 m pc ls (.int y :: .int x :: .ref (ad g a) :: S.map (zv g)))
  rw [hP.ad ha]
  refine W.zast hC.1 hC.2.1 (hP.arr ha hs) (arrO hC.2.2.2.2.2.1.1 (by decide) _ _) (fun q => by cases q) (by rw [arrV_size]; exact ib_vp hx) rfl rfl hd fun H1 e1 z oq => ?_
  refine kk p l e R s m args below meth c g Z hC hE H1 _ ls (hP.upd (w' := mI w a (ix x) (nb y)) (fun j hj ty b => fv_mI hj ty b) z oq (cellAt_arr hs ?_)) (hS.put z oq (Nat.le_add_right _ _)) hl
  rw [e1, nb_nar]
  exact congrArg some (arr_upd (fun b hb => fv_mI_slot hb .boolean a) (congrArg Value.int (u2_same _ _ _ _)))
theorem g_aast {a m j cj : Nat} {r : vw_C} {x : Int32} (hd : zd M pc .aastore 1 q) (hs : SH[a]? = some (.inr (.object r.1, m))) (ha : a < n) (ht : FieldType.object r.1 ∈ zat) (hj : j < n) (hsj : SH[j]? = some (.inl cj)) (hr : zcl[cj]? = some r) (hx : ib x m) (kk : Go d M n0 nE n q L S (mR w a (ix x) (some j)) Q) : Go d M n0 nE n pc L (.ref j :: .int x :: .ref a :: S) w Q := by
  obtain ⟨hd, rfl⟩ := hd
  intro p l e R s m args below meth c g Z hC hE H locs ls hP hS hl
  show W p l e R s m args below meth c H locs _ _ Z (F0 m pc ls (.ref (ad g j) :: .int x :: .ref (ad g a) :: S.map (zv g)))
  have hj0 := hP.ad hj
  rw [hP.ad ha, hj0]
  have hK := hC.2.2.2.2.2.1.1
  have hlt := ib_clamp hx
  have h0 : ¬ x < 0 := fun q => ib_vp hx (Or.inl q)
  obtain ⟨r', hr', cellV, g1, g2, g3, -⟩ := hP.obj hj hsj
  obtain rfl : r = r' := Option.some.inj (hr.symm.trans hr')
  have hcls := (hK.1.1 cj r hr).2
  obtain ⟨kA, comp, k1, k2, k3, -⟩ := (hK.2.1 _ ht).2
  have hcomp : comp = g.1.1 cj := Option.some.inj (k3.symm.trans hcls.1)
  subst hcomp
  obtain ⟨kC, hkC, -⟩ := hcls.2
  refine W.aast hC.1 hC.2.1 (hP.arr ha hs) (fun q h => by cases h) (fun h => by cases h) k1 k2 rfl hkC ⟨h0, by rw [arrV_size]; exact hlt⟩ g1 (fun q h => by rw [g3] at h; cases h) (by rw [g2]; exact hkC) (by rw [g2]; exact va_assign hcls) rfl rfl hd fun H1 e1 z oq => ?_
  refine kk p l e R s m args below meth c g Z hC hE H1 _ ls (hP.upd (w' := mR w a (ix x) (some j)) (fun j hj ty b => fv_mR hj ty b) z oq (cellAt_arr hs ?_)) (hS.put z oq (Nat.le_add_right _ _)) hl
  rw [e1, ← hj0]
  exact congrArg some (arr_upd (fun b hb => fv_mR_slot hb (.object r.1) a) (congrArg (fun o => va_rf (Option.map (ad g) o)) (u2_same _ _ _ _)))
theorem g_alen {a m : Nat} {ty : FieldType} {v : Int32} (hd : zd M pc .arraylength 1 q) (hs : SH[a]? = some (.inr (ty, m))) (ha : a < n) (ht : ty ∈ zat) (hv : Int32.ofNat m = v) (kk : Go d M n0 nE n q L (.int v :: S) w Q) : Go d M n0 nE n pc L (.ref a :: S) w Q := by
  obtain ⟨hd, rfl⟩ := hd
  intro p l e R s m args below meth c g Z hC hE H locs ls hP hS hl
  show W p l e R s m args below meth c H locs _ _ Z (F0 m pc ls (.ref (ad g a) :: S.map (zv g)))
  rw [hP.ad ha]
  exact W.alen (n := v) hC.1 hC.2.1 (hP.arr ha hs) (arrO hC.2.2.2.2.2.1.1 ht _ _) (by rw [arrV_size]; exact hv) rfl rfl hd (kk p l e R s m args below meth c g Z hC hE H locs ls hP hS hl)
-- static rows
theorem g_gets {j idx : Nat} (hd : zd M pc (.getstatic idx) 3 q) (hj : j < 3) (hl0 : Cond.fieldLink M.1.cls idx "PutOn" (stN j) "[I" ∈ zT) (kk : Go d M n0 nE n q L (.ref (100000 + j) :: S) w Q) : Go d M n0 nE n pc L S w Q := by
  obtain ⟨hd, rfl⟩ := hd
  intro p l e R s m args below meth c g Z hC hE H locs ls hP hS hl
  exact va_gets (A := zA g) hC.1 hC.2.1 (hC.2.2.2.2.2.1.2.1 j hj).1 hS hC.2.2.2.1 (hC.2.2.2.2.1 _ hl0) (fun x h => h) hd (kk p l e R s m args below meth c g Z hC hE H locs ls hP hS hl)
theorem g_getsN {j idx : Nat} {host : String} (hd : zd M pc (.getstatic idx) 3 q) (hj : j < 3) (hl0 : Cond.fieldLinkNest M.1.cls idx "PutOn" (stN j) "[I" host ∈ lw_tbl) (kk : Go d M n0 nE n q L (.ref (100000 + j) :: S) w Q) : Go d M n0 nE n pc L S w Q := by
  obtain ⟨hd, rfl⟩ := hd
  intro p l e R s m args below meth c g Z hC hE H locs ls hP hS hl
  exact va_getsN (A := zA g) hC.1 hC.2.1 (hC.2.2.2.2.2.1.2.1 j hj).1 hS hC.2.2.2.1 (va_Nw.use rfl (hC.2.2.2.2.2.1.1.2.2.1 _ hl0 rfl)) (fun x h => h) hd (kk p l e R s m args below meth c g Z hC hE H locs ls hP hS hl)
theorem g_sald {j : Nat} {x : Int32} (hd : zd M pc .iaload 1 q) (hj : j < 3) (hx : ib x 6) (kk : Go d M n0 nE n q L (.int (stV j (ix x)) :: S) w Q) : Go d M n0 nE n pc L (.int x :: .ref (100000 + j) :: S) w Q := by
  obtain ⟨hd, rfl⟩ := hd
  intro p l e R s m args below meth c g Z hC hE H locs ls hP hS hl
  obtain ⟨cell, h1, h2, h3, h4, h5, h6, h7⟩ := (hC.2.2.2.2.2.1.2.1 j hj).2
  have hlt : ad g (100000 + j) < s.heap.size := (Array.getElem?_eq_some_iff.mp h1).1
  refine W.iald (v := .int (stV j (ix x))) hC.1 hC.2.1 (by rw [hS.2.1 _ hlt h7]; exact h1) h2 h3 (fun q => ?_) (h6 _ (ib_clamp hx)) rfl rfl hd (kk p l e R s m args below meth c g Z hC hE H locs ls hP hS hl)
  rcases q with q | q
  · exact ib_vp hx (Or.inl q)
  · exact ib_vp hx (Or.inr (Nat.le_trans h4 q))
end GM
end
section
-- calls
theorem zT_good : GoodIn zT zT := fun w hw => ⟨hw, good_of_word (List.mem_filter.mp hw).2⟩
def zm (M : zM) (k : Nat) : Prop := Cond.initialized M.1.cls ∈ zT ∧ Cond.code M.1 M.2.1 M.2.2.1 M.2.2.2 ∈ zT ∧ M.2.2.1 ≤ 26 ∧ (M.1.cls ≠ "java/lang/invoke/MethodHandle" ∧ M.1.cls ≠ "java/lang/invoke/VarHandle") ∧ (parseMethodDescriptor M.1.desc).map (fun d => d.parameters.length) = some k
theorem zws_good {M : zM} {k : Nat} (h : zm M k) : GoodIn zT (zws M) := fun w hw => (List.mem_cons.mp hw).elim (fun e => by rw [e]; exact zT_good _ h.2.1) (fun h => zT_good w h)
theorem zs_mono {a b : Nat} (h : a ≤ b) : zs a ≤ zs b := by
  unfold zs
  obtain ⟨c, rfl⟩ := Nat.exists_eq_add_of_le h
  rw [List.take_add, List.map_append, List.sum_append]
  exact Nat.le_add_right _ _
theorem zK.same {g : zG} {u U : State} (hv : u.vm = U.vm) (h : zK g u) : zK g U := by
  obtain ⟨h1, h2, h3, h4, h5⟩ := h
  have hA : u.vm.Alike U.vm := by rw [hv]; exact Vm.Alike.refl _
  refine ⟨va_K.moved hA h1, fun ty ht => ⟨arrOfT_moved hA (h2 ty ht).1, (h2 ty ht).2.moved hA⟩, fun w hw hz => ?_, fun C hC => va_AO.moved hA (h4 C hC), zII.moved hA h5⟩
  have h6 := h3 w hw hz
  cases w <;> first | exact va_Nw.same rfl hv h6 | (simp [zNest] at hz)
theorem zX.same {g : zG} {u U : State} {H : Heap} (hv : u.vm = U.vm) (h : zX g u H) : zX g U H := by
  have hA : u.vm.Alike U.vm := by rw [hv]; exact Vm.Alike.refl _
  exact ⟨fun j hj => ⟨va_Z.moved hA (h.1 j hj).1, va_T.moved hA (h.1 j hj).2⟩, h.2.1.moved hA, fun j hj => vk_R.same hv.symm (h.2.2.1 j hj), va_Z.moved hA h.2.2.2.1, h.2.2.2.2.imp (va_Z.moved hA) (va_Z.moved hA)⟩
theorem zPc_blind (g : zG) (n0 : Nat) (as : List Value) (w : Mm) : FrameBlind (zPc g n0 as w) := fun a U g0 mk h => ⟨h.1, ⟨zK.same (u := U) rfl h.2.1.1, zX.same (u := U) rfl h.2.1.2⟩, h.2.2⟩
section CALLS
variable {d d' : Nat} {M M' : zM} {n0 nE n n' pc q k idx : Nat} {L : List (Nat × Value)} {S rest As : List Value} {w : Mm} {Q : Option Value → Mm → Prop}
theorem z_back {p : Program} {l : Launch} {e : Env} {R : Room} {s : State} {m : MethodId} {args : Array Value} {below : List Frame} {meth : Method} {c : Code} {g : zG} {Z : State → Prop} {H : Heap} {locs : List Loc} {ls : Array Slot} {av : Array Value} {st0 : List Value}
    (hC : zC d M n0 nE p R s m args meth c g) (hE : zE M n0 nE g p l e R s m args below meth c Z Q) (hS : va_S (zA g) s.heap H locs) (hl : lv_has ls M.2.2.1 (L.map (zl g))) (h0n : n0 ≤ n) (hnn : n ≤ n')
    (hr : va_Run p l e R s m args below meth c H locs (n - n0) (zs n - zs n0) (n' - n) (zs n' - zs n) (F0 m pc ls st0) (rest.map (zv g)) (zQc g n' (fun r w' => Go d M n0 nE n' (pc + 3) L (r.toList ++ rest) w' Q) av) (zA g)) :
    W p l e R s m args below meth c H locs (n - n0) (zs n - zs n0) Z (F0 m pc ls st0) := by
  intro T hT X
  obtain ⟨v, st₀, t, T', L1, h0, X', hL, e1, e2, ⟨⟨r, w', hv, hQ, hP'⟩, hz, hk⟩, st⟩ := hr T hT X
  obtain rfl : v = r.map (zv g) := by injection hv
  rw [h0] at hz hk
  have hW := hQ p l e R s m args below meth c g Z hC hE T'.heap (locs ++ L1) ls (by rw [e1]; exact hP')
    ⟨Nat.le_trans hS.1 (by rw [e1]; exact hz), fun q h1 h2 => by rw [e1, hk q (Nat.lt_of_lt_of_le h1 hS.1) h2]; exact hS.2.1 q h1 h2, fun q hq => by
      rcases List.mem_append.mp hq with h | h
      · exact hS.2.2 q h
      · exact hL q h⟩ hl
  have a1 : n - n0 + (n' - n) = n' - n0 := by omega
  have a2 : zs n - zs n0 + (zs n' - zs n) = zs n' - zs n0 := by
    have := zs_mono h0n
    have := zs_mono hnn
    omega
  rw [a1, a2] at X'
  obtain ⟨t2, b1, b2⟩ := hW T' rfl X'
  refine ⟨t2, st t2 ?_, b2⟩
  have e3 : ((r.toList ++ rest).map (zv g)) = (r.map (zv g)).toList ++ rest.map (zv g) := by
    cases r <;> rfl
  rw [e3] at b1
  exact b1
theorem z_room {R : Room} (hR : d ≤ R.frames ∧ 45 * d ≤ R.locals ∧ nE - n0 ≤ R.cells ∧ zs nE - zs n0 ≤ R.slots ∧ n0 ≤ nE) (hd' : d' + 1 ≤ d) {x : Nat} (hx : x ≤ 26) : d' + 1 ≤ R.frames ∧ 8 + (x + 11) + 45 * d' ≤ R.locals := by
  omega
theorem z_fit {R : Room} (hR : d ≤ R.frames ∧ 45 * d ≤ R.locals ∧ nE - n0 ≤ R.cells ∧ zs nE - zs n0 ≤ R.slots ∧ n0 ≤ nE) (h0n : n0 ≤ n) (hnn : n ≤ n') (hn' : n' ≤ nE) : n - n0 + (n' - n) ≤ R.cells ∧ zs n - zs n0 + (zs n' - zs n) ≤ R.slots := by
  have := zs_mono h0n
  have := zs_mono hnn
  have := zs_mono hn'
  omega
def zlV (own : String) (idx : Nat) (M : zM) : Prop := Cond.methodLink own idx M.1 ∈ zT ∧ Cond.instanceMethod M.1 ∈ zT ∧ Cond.selects M.1.cls M.1 M.1 ∈ zT
def zlS (own : String) (idx : Nat) (M : zM) : Prop := Cond.methodLink own idx M.1 ∈ zT ∧ Cond.static M.1 ∈ zT
def zlI (own : String) (idx : Nat) (M : zM) : Prop := Cond.methodLink own idx M.1 ∈ zT ∧ Cond.instanceMethod M.1 ∈ zT ∧ M.1.name = "<init>" ∧ M.2.2.2 = none
def zlSN (own : String) (idx : Nat) (M : zM) : Prop := ∃ host, Cond.methodLinkNest own idx M.1 host ∈ lw_tbl ∧ Cond.static M.1 ∈ zT
def zlIN (own : String) (idx : Nat) (M : zM) : Prop := ∃ host, Cond.methodLinkNest own idx M.1 host ∈ lw_tbl ∧ Cond.instanceMethod M.1 ∈ zT ∧ M.1.name = "<init>" ∧ M.2.2.2 = none
theorem z_map_stack (g : zG) (As rest : List Value) (b : Nat) : (As.reverse ++ .ref b :: rest).map (zv g) = (As.map (zv g)).reverse ++ .ref (ad g b) :: rest.map (zv g) := by
  rw [List.map_append, List.map_reverse]
  rfl
theorem z_cats (g : zG) (rest : List Value) : ((rest.map (zv g)).map fun v => v.category).sum = (rest.map fun v => v.category).sum := by
  rw [List.map_map]
  congr 1
  exact List.map_congr_left (fun v _ => zv_cat g v)
theorem g_callV {b ci : Nat} {r : vw_C} (hd : zd M pc (.invokevirtual idx) 3 q) (hm : zm M' k) (hv : zlV M.1.cls idx M') (hs : SH[b]? = some (.inl ci)) (hb : b < n) (hr : zcl[ci]? = some r) (hrc : r.1 = M'.1.cls) (hS0 : S = As.reverse ++ .ref b :: rest) (hk : As.length = k) (hcat : (rest.map fun v => v.category).sum ≤ 8) (hd' : d' + 1 ≤ d) (h0n : n0 ≤ n) (hn' : n' ≤ nE)
    (kk : Call d' M' n n' (.ref b :: As) w (fun r w' => Go d M n0 nE n' q L (r.toList ++ rest) w' Q)) : Go d M n0 nE n pc L S w Q := by
  obtain ⟨hd, rfl⟩ := hd
  subst hS0
  intro p l e R s m args below meth c g Z hC hE H locs ls hP hS hl
  obtain ⟨hnn, hM⟩ := kk
  have hC0 := hC
  obtain ⟨hx, hbd, hml, hown, hts, ⟨hK, hX⟩, hR, -, hbase⟩ := hC
  obtain ⟨r', hr', cellV, g1, g2, g3, -⟩ := hP.obj hb hs
  obtain rfl : r = r' := Option.some.inj (hr.symm.trans hr')
  have hcls := (hK.1.1 ci r hr).2
  obtain ⟨hm1, hm2, hm3, hm4, hm5⟩ := hm
  refine z_back (rest := rest) (av := (Value.ref (ad g b) :: As.map (zv g)).toArray) hC0 hE hS hl h0n hnn ?_
  rw [z_map_stack]
  refine va_runV (As := As.map (zv g)) (b := ad g b) ⟨hx, hbd, hml, hown, hts⟩ (hM l g) (C := M'.1.cls) (bytes := M'.2.1) (maxL := M'.2.2.1) (ret := M'.2.2.2) (n := k)
    ⟨⟨rfl, rfl, (z_room hR hd' hm3).1, (z_room hR hd' hm3).2, pay_in hts (zws_good ⟨hm1, hm2, hm3, hm4, hm5⟩), List.mem_cons_self, hts _ hm2, hts _ hm1, hm4, fun sig h => by rw [h] at hm5; exact (Option.some.inj hm5).symm, hts _ hv.1⟩, hts _ hv.2.1, hts _ hv.2.2⟩
    ⟨zPc_blind g n _ w, ⟨cellV, by rw [hP.ad hb]; exact g1, by rw [g3]; rfl, by rw [g2, ← hrc]; exact hcls.1⟩, fun U hU hW => ⟨rfl, ⟨hK.warm hW, by rw [hU]; exact (hX.kept fun a h1 h2 => hS.2.1 a h1 h2).warm hW⟩, by rw [hU]; exact hP⟩⟩
    rfl (by rw [List.length_map]; exact hk) hl.1 rfl (lv_room (by rw [z_cats]; exact hcat)) hd (z_fit hR h0n hnn hn')
theorem g_callS (hd : zd M pc (.invokestatic idx) 3 q) (hm : zm M' k) (hv : zlS M.1.cls idx M') (hS0 : S = As.reverse ++ rest) (hk : As.length = k) (hcat : (rest.map fun v => v.category).sum ≤ 8) (hd' : d' + 1 ≤ d) (h0n : n0 ≤ n) (hn' : n' ≤ nE)
    (kk : Call d' M' n n' As w (fun r w' => Go d M n0 nE n' q L (r.toList ++ rest) w' Q)) : Go d M n0 nE n pc L S w Q := by
  obtain ⟨hd, rfl⟩ := hd
  subst hS0
  intro p l e R s m args below meth c g Z hC hE H locs ls hP hS hl
  obtain ⟨hnn, hM⟩ := kk
  have hC0 := hC
  obtain ⟨hx, hbd, hml, hown, hts, ⟨hK, hX⟩, hR, -, hbase⟩ := hC
  obtain ⟨hm1, hm2, hm3, hm4, hm5⟩ := hm
  refine z_back (rest := rest) (av := (As.map (zv g)).toArray) hC0 hE hS hl h0n hnn ?_
  rw [List.map_append, List.map_reverse]
  exact va_runS (As := As.map (zv g)) ⟨hx, hbd, hml, hown, hts⟩ (hM l g) (bytes := M'.2.1) (maxL := M'.2.2.1) (ret := M'.2.2.2) (n := k)
    ⟨⟨rfl, rfl, (z_room hR hd' hm3).1, (z_room hR hd' hm3).2, pay_in hts (zws_good ⟨hm1, hm2, hm3, hm4, hm5⟩), List.mem_cons_self, hts _ hm2, hts _ hm1, hm4, fun sig h => by rw [h] at hm5; exact (Option.some.inj hm5).symm, hts _ hv.1⟩, hts _ hv.2⟩
    ⟨zPc_blind g n _ w, fun U hU hW => ⟨rfl, ⟨hK.warm hW, by rw [hU]; exact (hX.kept fun a h1 h2 => hS.2.1 a h1 h2).warm hW⟩, by rw [hU]; exact hP⟩⟩
    rfl (by rw [List.length_map]; exact hk) hl.1 rfl (lv_room (by rw [z_cats]; exact hcat)) hd (z_fit hR h0n hnn hn')
theorem g_callI {b : Nat} (hd : zd M pc (.invokespecial idx) 3 q) (hm : zm M' k) (hv : zlI M.1.cls idx M') (hS0 : S = As.reverse ++ .ref b :: rest) (hk : As.length = k) (hcat : (rest.map fun v => v.category).sum ≤ 8) (hd' : d' + 1 ≤ d) (h0n : n0 ≤ n) (hn' : n' ≤ nE)
    (kk : Call d' M' n n' (.ref b :: As) w (fun r w' => Go d M n0 nE n' q L (r.toList ++ rest) w' Q)) : Go d M n0 nE n pc L S w Q := by
  obtain ⟨hd, rfl⟩ := hd
  subst hS0
  intro p l e R s m args below meth c g Z hC hE H locs ls hP hS hl
  obtain ⟨hnn, hM⟩ := kk
  have hC0 := hC
  obtain ⟨hx, hbd, hml, hown, hts, ⟨hK, hX⟩, hR, -, hbase⟩ := hC
  obtain ⟨hm1, hm2, hm3, hm4, hm5⟩ := hm
  refine z_back (rest := rest) (av := (Value.ref (ad g b) :: As.map (zv g)).toArray) hC0 hE hS hl h0n hnn ?_
  rw [z_map_stack]
  have hret := hv.2.2.2
  exact va_runI (As := As.map (zv g)) (b := ad g b) ⟨hx, hbd, hml, hown, hts⟩ (hM l g) (bytes := M'.2.1) (maxL := M'.2.2.1) (n := k)
    ⟨⟨rfl, rfl, (z_room hR hd' hm3).1, (z_room hR hd' hm3).2, pay_in hts (zws_good ⟨hm1, hm2, hm3, hm4, hm5⟩), by rw [← hret]; exact List.mem_cons_self, by rw [← hret]; exact hts _ hm2, hts _ hm1, hm4, fun sig h => by rw [h] at hm5; exact (Option.some.inj hm5).symm, hts _ hv.1⟩, hv.2.2.1, hts _ hv.2.1⟩
    ⟨zPc_blind g n _ w, fun U hU hW => ⟨rfl, ⟨hK.warm hW, by rw [hU]; exact (hX.kept fun a h1 h2 => hS.2.1 a h1 h2).warm hW⟩, by rw [hU]; exact hP⟩⟩
    rfl (by rw [List.length_map]; exact hk) hl.1 rfl (lv_room (by rw [z_cats]; exact hcat)) hd (z_fit hR h0n hnn hn')
theorem g_callSN (hd : zd M pc (.invokestatic idx) 3 q) (hm : zm M' k) (hv : zlSN M.1.cls idx M') (hS0 : S = As.reverse ++ rest) (hk : As.length = k) (hcat : (rest.map fun v => v.category).sum ≤ 8) (hd' : d' + 1 ≤ d) (h0n : n0 ≤ n) (hn' : n' ≤ nE)
    (kk : Call d' M' n n' As w (fun r w' => Go d M n0 nE n' q L (r.toList ++ rest) w' Q)) : Go d M n0 nE n pc L S w Q := by
  obtain ⟨hd, rfl⟩ := hd
  subst hS0
  intro p l e R s m args below meth c g Z hC hE H locs ls hP hS hl
  obtain ⟨hnn, hM⟩ := kk
  have hC0 := hC
  obtain ⟨hx, hbd, hml, hown, hts, ⟨hK, hX⟩, hR, -, hbase⟩ := hC
  obtain ⟨hm1, hm2, hm3, hm4, hm5⟩ := hm
  obtain ⟨host, hv1, hv2⟩ := hv
  refine z_back (rest := rest) (av := (As.map (zv g)).toArray) hC0 hE hS hl h0n hnn ?_
  rw [List.map_append, List.map_reverse]
  exact va_runSN (As := As.map (zv g)) ⟨hx, hbd, hml, hown, hts⟩ (hM l g) (bytes := M'.2.1) (maxL := M'.2.2.1) (ret := M'.2.2.2) (n := k)
    ⟨va_cnB k hts (zws_good ⟨hm1, hm2, hm3, hm4, hm5⟩) rfl rfl rfl (hK.2.2.1 _ hv1 rfl) (hts _ hm1) ⟨hm4.1, hm4.2, hm5⟩ (z_room hR hd' hm3), hts _ hv2, trivial⟩
    ⟨zPc_blind g n _ w, fun U hU hW => ⟨rfl, ⟨hK.warm hW, by rw [hU]; exact (hX.kept fun a h1 h2 => hS.2.1 a h1 h2).warm hW⟩, by rw [hU]; exact hP⟩⟩
    rfl (by rw [List.length_map]; exact hk) hl.1 rfl (lv_room (by rw [z_cats]; exact hcat)) hd (z_fit hR h0n hnn hn')
theorem g_callIN {b : Nat} (hd : zd M pc (.invokespecial idx) 3 q) (hm : zm M' k) (hv : zlIN M.1.cls idx M') (hS0 : S = As.reverse ++ .ref b :: rest) (hk : As.length = k) (hcat : (rest.map fun v => v.category).sum ≤ 8) (hd' : d' + 1 ≤ d) (h0n : n0 ≤ n) (hn' : n' ≤ nE)
    (kk : Call d' M' n n' (.ref b :: As) w (fun r w' => Go d M n0 nE n' q L (r.toList ++ rest) w' Q)) : Go d M n0 nE n pc L S w Q := by
  obtain ⟨hd, rfl⟩ := hd
  subst hS0
  intro p l e R s m args below meth c g Z hC hE H locs ls hP hS hl
  obtain ⟨hnn, hM⟩ := kk
  have hC0 := hC
  obtain ⟨hx, hbd, hml, hown, hts, ⟨hK, hX⟩, hR, -, hbase⟩ := hC
  obtain ⟨hm1, hm2, hm3, hm4, hm5⟩ := hm
  obtain ⟨host, hv1, hv2, hv3, hret⟩ := hv
  refine z_back (rest := rest) (av := (Value.ref (ad g b) :: As.map (zv g)).toArray) hC0 hE hS hl h0n hnn ?_
  rw [z_map_stack]
  exact va_runIN (As := As.map (zv g)) (b := ad g b) ⟨hx, hbd, hml, hown, hts⟩ (hM l g) (bytes := M'.2.1) (maxL := M'.2.2.1) (n := k)
    ⟨va_cnB k hts (zws_good ⟨hm1, hm2, hm3, hm4, hm5⟩) (by rw [← hret]; rfl) rfl rfl (hK.2.2.1 _ hv1 rfl) (hts _ hm1) ⟨hm4.1, hm4.2, hm5⟩ (z_room hR hd' hm3), hv3, hts _ hv2⟩
    ⟨zPc_blind g n _ w, fun U hU hW => ⟨rfl, ⟨hK.warm hW, by rw [hU]; exact (hX.kept fun a h1 h2 => hS.2.1 a h1 h2).warm hW⟩, by rw [hU]; exact hP⟩⟩
    rfl (by rw [List.length_map]; exact hk) hl.1 rfl (lv_room (by rw [z_cats]; exact hcat)) hd (z_fit hR h0n hnn hn')
theorem call_mono {as : List Value} {Q' : Option Value → Mm → Prop} (h : Call d M n0 nE as w Q') (hQ : ∀ r w, Q' r w → Q r w) : Call d M n0 nE as w Q := by
  refine ⟨h.1, fun l g => ?_⟩
  have h1 := h.2 l g
  intro p e a1 a2 a3 s m args below a4 a5 a6 a7
  obtain ⟨n, o, b1, b2, b3, ⟨⟨r, w', c1, c2, c3⟩, c4⟩, b5⟩ := h1 p e a1 a2 a3 s m args below a4 a5 a6 a7
  exact ⟨n, o, b1, b2, b3, ⟨⟨r, w', c1, hQ r w' c2, c3⟩, c4⟩, b5⟩
end CALLS
end
section
-- the memory once the constructors are through: ints, longs, and which TEXT the worlds hold
def R0 : List (List (Option Nat)) := [[some 1, some 74, some 92, none, some 106, none, some 107, none, some 108, some 116, some 121], [some 2, some 35, some 68, some 69, some 70, some 71, some 72, some 73, some 74], [some 3, some 4, some 5, some 6, some 7, some 8, some 9, some 10, some 11, some 12, some 13, some 14, some 15, some 16, some 17, some 18, some 19, some 20, some 21, some 22, some 23, some 24, some 25, some 26, some 27, some 28, some 29, some 30, some 31, some 32, some 33, some 34], [], [], [], [], [], [], [], [], [], [], [], [], [], [], [], [], [], [], [], [], [], [], [], [], [], [], [], [], [], [], [], [], [some 36, some 37, some 38, some 39, some 40, some 41, some 42, some 43, some 44, some 45, some 46, some 47, some 48, some 49, some 50, some 51, some 52, some 53, some 54, some 55, some 56, some 57, some 58, some 59, some 60, some 61, some 62, some 63, some 64, some 65, some 66, some 67], [], [], [], [], [], [], [], [], [], [], [], [], [], [], [], [], [], [], [], [], [], [], [], [], [], [], [], [], [], [], [], [], [], [], [], [], [], [], [some 75, some 76], [some 77, some 78, some 79, some 80, some 81, some 82], [some 83, some 84, some 85, some 86, some 87], [], [], [], [], [], [], [], [], [], [], [], [some 89, some 90, some 91], [], [], [], [some 93, some 94], [some 95, some 96, some 97, some 98, some 99, some 100], [some 101, some 102, some 103, some 104, some 105], [], [], [], [], [], [], [], [], [], [], [], [some 122, some 126, some 130, some 134, some 138, some 142], [], [some 109, some 110, some 111, none, none, some 112], [], [], [], [some 113, some 114, some 115], [], [], [], [some 117, some 120], [some 118, some 119], [], [], [], [some 146, some 148, some 150, some 152], [some 123, some 124, some 125], [], [], [], [some 127, some 128, some 129], [], [], [], [some 131, some 132, some 133], [], [], [], [some 135, some 136, some 137], [], [], [], [some 139, some 140, some 141], [], [], [], [some 143, some 144, some 145], [], [], [], [some 147], [], [some 149], [], [some 151], [], [some 153], [], [none, some 155, some 156, none, none, some 157, none, some 158, some 159, some 160, some 161, none, some 162, some 163, some 164, none, none, none, none, none, none, none, none, none, none, none, none, none, none, none, none, some 165, some 166, some 167, some 168, some 169, some 170, none, none, none, some 171, some 172, none, none, none, some 173, some 174, some 175, some 176], [], [], [], [], [], [], [], [], [], [], [], [], [], [], [], [], [], [], [], [], [], []]
def Rf (r i k : Nat) : Option Nat := if i = 1 ∧ k = 9 then some r else (R0.getD i []).getD k none
abbrev Vv : Type := (Nat → Nat → Int32) × (Nat → Nat → Int64) × Nat
abbrev em (v : Vv) : Mm := (v.1, v.2.1, Rf v.2.2)
abbrev sI (v : Vv) (i k : Nat) (x : Int32) : Vv := (u2 v.1 i k x, v.2.1, v.2.2)
abbrev sJ (v : Vv) (i k : Nat) (x : Int64) : Vv := (v.1, u2 v.2.1 i k x, v.2.2)
abbrev sR (v : Vv) (r : Nat) : Vv := (v.1, v.2.1, r)
theorem Rf_set (r r' : Nat) : u2 (Rf r) 1 9 (some r') = Rf r' := by
  funext i k
  unfold u2 Rf
  by_cases h : i = 1 ∧ k = 9
  · rw [if_pos h, if_pos h]
  · rw [if_neg h, if_neg h, if_neg h]
def isText (t : Nat) : Prop := t ∈ [88, 112, 122, 126, 130, 134, 138, 142]
def isHouse (t : Nat) : Prop := t ∈ [74, 92]
def isSheet (t : Nat) : Prop := t ∈ [146, 148, 150, 152]
def isClock (t : Nat) : Prop := t ∈ [77, 78, 79, 80, 81, 82, 95, 96, 97, 98, 99, 100]
def isDoer (t : Nat) : Prop := t ∈ [83, 84, 85, 86, 87, 101, 102, 103, 104, 105]
theorem isText_o {t : Nat} (h : isText t) : SH[t]? = some (.inl 7) := by
  have h3 : ∀ t ∈ [88, 112, 122, 126, 130, 134, 138, 142], SH[t]? = some (.inl 7) := by decide +kernel
  exact h3 t h
theorem isHouse_o {t : Nat} (h : isHouse t) : SH[t]? = some (.inl 2) := by
  have h3 : ∀ t ∈ [74, 92], SH[t]? = some (.inl 2) := by decide +kernel
  exact h3 t h
theorem isSheet_o {t : Nat} (h : isSheet t) : SH[t]? = some (.inl 5) := by
  have h3 : ∀ t ∈ [146, 148, 150, 152], SH[t]? = some (.inl 5) := by decide +kernel
  exact h3 t h
theorem isClock_o {t : Nat} (h : isClock t) : SH[t]? = some (.inl 0) := by
  have h3 : ∀ t ∈ [77, 78, 79, 80, 81, 82, 95, 96, 97, 98, 99, 100], SH[t]? = some (.inl 0) := by decide +kernel
  exact h3 t h
theorem isDoer_o {t : Nat} (h : isDoer t) : SH[t]? = some (.inl 1) := by
  have h3 : ∀ t ∈ [83, 84, 85, 86, 87, 101, 102, 103, 104, 105], SH[t]? = some (.inl 1) := by decide +kernel
  exact h3 t h
theorem isText_code {t : Nat} (h : isText t) (r : Nat) : Rf r t 0 = some (t + 1) := by
  have h1 : ¬ (t = 1 ∧ 0 = 9) := fun q => absurd q.2 (by decide)
  unfold Rf
  rw [if_neg h1]
  have h3 : ∀ t ∈ [88, 112, 122, 126, 130, 134, 138, 142], (R0.getD t []).getD 0 none = some (t + 1) := by decide +kernel
  exact h3 t h
theorem isText_code_s {t : Nat} (h : isText t) : SH[t + 1]? = some (.inr (.int, 160)) := by
  have h3 : ∀ t ∈ [88, 112, 122, 126, 130, 134, 138, 142], SH[t + 1]? = some (.inr (.int, 160)) := by decide +kernel
  exact h3 t h
theorem isText_ends {t : Nat} (h : isText t) (r : Nat) : Rf r t 1 = some (t + 2) := by
  have h1 : ¬ (t = 1 ∧ 1 = 9) := fun q => absurd q.2 (by decide)
  unfold Rf
  rw [if_neg h1]
  have h3 : ∀ t ∈ [88, 112, 122, 126, 130, 134, 138, 142], (R0.getD t []).getD 1 none = some (t + 2) := by decide +kernel
  exact h3 t h
theorem isText_ends_s {t : Nat} (h : isText t) : SH[t + 2]? = some (.inr (.int, 3)) := by
  have h3 : ∀ t ∈ [88, 112, 122, 126, 130, 134, 138, 142], SH[t + 2]? = some (.inr (.int, 3)) := by decide +kernel
  exact h3 t h
theorem isText_stack {t : Nat} (h : isText t) (r : Nat) : Rf r t 2 = some (t + 3) := by
  have h1 : ¬ (t = 1 ∧ 2 = 9) := fun q => absurd q.2 (by decide)
  unfold Rf
  rw [if_neg h1]
  have h3 : ∀ t ∈ [88, 112, 122, 126, 130, 134, 138, 142], (R0.getD t []).getD 2 none = some (t + 3) := by decide +kernel
  exact h3 t h
theorem isText_stack_s {t : Nat} (h : isText t) : SH[t + 3]? = some (.inr (.int, 160)) := by
  have h3 : ∀ t ∈ [88, 112, 122, 126, 130, 134, 138, 142], SH[t + 3]? = some (.inr (.int, 160)) := by decide +kernel
  exact h3 t h
theorem isHouse_clocks {t : Nat} (h : isHouse t) (r : Nat) : Rf r t 0 = some (t + 1) := by
  have h1 : ¬ (t = 1 ∧ 0 = 9) := fun q => absurd q.2 (by decide)
  unfold Rf
  rw [if_neg h1]
  have h3 : ∀ t ∈ [74, 92], (R0.getD t []).getD 0 none = some (t + 1) := by decide +kernel
  exact h3 t h
theorem isHouse_clocks_s {t : Nat} (h : isHouse t) : SH[t + 1]? = some (.inr (.object "PutOn$Clock", 6)) := by
  have h3 : ∀ t ∈ [74, 92], SH[t + 1]? = some (.inr (.object "PutOn$Clock", 6)) := by decide +kernel
  exact h3 t h
theorem isHouse_doers {t : Nat} (h : isHouse t) (r : Nat) : Rf r t 1 = some (t + 2) := by
  have h1 : ¬ (t = 1 ∧ 1 = 9) := fun q => absurd q.2 (by decide)
  unfold Rf
  rw [if_neg h1]
  have h3 : ∀ t ∈ [74, 92], (R0.getD t []).getD 1 none = some (t + 2) := by decide +kernel
  exact h3 t h
theorem isHouse_doers_s {t : Nat} (h : isHouse t) : SH[t + 2]? = some (.inr (.object "PutOn$Doer", 5)) := by
  have h3 : ∀ t ∈ [74, 92], SH[t + 2]? = some (.inr (.object "PutOn$Doer", 5)) := by decide +kernel
  exact h3 t h
theorem isSheet_cells {t : Nat} (h : isSheet t) (r : Nat) : Rf r t 0 = some (t + 1) := by
  have h1 : ¬ (t = 1 ∧ 0 = 9) := fun q => absurd q.2 (by decide)
  unfold Rf
  rw [if_neg h1]
  have h3 : ∀ t ∈ [146, 148, 150, 152], (R0.getD t []).getD 0 none = some (t + 1) := by decide +kernel
  exact h3 t h
theorem isSheet_cells_s {t : Nat} (h : isSheet t) : SH[t + 1]? = some (.inr (.int, 40)) := by
  have h3 : ∀ t ∈ [146, 148, 150, 152], SH[t + 1]? = some (.inr (.int, 40)) := by decide +kernel
  exact h3 t h
theorem el_of {x : Int32} {n : Nat} (hx : ib x n) : ix x ∈ List.range n := List.mem_range.mpr (ib_lt hx)
theorem Rf_ne {r i k : Nat} (h : i ≠ 1) : Rf r i k = (R0.getD i []).getD k none := if_neg (fun q => h q.1)
theorem el_74c {x : Int32} (hx : ib x 6) (r : Nat) : Rf r 75 (ix x) = some (77 + ix x) := by
  rw [Rf_ne (by decide)]
  have h : ∀ k ∈ List.range 6, (R0.getD 75 []).getD k none = some (77 + k) := by decide +kernel
  exact h _ (el_of hx)
theorem el_74c_k {x : Int32} (hx : ib x 6) : isClock (77 + ix x) := by
  have h : ∀ k ∈ List.range 6, isClock (77 + k) := by unfold isClock; decide +kernel
  exact h _ (el_of hx)
theorem el_74d {x : Int32} (hx : ib x 5) (r : Nat) : Rf r 76 (ix x) = some (83 + ix x) := by
  rw [Rf_ne (by decide)]
  have h : ∀ k ∈ List.range 5, (R0.getD 76 []).getD k none = some (83 + k) := by decide +kernel
  exact h _ (el_of hx)
theorem el_74d_k {x : Int32} (hx : ib x 5) : isDoer (83 + ix x) := by
  have h : ∀ k ∈ List.range 5, isDoer (83 + k) := by unfold isDoer; decide +kernel
  exact h _ (el_of hx)
theorem el_tx {x : Int32} (hx : ib x 6) (r : Nat) : Rf r 106 (ix x) = some (122 + 4 * ix x) := by
  rw [Rf_ne (by decide)]
  have h : ∀ k ∈ List.range 6, (R0.getD 106 []).getD k none = some (122 + 4 * k) := by decide +kernel
  exact h _ (el_of hx)
theorem el_tx_k {x : Int32} (hx : ib x 6) : isText (122 + 4 * ix x) := by
  have h : ∀ k ∈ List.range 6, isText (122 + 4 * k) := by unfold isText; decide +kernel
  exact h _ (el_of hx)
theorem el_sh {x : Int32} (hx : ib x 4) (r : Nat) : Rf r 121 (ix x) = some (146 + 2 * ix x) := by
  rw [Rf_ne (by decide)]
  have h : ∀ k ∈ List.range 4, (R0.getD 121 []).getD k none = some (146 + 2 * k) := by decide +kernel
  exact h _ (el_of hx)
theorem el_sh_k {x : Int32} (hx : ib x 4) : isSheet (146 + 2 * ix x) := by
  have h : ∀ k ∈ List.range 4, isSheet (146 + 2 * k) := by unfold isSheet; decide +kernel
  exact h _ (el_of hx)
theorem el_at {x : Int32} (hx : ib x 32) (r : Nat) : Rf r 2 (ix x) = some (3 + ix x) := by
  rw [Rf_ne (by decide)]
  have h : ∀ k ∈ List.range 32, (R0.getD 2 []).getD k none = some (3 + k) := by decide +kernel
  exact h _ (el_of hx)
theorem el_dn {x : Int32} (hx : ib x 32) (r : Nat) : Rf r 35 (ix x) = some (36 + ix x) := by
  rw [Rf_ne (by decide)]
  have h : ∀ k ∈ List.range 32, (R0.getD 35 []).getD k none = some (36 + k) := by decide +kernel
  exact h _ (el_of hx)
theorem el_at_s {x : Int32} (hx : ib x 32) : SH[3 + ix x]? = some (.inr (.int, 6)) := by
  have h : ∀ k ∈ List.range 32, SH[3 + k]? = some (.inr (.int, 6)) := by decide +kernel
  exact h _ (el_of hx)
theorem el_dn_s {x : Int32} (hx : ib x 32) : SH[36 + ix x]? = some (.inr (.int, 6)) := by
  have h : ∀ k ∈ List.range 32, SH[36 + k]? = some (.inr (.int, 6)) := by decide +kernel
  exact h _ (el_of hx)
theorem el_hclocks {t : Nat} (ht : isHouse t) {x : Int32} (hx : ib x 6) (r : Nat) : Rf r (t + 1) (ix x) = some (t + 3 + ix x) := by
  rw [Rf_ne (by have h : ∀ t ∈ [74, 92], t + 1 ≠ 1 := by decide
                exact h t ht)]
  have h : ∀ t ∈ [74, 92], ∀ k ∈ List.range 6, (R0.getD (t + 1) []).getD k none = some (t + 3 + k) := by decide +kernel
  exact h t ht _ (el_of hx)
theorem el_hclocks_k {t : Nat} (ht : isHouse t) {x : Int32} (hx : ib x 6) : isClock (t + 3 + ix x) := by
  have h : ∀ t ∈ [74, 92], ∀ k ∈ List.range 6, isClock (t + 3 + k) := by unfold isClock; decide +kernel
  exact h t ht _ (el_of hx)
theorem el_hdoers {t : Nat} (ht : isHouse t) {x : Int32} (hx : ib x 5) (r : Nat) : Rf r (t + 2) (ix x) = some (t + 9 + ix x) := by
  rw [Rf_ne (by have h : ∀ t ∈ [74, 92], t + 2 ≠ 1 := by decide
                exact h t ht)]
  have h : ∀ t ∈ [74, 92], ∀ k ∈ List.range 5, (R0.getD (t + 2) []).getD k none = some (t + 9 + k) := by decide +kernel
  exact h t ht _ (el_of hx)
theorem el_hdoers_k {t : Nat} (ht : isHouse t) {x : Int32} (hx : ib x 5) : isDoer (t + 9 + ix x) := by
  have h : ∀ t ∈ [74, 92], ∀ k ∈ List.range 5, isDoer (t + 9 + k) := by unfold isDoer; decide +kernel
  exact h t ht _ (el_of hx)
theorem sh_0 : SH[0]? = some (.inl 9) := by decide +kernel
theorem sh_1 : SH[1]? = some (.inl 8) := by decide +kernel
theorem sh_2 : SH[2]? = some (.inr (.array .int, 32)) := by decide +kernel
theorem sh_35 : SH[35]? = some (.inr (.array .int, 32)) := by decide +kernel
theorem sh_36 : SH[36]? = some (.inr (.int, 6)) := by decide +kernel
theorem sh_68 : SH[68]? = some (.inr (.int, 32)) := by decide +kernel
theorem sh_69 : SH[69]? = some (.inr (.boolean, 32)) := by decide +kernel
theorem sh_70 : SH[70]? = some (.inr (.int, 32)) := by decide +kernel
theorem sh_71 : SH[71]? = some (.inr (.long, 32)) := by decide +kernel
theorem sh_72 : SH[72]? = some (.inr (.int, 5)) := by decide +kernel
theorem sh_73 : SH[73]? = some (.inr (.int, 6)) := by decide +kernel
theorem sh_74 : SH[74]? = some (.inl 2) := by decide +kernel
theorem sh_75 : SH[75]? = some (.inr (.object "PutOn$Clock", 6)) := by decide +kernel
theorem sh_76 : SH[76]? = some (.inr (.object "PutOn$Doer", 5)) := by decide +kernel
theorem sh_88 : SH[88]? = some (.inl 7) := by decide +kernel
theorem sh_92 : SH[92]? = some (.inl 2) := by decide +kernel
theorem sh_93 : SH[93]? = some (.inr (.object "PutOn$Clock", 6)) := by decide +kernel
theorem sh_94 : SH[94]? = some (.inr (.object "PutOn$Doer", 5)) := by decide +kernel
theorem sh_106 : SH[106]? = some (.inr (.object "PutOn$Text", 6)) := by decide +kernel
theorem sh_107 : SH[107]? = some (.inr (.int, 160)) := by decide +kernel
theorem sh_108 : SH[108]? = some (.inl 4) := by decide +kernel
theorem sh_109 : SH[109]? = some (.inr (.int, 161)) := by decide +kernel
theorem sh_110 : SH[110]? = some (.inr (.int, 161)) := by decide +kernel
theorem sh_111 : SH[111]? = some (.inr (.int, 161)) := by decide +kernel
theorem sh_112 : SH[112]? = some (.inl 7) := by decide +kernel
theorem sh_116 : SH[116]? = some (.inl 3) := by decide +kernel
theorem sh_117 : SH[117]? = some (.inl 6) := by decide +kernel
theorem sh_118 : SH[118]? = some (.inr (.int, 32)) := by decide +kernel
theorem sh_119 : SH[119]? = some (.inr (.long, 32)) := by decide +kernel
theorem sh_120 : SH[120]? = some (.inr (.boolean, 64)) := by decide +kernel
theorem sh_121 : SH[121]? = some (.inr (.object "PutOn$Sheet", 4)) := by decide +kernel
theorem sh_154 : SH[154]? = some (.inl 10) := by decide +kernel
theorem sh_155 : SH[155]? = some (.inr (.int, 960)) := by decide +kernel
theorem sh_156 : SH[156]? = some (.inr (.int, 6)) := by decide +kernel
theorem sh_157 : SH[157]? = some (.inr (.int, 160)) := by decide +kernel
theorem sh_158 : SH[158]? = some (.inr (.int, 6)) := by decide +kernel
theorem sh_159 : SH[159]? = some (.inr (.int, 6)) := by decide +kernel
theorem sh_160 : SH[160]? = some (.inr (.int, 6)) := by decide +kernel
theorem sh_161 : SH[161]? = some (.inr (.int, 6)) := by decide +kernel
theorem sh_162 : SH[162]? = some (.inr (.int, 5)) := by decide +kernel
theorem sh_163 : SH[163]? = some (.inr (.int, 5)) := by decide +kernel
theorem sh_164 : SH[164]? = some (.inr (.int, 5)) := by decide +kernel
theorem sh_165 : SH[165]? = some (.inr (.int, 192)) := by decide +kernel
theorem sh_166 : SH[166]? = some (.inr (.int, 192)) := by decide +kernel
theorem sh_167 : SH[167]? = some (.inr (.long, 32)) := by decide +kernel
theorem sh_168 : SH[168]? = some (.inr (.int, 32)) := by decide +kernel
theorem sh_169 : SH[169]? = some (.inr (.int, 32)) := by decide +kernel
theorem sh_170 : SH[170]? = some (.inr (.int, 32)) := by decide +kernel
theorem sh_171 : SH[171]? = some (.inr (.int, 24)) := by decide +kernel
theorem sh_172 : SH[172]? = some (.inr (.int, 10)) := by decide +kernel
theorem sh_173 : SH[173]? = some (.inr (.boolean, 4)) := by decide +kernel
theorem sh_174 : SH[174]? = some (.inr (.int, 4)) := by decide +kernel
theorem sh_175 : SH[175]? = some (.inr (.int, 4)) := by decide +kernel
theorem sh_176 : SH[176]? = some (.inr (.int, 160)) := by decide +kernel
theorem rf_0_0 (r : Nat) : Rf r 0 0 = some 1 := if_neg (by decide)
theorem rf_0_1 (r : Nat) : Rf r 0 1 = some 74 := if_neg (by decide)
theorem rf_0_2 (r : Nat) : Rf r 0 2 = some 92 := if_neg (by decide)
theorem rf_0_4 (r : Nat) : Rf r 0 4 = some 106 := if_neg (by decide)
theorem rf_0_6 (r : Nat) : Rf r 0 6 = some 107 := if_neg (by decide)
theorem rf_0_8 (r : Nat) : Rf r 0 8 = some 108 := if_neg (by decide)
theorem rf_0_9 (r : Nat) : Rf r 0 9 = some 116 := if_neg (by decide)
theorem rf_0_10 (r : Nat) : Rf r 0 10 = some 121 := if_neg (by decide)
theorem rf_1_0 (r : Nat) : Rf r 1 0 = some 2 := if_neg (by decide)
theorem rf_1_1 (r : Nat) : Rf r 1 1 = some 35 := if_neg (by decide)
theorem rf_1_2 (r : Nat) : Rf r 1 2 = some 68 := if_neg (by decide)
theorem rf_1_3 (r : Nat) : Rf r 1 3 = some 69 := if_neg (by decide)
theorem rf_1_4 (r : Nat) : Rf r 1 4 = some 70 := if_neg (by decide)
theorem rf_1_5 (r : Nat) : Rf r 1 5 = some 71 := if_neg (by decide)
theorem rf_1_6 (r : Nat) : Rf r 1 6 = some 72 := if_neg (by decide)
theorem rf_1_7 (r : Nat) : Rf r 1 7 = some 73 := if_neg (by decide)
theorem rf_1_8 (r : Nat) : Rf r 1 8 = some 74 := if_neg (by decide)
theorem rf_74_0 (r : Nat) : Rf r 74 0 = some 75 := if_neg (by decide)
theorem rf_74_1 (r : Nat) : Rf r 74 1 = some 76 := if_neg (by decide)
theorem rf_108_0 (r : Nat) : Rf r 108 0 = some 109 := if_neg (by decide)
theorem rf_108_1 (r : Nat) : Rf r 108 1 = some 110 := if_neg (by decide)
theorem rf_108_2 (r : Nat) : Rf r 108 2 = some 111 := if_neg (by decide)
theorem rf_108_5 (r : Nat) : Rf r 108 5 = some 112 := if_neg (by decide)
theorem rf_116_0 (r : Nat) : Rf r 116 0 = some 117 := if_neg (by decide)
theorem rf_116_1 (r : Nat) : Rf r 116 1 = some 120 := if_neg (by decide)
theorem rf_117_0 (r : Nat) : Rf r 117 0 = some 118 := if_neg (by decide)
theorem rf_117_1 (r : Nat) : Rf r 117 1 = some 119 := if_neg (by decide)
theorem rf_154_1 (r : Nat) : Rf r 154 1 = some 155 := if_neg (by decide)
theorem rf_154_2 (r : Nat) : Rf r 154 2 = some 156 := if_neg (by decide)
theorem rf_154_5 (r : Nat) : Rf r 154 5 = some 157 := if_neg (by decide)
theorem rf_154_7 (r : Nat) : Rf r 154 7 = some 158 := if_neg (by decide)
theorem rf_154_8 (r : Nat) : Rf r 154 8 = some 159 := if_neg (by decide)
theorem rf_154_9 (r : Nat) : Rf r 154 9 = some 160 := if_neg (by decide)
theorem rf_154_10 (r : Nat) : Rf r 154 10 = some 161 := if_neg (by decide)
theorem rf_154_12 (r : Nat) : Rf r 154 12 = some 162 := if_neg (by decide)
theorem rf_154_13 (r : Nat) : Rf r 154 13 = some 163 := if_neg (by decide)
theorem rf_154_14 (r : Nat) : Rf r 154 14 = some 164 := if_neg (by decide)
theorem rf_154_31 (r : Nat) : Rf r 154 31 = some 165 := if_neg (by decide)
theorem rf_154_32 (r : Nat) : Rf r 154 32 = some 166 := if_neg (by decide)
theorem rf_154_33 (r : Nat) : Rf r 154 33 = some 167 := if_neg (by decide)
theorem rf_154_34 (r : Nat) : Rf r 154 34 = some 168 := if_neg (by decide)
theorem rf_154_35 (r : Nat) : Rf r 154 35 = some 169 := if_neg (by decide)
theorem rf_154_36 (r : Nat) : Rf r 154 36 = some 170 := if_neg (by decide)
theorem rf_154_40 (r : Nat) : Rf r 154 40 = some 171 := if_neg (by decide)
theorem rf_154_41 (r : Nat) : Rf r 154 41 = some 172 := if_neg (by decide)
theorem rf_154_45 (r : Nat) : Rf r 154 45 = some 173 := if_neg (by decide)
theorem rf_154_46 (r : Nat) : Rf r 154 46 = some 174 := if_neg (by decide)
theorem rf_154_47 (r : Nat) : Rf r 154 47 = some 175 := if_neg (by decide)
theorem rf_154_48 (r : Nat) : Rf r 154 48 = some 176 := if_neg (by decide)
abbrev Gp (d : Nat) (M : zM) (pc : Nat) (L : List (Nat × Value)) (S : List Value) (v : Vv) (Q : Option Value → Vv → Prop) : Prop := Go d M NF NF NF pc L S (em v) (fun r w => ∃ v', w = em v' ∧ Q r v')
def Cp (d : Nat) (M : zM) (as : List Value) (v : Vv) (Q : Option Value → Vv → Prop) : Prop := Call d M NF NF as (em v) (fun r w => ∃ v', w = em v' ∧ Q r v')
def bI (b : Bool) : Int32 := if b then 1 else 0
abbrev QI (Q : Int32 → Vv → Prop) : Option Value → Vv → Prop := fun r v => ∃ x, r = some (.int x) ∧ Q x v
abbrev QZ (Q : Bool → Vv → Prop) : Option Value → Vv → Prop := fun r v => ∃ x, r = some (.int (bI x)) ∧ Q x v
abbrev QJ (Q : Int64 → Vv → Prop) : Option Value → Vv → Prop := fun r v => ∃ x, r = some (.long x) ∧ Q x v
abbrev QR (Q : Nat → Vv → Prop) : Option Value → Vv → Prop := fun r v => ∃ x, r = some (.ref x) ∧ Q x v
abbrev QV (Q : Vv → Prop) : Option Value → Vv → Prop := fun r v => r = none ∧ Q v
theorem cp_mono {d : Nat} {M : zM} {as : List Value} {v : Vv} {Q Q' : Option Value → Vv → Prop} (h : Cp d M as v Q') (hQ : ∀ r v, Q' r v → Q r v) : Cp d M as v Q := call_mono h (fun r w ⟨v', h1, h2⟩ => ⟨v', h1, hQ r v' h2⟩)
theorem iteT {c : Prop} [Decidable c] {A B : Prop} (h : if c then A else B) (hc : c) : A := by rwa [if_pos hc] at h
theorem iteF {c : Prop} [Decidable c] {A B : Prop} (h : if c then A else B) (hc : ¬ c) : B := by rwa [if_neg hc] at h
theorem bI_eq0 (b : Bool) : bI b = 0 ↔ ¬ b = true := by cases b <;> decide
theorem bI_nar (b : Bool) : narrow .boolean (.int (bI b)) = .int (bI b) := by cases b <;> rfl
section PP
variable {d d' : Nat} {M M' : zM} {pc q k idx : Nat} {L : List (Nat × Value)} {S rest As : List Value} {v : Vv} {Q : Option Value → Vv → Prop}
theorem p_getI {i ci : Nat} (hd : zd M pc (.getfield idx) 3 q) (hs : SH[i]? = some (.inl ci)) (hf : zfl M.1.cls idx ci k) (hz : zint (zft ci k) = true) (kk : Gp d M q L (.int (v.1 i k) :: S) v Q) : Gp d M pc L (.ref i :: S) v Q := g_getI hd hs (SH_lt hs) hf hz kk
theorem p_getJ {i ci : Nat} (hd : zd M pc (.getfield idx) 3 q) (hs : SH[i]? = some (.inl ci)) (hf : zfl M.1.cls idx ci k) (hz : zft ci k = .long) (kk : Gp d M q L (.long (v.2.1 i k) :: S) v Q) : Gp d M pc L (.ref i :: S) v Q := g_getJ hd hs (SH_lt hs) hf hz kk
theorem p_getR {i ci j : Nat} (hd : zd M pc (.getfield idx) 3 q) (hs : SH[i]? = some (.inl ci)) (hf : zfl M.1.cls idx ci k) (hz : zref (zft ci k) = true) (hj : Rf v.2.2 i k = some j) (kk : Gp d M q L (.ref j :: S) v Q) : Gp d M pc L (.ref i :: S) v Q := g_getR hd hs (SH_lt hs) hf hz hj kk
theorem p_putI {i ci : Nat} {x : Int32} (hd : zd M pc (.putfield idx) 3 q) (hs : SH[i]? = some (.inl ci)) (hf : zfp M.1.cls idx ci k) (hz : zint (zft ci k) = true) (hn : narrow (zft ci k) (.int x) = .int x) (hfit : fits (zft ci k) (.int x) = true) (kk : Gp d M q L S (sI v i k x) Q) : Gp d M pc L (.int x :: .ref i :: S) v Q := g_putI hd hs (SH_lt hs) hf hz hn hfit kk
theorem p_putJ {i ci : Nat} {x : Int64} (hd : zd M pc (.putfield idx) 3 q) (hs : SH[i]? = some (.inl ci)) (hf : zfp M.1.cls idx ci k) (hz : zft ci k = .long) (kk : Gp d M q L S (sJ v i k x) Q) : Gp d M pc L (.long x :: .ref i :: S) v Q := g_putJ hd hs (SH_lt hs) hf hz kk
theorem p_putRule {j : Nat} (hd : zd M pc (.putfield idx) 3 q) (hf : zfp M.1.cls idx 8 9) (kk : Gp d M q L S (sR v j) Q) : Gp d M pc L (.ref j :: .ref 1 :: S) v Q := by
  refine g_putR hd sh_1 (by decide) hf rfl ?_
  have e : mR (em v) 1 9 (some j) = em (sR v j) := by unfold mR; rw [Rf_set]
  rw [e]
  exact kk
theorem p_iald {a m : Nat} {x : Int32} (hd : zd M pc .iaload 1 q) (hs : SH[a]? = some (.inr (.int, m))) (hx : ib x m) (kk : Gp d M q L (.int (v.1 a (ix x)) :: S) v Q) : Gp d M pc L (.int x :: .ref a :: S) v Q := g_iald hd hs (SH_lt hs) hx kk
theorem p_zald {a m : Nat} {x : Int32} (hd : zd M pc .baload 1 q) (hs : SH[a]? = some (.inr (.boolean, m))) (hx : ib x m) (kk : Gp d M q L (.int (v.1 a (ix x)) :: S) v Q) : Gp d M pc L (.int x :: .ref a :: S) v Q := g_zald hd hs (SH_lt hs) hx kk
theorem p_lald {a m : Nat} {x : Int32} (hd : zd M pc .laload 1 q) (hs : SH[a]? = some (.inr (.long, m))) (hx : ib x m) (kk : Gp d M q L (.long (v.2.1 a (ix x)) :: S) v Q) : Gp d M pc L (.int x :: .ref a :: S) v Q := g_lald hd hs (SH_lt hs) hx kk
theorem p_aald {a m j : Nat} {ty : FieldType} {x : Int32} (hd : zd M pc .aaload 1 q) (hs : SH[a]? = some (.inr (ty, m))) (ht : ty ∈ zat) (hz : zref ty = true) (hx : ib x m) (hj : Rf v.2.2 a (ix x) = some j) (kk : Gp d M q L (.ref j :: S) v Q) : Gp d M pc L (.int x :: .ref a :: S) v Q := g_aald hd hs (SH_lt hs) ht hz hx hj kk
theorem p_iast {a m : Nat} {x y : Int32} (hd : zd M pc .iastore 1 q) (hs : SH[a]? = some (.inr (.int, m))) (hx : ib x m) (kk : Gp d M q L S (sI v a (ix x) y) Q) : Gp d M pc L (.int y :: .int x :: .ref a :: S) v Q := g_iast hd hs (SH_lt hs) hx kk
theorem p_last {a m : Nat} {x : Int32} {y : Int64} (hd : zd M pc .lastore 1 q) (hs : SH[a]? = some (.inr (.long, m))) (hx : ib x m) (kk : Gp d M q L S (sJ v a (ix x) y) Q) : Gp d M pc L (.long y :: .int x :: .ref a :: S) v Q := g_last hd hs (SH_lt hs) hx kk
theorem p_zast {a m : Nat} {x y : Int32} (hd : zd M pc .bastore 1 q) (hs : SH[a]? = some (.inr (.boolean, m))) (hx : ib x m) (kk : Gp d M q L S (sI v a (ix x) (nb y)) Q) : Gp d M pc L (.int y :: .int x :: .ref a :: S) v Q := g_zast hd hs (SH_lt hs) hx kk
theorem p_alen {a m : Nat} {ty : FieldType} {x : Int32} (hd : zd M pc .arraylength 1 q) (hs : SH[a]? = some (.inr (ty, m))) (ht : ty ∈ zat) (hv : Int32.ofNat m = x) (kk : Gp d M q L (.int x :: S) v Q) : Gp d M pc L (.ref a :: S) v Q := g_alen hd hs (SH_lt hs) ht hv kk
theorem p_retI {x : Int32} {Q : Int32 → Vv → Prop} (hd : decode M.2.1 pc = .ok (.ireturn, 1)) (hr : M.2.2.2 = some .int) (h : Q x v) : Gp d M pc L [.int x] v (QI Q) := g_ret (some (.int x)) ⟨hd, _, hr, rfl⟩ rfl rfl ⟨v, rfl, x, rfl, h⟩
theorem p_retC {x : Int32} {Q : Int32 → Vv → Prop} (hd : decode M.2.1 pc = .ok (.ireturn, 1)) (hr : M.2.2.2 = some .char) (hn : narrow .char (.int x) = .int x) (h : Q x v) : Gp d M pc L [.int x] v (QI Q) := g_ret (some (.int x)) ⟨hd, _, hr, hn⟩ rfl rfl ⟨v, rfl, x, rfl, h⟩
theorem p_retZ {x : Bool} {Q : Bool → Vv → Prop} (hd : decode M.2.1 pc = .ok (.ireturn, 1)) (hr : M.2.2.2 = some .boolean) (h : Q x v) : Gp d M pc L [.int (bI x)] v (QZ Q) := g_ret (some (.int (bI x))) ⟨hd, _, hr, bI_nar x⟩ rfl rfl ⟨v, rfl, x, rfl, h⟩
theorem p_retJ {x : Int64} {Q : Int64 → Vv → Prop} (hd : decode M.2.1 pc = .ok (.lreturn, 1)) (hr : M.2.2.2 = some .long) (h : Q x v) : Gp d M pc L [.long x] v (QJ Q) := g_ret (some (.long x)) ⟨hd, hr⟩ rfl rfl ⟨v, rfl, x, rfl, h⟩
theorem p_retR {x : Nat} {C : String} {Q : Nat → Vv → Prop} (hd : decode M.2.1 pc = .ok (.areturn, 1)) (hr : M.2.2.2 = some (.object C)) (h : Q x v) : Gp d M pc L [.ref x] v (QR Q) := g_ret (some (.ref x)) ⟨hd, C, hr⟩ rfl rfl ⟨v, rfl, x, rfl, h⟩
theorem p_retV {Q : Vv → Prop} (hd : decode M.2.1 pc = .ok (.return_, 1)) (hr : M.2.2.2 = none) (h : Q v) : Gp d M pc L [] v (QV Q) := g_ret none ⟨hr, hd⟩ rfl rfl ⟨v, rfl, rfl, h⟩
theorem cp_go {as : List Value} {Q : Option Value → Vv → Prop} (hla : (lg_sl as).length ≤ M.2.2.1) (hp : plainName M.1.cls = true) (h : Gp d M 0 (lv_args 0 as) [] v Q) : Cp d M as v Q := call_of_go (Nat.le_refl _) hp hla h
theorem p_ifz_eq {x : Bool} {off : Int} {tgt : Nat} (hd : zd M pc (.ifCond .eq off) 3 q) (ht : (pc : Int) + off = (tgt : Int)) (kt : ¬ x = true → Gp d M tgt L S v Q) (kf : x = true → Gp d M q L S v Q) : Gp d M pc L (.int (bI x) :: S) v Q := g_if_eq hd ht (fun h => kt ((bI_eq0 x).mp h)) (fun h => kf (Classical.not_not.mp (fun z => h ((bI_eq0 x).mpr z))))
theorem p_ifz_ne {x : Bool} {off : Int} {tgt : Nat} (hd : zd M pc (.ifCond .ne off) 3 q) (ht : (pc : Int) + off = (tgt : Int)) (kt : x = true → Gp d M tgt L S v Q) (kf : ¬ x = true → Gp d M q L S v Q) : Gp d M pc L (.int (bI x) :: S) v Q := g_if_ne hd ht (fun h => kt (Classical.not_not.mp (fun z => h ((bI_eq0 x).mpr z)))) (fun h => kf ((bI_eq0 x).mp h))
theorem p_callVI {b ci : Nat} {r : vw_C} (hd : zd M pc (.invokevirtual idx) 3 q) (hm : zm M' k) (hv : zlV M.1.cls idx M') (hs : SH[b]? = some (.inl ci)) (hr : zcl[ci]? = some r) (hrc : r.1 = M'.1.cls) (hS0 : S = As.reverse ++ .ref b :: rest) (hk : As.length = k) (hcat : (rest.map fun v => v.category).sum ≤ 8) (hd' : d' + 1 ≤ d) (kk : Cp d' M' (.ref b :: As) v (QI (fun x v' => Gp d M q L (.int x :: rest) v' Q))) : Gp d M pc L S v Q := g_callV hd hm hv hs (SH_lt hs) hr hrc hS0 hk hcat hd' (Nat.le_refl _) (Nat.le_refl _) (call_mono kk (fun r w ⟨v', hv, x, hr, h⟩ => by subst hv; subst hr; exact h))
theorem p_callSI (hd : zd M pc (.invokestatic idx) 3 q) (hm : zm M' k) (hv : zlS M.1.cls idx M') (hS0 : S = As.reverse ++ rest) (hk : As.length = k) (hcat : (rest.map fun v => v.category).sum ≤ 8) (hd' : d' + 1 ≤ d) (kk : Cp d' M' As v (QI (fun x v' => Gp d M q L (.int x :: rest) v' Q))) : Gp d M pc L S v Q := g_callS hd hm hv hS0 hk hcat hd' (Nat.le_refl _) (Nat.le_refl _) (call_mono kk (fun r w ⟨v', hv, x, hr, h⟩ => by subst hv; subst hr; exact h))
theorem p_callSNI (hd : zd M pc (.invokestatic idx) 3 q) (hm : zm M' k) (hv : zlSN M.1.cls idx M') (hS0 : S = As.reverse ++ rest) (hk : As.length = k) (hcat : (rest.map fun v => v.category).sum ≤ 8) (hd' : d' + 1 ≤ d) (kk : Cp d' M' As v (QI (fun x v' => Gp d M q L (.int x :: rest) v' Q))) : Gp d M pc L S v Q := g_callSN hd hm hv hS0 hk hcat hd' (Nat.le_refl _) (Nat.le_refl _) (call_mono kk (fun r w ⟨v', hv, x, hr, h⟩ => by subst hv; subst hr; exact h))
theorem p_callVZ {b ci : Nat} {r : vw_C} (hd : zd M pc (.invokevirtual idx) 3 q) (hm : zm M' k) (hv : zlV M.1.cls idx M') (hs : SH[b]? = some (.inl ci)) (hr : zcl[ci]? = some r) (hrc : r.1 = M'.1.cls) (hS0 : S = As.reverse ++ .ref b :: rest) (hk : As.length = k) (hcat : (rest.map fun v => v.category).sum ≤ 8) (hd' : d' + 1 ≤ d) (kk : Cp d' M' (.ref b :: As) v (QZ (fun x v' => Gp d M q L (.int (bI x) :: rest) v' Q))) : Gp d M pc L S v Q := g_callV hd hm hv hs (SH_lt hs) hr hrc hS0 hk hcat hd' (Nat.le_refl _) (Nat.le_refl _) (call_mono kk (fun r w ⟨v', hv, x, hr, h⟩ => by subst hv; subst hr; exact h))
theorem p_callSZ (hd : zd M pc (.invokestatic idx) 3 q) (hm : zm M' k) (hv : zlS M.1.cls idx M') (hS0 : S = As.reverse ++ rest) (hk : As.length = k) (hcat : (rest.map fun v => v.category).sum ≤ 8) (hd' : d' + 1 ≤ d) (kk : Cp d' M' As v (QZ (fun x v' => Gp d M q L (.int (bI x) :: rest) v' Q))) : Gp d M pc L S v Q := g_callS hd hm hv hS0 hk hcat hd' (Nat.le_refl _) (Nat.le_refl _) (call_mono kk (fun r w ⟨v', hv, x, hr, h⟩ => by subst hv; subst hr; exact h))
theorem p_callSNZ (hd : zd M pc (.invokestatic idx) 3 q) (hm : zm M' k) (hv : zlSN M.1.cls idx M') (hS0 : S = As.reverse ++ rest) (hk : As.length = k) (hcat : (rest.map fun v => v.category).sum ≤ 8) (hd' : d' + 1 ≤ d) (kk : Cp d' M' As v (QZ (fun x v' => Gp d M q L (.int (bI x) :: rest) v' Q))) : Gp d M pc L S v Q := g_callSN hd hm hv hS0 hk hcat hd' (Nat.le_refl _) (Nat.le_refl _) (call_mono kk (fun r w ⟨v', hv, x, hr, h⟩ => by subst hv; subst hr; exact h))
theorem p_callVJ {b ci : Nat} {r : vw_C} (hd : zd M pc (.invokevirtual idx) 3 q) (hm : zm M' k) (hv : zlV M.1.cls idx M') (hs : SH[b]? = some (.inl ci)) (hr : zcl[ci]? = some r) (hrc : r.1 = M'.1.cls) (hS0 : S = As.reverse ++ .ref b :: rest) (hk : As.length = k) (hcat : (rest.map fun v => v.category).sum ≤ 8) (hd' : d' + 1 ≤ d) (kk : Cp d' M' (.ref b :: As) v (QJ (fun x v' => Gp d M q L (.long x :: rest) v' Q))) : Gp d M pc L S v Q := g_callV hd hm hv hs (SH_lt hs) hr hrc hS0 hk hcat hd' (Nat.le_refl _) (Nat.le_refl _) (call_mono kk (fun r w ⟨v', hv, x, hr, h⟩ => by subst hv; subst hr; exact h))
theorem p_callSJ (hd : zd M pc (.invokestatic idx) 3 q) (hm : zm M' k) (hv : zlS M.1.cls idx M') (hS0 : S = As.reverse ++ rest) (hk : As.length = k) (hcat : (rest.map fun v => v.category).sum ≤ 8) (hd' : d' + 1 ≤ d) (kk : Cp d' M' As v (QJ (fun x v' => Gp d M q L (.long x :: rest) v' Q))) : Gp d M pc L S v Q := g_callS hd hm hv hS0 hk hcat hd' (Nat.le_refl _) (Nat.le_refl _) (call_mono kk (fun r w ⟨v', hv, x, hr, h⟩ => by subst hv; subst hr; exact h))
theorem p_callSNJ (hd : zd M pc (.invokestatic idx) 3 q) (hm : zm M' k) (hv : zlSN M.1.cls idx M') (hS0 : S = As.reverse ++ rest) (hk : As.length = k) (hcat : (rest.map fun v => v.category).sum ≤ 8) (hd' : d' + 1 ≤ d) (kk : Cp d' M' As v (QJ (fun x v' => Gp d M q L (.long x :: rest) v' Q))) : Gp d M pc L S v Q := g_callSN hd hm hv hS0 hk hcat hd' (Nat.le_refl _) (Nat.le_refl _) (call_mono kk (fun r w ⟨v', hv, x, hr, h⟩ => by subst hv; subst hr; exact h))
theorem p_callVR {b ci : Nat} {r : vw_C} (hd : zd M pc (.invokevirtual idx) 3 q) (hm : zm M' k) (hv : zlV M.1.cls idx M') (hs : SH[b]? = some (.inl ci)) (hr : zcl[ci]? = some r) (hrc : r.1 = M'.1.cls) (hS0 : S = As.reverse ++ .ref b :: rest) (hk : As.length = k) (hcat : (rest.map fun v => v.category).sum ≤ 8) (hd' : d' + 1 ≤ d) (kk : Cp d' M' (.ref b :: As) v (QR (fun x v' => Gp d M q L (.ref x :: rest) v' Q))) : Gp d M pc L S v Q := g_callV hd hm hv hs (SH_lt hs) hr hrc hS0 hk hcat hd' (Nat.le_refl _) (Nat.le_refl _) (call_mono kk (fun r w ⟨v', hv, x, hr, h⟩ => by subst hv; subst hr; exact h))
theorem p_callSR (hd : zd M pc (.invokestatic idx) 3 q) (hm : zm M' k) (hv : zlS M.1.cls idx M') (hS0 : S = As.reverse ++ rest) (hk : As.length = k) (hcat : (rest.map fun v => v.category).sum ≤ 8) (hd' : d' + 1 ≤ d) (kk : Cp d' M' As v (QR (fun x v' => Gp d M q L (.ref x :: rest) v' Q))) : Gp d M pc L S v Q := g_callS hd hm hv hS0 hk hcat hd' (Nat.le_refl _) (Nat.le_refl _) (call_mono kk (fun r w ⟨v', hv, x, hr, h⟩ => by subst hv; subst hr; exact h))
theorem p_callSNR (hd : zd M pc (.invokestatic idx) 3 q) (hm : zm M' k) (hv : zlSN M.1.cls idx M') (hS0 : S = As.reverse ++ rest) (hk : As.length = k) (hcat : (rest.map fun v => v.category).sum ≤ 8) (hd' : d' + 1 ≤ d) (kk : Cp d' M' As v (QR (fun x v' => Gp d M q L (.ref x :: rest) v' Q))) : Gp d M pc L S v Q := g_callSN hd hm hv hS0 hk hcat hd' (Nat.le_refl _) (Nat.le_refl _) (call_mono kk (fun r w ⟨v', hv, x, hr, h⟩ => by subst hv; subst hr; exact h))
theorem p_callVV {b ci : Nat} {r : vw_C} (hd : zd M pc (.invokevirtual idx) 3 q) (hm : zm M' k) (hv : zlV M.1.cls idx M') (hs : SH[b]? = some (.inl ci)) (hr : zcl[ci]? = some r) (hrc : r.1 = M'.1.cls) (hS0 : S = As.reverse ++ .ref b :: rest) (hk : As.length = k) (hcat : (rest.map fun v => v.category).sum ≤ 8) (hd' : d' + 1 ≤ d) (kk : Cp d' M' (.ref b :: As) v (QV (fun v' => Gp d M q L rest v' Q))) : Gp d M pc L S v Q := g_callV hd hm hv hs (SH_lt hs) hr hrc hS0 hk hcat hd' (Nat.le_refl _) (Nat.le_refl _) (call_mono kk (fun r w ⟨v', hv, hr, h⟩ => by subst hv; subst hr; exact h))
theorem p_callSV (hd : zd M pc (.invokestatic idx) 3 q) (hm : zm M' k) (hv : zlS M.1.cls idx M') (hS0 : S = As.reverse ++ rest) (hk : As.length = k) (hcat : (rest.map fun v => v.category).sum ≤ 8) (hd' : d' + 1 ≤ d) (kk : Cp d' M' As v (QV (fun v' => Gp d M q L rest v' Q))) : Gp d M pc L S v Q := g_callS hd hm hv hS0 hk hcat hd' (Nat.le_refl _) (Nat.le_refl _) (call_mono kk (fun r w ⟨v', hv, hr, h⟩ => by subst hv; subst hr; exact h))
theorem p_callSNV (hd : zd M pc (.invokestatic idx) 3 q) (hm : zm M' k) (hv : zlSN M.1.cls idx M') (hS0 : S = As.reverse ++ rest) (hk : As.length = k) (hcat : (rest.map fun v => v.category).sum ≤ 8) (hd' : d' + 1 ≤ d) (kk : Cp d' M' As v (QV (fun v' => Gp d M q L rest v' Q))) : Gp d M pc L S v Q := g_callSN hd hm hv hS0 hk hcat hd' (Nat.le_refl _) (Nat.le_refl _) (call_mono kk (fun r w ⟨v', hv, hr, h⟩ => by subst hv; subst hr; exact h))
end PP
end
section
theorem tb_1 {w : Cond} (h : w ∈ tables_1_1) : w ∈ lw_tbl := List.mem_append_right _ (show w ∈ tables_1 from (List.mem_append_left _ h))
theorem zL_1 {w : Cond} {i : Nat} (h : tables_1_1[i]? = some w) : w ∈ lw_tbl := tb_1 (List.mem_of_getElem? h)
theorem zT_1 {w : Cond} {i : Nat} (h : tables_1_1[i]? = some w) (hg : goodWord w = true) : w ∈ zT := List.mem_filter.mpr ⟨zL_1 h, hg⟩
theorem pv_1 {q : MethodName × Nat} (h : q ∈ lw_privs_1) : q ∈ lw_privs := (List.mem_append_left _ h)
theorem zTp_1 {y : MethodName} {i n : Nat} (h : lw_privs_1[i]? = some (y, n)) (hg : goodWord (Cond.selects y.cls y y) = true) : Cond.selects y.cls y y ∈ zT := List.mem_filter.mpr ⟨List.mem_append_left _ (List.mem_map.mpr ⟨(y, n), pv_1 (List.mem_of_getElem? h), rfl⟩), hg⟩
theorem tb_2 {w : Cond} (h : w ∈ tables_1_2) : w ∈ lw_tbl := List.mem_append_right _ (show w ∈ tables_1 from (List.mem_append_right _ (List.mem_append_left _ h)))
theorem zL_2 {w : Cond} {i : Nat} (h : tables_1_2[i]? = some w) : w ∈ lw_tbl := tb_2 (List.mem_of_getElem? h)
theorem zT_2 {w : Cond} {i : Nat} (h : tables_1_2[i]? = some w) (hg : goodWord w = true) : w ∈ zT := List.mem_filter.mpr ⟨zL_2 h, hg⟩
theorem pv_2 {q : MethodName × Nat} (h : q ∈ lw_privs_2) : q ∈ lw_privs := (List.mem_append_right _ (List.mem_append_left _ h))
theorem zTp_2 {y : MethodName} {i n : Nat} (h : lw_privs_2[i]? = some (y, n)) (hg : goodWord (Cond.selects y.cls y y) = true) : Cond.selects y.cls y y ∈ zT := List.mem_filter.mpr ⟨List.mem_append_left _ (List.mem_map.mpr ⟨(y, n), pv_2 (List.mem_of_getElem? h), rfl⟩), hg⟩
theorem tb_3 {w : Cond} (h : w ∈ tables_1_3) : w ∈ lw_tbl := List.mem_append_right _ (show w ∈ tables_1 from (List.mem_append_right _ (List.mem_append_right _ (List.mem_append_left _ h))))
theorem zL_3 {w : Cond} {i : Nat} (h : tables_1_3[i]? = some w) : w ∈ lw_tbl := tb_3 (List.mem_of_getElem? h)
theorem zT_3 {w : Cond} {i : Nat} (h : tables_1_3[i]? = some w) (hg : goodWord w = true) : w ∈ zT := List.mem_filter.mpr ⟨zL_3 h, hg⟩
theorem pv_3 {q : MethodName × Nat} (h : q ∈ lw_privs_3) : q ∈ lw_privs := (List.mem_append_right _ (List.mem_append_right _ (List.mem_append_left _ h)))
theorem zTp_3 {y : MethodName} {i n : Nat} (h : lw_privs_3[i]? = some (y, n)) (hg : goodWord (Cond.selects y.cls y y) = true) : Cond.selects y.cls y y ∈ zT := List.mem_filter.mpr ⟨List.mem_append_left _ (List.mem_map.mpr ⟨(y, n), pv_3 (List.mem_of_getElem? h), rfl⟩), hg⟩
theorem tb_4 {w : Cond} (h : w ∈ tables_1_4) : w ∈ lw_tbl := List.mem_append_right _ (show w ∈ tables_1 from (List.mem_append_right _ (List.mem_append_right _ (List.mem_append_right _ (List.mem_append_left _ h)))))
theorem zL_4 {w : Cond} {i : Nat} (h : tables_1_4[i]? = some w) : w ∈ lw_tbl := tb_4 (List.mem_of_getElem? h)
theorem zT_4 {w : Cond} {i : Nat} (h : tables_1_4[i]? = some w) (hg : goodWord w = true) : w ∈ zT := List.mem_filter.mpr ⟨zL_4 h, hg⟩
theorem pv_4 {q : MethodName × Nat} (h : q ∈ lw_privs_4) : q ∈ lw_privs := (List.mem_append_right _ (List.mem_append_right _ (List.mem_append_right _ (List.mem_append_left _ h))))
theorem zTp_4 {y : MethodName} {i n : Nat} (h : lw_privs_4[i]? = some (y, n)) (hg : goodWord (Cond.selects y.cls y y) = true) : Cond.selects y.cls y y ∈ zT := List.mem_filter.mpr ⟨List.mem_append_left _ (List.mem_map.mpr ⟨(y, n), pv_4 (List.mem_of_getElem? h), rfl⟩), hg⟩
theorem tb_5 {w : Cond} (h : w ∈ tables_1_5) : w ∈ lw_tbl := List.mem_append_right _ (show w ∈ tables_1 from (List.mem_append_right _ (List.mem_append_right _ (List.mem_append_right _ (List.mem_append_right _ (List.mem_append_left _ h))))))
theorem zL_5 {w : Cond} {i : Nat} (h : tables_1_5[i]? = some w) : w ∈ lw_tbl := tb_5 (List.mem_of_getElem? h)
theorem zT_5 {w : Cond} {i : Nat} (h : tables_1_5[i]? = some w) (hg : goodWord w = true) : w ∈ zT := List.mem_filter.mpr ⟨zL_5 h, hg⟩
theorem pv_5 {q : MethodName × Nat} (h : q ∈ lw_privs_5) : q ∈ lw_privs := (List.mem_append_right _ (List.mem_append_right _ (List.mem_append_right _ (List.mem_append_right _ (List.mem_append_left _ h)))))
theorem zTp_5 {y : MethodName} {i n : Nat} (h : lw_privs_5[i]? = some (y, n)) (hg : goodWord (Cond.selects y.cls y y) = true) : Cond.selects y.cls y y ∈ zT := List.mem_filter.mpr ⟨List.mem_append_left _ (List.mem_map.mpr ⟨(y, n), pv_5 (List.mem_of_getElem? h), rfl⟩), hg⟩
theorem tb_6 {w : Cond} (h : w ∈ tables_1_6) : w ∈ lw_tbl := List.mem_append_right _ (show w ∈ tables_1 from (List.mem_append_right _ (List.mem_append_right _ (List.mem_append_right _ (List.mem_append_right _ (List.mem_append_right _ (List.mem_append_left _ h)))))))
theorem zL_6 {w : Cond} {i : Nat} (h : tables_1_6[i]? = some w) : w ∈ lw_tbl := tb_6 (List.mem_of_getElem? h)
theorem zT_6 {w : Cond} {i : Nat} (h : tables_1_6[i]? = some w) (hg : goodWord w = true) : w ∈ zT := List.mem_filter.mpr ⟨zL_6 h, hg⟩
theorem pv_6 {q : MethodName × Nat} (h : q ∈ lw_privs_6) : q ∈ lw_privs := (List.mem_append_right _ (List.mem_append_right _ (List.mem_append_right _ (List.mem_append_right _ (List.mem_append_right _ (List.mem_append_left _ h))))))
theorem zTp_6 {y : MethodName} {i n : Nat} (h : lw_privs_6[i]? = some (y, n)) (hg : goodWord (Cond.selects y.cls y y) = true) : Cond.selects y.cls y y ∈ zT := List.mem_filter.mpr ⟨List.mem_append_left _ (List.mem_map.mpr ⟨(y, n), pv_6 (List.mem_of_getElem? h), rfl⟩), hg⟩
theorem tb_7 {w : Cond} (h : w ∈ tables_1_7) : w ∈ lw_tbl := List.mem_append_right _ (show w ∈ tables_1 from (List.mem_append_right _ (List.mem_append_right _ (List.mem_append_right _ (List.mem_append_right _ (List.mem_append_right _ (List.mem_append_right _ h)))))))
theorem zL_7 {w : Cond} {i : Nat} (h : tables_1_7[i]? = some w) : w ∈ lw_tbl := tb_7 (List.mem_of_getElem? h)
theorem zT_7 {w : Cond} {i : Nat} (h : tables_1_7[i]? = some w) (hg : goodWord w = true) : w ∈ zT := List.mem_filter.mpr ⟨zL_7 h, hg⟩
theorem pv_7 {q : MethodName × Nat} (h : q ∈ lw_privs_7) : q ∈ lw_privs := (List.mem_append_right _ (List.mem_append_right _ (List.mem_append_right _ (List.mem_append_right _ (List.mem_append_right _ (List.mem_append_right _ h))))))
theorem zTp_7 {y : MethodName} {i n : Nat} (h : lw_privs_7[i]? = some (y, n)) (hg : goodWord (Cond.selects y.cls y y) = true) : Cond.selects y.cls y y ∈ zT := List.mem_filter.mpr ⟨List.mem_append_left _ (List.mem_map.mpr ⟨(y, n), pv_7 (List.mem_of_getElem? h), rfl⟩), hg⟩
def zdb (b : ByteArray) (pc : Nat) (i : Instr) (len q : Nat) : Bool := decide (decode b pc = .ok (i, len)) && (pc + len == q)
theorem zd_of {M : zM} {pc : Nat} {i : Instr} {len q : Nat} (h : zdb M.2.1 pc i len q = true) : zd M pc i len q := by
  unfold zdb at h
  rw [Bool.and_eq_true] at h
  exact ⟨of_decide_eq_true h.1, beq_iff_eq.mp h.2⟩
-- copies of rows
def sC (v : Vv) (a b : Nat) (sp dp n : Int32) : Vv := (fun i k => if i = b ∧ ix dp ≤ k ∧ k < ix dp + ix n then v.1 a (ix sp + (k - ix dp)) else v.1 i k, v.2.1, v.2.2)
def mC (w : Mm) (a b : Nat) (sp dp n : Int32) : Mm := (fun i k => if i = b ∧ ix dp ≤ k ∧ k < ix dp + ix n then w.1 a (ix sp + (k - ix dp)) else w.1 i k, w.2)
theorem fv_mC {g : zG} {w : Mm} {a b : Nat} {sp dp n : Int32} {j : Nat} (h : j ≠ b) (ty : FieldType) (k : Nat) : fv g (mC w a b sp dp n) ty j k = fv g w ty j k := by
  cases ty <;> first | rfl | exact congrArg Value.int (if_neg (fun q => h q.1))
set_option maxHeartbeats 1000000 in
theorem g_copy {d : Nat} {M : zM} {n0 nE n pc q idx : Nat} {L : List (Nat × Value)} {w : Mm} {Q : Option Value → Mm → Prop} {a b m1 m2 : Nat} {sp dp len : Int32} (hd : zd M pc (.invokestatic idx) 3 q) (hl0 : Cond.methodLink M.1.cls idx arraycopyName ∈ zT) (hs1 : SH[a]? = some (.inr (.int, m1))) (hs2 : SH[b]? = some (.inr (.int, m2))) (ha : a < n) (hb2 : b < n)
    (hh : 0 ≤ sp.toInt ∧ 0 ≤ dp.toInt ∧ 0 ≤ len.toInt ∧ sp.toInt + len.toInt ≤ m1 ∧ dp.toInt + len.toInt ≤ m2) (hd1 : 2 ≤ d) (kk : Go d M n0 nE n q L [] (mC w a b sp dp len) Q) : Go d M n0 nE n pc L (.int len :: .int dp :: .ref b :: .int sp :: .ref a :: []) w Q := by
  obtain ⟨hd, rfl⟩ := hd
  intro p l e R s m args below meth c g Z hC hE H locs ls hP hS hl
  have hC0 := hC
  obtain ⟨hx, hbd, hml, hown, hts, ⟨hK, hX⟩, hR, -, hbase⟩ := hC
  show W p l e R s m args below meth c H locs _ _ Z (F0 m pc ls (.int len :: .int dp :: .ref (ad g b) :: .int sp :: .ref (ad g a) :: []))
  rw [hP.ad ha, hP.ad hb2]
  have hc0 := hP.arr ha hs1
  have hc1 := hP.arr hb2 hs2
  have h1 : ¬ sp < 0 := fun z => by have := Int32.lt_iff_toInt_lt.mp z; rw [Int32.toInt_zero] at this; omega
  have h2 : ¬ dp < 0 := fun z => by have := Int32.lt_iff_toInt_lt.mp z; rw [Int32.toInt_zero] at this; omega
  have h3 : ¬ len < 0 := fun z => by have := Int32.lt_iff_toInt_lt.mp z; rw [Int32.toInt_zero] at this; omega
  have e1 : (sp.toNatClampNeg : Int) = sp.toInt := by show ((sp.toInt.toNat : Nat) : Int) = _; omega
  have e2 : (dp.toNatClampNeg : Int) = dp.toInt := by show ((dp.toInt.toNat : Nat) : Int) = _; omega
  have e3 : (len.toNatClampNeg : Int) = len.toInt := by show ((len.toInt.toNat : Nat) : Int) = _; omega
  obtain ⟨-, k0, hk0, cm0, hkk0⟩ := (arrO hK (ty := .int) (by decide) m1 (fun k => fv g w .int a k))
  obtain ⟨-, k1, hk1, cm1, hkk1⟩ := (arrO hK (ty := .int) (by decide) m2 (fun k => fv g w .int b k))
  intro T hT X
  obtain ⟨vm', X', step⟩ := X.arraycopy hx hown (hts _ hl0) (hts _ (zT_3 (i := 156) rfl rfl)) (hts _ (zT_3 (i := 155) rfl rfl)) (hts _ (zT_1 (i := 18) rfl rfl)) (src := g.2.2.1 + a) (dst := g.2.2.1 + b) (cs := arrV (g.2.1 .int) m1 (fun k => fv g w .int a k)) (cd := arrV (g.2.1 .int) m2 (fun k => fv g w .int b k)) (srcPos := sp) (destPos := dp) (n := len) (by rw [hT]; exact hc0) (by rw [hT]; exact hc1)
    (fun _ h => by cases h) (fun _ h => by cases h) (fun h => by cases h) (fun h => by cases h) hk0 hk1 hkk0 hkk1 (by simp [refKind]) h1 h2 h3
    (by rw [arrV_size]; omega)
    (by rw [arrV_size]; omega)
    (fun vm₁ _ i hi => by
      have e : (arrV (g.2.1 .int) m1 (fun k => fv g w .int a k)).slots.getD (sp.toNatClampNeg + i) .null = .int (w.1 a (sp.toNatClampNeg + i)) := by
        rw [Array.getD_eq_getD_getElem?, arrV_read _ _ (by omega)]
        rfl
      refine ⟨?_, ?_⟩
      · rw [e]
        rfl
      · rw [e]
        exact trivial)
    (g := F0 m pc ls (.int len :: .int dp :: .ref (g.2.2.1 + b) :: .int sp :: .ref (g.2.2.1 + a) :: [])) rfl (by rw [hml]; exact hl.1) (rest := []) rfl (by rw [hbd]; exact hd) (by omega) (by
      have : nativeFrameWords "java/lang/System" "arraycopy" 5 = 7 := by decide
      rw [this]
      show 2 * 0 + _ + _ ≤ _
      have h90 : (([] : List Value).map fun v => v.category).sum = 0 := rfl
      omega)
  have e4 : copied (arrV (g.2.1 .int) m1 (fun k => fv g w .int a k)) (arrV (g.2.1 .int) m2 (fun k => fv g w .int b k)) sp dp len = arrV (g.2.1 .int) m2 (fun k => fv g (mC w a b sp dp len) .int b k) := by
    refine (va_copied (fun z => Value.int z) (g.2.1 .int) (g.2.1 .int) (fun k => w.1 a k) (fun k => w.1 b k) (by omega)).trans (congrArg (arrV _ m2) (funext fun k => congrArg Value.int ?_))
    show va_cpy (fun k => w.1 a k) (fun k => w.1 b k) sp.toNatClampNeg dp.toNatClampNeg len.toNatClampNeg k = if b = b ∧ ix dp ≤ k ∧ k < ix dp + ix len then w.1 a (ix sp + (k - ix dp)) else w.1 b k
    unfold va_cpy
    by_cases z : dp.toNatClampNeg ≤ k ∧ k < dp.toNatClampNeg + len.toNatClampNeg
    · rw [if_pos z, if_pos ⟨rfl, z⟩]; rfl
    · rw [if_neg z, if_neg (fun q => z q.2)]
  rw [e4] at X' step
  have hlb : g.2.2.1 + b < H.size := (Array.getElem?_eq_some_iff.mp hc1).1
  have hheap : ((T.setVm vm').setCell (g.2.2.1 + b) (arrV (g.2.1 .int) m2 (fun k => fv g (mC w a b sp dp len) .int b k))).heap = H.setIfInBounds (g.2.2.1 + b) (arrV (g.2.1 .int) m2 (fun k => fv g (mC w a b sp dp len) .int b k)) := by rw [← hT]; rfl
  have oq : ∀ q : Nat, q ≠ g.2.2.1 + b → (H.setIfInBounds (g.2.2.1 + b) (arrV (g.2.1 .int) m2 (fun k => fv g (mC w a b sp dp len) .int b k)))[q]? = H[q]? := fun q hq => by simp [Array.getElem?_setIfInBounds, Ne.symm hq]
  have hP' : zP g n (mC w a b sp dp len) (H.setIfInBounds (g.2.2.1 + b) (arrV (g.2.1 .int) m2 (fun k => fv g (mC w a b sp dp len) .int b k))) := hP.upd (fun j hj ty k => fv_mC hj ty k) (by simp) oq (cellAt_arr hs2 (by simp [Array.getElem?_setIfInBounds, hlb]))
  obtain ⟨t, a1, b1⟩ := kk p l e R s m args below meth c g Z hC0 hE _ _ ls hP' ⟨by simp; exact hS.1, fun q g1 g2 => by
      rw [oq q (fun e => g2 (by rw [e]; exact Nat.le_add_right _ _))]
      exact hS.2.1 q g1 g2, fun q hq => by
      rcases List.mem_append.mp hq with h | h
      · exact hS.2.2 q h
      · obtain ⟨z, -, hz⟩ := List.mem_map.mp h
        rw [← hz]
        exact Nat.le_add_right _ _⟩ hl _ hheap X'
  exact ⟨t, step t a1, b1⟩
theorem p_copy {d : Nat} {M : zM} {pc q idx : Nat} {L : List (Nat × Value)} {v : Vv} {Q : Option Value → Vv → Prop} {a b m1 m2 : Nat} {sp dp n : Int32} (hd : zd M pc (.invokestatic idx) 3 q) (hl0 : Cond.methodLink M.1.cls idx arraycopyName ∈ zT) (h1 : SH[a]? = some (.inr (.int, m1))) (h2 : SH[b]? = some (.inr (.int, m2)))
    (hb : 0 ≤ sp.toInt ∧ 0 ≤ dp.toInt ∧ 0 ≤ n.toInt ∧ sp.toInt + n.toInt ≤ m1 ∧ dp.toInt + n.toInt ≤ m2) (hd1 : 2 ≤ d) (kk : Gp d M q L [] (sC v a b sp dp n) Q) : Gp d M pc L (.int n :: .int dp :: .ref b :: .int sp :: .ref a :: []) v Q := g_copy hd hl0 h1 h2 (SH_lt h1) (SH_lt h2) hb hd1 kk
end
section
-- the constant texts: what is asked of them
set_option maxHeartbeats 1000000 in
theorem call_of_goF {d : Nat} {M : zM} {n0 nE : Nat} {as : List Value} {w : Mm} {Q : Option Value → Mm → Prop} (hn : n0 ≤ nE) (hp : plainFor M.1 = true) (hla : (lg_sl as).length ≤ M.2.2.1) (h : Go d M n0 nE n0 0 (lv_args 0 as) [] w Q) : Call d M n0 nE as w Q := by
  refine ⟨hn, fun l g => ?_⟩
  refine va_MetF (cc := M.2.1) (maxL := M.2.2.1) (ret := M.2.2.2) hp rfl ?_
  intro p e s m args below meth c s₁ B hml hv
  obtain ⟨rfl, hK, hP⟩ := hv
  have hx := B.exec
  have hb := B.bytes
  have hr := B.returns
  have hts := atoms_spec (ws := zws M) B.pre
  have hown : s.vm.findClass M.1.cls = some m.cls := findClass_of_methodNamed B.named
  have hlocks := B.notSynchronized
  have hin : meth.name = M.1.name := (name_of_methodNamed B.named B.method).1
  have hl := lv_entry (as.map (zv g)) (n := M.2.2.1) (by rw [lg_sl_map]; exact hla)
  rw [lg_entry_eq]
  generalize (lg_sl (as.map (zv g)) ++ List.replicate (M.2.2.1 - (lg_sl (as.map (zv g))).length) Slot.unset).toArray = ls at hl ⊢
  have hG := h p l e (headSpec (zws M) (zrm d n0 nE)).room s m (as.map (zv g)).toArray below meth c g (MQ below (zQc g nE Q) (as.map (zv g)).toArray s (nE - n0) (zs nE - zs n0) (zA g))
    ⟨hx, hb, hml, hown, fun w hw => hts w (List.mem_cons_of_mem _ hw), hK, ⟨Nat.le_refl _, Nat.le_refl _, Nat.le_refl _, Nat.le_refl _, hn⟩, fun q => hin.trans q, by rw [hP.1]; omega⟩ ?_ s.heap [] ls hP va_S.rf (by rw [← lv_args_map]; exact hl)
  · rw [Nat.sub_self, Nat.sub_self] at hG
    exact hG
  · intro r w' H locs ls pc hP' hS hQ hR
    match r, hR with
    | none, hR => exact W.vret hx hb (hr.trans hR.1) (fun t ht _ => ⟨⟨none, w', rfl, hQ, by rw [ht]; exact hP'⟩, hS.F ht⟩) hS.2.2 hR.2
    | some (.int x), hR =>
      obtain ⟨h1, ty, h2, h3⟩ := hR
      exact W.zret hx hb (hr.trans h2) h3 (fun t ht _ => ⟨⟨some (.int x), w', rfl, hQ, by rw [ht]; exact hP'⟩, hS.F ht⟩) hS.2.2 h1
    | some (.long x), hR => exact W.lret hx hb (hr.trans hR.2) (fun t ht _ => ⟨⟨some (.long x), w', rfl, hQ, by rw [ht]; exact hP'⟩, hS.F ht⟩) hS.2.2 hR.1
    | some (.ref a), hR =>
      obtain ⟨h1, C, h2⟩ := hR
      exact W.aret hx hb (hr.trans h2) (Or.inl ⟨C, rfl⟩) (Or.inr ⟨_, rfl⟩) (fun t ht _ => ⟨⟨some (.ref a), w', rfl, hQ, by rw [ht]; exact hP'⟩, hS.F ht⟩) hS.2.2 h1
theorem cp_goF {d : Nat} {M : zM} {as : List Value} {v : Vv} {Q : Option Value → Vv → Prop} (hla : (lg_sl as).length ≤ M.2.2.1) (hp : plainFor M.1 = true) (h : Gp d M 0 (lv_args 0 as) [] v Q) : Cp d M as v Q := call_of_goF (Nat.le_refl _) hp hla h

def sstr (x : Nat) : List Int32 := sByt.getD (x - 100010) []
def slen (x : Nat) : Nat := (sstr x).length
def schr (x k : Nat) : Int32 := (sstr x).getD k 0
def isStr (x : Nat) : Prop := x ∈ [100010, 100011, 100012, 100013, 100014, 100015, 100016, 100017, 100018, 100019, 100020, 100021]
theorem isStr_k {x : Nat} (h : isStr x) : ∃ j, j < 12 ∧ x = 100010 + j := by
  have h3 : ∀ t ∈ [100010, 100011, 100012, 100013, 100014, 100015, 100016, 100017, 100018, 100019, 100020, 100021], t - 100010 < 12 ∧ t = 100010 + (t - 100010) := by decide +kernel
  exact ⟨x - 100010, h3 x h⟩
theorem slen_k : ∀ j, j < 12 → slen (100010 + j) = sLen.getD j 0 ∧ sLen.getD j 0 < 100 := by decide +kernel
theorem slen_sh : ∀ j, j < 12 → (Int32.ofNat (sLen.getD j 0)) >>> ((0 : Int32) &&& 31) = Int32.ofNat (sLen.getD j 0) := by decide +kernel
theorem schr_k : ∀ j, j < 12 → ∀ k, k < 6 → (((sByt.getD j []).getD k 0 &&& 255).toUInt32 % 65536).toInt32 = (sByt.getD j []).getD k 0 ∧ narrow .char (.int ((sByt.getD j []).getD k 0)) = .int ((sByt.getD j []).getD k 0) := by decide +kernel
theorem slen_6 : ∀ j, j < 12 → sLen.getD j 0 < 6 := by decide +kernel
section STRG
variable {d d' : Nat} {M M' : zM} {n0 nE n n' pc q k idx : Nat} {L : List (Nat × Value)} {S rest As : List Value} {w : Mm} {Q : Option Value → Mm → Prop}
theorem g_ldcS (j : Nat) (hd : zd M pc (.ldc (94 + 2 * j)) 2 q) (hM : M.1.cls = "PutOn$Reader") (hj : j < 12) (kk : Go d M n0 nE n q L (.ref (100010 + j) :: S) w Q) : Go d M n0 nE n pc L S w Q := by
  obtain ⟨hd, rfl⟩ := hd
  intro p l e R s m args below meth c g Z hC hE H locs ls hP hS hl
  exact va_ldcS hC.1 hC.2.1 (by rw [← hM]; exact hC.2.2.2.1) (hC.2.2.2.2.2.1.2.2.2.1 j hj) hd (kk p l e R s m args below meth c g Z hC hE H locs ls hP hS hl)
theorem g_strV {j : Nat} (hj : j < 12) (hM : M.1.cls = "java/lang/String") (hd : zd M pc (.getfield 9) 3 q) (kk : Go d M n0 nE n q L (.ref (100030 + j) :: S) w Q) : Go d M n0 nE n pc L (.ref (100010 + j) :: S) w Q := by
  obtain ⟨hd, rfl⟩ := hd
  intro p l e R s m args below meth c g Z hC hE H locs ls hP hS hl
  exact vk_getf (A := zA g) hC.1 hC.2.1 (hC.2.2.2.2.2.1.2.2.1.1 j hj).2.2.1 hS (own := "java/lang/String") (by rw [← hM]; exact hC.2.2.2.1) (hC.2.2.2.2.1 _ (zT_7 (i := 73) rfl rfl)) (fun x h => h) hd (kk p l e R s m args below meth c g Z hC hE H locs ls hP hS hl)
theorem g_strC {j : Nat} (hj : j < 12) (hM : M.1.cls = "java/lang/String") (hd : zd M pc (.getfield 15) 3 q) (kk : Go d M n0 nE n q L (.int 0 :: S) w Q) : Go d M n0 nE n pc L (.ref (100010 + j) :: S) w Q := by
  obtain ⟨hd, rfl⟩ := hd
  intro p l e R s m args below meth c g Z hC hE H locs ls hP hS hl
  exact vk_getf (A := zA g) hC.1 hC.2.1 (hC.2.2.2.2.2.1.2.2.1.1 j hj).2.1 hS (own := "java/lang/String") (by rw [← hM]; exact hC.2.2.2.1) (hC.2.2.2.2.1 _ (zT_7 (i := 74) rfl rfl)) (fun x h => h) hd (kk p l e R s m args below meth c g Z hC hE H locs ls hP hS hl)
theorem g_getsC (hM : M.1.cls = "java/lang/String") (hd : zd M pc (.getstatic 38) 3 q) (kk : Go d M n0 nE n q L (.int 1 :: S) w Q) : Go d M n0 nE n pc L S w Q := by
  obtain ⟨hd, rfl⟩ := hd
  intro p l e R s m args below meth c g Z hC hE H locs ls hP hS hl
  exact va_gets (A := zA g) hC.1 hC.2.1 hC.2.2.2.2.2.1.2.2.2.2.1 hS (own := "java/lang/String") (by rw [← hM]; exact hC.2.2.2.1) (hC.2.2.2.2.1 _ (zT_3 (i := 65) rfl rfl)) (fun x h => h) hd (kk p l e R s m args below meth c g Z hC hE H locs ls hP hS hl)
theorem g_getsF (hM : M.1.cls = "java/lang/String") (hd : zd M pc (.getstatic 1053) 3 q) (kk : ∀ x, x = .null ∨ x = .ref 100050 → Go d M n0 nE n q L (x :: S) w Q) : Go d M n0 nE n pc L S w Q := by
  obtain ⟨hd, rfl⟩ := hd
  intro p l e R s m args below meth c g Z hC hE H locs ls hP hS hl
  rcases hC.2.2.2.2.2.1.2.2.2.2.2 with h | h
  · exact va_gets (A := zA g) hC.1 hC.2.1 h hS (own := "java/lang/String") (by rw [← hM]; exact hC.2.2.2.1) (hC.2.2.2.2.1 _ (zT_3 (i := 81) rfl rfl)) (fun x h => h) hd (kk .null (Or.inl rfl) p l e R s m args below meth c g Z hC hE H locs ls hP hS hl)
  · exact va_gets (A := zA g) hC.1 hC.2.1 h hS (own := "java/lang/String") (by rw [← hM]; exact hC.2.2.2.1) (hC.2.2.2.2.1 _ (zT_3 (i := 81) rfl rfl)) (fun x h => h) hd (kk (.ref 100050) (Or.inr rfl) p l e R s m args below meth c g Z hC hE H locs ls hP hS hl)
theorem g_bytL {j : Nat} (hj : j < 12) (hd : zd M pc .arraylength 1 q) (kk : Go d M n0 nE n q L (.int (Int32.ofNat (sLen.getD j 0)) :: S) w Q) : Go d M n0 nE n pc L (.ref (100030 + j) :: S) w Q := by
  obtain ⟨hd, rfl⟩ := hd
  intro p l e R s m args below meth c g Z hC hE H locs ls hP hS hl
  obtain ⟨cell, h1, h2, h3, h4, h5, h6, h7⟩ := (hC.2.2.2.2.2.1.2.2.1.1 j hj).2.2.2
  exact W.alen (n := Int32.ofNat (sLen.getD j 0)) hC.1 hC.2.1 (by rw [hS.2.1 _ (Array.getElem?_eq_some_iff.mp h1).1 h7]; exact h1) h2 h5 rfl rfl hd (kk p l e R s m args below meth c g Z hC hE H locs ls hP hS hl)
theorem g_bytA {j : Nat} {x : Int32} (hj : j < 12) (hx : ib x (sLen.getD j 0)) (hd : zd M pc .baload 1 q) (kk : Go d M n0 nE n q L (.int ((sByt.getD j []).getD (ix x) 0) :: S) w Q) : Go d M n0 nE n pc L (.int x :: .ref (100030 + j) :: S) w Q := by
  obtain ⟨hd, rfl⟩ := hd
  intro p l e R s m args below meth c g Z hC hE H locs ls hP hS hl
  exact va_tb (A := zA g) hC.1 hC.2.1 (hC.2.2.2.2.2.1.2.2.1.1 j hj).2.2.2 hS (ib_vp hx) rfl hd (kk p l e R s m args below meth c g Z hC hE H locs ls hP hS hl)
theorem g_i2c {x : Int32} (hd : zd M pc (.i2c) 1 q) (kk : Go d M n0 nE n q L (.int (x.toUInt32 % 65536).toInt32 :: S) w Q) : Go d M n0 nE n pc L (.int x :: S) w Q := by
  obtain ⟨hd, rfl⟩ := hd
  intro p l e R s m args below meth c g Z hC hE H locs ls hP hS hl
  obtain ⟨hx, hb, -⟩ := id hC
  exact lv_i2c hx hb hd rfl (kk p l e R s m args below meth c g Z hC hE H locs ls hP hS hl)
theorem g_callStr {j : Nat} (hj : j < 12) (hd : zd M pc (.invokevirtual idx) 3 q) (hm : zm M' k) (hv : zlV M.1.cls idx M') (hrc : M'.1.cls = "java/lang/String") (hS0 : S = As.reverse ++ .ref (100010 + j) :: rest) (hk : As.length = k) (hcat : (rest.map fun v => v.category).sum ≤ 8) (hd' : d' + 1 ≤ d) (h0n : n0 ≤ n) (hn' : n' ≤ nE)
    (kk : Call d' M' n n' (.ref (100010 + j) :: As) w (fun r w' => Go d M n0 nE n' q L (r.toList ++ rest) w' Q)) : Go d M n0 nE n pc L S w Q := by
  obtain ⟨hd, rfl⟩ := hd
  subst hS0
  intro p l e R s m args below meth c g Z hC hE H locs ls hP hS hl
  obtain ⟨hnn, hM⟩ := kk
  have hC0 := hC
  obtain ⟨hx, hbd, hml, hown, hts, ⟨hK, hX⟩, hR, -, hbase⟩ := hC
  obtain ⟨cellV, g1, g2, g3⟩ := vk_recv hX.2.1 hj hS
  obtain ⟨hm1, hm2, hm3, hm4, hm5⟩ := hm
  refine z_back (rest := rest) (av := (Value.ref (ad g (100010 + j)) :: As.map (zv g)).toArray) hC0 hE hS hl h0n hnn ?_
  rw [z_map_stack]
  refine va_runV (As := As.map (zv g)) (b := ad g (100010 + j)) ⟨hx, hbd, hml, hown, hts⟩ (hM l g) (C := M'.1.cls) (bytes := M'.2.1) (maxL := M'.2.2.1) (ret := M'.2.2.2) (n := k)
    ⟨⟨rfl, rfl, (z_room hR hd' hm3).1, (z_room hR hd' hm3).2, pay_in hts (zws_good ⟨hm1, hm2, hm3, hm4, hm5⟩), List.mem_cons_self, hts _ hm2, hts _ hm1, hm4, fun sig h => by rw [h] at hm5; exact (Option.some.inj hm5).symm, hts _ hv.1⟩, hts _ hv.2.1, hts _ hv.2.2⟩
    ⟨zPc_blind g n _ w, ⟨cellV, g1, g2, by rw [hrc]; exact g3⟩, fun U hU hW => ⟨rfl, ⟨hK.warm hW, by rw [hU]; exact (hX.kept fun a h1 h2 => hS.2.1 a h1 h2).warm hW⟩, by rw [hU]; exact hP⟩⟩
    rfl (by rw [List.length_map]; exact hk) hl.1 rfl (lv_room (by rw [z_cats]; exact hcat)) hd (z_fit hR h0n hnn hn')
end STRG
def M_JS_length : zM := (⟨"java/lang/String", "length", "()I"⟩, prog_15_method_54_code, 1, (some FieldType.int))
theorem zm_JS_length : zm M_JS_length 0 := ⟨zT_1 (i := 14) rfl rfl, zT_3 (i := 60) rfl rfl, by decide, by decide, by decide +kernel⟩
def M_JS_coder : zM := (⟨"java/lang/String", "coder", "()B"⟩, prog_15_method_152_code, 1, (some FieldType.byte))
theorem zm_JS_coder : zm M_JS_coder 0 := ⟨zT_1 (i := 14) rfl rfl, zT_3 (i := 64) rfl rfl, by decide, by decide, by decide +kernel⟩
def M_JS_charAt : zM := (⟨"java/lang/String", "charAt", "(I)C"⟩, prog_15_method_56_code, 2, (some FieldType.char))
theorem zm_JS_charAt : zm M_JS_charAt 1 := ⟨zT_1 (i := 14) rfl rfl, zT_3 (i := 70) rfl rfl, by decide, by decide, by decide +kernel⟩
def M_JS_isLatin : zM := (⟨"java/lang/String", "isLatin1", "()Z"⟩, prog_15_method_154_code, 1, (some FieldType.boolean))
theorem zm_JS_isLatin : zm M_JS_isLatin 0 := ⟨zT_1 (i := 14) rfl rfl, zT_3 (i := 74) rfl rfl, by decide, by decide, by decide +kernel⟩
def M_JL_charAt : zM := (⟨"java/lang/StringLatin1", "charAt", "([BI)C"⟩, prog_16_method_2_code, 2, (some FieldType.char))
theorem zm_JL_charAt : zm M_JL_charAt 2 := ⟨zT_1 (i := 15) rfl rfl, zT_3 (i := 77) rfl rfl, by decide, by decide, by decide +kernel⟩
def M_JS_check : zM := (⟨"java/lang/String", "checkIndex", "(II)V"⟩, prog_15_method_155_code, 2, none)
theorem zm_JS_check : zm M_JS_check 2 := ⟨zT_1 (i := 14) rfl rfl, zT_3 (i := 80) rfl rfl, by decide, by decide, by decide +kernel⟩
def M_JP_check : zM := (⟨"jdk/internal/util/Preconditions", "checkIndex", "(IILjava/util/function/BiFunction;)I"⟩, prog_19_method_11_code, 3, (some FieldType.int))
theorem zm_JP_check : zm M_JP_check 3 := ⟨zT_1 (i := 16) rfl rfl, zT_3 (i := 85) rfl rfl, by decide, by decide, by decide +kernel⟩
section STRM
variable {v : Vv}
theorem s_JP_check {x y : Int32} {z : Value} {Q : Int32 → Vv → Prop} (hxy : 0 ≤ x.toInt ∧ x.toInt < y.toInt) (hz : z = .null ∨ z = .ref 100050) (h : Q x v) : Cp 0 M_JP_check [.int x, .int y, z] v (QI Q) := by
  have hcz : z.category = 1 := by rcases hz with rfl | rfl <;> rfl
  refine cp_goF (by rcases hz with rfl | rfl <;> exact Nat.le_of_ble_eq_true rfl) (by decide +kernel) ?_
  show Gp 0 M_JP_check 0 [(0, .int x), (1, .int y), (2, z)] [] v (QI Q)
  refine g_iload_n (k0 := 0) (q := 1) 0 (zd_of (by decide +kernel)) rfl rfl ?_
  refine g_if_lt (off := 8) (tgt := 9) (q := 4) (zd_of (by decide +kernel)) rfl (fun hh => ?_) (fun _ => ?_)
  · have := Int32.lt_iff_toInt_lt.mp hh
    rw [Int32.toInt_zero] at this
    omega
  refine g_iload_n (k0 := 0) (q := 5) 0 (zd_of (by decide +kernel)) rfl rfl ?_
  refine g_iload_n (k0 := 1) (q := 6) 1 (zd_of (by decide +kernel)) rfl rfl ?_
  refine g_icmp_lt (off := 10) (tgt := 16) (q := 9) (zd_of (by decide +kernel)) rfl (fun _ => ?_) (fun hh => ?_)
  · refine g_iload_n (k0 := 0) (q := 17) 0 (zd_of (by decide +kernel)) rfl rfl ?_
    exact p_retI (by decide +kernel) rfl h
  · exact absurd (Int32.lt_iff_toInt_lt.mpr hxy.2) hh
theorem s_JS_check {x y : Int32} {Q : Vv → Prop} (hxy : 0 ≤ x.toInt ∧ x.toInt < y.toInt) (h : Q v) : Cp 1 M_JS_check [.int x, .int y] v (QV Q) := by
  refine cp_goF (Nat.le_of_ble_eq_true rfl) (by decide +kernel) ?_
  show Gp 1 M_JS_check 0 [(0, .int x), (1, .int y)] [] v (QV Q)
  refine g_iload_n (k0 := 0) (q := 1) 0 (zd_of (by decide +kernel)) rfl rfl ?_
  refine g_iload_n (k0 := 1) (q := 2) 1 (zd_of (by decide +kernel)) rfl rfl ?_
  refine g_getsF (q := 5) rfl (zd_of (by decide +kernel)) fun z hz => ?_
  refine p_callSI (q := 8) (d' := 0) (idx := 1059) (As := [.int x, .int y, z]) (rest := []) (zd_of (by decide +kernel)) zm_JP_check ⟨zT_3 (i := 83) rfl rfl, zT_3 (i := 84) rfl rfl⟩ rfl rfl (Nat.zero_le _) (Nat.le_refl _) ?_
  refine s_JP_check hxy hz ?_
  refine g_pop (q := 9) (zd_of (by decide +kernel)) rfl ?_
  exact p_retV (by decide +kernel) rfl h
theorem s_JL_charAt {j : Nat} {x : Int32} {Q : Int32 → Vv → Prop} (hj : j < 12) (hx : ib x (sLen.getD j 0)) (h : Q (schr (100010 + j) (ix x)) v) : Cp 2 M_JL_charAt [.ref (100030 + j), .int x] v (QI Q) := by
  have hl := slen_k j hj
  have h6 := slen_6 j hj
  refine cp_goF (Nat.le_of_ble_eq_true rfl) (by decide +kernel) ?_
  show Gp 2 M_JL_charAt 0 [(0, .ref (100030 + j)), (1, .int x)] [] v (QI Q)
  refine g_iload_n (k0 := 1) (q := 1) 1 (zd_of (by decide +kernel)) rfl rfl ?_
  refine g_aload_n (k0 := 0) (q := 2) 0 (zd_of (by decide +kernel)) rfl rfl ?_
  refine g_bytL (q := 3) hj (zd_of (by decide +kernel)) ?_
  refine p_callSV (q := 6) (d' := 1) (idx := 9) (As := [.int x, .int (Int32.ofNat (sLen.getD j 0))]) (rest := []) (zd_of (by decide +kernel)) zm_JS_check ⟨zT_3 (i := 78) rfl rfl, zT_3 (i := 79) rfl rfl⟩ rfl rfl (Nat.zero_le _) (Nat.le_refl _) ?_
  refine s_JS_check ⟨hx.1, ?_⟩ ?_
  · have e : (Int32.ofNat (sLen.getD j 0)).toInt = (sLen.getD j 0 : Int) := Int32.toInt_ofNat_of_lt (by omega)
    rw [e]; exact hx.2
  refine g_aload_n (k0 := 0) (q := 7) 0 (zd_of (by decide +kernel)) rfl rfl ?_
  refine g_iload_n (k0 := 1) (q := 8) 1 (zd_of (by decide +kernel)) rfl rfl ?_
  refine g_bytA (q := 9) hj hx (zd_of (by decide +kernel)) ?_
  refine g_sipush (a := 255) (255 : Int32) (q := 12) (zd_of (by decide +kernel)) (by decide) ?_
  refine g_iand (q := 13) (zd_of (by decide +kernel)) ?_
  refine g_i2c (q := 14) (zd_of (by decide +kernel)) ?_
  have hi : ix x < 6 := by have := ib_lt hx; omega
  obtain ⟨c1, c2⟩ := schr_k j hj (ix x) hi
  have e5 : schr (100010 + j) (ix x) = (sByt.getD j []).getD (ix x) 0 := by
    unfold schr sstr
    rw [Nat.add_sub_cancel_left]
  rw [c1]
  rw [e5] at h
  exact p_retC (by decide +kernel) rfl c2 h
theorem s_JS_coder {j : Nat} {Q : Int32 → Vv → Prop} (hj : j < 12) (h : Q 0 v) : Cp 0 M_JS_coder [.ref (100010 + j)] v (QI Q) := by
  refine cp_goF (Nat.le_of_ble_eq_true rfl) (by decide +kernel) ?_
  show Gp 0 M_JS_coder 0 [(0, .ref (100010 + j))] [] v (QI Q)
  refine g_getsC (q := 3) rfl (zd_of (by decide +kernel)) ?_
  refine g_if_eq (off := 10) (tgt := 13) (q := 6) (zd_of (by decide +kernel)) rfl (fun hh => absurd hh (by decide)) (fun _ => ?_)
  refine g_aload_n (k0 := 0) (q := 7) 0 (zd_of (by decide +kernel)) rfl rfl ?_
  refine g_strC (q := 10) hj rfl (zd_of (by decide +kernel)) ?_
  refine g_goto (off := 4) (tgt := 14) (q := 13) (zd_of (by decide +kernel)) rfl ?_
  exact g_ret (some (.int 0)) ⟨by decide +kernel, .byte, rfl, rfl⟩ rfl rfl ⟨v, rfl, 0, rfl, h⟩
theorem s_JS_isLatin {j : Nat} {Q : Int32 → Vv → Prop} (hj : j < 12) (h : Q 1 v) : Cp 0 M_JS_isLatin [.ref (100010 + j)] v (QI Q) := by
  refine cp_goF (Nat.le_of_ble_eq_true rfl) (by decide +kernel) ?_
  show Gp 0 M_JS_isLatin 0 [(0, .ref (100010 + j))] [] v (QI Q)
  refine g_getsC (q := 3) rfl (zd_of (by decide +kernel)) ?_
  refine g_if_eq (off := 14) (tgt := 17) (q := 6) (zd_of (by decide +kernel)) rfl (fun hh => absurd hh (by decide)) (fun _ => ?_)
  refine g_aload_n (k0 := 0) (q := 7) 0 (zd_of (by decide +kernel)) rfl rfl ?_
  refine g_strC (q := 10) hj rfl (zd_of (by decide +kernel)) ?_
  refine g_if_ne (off := 7) (tgt := 17) (q := 13) (zd_of (by decide +kernel)) rfl (fun hh => absurd rfl hh) (fun _ => ?_)
  refine g_iconst (a := 1) (1 : Int32) (q := 14) (zd_of (by decide +kernel)) (by decide) ?_
  refine g_goto (off := 4) (tgt := 18) (q := 17) (zd_of (by decide +kernel)) rfl ?_
  exact g_ret (some (.int 1)) ⟨by decide +kernel, .boolean, rfl, rfl⟩ rfl rfl ⟨v, rfl, 1, rfl, h⟩
theorem s_JS_length {j : Nat} {Q : Int32 → Vv → Prop} (hj : j < 12) (h : Q (Int32.ofNat (sLen.getD j 0)) v) : Cp 1 M_JS_length [.ref (100010 + j)] v (QI Q) := by
  refine cp_goF (Nat.le_of_ble_eq_true rfl) (by decide +kernel) ?_
  show Gp 1 M_JS_length 0 [(0, .ref (100010 + j))] [] v (QI Q)
  refine g_aload_n (k0 := 0) (q := 1) 0 (zd_of (by decide +kernel)) rfl rfl ?_
  refine g_strV (q := 4) hj rfl (zd_of (by decide +kernel)) ?_
  refine g_bytL (q := 5) hj (zd_of (by decide +kernel)) ?_
  refine g_aload_n (k0 := 0) (q := 6) 0 (zd_of (by decide +kernel)) rfl rfl ?_
  refine g_callStr (q := 9) (d' := 0) (idx := 335) (As := []) (rest := [.int (Int32.ofNat (sLen.getD j 0))]) hj (zd_of (by decide +kernel)) zm_JS_coder ⟨zT_3 (i := 61) rfl rfl, zT_3 (i := 62) rfl rfl, zT_3 (i := 63) rfl rfl⟩ rfl rfl rfl (Nat.le_of_ble_eq_true rfl) (Nat.le_refl _) (Nat.le_refl _) (Nat.le_refl _) ?_
  refine call_mono (s_JS_coder (v := v) (Q := fun r v' => r = 0 ∧ v' = v) hj ⟨rfl, rfl⟩) fun r w ⟨v', hv, x, hr, h0, h1⟩ => ?_
  subst hv; subst hr; subst h0; subst h1
  refine g_ishr (q := 10) (zd_of (by decide +kernel)) ?_
  rw [slen_sh j hj]
  exact p_retI (by decide +kernel) rfl h
theorem s_JS_charAt {j : Nat} {x : Int32} {Q : Int32 → Vv → Prop} (hj : j < 12) (hx : ib x (sLen.getD j 0)) (h : Q (schr (100010 + j) (ix x)) v) : Cp 3 M_JS_charAt [.ref (100010 + j), .int x] v (QI Q) := by
  have h6 := slen_6 j hj
  refine cp_goF (Nat.le_of_ble_eq_true rfl) (by decide +kernel) ?_
  show Gp 3 M_JS_charAt 0 [(0, .ref (100010 + j)), (1, .int x)] [] v (QI Q)
  refine g_aload_n (k0 := 0) (q := 1) 0 (zd_of (by decide +kernel)) rfl rfl ?_
  refine g_callStr (q := 4) (d' := 0) (idx := 492) (As := []) (rest := []) hj (zd_of (by decide +kernel)) zm_JS_isLatin ⟨zT_3 (i := 71) rfl rfl, zT_3 (i := 72) rfl rfl, zT_3 (i := 73) rfl rfl⟩ rfl rfl rfl (Nat.zero_le _) (by decide) (Nat.le_refl _) (Nat.le_refl _) ?_
  refine call_mono (s_JS_isLatin (v := v) (Q := fun r v' => r = 1 ∧ v' = v) hj ⟨rfl, rfl⟩) fun r w ⟨v', hv, y, hr, h0, h1⟩ => ?_
  subst hv; subst hr; subst h0; subst h1
  refine g_if_eq (off := 12) (tgt := 16) (q := 7) (zd_of (by decide +kernel)) rfl (fun hh => absurd hh (by decide)) (fun _ => ?_)
  refine g_aload_n (k0 := 0) (q := 8) 0 (zd_of (by decide +kernel)) rfl rfl ?_
  refine g_strV (q := 11) hj rfl (zd_of (by decide +kernel)) ?_
  refine g_iload_n (k0 := 1) (q := 12) 1 (zd_of (by decide +kernel)) rfl rfl ?_
  refine p_callSI (q := 15) (d' := 2) (idx := 495) (As := [.ref (100030 + j), .int x]) (rest := []) (zd_of (by decide +kernel)) zm_JL_charAt ⟨zT_3 (i := 75) rfl rfl, zT_3 (i := 76) rfl rfl⟩ rfl rfl (Nat.zero_le _) (Nat.le_refl _) ?_
  have e5 : schr (100010 + j) (ix x) = (sByt.getD j []).getD (ix x) 0 := by
    unfold schr sstr
    rw [Nat.add_sub_cancel_left]
  refine s_JL_charAt hj hx ?_
  exact p_retC (by decide +kernel) rfl (by rw [e5]; exact (schr_k j hj (ix x) (by have := ib_lt hx; omega)).2) h
end STRM
section STR
variable {d : Nat} {M : zM} {pc q idx : Nat} {L : List (Nat × Value)} {S : List Value} {v : Vv} {Q : Option Value → Vv → Prop}
theorem p_ldcS (j : Nat) (hd : zd M pc (.ldc (94 + 2 * j)) 2 q) (hM : M.1.cls = "PutOn$Reader" ∧ j < 12) (kk : Gp d M q L (.ref (100010 + j) :: S) v Q) : Gp d M pc L S v Q := g_ldcS j hd hM.1 hM.2 kk
theorem p_strlen {x : Nat} (hd : zd M pc (.invokevirtual 85) 3 q) (hx : isStr x) (hM : M.1.cls = "PutOn$Reader" ∧ 10 ≤ d) (kk : Gp d M q L (.int (Int32.ofNat (slen x)) :: S) v Q) (hcat : (S.map fun v => v.category).sum ≤ 8 := by exact Nat.le_of_ble_eq_true rfl) : Gp d M pc L (.ref x :: S) v Q := by
  obtain ⟨j, hj, rfl⟩ := isStr_k hx
  refine g_callStr (d' := 1) (As := []) (rest := S) hj hd zm_JS_length (by rw [hM.1]; exact ⟨zT_3 (i := 57) rfl rfl, zT_3 (i := 58) rfl rfl, zT_3 (i := 59) rfl rfl⟩) rfl rfl rfl hcat (by omega) (Nat.le_refl _) (Nat.le_refl _) ?_
  refine call_mono (s_JS_length (v := v) (Q := fun r v' => r = Int32.ofNat (slen (100010 + j)) ∧ v' = v) hj ⟨by rw [(slen_k j hj).1], rfl⟩) fun r w ⟨v', hv, y, hr, h0, h1⟩ => ?_
  subst hv; subst hr; subst h0; subst h1
  exact kk
theorem p_charAt {x : Nat} {i : Int32} (hd : zd M pc (.invokevirtual 90) 3 q) (hx : isStr x) (hi : ib i (slen x)) (hM : M.1.cls = "PutOn$Reader" ∧ 10 ≤ d) (kk : Gp d M q L (.int (schr x (ix i)) :: S) v Q) (hcat : (S.map fun v => v.category).sum ≤ 8 := by exact Nat.le_of_ble_eq_true rfl) : Gp d M pc L (.int i :: .ref x :: S) v Q := by
  obtain ⟨j, hj, rfl⟩ := isStr_k hx
  rw [(slen_k j hj).1] at hi
  refine g_callStr (d' := 3) (As := [.int i]) (rest := S) hj hd zm_JS_charAt (by rw [hM.1]; exact ⟨zT_3 (i := 67) rfl rfl, zT_3 (i := 68) rfl rfl, zT_3 (i := 69) rfl rfl⟩) rfl rfl rfl hcat (by omega) (Nat.le_refl _) (Nat.le_refl _) ?_
  refine call_mono (s_JS_charAt (v := v) (Q := fun r v' => r = schr (100010 + j) (ix i) ∧ v' = v) hj hi ⟨rfl, rfl⟩) fun r w ⟨v', hv, y, hr, h0, h1⟩ => ?_
  subst hv; subst hr; subst h1
  rw [h0]
  exact kk
end STR
end
