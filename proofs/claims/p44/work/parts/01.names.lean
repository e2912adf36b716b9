-- ===== PART A: goes FIRST, ahead of the names: the tables' words, and 'selects' of the private methods out of them =====
/-- a private method of a class that the tables say can be made, by its rows of tables_1 -/
def lw_okq (q : MethodName × Nat) : Prop := (q.1.cls ≠ "java/lang/invoke/MethodHandle" ∧ q.1.cls ≠ "java/lang/invoke/VarHandle") ∧ Cond.instantiable q.1.cls q.2 ∈ tables_1 ∧ Cond.privateMethod q.1 ∈ tables_1 ∧ Cond.instanceMethod q.1 ∈ tables_1
theorem lw_p0 : lw_okq (⟨"MeltPins", "finding", "(I)I"⟩, 8) := ⟨⟨by decide +kernel, by decide +kernel⟩, List.mem_of_getElem? (i := 16) (by decide +kernel), List.mem_of_getElem? (i := 201) (by decide +kernel), List.mem_of_getElem? (i := 202) (by decide +kernel)⟩
theorem lw_p1 : lw_okq (⟨"MeltPins$Tape", "append", "(I)V"⟩, 6) := ⟨⟨by decide +kernel, by decide +kernel⟩, List.mem_of_getElem? (i := 125) (by decide +kernel), List.mem_of_getElem? (i := 206) (by decide +kernel), List.mem_of_getElem? (i := 207) (by decide +kernel)⟩
theorem lw_p2 : lw_okq (⟨"MeltPins$World", "become", "(LMeltPins$World;)V"⟩, 10) := ⟨⟨by decide +kernel, by decide +kernel⟩, List.mem_of_getElem? (i := 24) (by decide +kernel), List.mem_of_getElem? (i := 218) (by decide +kernel), List.mem_of_getElem? (i := 219) (by decide +kernel)⟩
theorem lw_p3 : lw_okq (⟨"MeltPins$Tape", "readText", "(LMeltPins$World;)I"⟩, 6) := ⟨⟨by decide +kernel, by decide +kernel⟩, List.mem_of_getElem? (i := 125) (by decide +kernel), List.mem_of_getElem? (i := 225) (by decide +kernel), List.mem_of_getElem? (i := 226) (by decide +kernel)⟩
theorem lw_p4 : lw_okq (⟨"MeltPins$Tape", "nextToken", "()V"⟩, 6) := ⟨⟨by decide +kernel, by decide +kernel⟩, List.mem_of_getElem? (i := 125) (by decide +kernel), List.mem_of_getElem? (i := 229) (by decide +kernel), List.mem_of_getElem? (i := 230) (by decide +kernel)⟩
theorem lw_p5 : lw_okq (⟨"MeltPins$Tape", "takeNumber", "()V"⟩, 6) := ⟨⟨by decide +kernel, by decide +kernel⟩, List.mem_of_getElem? (i := 125) (by decide +kernel), List.mem_of_getElem? (i := 239) (by decide +kernel), List.mem_of_getElem? (i := 240) (by decide +kernel)⟩
theorem lw_p6 : lw_okq (⟨"MeltPins$Tape", "readTie", "(LMeltPins$World;)Z"⟩, 6) := ⟨⟨by decide +kernel, by decide +kernel⟩, List.mem_of_getElem? (i := 125) (by decide +kernel), List.mem_of_getElem? (i := 246) (by decide +kernel), List.mem_of_getElem? (i := 247) (by decide +kernel)⟩
theorem lw_p7 : lw_okq (⟨"MeltPins$Tape", "isNumber", "(II)Z"⟩, 6) := ⟨⟨by decide +kernel, by decide +kernel⟩, List.mem_of_getElem? (i := 125) (by decide +kernel), List.mem_of_getElem? (i := 250) (by decide +kernel), List.mem_of_getElem? (i := 251) (by decide +kernel)⟩
theorem lw_p8 : lw_okq (⟨"MeltPins$Tape", "isWord", "(Ljava/lang/String;)Z"⟩, 6) := ⟨⟨by decide +kernel, by decide +kernel⟩, List.mem_of_getElem? (i := 125) (by decide +kernel), List.mem_of_getElem? (i := 255) (by decide +kernel), List.mem_of_getElem? (i := 256) (by decide +kernel)⟩
theorem lw_p9 : lw_okq (⟨"MeltPins$World", "putTie", "(III)V"⟩, 10) := ⟨⟨by decide +kernel, by decide +kernel⟩, List.mem_of_getElem? (i := 24) (by decide +kernel), List.mem_of_getElem? (i := 308) (by decide +kernel), List.mem_of_getElem? (i := 309) (by decide +kernel)⟩
theorem lw_p10 : lw_okq (⟨"MeltPins$Tape", "readPlace", "(LMeltPins$World;)Z"⟩, 6) := ⟨⟨by decide +kernel, by decide +kernel⟩, List.mem_of_getElem? (i := 125) (by decide +kernel), List.mem_of_getElem? (i := 312) (by decide +kernel), List.mem_of_getElem? (i := 313) (by decide +kernel)⟩
theorem lw_p11 : lw_okq (⟨"MeltPins$Tape", "kindHere", "()I"⟩, 6) := ⟨⟨by decide +kernel, by decide +kernel⟩, List.mem_of_getElem? (i := 125) (by decide +kernel), List.mem_of_getElem? (i := 316) (by decide +kernel), List.mem_of_getElem? (i := 317) (by decide +kernel)⟩
theorem lw_p12 : lw_okq (⟨"MeltPins$World", "addPlace", "(II)[I"⟩, 10) := ⟨⟨by decide +kernel, by decide +kernel⟩, List.mem_of_getElem? (i := 24) (by decide +kernel), List.mem_of_getElem? (i := 330) (by decide +kernel), List.mem_of_getElem? (i := 331) (by decide +kernel)⟩
theorem lw_p13 : lw_okq (⟨"MeltPins$Tape", "traitHere", "()I"⟩, 6) := ⟨⟨by decide +kernel, by decide +kernel⟩, List.mem_of_getElem? (i := 125) (by decide +kernel), List.mem_of_getElem? (i := 334) (by decide +kernel), List.mem_of_getElem? (i := 335) (by decide +kernel)⟩
theorem lw_p14 : lw_okq (⟨"MeltPins", "isPlace", "(I)Z"⟩, 8) := ⟨⟨by decide +kernel, by decide +kernel⟩, List.mem_of_getElem? (i := 16) (by decide +kernel), List.mem_of_getElem? (i := 355) (by decide +kernel), List.mem_of_getElem? (i := 356) (by decide +kernel)⟩
theorem lw_p15 : lw_okq (⟨"MeltPins$World", "heightOf", "(II)I"⟩, 10) := ⟨⟨by decide +kernel, by decide +kernel⟩, List.mem_of_getElem? (i := 24) (by decide +kernel), List.mem_of_getElem? (i := 359) (by decide +kernel), List.mem_of_getElem? (i := 360) (by decide +kernel)⟩
def lw_privs_1 : List (MethodName × Nat) := [(⟨"MeltPins", "finding", "(I)I"⟩, 8), (⟨"MeltPins$Tape", "append", "(I)V"⟩, 6), (⟨"MeltPins$World", "become", "(LMeltPins$World;)V"⟩, 10), (⟨"MeltPins$Tape", "readText", "(LMeltPins$World;)I"⟩, 6), (⟨"MeltPins$Tape", "nextToken", "()V"⟩, 6), (⟨"MeltPins$Tape", "takeNumber", "()V"⟩, 6), (⟨"MeltPins$Tape", "readTie", "(LMeltPins$World;)Z"⟩, 6), (⟨"MeltPins$Tape", "isNumber", "(II)Z"⟩, 6), (⟨"MeltPins$Tape", "isWord", "(Ljava/lang/String;)Z"⟩, 6), (⟨"MeltPins$World", "putTie", "(III)V"⟩, 10), (⟨"MeltPins$Tape", "readPlace", "(LMeltPins$World;)Z"⟩, 6), (⟨"MeltPins$Tape", "kindHere", "()I"⟩, 6), (⟨"MeltPins$World", "addPlace", "(II)[I"⟩, 10), (⟨"MeltPins$Tape", "traitHere", "()I"⟩, 6), (⟨"MeltPins", "isPlace", "(I)Z"⟩, 8), (⟨"MeltPins$World", "heightOf", "(II)I"⟩, 10)]
theorem lw_r1 : ∀ q ∈ lw_privs_1, lw_okq q := List.forall_mem_cons.mpr ⟨lw_p0, List.forall_mem_cons.mpr ⟨lw_p1, List.forall_mem_cons.mpr ⟨lw_p2, List.forall_mem_cons.mpr ⟨lw_p3, List.forall_mem_cons.mpr ⟨lw_p4, List.forall_mem_cons.mpr ⟨lw_p5, List.forall_mem_cons.mpr ⟨lw_p6, List.forall_mem_cons.mpr ⟨lw_p7, List.forall_mem_cons.mpr ⟨lw_p8, List.forall_mem_cons.mpr ⟨lw_p9, List.forall_mem_cons.mpr ⟨lw_p10, List.forall_mem_cons.mpr ⟨lw_p11, List.forall_mem_cons.mpr ⟨lw_p12, List.forall_mem_cons.mpr ⟨lw_p13, List.forall_mem_cons.mpr ⟨lw_p14, List.forall_mem_cons.mpr ⟨lw_p15, fun _ h => absurd h List.not_mem_nil⟩⟩⟩⟩⟩⟩⟩⟩⟩⟩⟩⟩⟩⟩⟩⟩
theorem lw_p16 : lw_okq (⟨"MeltPins$World", "pushedIn", "(I)I"⟩, 10) := ⟨⟨by decide +kernel, by decide +kernel⟩, List.mem_of_getElem? (i := 24) (by decide +kernel), List.mem_of_getElem? (i := 398) (by decide +kernel), List.mem_of_getElem? (i := 399) (by decide +kernel)⟩
theorem lw_p17 : lw_okq (⟨"MeltPins", "passPlan", "(I)V"⟩, 8) := ⟨⟨by decide +kernel, by decide +kernel⟩, List.mem_of_getElem? (i := 16) (by decide +kernel), List.mem_of_getElem? (i := 415) (by decide +kernel), List.mem_of_getElem? (i := 416) (by decide +kernel)⟩
theorem lw_p18 : lw_okq (⟨"MeltPins$Melt", "survey", "()V"⟩, 10) := ⟨⟨by decide +kernel, by decide +kernel⟩, List.mem_of_getElem? (i := 84) (by decide +kernel), List.mem_of_getElem? (i := 419) (by decide +kernel), List.mem_of_getElem? (i := 420) (by decide +kernel)⟩
theorem lw_p19 : lw_okq (⟨"MeltPins$Melt", "lowerBars", "(I)V"⟩, 10) := ⟨⟨by decide +kernel, by decide +kernel⟩, List.mem_of_getElem? (i := 84) (by decide +kernel), List.mem_of_getElem? (i := 423) (by decide +kernel), List.mem_of_getElem? (i := 424) (by decide +kernel)⟩
theorem lw_p20 : lw_okq (⟨"MeltPins$Melt", "takeBar", "(II)V"⟩, 10) := ⟨⟨by decide +kernel, by decide +kernel⟩, List.mem_of_getElem? (i := 84) (by decide +kernel), List.mem_of_getElem? (i := 428) (by decide +kernel), List.mem_of_getElem? (i := 429) (by decide +kernel)⟩
theorem lw_p21 : lw_okq (⟨"MeltPins$Melt", "begin", "(I)V"⟩, 10) := ⟨⟨by decide +kernel, by decide +kernel⟩, List.mem_of_getElem? (i := 84) (by decide +kernel), List.mem_of_getElem? (i := 433) (by decide +kernel), List.mem_of_getElem? (i := 434) (by decide +kernel)⟩
theorem lw_p22 : lw_okq (⟨"MeltPins$Melt", "passYear", "(I)Z"⟩, 10) := ⟨⟨by decide +kernel, by decide +kernel⟩, List.mem_of_getElem? (i := 84) (by decide +kernel), List.mem_of_getElem? (i := 438) (by decide +kernel), List.mem_of_getElem? (i := 439) (by decide +kernel)⟩
theorem lw_p23 : lw_okq (⟨"MeltPins$Melt", "falls", "(II)Z"⟩, 10) := ⟨⟨by decide +kernel, by decide +kernel⟩, List.mem_of_getElem? (i := 84) (by decide +kernel), List.mem_of_getElem? (i := 442) (by decide +kernel), List.mem_of_getElem? (i := 443) (by decide +kernel)⟩
theorem lw_p24 : lw_okq (⟨"MeltPins$Melt", "gets", "(II)I"⟩, 10) := ⟨⟨by decide +kernel, by decide +kernel⟩, List.mem_of_getElem? (i := 84) (by decide +kernel), List.mem_of_getElem? (i := 446) (by decide +kernel), List.mem_of_getElem? (i := 447) (by decide +kernel)⟩
theorem lw_p25 : lw_okq (⟨"MeltPins$Melt", "goes", "(II)Z"⟩, 10) := ⟨⟨by decide +kernel, by decide +kernel⟩, List.mem_of_getElem? (i := 84) (by decide +kernel), List.mem_of_getElem? (i := 450) (by decide +kernel), List.mem_of_getElem? (i := 451) (by decide +kernel)⟩
theorem lw_p26 : lw_okq (⟨"MeltPins$Melt", "walk", "(IZ)Z"⟩, 10) := ⟨⟨by decide +kernel, by decide +kernel⟩, List.mem_of_getElem? (i := 84) (by decide +kernel), List.mem_of_getElem? (i := 460) (by decide +kernel), List.mem_of_getElem? (i := 461) (by decide +kernel)⟩
theorem lw_p27 : lw_okq (⟨"MeltPins$Melt", "drownSpoilt", "(I)V"⟩, 10) := ⟨⟨by decide +kernel, by decide +kernel⟩, List.mem_of_getElem? (i := 84) (by decide +kernel), List.mem_of_getElem? (i := 464) (by decide +kernel), List.mem_of_getElem? (i := 465) (by decide +kernel)⟩
theorem lw_p28 : lw_okq (⟨"MeltPins", "isSet", "(I)Z"⟩, 8) := ⟨⟨by decide +kernel, by decide +kernel⟩, List.mem_of_getElem? (i := 16) (by decide +kernel), List.mem_of_getElem? (i := 485) (by decide +kernel), List.mem_of_getElem? (i := 486) (by decide +kernel)⟩
theorem lw_p29 : lw_okq (⟨"MeltPins$World", "all", "()I"⟩, 10) := ⟨⟨by decide +kernel, by decide +kernel⟩, List.mem_of_getElem? (i := 24) (by decide +kernel), List.mem_of_getElem? (i := 489) (by decide +kernel), List.mem_of_getElem? (i := 490) (by decide +kernel)⟩
theorem lw_p30 : lw_okq (⟨"MeltPins$Melt", "standOf", "(II)I"⟩, 10) := ⟨⟨by decide +kernel, by decide +kernel⟩, List.mem_of_getElem? (i := 84) (by decide +kernel), List.mem_of_getElem? (i := 493) (by decide +kernel), List.mem_of_getElem? (i := 494) (by decide +kernel)⟩
theorem lw_p31 : lw_okq (⟨"MeltPins", "leastThatStands", "(Z)I"⟩, 8) := ⟨⟨by decide +kernel, by decide +kernel⟩, List.mem_of_getElem? (i := 16) (by decide +kernel), List.mem_of_getElem? (i := 507) (by decide +kernel), List.mem_of_getElem? (i := 508) (by decide +kernel)⟩
def lw_privs_2 : List (MethodName × Nat) := [(⟨"MeltPins$World", "pushedIn", "(I)I"⟩, 10), (⟨"MeltPins", "passPlan", "(I)V"⟩, 8), (⟨"MeltPins$Melt", "survey", "()V"⟩, 10), (⟨"MeltPins$Melt", "lowerBars", "(I)V"⟩, 10), (⟨"MeltPins$Melt", "takeBar", "(II)V"⟩, 10), (⟨"MeltPins$Melt", "begin", "(I)V"⟩, 10), (⟨"MeltPins$Melt", "passYear", "(I)Z"⟩, 10), (⟨"MeltPins$Melt", "falls", "(II)Z"⟩, 10), (⟨"MeltPins$Melt", "gets", "(II)I"⟩, 10), (⟨"MeltPins$Melt", "goes", "(II)Z"⟩, 10), (⟨"MeltPins$Melt", "walk", "(IZ)Z"⟩, 10), (⟨"MeltPins$Melt", "drownSpoilt", "(I)V"⟩, 10), (⟨"MeltPins", "isSet", "(I)Z"⟩, 8), (⟨"MeltPins$World", "all", "()I"⟩, 10), (⟨"MeltPins$Melt", "standOf", "(II)I"⟩, 10), (⟨"MeltPins", "leastThatStands", "(Z)I"⟩, 8)]
theorem lw_r2 : ∀ q ∈ lw_privs_2, lw_okq q := List.forall_mem_cons.mpr ⟨lw_p16, List.forall_mem_cons.mpr ⟨lw_p17, List.forall_mem_cons.mpr ⟨lw_p18, List.forall_mem_cons.mpr ⟨lw_p19, List.forall_mem_cons.mpr ⟨lw_p20, List.forall_mem_cons.mpr ⟨lw_p21, List.forall_mem_cons.mpr ⟨lw_p22, List.forall_mem_cons.mpr ⟨lw_p23, List.forall_mem_cons.mpr ⟨lw_p24, List.forall_mem_cons.mpr ⟨lw_p25, List.forall_mem_cons.mpr ⟨lw_p26, List.forall_mem_cons.mpr ⟨lw_p27, List.forall_mem_cons.mpr ⟨lw_p28, List.forall_mem_cons.mpr ⟨lw_p29, List.forall_mem_cons.mpr ⟨lw_p30, List.forall_mem_cons.mpr ⟨lw_p31, fun _ h => absurd h List.not_mem_nil⟩⟩⟩⟩⟩⟩⟩⟩⟩⟩⟩⟩⟩⟩⟩⟩
theorem lw_p32 : lw_okq (⟨"MeltPins$Melt", "mustBePushed", "()I"⟩, 10) := ⟨⟨by decide +kernel, by decide +kernel⟩, List.mem_of_getElem? (i := 84) (by decide +kernel), List.mem_of_getElem? (i := 511) (by decide +kernel), List.mem_of_getElem? (i := 512) (by decide +kernel)⟩
theorem lw_p33 : lw_okq (⟨"MeltPins$World", "sumOf", "(II)I"⟩, 10) := ⟨⟨by decide +kernel, by decide +kernel⟩, List.mem_of_getElem? (i := 24) (by decide +kernel), List.mem_of_getElem? (i := 518) (by decide +kernel), List.mem_of_getElem? (i := 519) (by decide +kernel)⟩
theorem lw_p34 : lw_okq (⟨"MeltPins$Melt", "standsAll", "(I)Z"⟩, 10) := ⟨⟨by decide +kernel, by decide +kernel⟩, List.mem_of_getElem? (i := 84) (by decide +kernel), List.mem_of_getElem? (i := 522) (by decide +kernel), List.mem_of_getElem? (i := 523) (by decide +kernel)⟩
theorem lw_p35 : lw_okq (⟨"MeltPins", "tellOfSet", "(II)I"⟩, 8) := ⟨⟨by decide +kernel, by decide +kernel⟩, List.mem_of_getElem? (i := 16) (by decide +kernel), List.mem_of_getElem? (i := 527) (by decide +kernel), List.mem_of_getElem? (i := 528) (by decide +kernel)⟩
theorem lw_p36 : lw_okq (⟨"MeltPins", "orderYears", "(III)I"⟩, 8) := ⟨⟨by decide +kernel, by decide +kernel⟩, List.mem_of_getElem? (i := 16) (by decide +kernel), List.mem_of_getElem? (i := 550) (by decide +kernel), List.mem_of_getElem? (i := 551) (by decide +kernel)⟩
theorem lw_p37 : lw_okq (⟨"MeltPins", "chanceOf", "(I)J"⟩, 8) := ⟨⟨by decide +kernel, by decide +kernel⟩, List.mem_of_getElem? (i := 16) (by decide +kernel), List.mem_of_getElem? (i := 579) (by decide +kernel), List.mem_of_getElem? (i := 580) (by decide +kernel)⟩
theorem lw_p38 : lw_okq (⟨"MeltPins", "drawnSet", "()I"⟩, 8) := ⟨⟨by decide +kernel, by decide +kernel⟩, List.mem_of_getElem? (i := 16) (by decide +kernel), List.mem_of_getElem? (i := 587) (by decide +kernel), List.mem_of_getElem? (i := 588) (by decide +kernel)⟩
theorem lw_p39 : lw_okq (⟨"MeltPins$World", "draw", "()I"⟩, 10) := ⟨⟨by decide +kernel, by decide +kernel⟩, List.mem_of_getElem? (i := 24) (by decide +kernel), List.mem_of_getElem? (i := 591) (by decide +kernel), List.mem_of_getElem? (i := 592) (by decide +kernel)⟩
theorem lw_p40 : lw_okq (⟨"MeltPins", "bestHold", "(IIIII)I"⟩, 8) := ⟨⟨by decide +kernel, by decide +kernel⟩, List.mem_of_getElem? (i := 16) (by decide +kernel), List.mem_of_getElem? (i := 604) (by decide +kernel), List.mem_of_getElem? (i := 605) (by decide +kernel)⟩
theorem lw_p41 : lw_okq (⟨"MeltPins", "bestPush", "(IIIII)I"⟩, 8) := ⟨⟨by decide +kernel, by decide +kernel⟩, List.mem_of_getElem? (i := 16) (by decide +kernel), List.mem_of_getElem? (i := 608) (by decide +kernel), List.mem_of_getElem? (i := 609) (by decide +kernel)⟩
theorem lw_p42 : lw_okq (⟨"MeltPins", "bringsLayers", "(ILMeltPins$Sheet;)Z"⟩, 8) := ⟨⟨by decide +kernel, by decide +kernel⟩, List.mem_of_getElem? (i := 16) (by decide +kernel), List.mem_of_getElem? (i := 622) (by decide +kernel), List.mem_of_getElem? (i := 623) (by decide +kernel)⟩
theorem lw_p43 : lw_okq (⟨"MeltPins", "areAll", "(ILMeltPins$Sheet;I)Z"⟩, 8) := ⟨⟨by decide +kernel, by decide +kernel⟩, List.mem_of_getElem? (i := 16) (by decide +kernel), List.mem_of_getElem? (i := 626) (by decide +kernel), List.mem_of_getElem? (i := 627) (by decide +kernel)⟩
theorem lw_p44 : lw_okq (⟨"MeltPins$Sheet", "lowestBits", "(I)I"⟩, 3) := ⟨⟨by decide +kernel, by decide +kernel⟩, List.mem_of_getElem? (i := 152) (by decide +kernel), List.mem_of_getElem? (i := 658) (by decide +kernel), List.mem_of_getElem? (i := 659) (by decide +kernel)⟩
theorem lw_p45 : lw_okq (⟨"MeltPins$Sheet", "hasRow", "(II)Z"⟩, 3) := ⟨⟨by decide +kernel, by decide +kernel⟩, List.mem_of_getElem? (i := 152) (by decide +kernel), List.mem_of_getElem? (i := 666) (by decide +kernel), List.mem_of_getElem? (i := 667) (by decide +kernel)⟩
theorem lw_p46 : lw_okq (⟨"MeltPins$World", "fullSpots", "()I"⟩, 10) := ⟨⟨by decide +kernel, by decide +kernel⟩, List.mem_of_getElem? (i := 24) (by decide +kernel), List.mem_of_getElem? (i := 687) (by decide +kernel), List.mem_of_getElem? (i := 688) (by decide +kernel)⟩
theorem lw_p47 : lw_okq (⟨"MeltPinsModel", "finds", "(I)I"⟩, 26) := ⟨⟨by decide +kernel, by decide +kernel⟩, List.mem_of_getElem? (i := 695) (by decide +kernel), List.mem_of_getElem? (i := 789) (by decide +kernel), List.mem_of_getElem? (i := 790) (by decide +kernel)⟩
def lw_privs_3 : List (MethodName × Nat) := [(⟨"MeltPins$Melt", "mustBePushed", "()I"⟩, 10), (⟨"MeltPins$World", "sumOf", "(II)I"⟩, 10), (⟨"MeltPins$Melt", "standsAll", "(I)Z"⟩, 10), (⟨"MeltPins", "tellOfSet", "(II)I"⟩, 8), (⟨"MeltPins", "orderYears", "(III)I"⟩, 8), (⟨"MeltPins", "chanceOf", "(I)J"⟩, 8), (⟨"MeltPins", "drawnSet", "()I"⟩, 8), (⟨"MeltPins$World", "draw", "()I"⟩, 10), (⟨"MeltPins", "bestHold", "(IIIII)I"⟩, 8), (⟨"MeltPins", "bestPush", "(IIIII)I"⟩, 8), (⟨"MeltPins", "bringsLayers", "(ILMeltPins$Sheet;)Z"⟩, 8), (⟨"MeltPins", "areAll", "(ILMeltPins$Sheet;I)Z"⟩, 8), (⟨"MeltPins$Sheet", "lowestBits", "(I)I"⟩, 3), (⟨"MeltPins$Sheet", "hasRow", "(II)Z"⟩, 3), (⟨"MeltPins$World", "fullSpots", "()I"⟩, 10), (⟨"MeltPinsModel", "finds", "(I)I"⟩, 26)]
theorem lw_r3 : ∀ q ∈ lw_privs_3, lw_okq q := List.forall_mem_cons.mpr ⟨lw_p32, List.forall_mem_cons.mpr ⟨lw_p33, List.forall_mem_cons.mpr ⟨lw_p34, List.forall_mem_cons.mpr ⟨lw_p35, List.forall_mem_cons.mpr ⟨lw_p36, List.forall_mem_cons.mpr ⟨lw_p37, List.forall_mem_cons.mpr ⟨lw_p38, List.forall_mem_cons.mpr ⟨lw_p39, List.forall_mem_cons.mpr ⟨lw_p40, List.forall_mem_cons.mpr ⟨lw_p41, List.forall_mem_cons.mpr ⟨lw_p42, List.forall_mem_cons.mpr ⟨lw_p43, List.forall_mem_cons.mpr ⟨lw_p44, List.forall_mem_cons.mpr ⟨lw_p45, List.forall_mem_cons.mpr ⟨lw_p46, List.forall_mem_cons.mpr ⟨lw_p47, fun _ h => absurd h List.not_mem_nil⟩⟩⟩⟩⟩⟩⟩⟩⟩⟩⟩⟩⟩⟩⟩⟩
theorem lw_p48 : lw_okq (⟨"MeltPinsModel", "next", "()V"⟩, 26) := ⟨⟨by decide +kernel, by decide +kernel⟩, List.mem_of_getElem? (i := 695) (by decide +kernel), List.mem_of_getElem? (i := 802) (by decide +kernel), List.mem_of_getElem? (i := 803) (by decide +kernel)⟩
theorem lw_p49 : lw_okq (⟨"MeltPinsModel", "tieItem", "()V"⟩, 26) := ⟨⟨by decide +kernel, by decide +kernel⟩, List.mem_of_getElem? (i := 695) (by decide +kernel), List.mem_of_getElem? (i := 816) (by decide +kernel), List.mem_of_getElem? (i := 817) (by decide +kernel)⟩
theorem lw_p50 : lw_okq (⟨"MeltPinsModel", "number", "(II)I"⟩, 26) := ⟨⟨by decide +kernel, by decide +kernel⟩, List.mem_of_getElem? (i := 695) (by decide +kernel), List.mem_of_getElem? (i := 820) (by decide +kernel), List.mem_of_getElem? (i := 821) (by decide +kernel)⟩
theorem lw_p51 : lw_okq (⟨"MeltPinsModel", "isWord", "(Ljava/lang/String;)Z"⟩, 26) := ⟨⟨by decide +kernel, by decide +kernel⟩, List.mem_of_getElem? (i := 695) (by decide +kernel), List.mem_of_getElem? (i := 825) (by decide +kernel), List.mem_of_getElem? (i := 826) (by decide +kernel)⟩
theorem lw_p52 : lw_okq (⟨"MeltPinsModel", "isPlace", "(I)Z"⟩, 26) := ⟨⟨by decide +kernel, by decide +kernel⟩, List.mem_of_getElem? (i := 695) (by decide +kernel), List.mem_of_getElem? (i := 831) (by decide +kernel), List.mem_of_getElem? (i := 832) (by decide +kernel)⟩
theorem lw_p53 : lw_okq (⟨"MeltPinsModel", "placeItem", "()V"⟩, 26) := ⟨⟨by decide +kernel, by decide +kernel⟩, List.mem_of_getElem? (i := 695) (by decide +kernel), List.mem_of_getElem? (i := 836) (by decide +kernel), List.mem_of_getElem? (i := 837) (by decide +kernel)⟩
theorem lw_p54 : lw_okq (⟨"MeltPinsModel", "kindHere", "()I"⟩, 26) := ⟨⟨by decide +kernel, by decide +kernel⟩, List.mem_of_getElem? (i := 695) (by decide +kernel), List.mem_of_getElem? (i := 840) (by decide +kernel), List.mem_of_getElem? (i := 841) (by decide +kernel)⟩
theorem lw_p55 : lw_okq (⟨"MeltPinsModel", "takes", "(Ljava/lang/String;)Z"⟩, 26) := ⟨⟨by decide +kernel, by decide +kernel⟩, List.mem_of_getElem? (i := 695) (by decide +kernel), List.mem_of_getElem? (i := 852) (by decide +kernel), List.mem_of_getElem? (i := 853) (by decide +kernel)⟩
theorem lw_p56 : lw_okq (⟨"MeltPinsModel", "of", "(II)I"⟩, 26) := ⟨⟨by decide +kernel, by decide +kernel⟩, List.mem_of_getElem? (i := 695) (by decide +kernel), List.mem_of_getElem? (i := 865) (by decide +kernel), List.mem_of_getElem? (i := 866) (by decide +kernel)⟩
theorem lw_p57 : lw_okq (⟨"MeltPinsModel", "height", "(I)I"⟩, 26) := ⟨⟨by decide +kernel, by decide +kernel⟩, List.mem_of_getElem? (i := 695) (by decide +kernel), List.mem_of_getElem? (i := 869) (by decide +kernel), List.mem_of_getElem? (i := 870) (by decide +kernel)⟩
theorem lw_p58 : lw_okq (⟨"MeltPinsModel", "may", "(III)Z"⟩, 26) := ⟨⟨by decide +kernel, by decide +kernel⟩, List.mem_of_getElem? (i := 695) (by decide +kernel), List.mem_of_getElem? (i := 877) (by decide +kernel), List.mem_of_getElem? (i := 878) (by decide +kernel)⟩
theorem lw_p59 : lw_okq (⟨"MeltPinsModel", "becomes", "(II)I"⟩, 26) := ⟨⟨by decide +kernel, by decide +kernel⟩, List.mem_of_getElem? (i := 695) (by decide +kernel), List.mem_of_getElem? (i := 883) (by decide +kernel), List.mem_of_getElem? (i := 884) (by decide +kernel)⟩
theorem lw_p60 : lw_okq (⟨"MeltPinsModel", "isTie", "(II)Z"⟩, 26) := ⟨⟨by decide +kernel, by decide +kernel⟩, List.mem_of_getElem? (i := 695) (by decide +kernel), List.mem_of_getElem? (i := 895) (by decide +kernel), List.mem_of_getElem? (i := 896) (by decide +kernel)⟩
theorem lw_p61 : lw_okq (⟨"MeltPinsModel", "pushesOf", "(I)I"⟩, 26) := ⟨⟨by decide +kernel, by decide +kernel⟩, List.mem_of_getElem? (i := 695) (by decide +kernel), List.mem_of_getElem? (i := 917) (by decide +kernel), List.mem_of_getElem? (i := 918) (by decide +kernel)⟩
theorem lw_p62 : lw_okq (⟨"MeltPinsModel", "plan", "(I)V"⟩, 26) := ⟨⟨by decide +kernel, by decide +kernel⟩, List.mem_of_getElem? (i := 695) (by decide +kernel), List.mem_of_getElem? (i := 937) (by decide +kernel), List.mem_of_getElem? (i := 938) (by decide +kernel)⟩
theorem lw_p63 : lw_okq (⟨"MeltPinsModel", "heldNow", "()I"⟩, 26) := ⟨⟨by decide +kernel, by decide +kernel⟩, List.mem_of_getElem? (i := 695) (by decide +kernel), List.mem_of_getElem? (i := 941) (by decide +kernel), List.mem_of_getElem? (i := 942) (by decide +kernel)⟩
def lw_privs_4 : List (MethodName × Nat) := [(⟨"MeltPinsModel", "next", "()V"⟩, 26), (⟨"MeltPinsModel", "tieItem", "()V"⟩, 26), (⟨"MeltPinsModel", "number", "(II)I"⟩, 26), (⟨"MeltPinsModel", "isWord", "(Ljava/lang/String;)Z"⟩, 26), (⟨"MeltPinsModel", "isPlace", "(I)Z"⟩, 26), (⟨"MeltPinsModel", "placeItem", "()V"⟩, 26), (⟨"MeltPinsModel", "kindHere", "()I"⟩, 26), (⟨"MeltPinsModel", "takes", "(Ljava/lang/String;)Z"⟩, 26), (⟨"MeltPinsModel", "of", "(II)I"⟩, 26), (⟨"MeltPinsModel", "height", "(I)I"⟩, 26), (⟨"MeltPinsModel", "may", "(III)Z"⟩, 26), (⟨"MeltPinsModel", "becomes", "(II)I"⟩, 26), (⟨"MeltPinsModel", "isTie", "(II)Z"⟩, 26), (⟨"MeltPinsModel", "pushesOf", "(I)I"⟩, 26), (⟨"MeltPinsModel", "plan", "(I)V"⟩, 26), (⟨"MeltPinsModel", "heldNow", "()I"⟩, 26)]
theorem lw_r4 : ∀ q ∈ lw_privs_4, lw_okq q := List.forall_mem_cons.mpr ⟨lw_p48, List.forall_mem_cons.mpr ⟨lw_p49, List.forall_mem_cons.mpr ⟨lw_p50, List.forall_mem_cons.mpr ⟨lw_p51, List.forall_mem_cons.mpr ⟨lw_p52, List.forall_mem_cons.mpr ⟨lw_p53, List.forall_mem_cons.mpr ⟨lw_p54, List.forall_mem_cons.mpr ⟨lw_p55, List.forall_mem_cons.mpr ⟨lw_p56, List.forall_mem_cons.mpr ⟨lw_p57, List.forall_mem_cons.mpr ⟨lw_p58, List.forall_mem_cons.mpr ⟨lw_p59, List.forall_mem_cons.mpr ⟨lw_p60, List.forall_mem_cons.mpr ⟨lw_p61, List.forall_mem_cons.mpr ⟨lw_p62, List.forall_mem_cons.mpr ⟨lw_p63, fun _ h => absurd h List.not_mem_nil⟩⟩⟩⟩⟩⟩⟩⟩⟩⟩⟩⟩⟩⟩⟩⟩
theorem lw_p64 : lw_okq (⟨"MeltPinsModel", "begins", "(I)V"⟩, 26) := ⟨⟨by decide +kernel, by decide +kernel⟩, List.mem_of_getElem? (i := 695) (by decide +kernel), List.mem_of_getElem? (i := 945) (by decide +kernel), List.mem_of_getElem? (i := 946) (by decide +kernel)⟩
theorem lw_p65 : lw_okq (⟨"MeltPinsModel", "year", "(I)Z"⟩, 26) := ⟨⟨by decide +kernel, by decide +kernel⟩, List.mem_of_getElem? (i := 695) (by decide +kernel), List.mem_of_getElem? (i := 949) (by decide +kernel), List.mem_of_getElem? (i := 950) (by decide +kernel)⟩
theorem lw_p66 : lw_okq (⟨"MeltPinsModel", "falls", "(II)Z"⟩, 26) := ⟨⟨by decide +kernel, by decide +kernel⟩, List.mem_of_getElem? (i := 695) (by decide +kernel), List.mem_of_getElem? (i := 953) (by decide +kernel), List.mem_of_getElem? (i := 954) (by decide +kernel)⟩
theorem lw_p67 : lw_okq (⟨"MeltPinsModel", "gets", "(II)I"⟩, 26) := ⟨⟨by decide +kernel, by decide +kernel⟩, List.mem_of_getElem? (i := 695) (by decide +kernel), List.mem_of_getElem? (i := 957) (by decide +kernel), List.mem_of_getElem? (i := 958) (by decide +kernel)⟩
theorem lw_p68 : lw_okq (⟨"MeltPinsModel", "goes", "(II)Z"⟩, 26) := ⟨⟨by decide +kernel, by decide +kernel⟩, List.mem_of_getElem? (i := 695) (by decide +kernel), List.mem_of_getElem? (i := 961) (by decide +kernel), List.mem_of_getElem? (i := 962) (by decide +kernel)⟩
theorem lw_p69 : lw_okq (⟨"MeltPinsModel", "company", "(II)I"⟩, 26) := ⟨⟨by decide +kernel, by decide +kernel⟩, List.mem_of_getElem? (i := 695) (by decide +kernel), List.mem_of_getElem? (i := 965) (by decide +kernel), List.mem_of_getElem? (i := 966) (by decide +kernel)⟩
theorem lw_p70 : lw_okq (⟨"MeltPinsModel", "isSet", "(I)Z"⟩, 26) := ⟨⟨by decide +kernel, by decide +kernel⟩, List.mem_of_getElem? (i := 695) (by decide +kernel), List.mem_of_getElem? (i := 985) (by decide +kernel), List.mem_of_getElem? (i := 986) (by decide +kernel)⟩
theorem lw_p71 : lw_okq (⟨"MeltPinsModel", "every", "()I"⟩, 26) := ⟨⟨by decide +kernel, by decide +kernel⟩, List.mem_of_getElem? (i := 695) (by decide +kernel), List.mem_of_getElem? (i := 989) (by decide +kernel), List.mem_of_getElem? (i := 990) (by decide +kernel)⟩
theorem lw_p72 : lw_okq (⟨"MeltPinsModel", "standOf", "(II)I"⟩, 26) := ⟨⟨by decide +kernel, by decide +kernel⟩, List.mem_of_getElem? (i := 695) (by decide +kernel), List.mem_of_getElem? (i := 993) (by decide +kernel), List.mem_of_getElem? (i := 994) (by decide +kernel)⟩
theorem lw_p73 : lw_okq (⟨"MeltPinsModel", "asksNothing", "()V"⟩, 26) := ⟨⟨by decide +kernel, by decide +kernel⟩, List.mem_of_getElem? (i := 695) (by decide +kernel), List.mem_of_getElem? (i := 1001) (by decide +kernel), List.mem_of_getElem? (i := 1002) (by decide +kernel)⟩
theorem lw_p74 : lw_okq (⟨"MeltPinsModel", "allIn", "(I)I"⟩, 26) := ⟨⟨by decide +kernel, by decide +kernel⟩, List.mem_of_getElem? (i := 695) (by decide +kernel), List.mem_of_getElem? (i := 1005) (by decide +kernel), List.mem_of_getElem? (i := 1006) (by decide +kernel)⟩
theorem lw_p75 : lw_okq (⟨"MeltPinsModel", "leastAll", "(II)I"⟩, 26) := ⟨⟨by decide +kernel, by decide +kernel⟩, List.mem_of_getElem? (i := 695) (by decide +kernel), List.mem_of_getElem? (i := 1014) (by decide +kernel), List.mem_of_getElem? (i := 1015) (by decide +kernel)⟩
theorem lw_p76 : lw_okq (⟨"MeltPinsModel", "findStands", "()V"⟩, 26) := ⟨⟨by decide +kernel, by decide +kernel⟩, List.mem_of_getElem? (i := 695) (by decide +kernel), List.mem_of_getElem? (i := 1018) (by decide +kernel), List.mem_of_getElem? (i := 1019) (by decide +kernel)⟩
theorem lw_p77 : lw_okq (⟨"MeltPinsModel", "sumOf", "(II)I"⟩, 26) := ⟨⟨by decide +kernel, by decide +kernel⟩, List.mem_of_getElem? (i := 695) (by decide +kernel), List.mem_of_getElem? (i := 1025) (by decide +kernel), List.mem_of_getElem? (i := 1026) (by decide +kernel)⟩
theorem lw_p78 : lw_okq (⟨"MeltPinsModel", "told", "(II)I"⟩, 26) := ⟨⟨by decide +kernel, by decide +kernel⟩, List.mem_of_getElem? (i := 695) (by decide +kernel), List.mem_of_getElem? (i := 1029) (by decide +kernel), List.mem_of_getElem? (i := 1030) (by decide +kernel)⟩
theorem lw_p79 : lw_okq (⟨"MeltPinsModel", "tries", "(IIII)V"⟩, 26) := ⟨⟨by decide +kernel, by decide +kernel⟩, List.mem_of_getElem? (i := 695) (by decide +kernel), List.mem_of_getElem? (i := 1051) (by decide +kernel), List.mem_of_getElem? (i := 1052) (by decide +kernel)⟩
def lw_privs_5 : List (MethodName × Nat) := [(⟨"MeltPinsModel", "begins", "(I)V"⟩, 26), (⟨"MeltPinsModel", "year", "(I)Z"⟩, 26), (⟨"MeltPinsModel", "falls", "(II)Z"⟩, 26), (⟨"MeltPinsModel", "gets", "(II)I"⟩, 26), (⟨"MeltPinsModel", "goes", "(II)Z"⟩, 26), (⟨"MeltPinsModel", "company", "(II)I"⟩, 26), (⟨"MeltPinsModel", "isSet", "(I)Z"⟩, 26), (⟨"MeltPinsModel", "every", "()I"⟩, 26), (⟨"MeltPinsModel", "standOf", "(II)I"⟩, 26), (⟨"MeltPinsModel", "asksNothing", "()V"⟩, 26), (⟨"MeltPinsModel", "allIn", "(I)I"⟩, 26), (⟨"MeltPinsModel", "leastAll", "(II)I"⟩, 26), (⟨"MeltPinsModel", "findStands", "()V"⟩, 26), (⟨"MeltPinsModel", "sumOf", "(II)I"⟩, 26), (⟨"MeltPinsModel", "told", "(II)I"⟩, 26), (⟨"MeltPinsModel", "tries", "(IIII)V"⟩, 26)]
theorem lw_r5 : ∀ q ∈ lw_privs_5, lw_okq q := List.forall_mem_cons.mpr ⟨lw_p64, List.forall_mem_cons.mpr ⟨lw_p65, List.forall_mem_cons.mpr ⟨lw_p66, List.forall_mem_cons.mpr ⟨lw_p67, List.forall_mem_cons.mpr ⟨lw_p68, List.forall_mem_cons.mpr ⟨lw_p69, List.forall_mem_cons.mpr ⟨lw_p70, List.forall_mem_cons.mpr ⟨lw_p71, List.forall_mem_cons.mpr ⟨lw_p72, List.forall_mem_cons.mpr ⟨lw_p73, List.forall_mem_cons.mpr ⟨lw_p74, List.forall_mem_cons.mpr ⟨lw_p75, List.forall_mem_cons.mpr ⟨lw_p76, List.forall_mem_cons.mpr ⟨lw_p77, List.forall_mem_cons.mpr ⟨lw_p78, List.forall_mem_cons.mpr ⟨lw_p79, fun _ h => absurd h List.not_mem_nil⟩⟩⟩⟩⟩⟩⟩⟩⟩⟩⟩⟩⟩⟩⟩⟩
theorem lw_p80 : lw_okq (⟨"MeltPinsModel", "keepBars", "()V"⟩, 26) := ⟨⟨by decide +kernel, by decide +kernel⟩, List.mem_of_getElem? (i := 695) (by decide +kernel), List.mem_of_getElem? (i := 1063) (by decide +kernel), List.mem_of_getElem? (i := 1064) (by decide +kernel)⟩
theorem lw_p81 : lw_okq (⟨"MeltPinsModel", "giveBars", "(I)V"⟩, 26) := ⟨⟨by decide +kernel, by decide +kernel⟩, List.mem_of_getElem? (i := 695) (by decide +kernel), List.mem_of_getElem? (i := 1067) (by decide +kernel), List.mem_of_getElem? (i := 1068) (by decide +kernel)⟩
theorem lw_p82 : lw_okq (⟨"MeltPinsModel", "brings", "(I)Z"⟩, 26) := ⟨⟨by decide +kernel, by decide +kernel⟩, List.mem_of_getElem? (i := 695) (by decide +kernel), List.mem_of_getElem? (i := 1071) (by decide +kernel), List.mem_of_getElem? (i := 1072) (by decide +kernel)⟩
theorem lw_p83 : lw_okq (⟨"MeltPinsModel", "ones", "(III)I"⟩, 26) := ⟨⟨by decide +kernel, by decide +kernel⟩, List.mem_of_getElem? (i := 695) (by decide +kernel), List.mem_of_getElem? (i := 1101) (by decide +kernel), List.mem_of_getElem? (i := 1102) (by decide +kernel)⟩
theorem lw_p84 : lw_okq (⟨"MeltPinsModel", "others", "(III)I"⟩, 26) := ⟨⟨by decide +kernel, by decide +kernel⟩, List.mem_of_getElem? (i := 695) (by decide +kernel), List.mem_of_getElem? (i := 1105) (by decide +kernel), List.mem_of_getElem? (i := 1106) (by decide +kernel)⟩
theorem lw_p85 : lw_okq (⟨"MeltPinsModel", "isFirst", "(II)Z"⟩, 26) := ⟨⟨by decide +kernel, by decide +kernel⟩, List.mem_of_getElem? (i := 695) (by decide +kernel), List.mem_of_getElem? (i := 1118) (by decide +kernel), List.mem_of_getElem? (i := 1119) (by decide +kernel)⟩
def lw_privs_6 : List (MethodName × Nat) := [(⟨"MeltPinsModel", "keepBars", "()V"⟩, 26), (⟨"MeltPinsModel", "giveBars", "(I)V"⟩, 26), (⟨"MeltPinsModel", "brings", "(I)Z"⟩, 26), (⟨"MeltPinsModel", "ones", "(III)I"⟩, 26), (⟨"MeltPinsModel", "others", "(III)I"⟩, 26), (⟨"MeltPinsModel", "isFirst", "(II)Z"⟩, 26)]
theorem lw_r6 : ∀ q ∈ lw_privs_6, lw_okq q := List.forall_mem_cons.mpr ⟨lw_p80, List.forall_mem_cons.mpr ⟨lw_p81, List.forall_mem_cons.mpr ⟨lw_p82, List.forall_mem_cons.mpr ⟨lw_p83, List.forall_mem_cons.mpr ⟨lw_p84, List.forall_mem_cons.mpr ⟨lw_p85, fun _ h => absurd h List.not_mem_nil⟩⟩⟩⟩⟩⟩
def lw_privs : List (MethodName × Nat) := lw_privs_1 ++ (lw_privs_2 ++ (lw_privs_3 ++ (lw_privs_4 ++ (lw_privs_5 ++ (lw_privs_6)))))
def lw_tbl : List Cond := k2_sels lw_privs ++ tables_1
theorem lw_privs_ok : ∀ q ∈ lw_privs, lw_okq q := by
  show ∀ q ∈ lw_privs_1 ++ (lw_privs_2 ++ (lw_privs_3 ++ (lw_privs_4 ++ (lw_privs_5 ++ (lw_privs_6))))), lw_okq q
  exact List.forall_mem_append.mpr ⟨lw_r1, List.forall_mem_append.mpr ⟨lw_r2, List.forall_mem_append.mpr ⟨lw_r3, List.forall_mem_append.mpr ⟨lw_r4, List.forall_mem_append.mpr ⟨lw_r5, lw_r6⟩⟩⟩⟩⟩

def RX0 : String := "MeltPins$Melt"
def TX0 : u_T := fun k => match k with
  | 0 => ("MeltPins$Melt", "world", "LMeltPins$World;", true)
  | 1 => ("MeltPins$Melt", "heights", "[I", true)
  | 2 => ("MeltPins$Melt", "givers", "[I", true)
  | 3 => ("MeltPins$Melt", "giverCounts", "[I", true)
  | 4 => ("MeltPins$Melt", "giverAt", "[[I", true)
  | 5 => ("MeltPins$Melt", "partAt", "[[I", true)
  | 6 => ("MeltPins$Melt", "onWay", "[I", true)
  | 7 => ("MeltPins$Melt", "over", "I", false)
  | 8 => ("MeltPins$Melt", "drowned", "I", false)
  | _ => ("MeltPins$Melt", "held", "I", false)
def tyX0 : Nat → FieldType := fun k => match k with
  | 0 => .object "MeltPins$World"
  | 1 => .array .int
  | 2 => .array .int
  | 3 => .array .int
  | 4 => .array (.array .int)
  | 5 => .array (.array .int)
  | 6 => .array .int
  | 7 => .int
  | 8 => .int
  | _ => .int
def RX1 : String := "MeltPins$Sheet"
def TX1 : u_T := fun k => match k with
  | 0 => ("MeltPins$Sheet", "bits", "I", false)
  | 1 => ("MeltPins$Sheet", "length", "I", false)
  | _ => ("MeltPins$Sheet", "numbers", "[I", true)
def tyX1 : Nat → FieldType := fun k => match k with
  | 0 => .int
  | 1 => .int
  | _ => .array .int
def RX2 : String := "MeltPins$Tape"
def TX2 : u_T := fun k => match k with
  | 0 => ("MeltPins$Tape", "bytes", "[I", true)
  | 1 => ("MeltPins$Tape", "length", "I", false)
  | 2 => ("MeltPins$Tape", "token", "I", false)
  | 3 => ("MeltPins$Tape", "start", "I", false)
  | 4 => ("MeltPins$Tape", "end", "I", false)
  | _ => ("MeltPins$Tape", "number", "I", false)
def tyX2 : Nat → FieldType := fun k => match k with
  | 0 => .array .int
  | 1 => .int
  | 2 => .int
  | 3 => .int
  | 4 => .int
  | _ => .int
def RX3 : String := "MeltPins$World"
def TX3 : u_T := fun k => match k with
  | 0 => ("MeltPins$World", "places", "I", false)
  | 1 => ("MeltPins$World", "ties", "I", false)
  | 2 => ("MeltPins$World", "pushes", "I", false)
  | 3 => ("MeltPins$World", "held", "I", false)
  | 4 => ("MeltPins$World", "z", "I", false)
  | 5 => ("MeltPins$World", "traits", "[[I", true)
  | 6 => ("MeltPins$World", "parts", "[[I", true)
  | 7 => ("MeltPins$World", "pushYears", "[I", true)
  | 8 => ("MeltPins$World", "pushPlaces", "[I", true)
  | _ => ("MeltPins$World", "spots", "[I", true)
def tyX3 : Nat → FieldType := fun k => match k with
  | 0 => .int
  | 1 => .int
  | 2 => .int
  | 3 => .int
  | 4 => .int
  | 5 => .array (.array .int)
  | 6 => .array (.array .int)
  | 7 => .array .int
  | 8 => .array .int
  | _ => .array .int
def RX4 : String := "MeltPins"
def TX4 : u_T := fun k => match k with
  | 0 => ("MeltPins", "now", "LMeltPins$World;", true)
  | 1 => ("MeltPins", "kept", "LMeltPins$World;", true)
  | 2 => ("MeltPins", "draft", "LMeltPins$World;", true)
  | 3 => ("MeltPins", "melt", "LMeltPins$Melt;", true)
  | 4 => ("MeltPins", "tape", "LMeltPins$Tape;", true)
  | 5 => ("MeltPins", "sheets", "[LMeltPins$Sheet;", true)
  | 6 => ("MeltPins", "told", "[I", true)
  | _ => ("MeltPins", "keeps", "Z", false)
def tyX4 : Nat → FieldType := fun k => match k with
  | 0 => .object "MeltPins$World"
  | 1 => .object "MeltPins$World"
  | 2 => .object "MeltPins$World"
  | 3 => .object "MeltPins$Melt"
  | 4 => .object "MeltPins$Tape"
  | 5 => .array (.object "MeltPins$Sheet")
  | 6 => .array .int
  | _ => .boolean
def RX5 : String := "MeltPinsModel"
def TX5 : u_T := fun k => match k with
  | 0 => ("MeltPinsModel", "m", "[I", true)
  | 1 => ("MeltPinsModel", "kept", "[I", true)
  | 2 => ("MeltPinsModel", "isKept", "Z", false)
  | 3 => ("MeltPinsModel", "found", "[I", true)
  | 4 => ("MeltPinsModel", "isFresh", "Z", false)
  | 5 => ("MeltPinsModel", "tape", "[I", true)
  | 6 => ("MeltPinsModel", "taped", "I", false)
  | 7 => ("MeltPinsModel", "sort", "I", false)
  | 8 => ("MeltPinsModel", "from", "I", false)
  | 9 => ("MeltPinsModel", "to", "I", false)
  | 10 => ("MeltPinsModel", "value", "I", false)
  | 11 => ("MeltPinsModel", "bad", "Z", false)
  | 12 => ("MeltPinsModel", "ahead", "[I", true)
  | 13 => ("MeltPinsModel", "over", "I", false)
  | 14 => ("MeltPinsModel", "drowned", "I", false)
  | 15 => ("MeltPinsModel", "holds", "I", false)
  | 16 => ("MeltPinsModel", "way", "[I", true)
  | 17 => ("MeltPinsModel", "heights", "[I", true)
  | 18 => ("MeltPinsModel", "stands", "[I", true)
  | 19 => ("MeltPinsModel", "asked", "[I", true)
  | 20 => ("MeltPinsModel", "bestYears", "I", false)
  | 21 => ("MeltPinsModel", "bestOrder", "I", false)
  | 22 => ("MeltPinsModel", "bars", "[I", true)
  | 23 => ("MeltPinsModel", "bits", "[I", true)
  | 24 => ("MeltPinsModel", "size", "[I", true)
  | _ => ("MeltPinsModel", "number", "[I", true)
def tyX5 : Nat → FieldType := fun k => match k with
  | 0 => .array .int
  | 1 => .array .int
  | 2 => .boolean
  | 3 => .array .int
  | 4 => .boolean
  | 5 => .array .int
  | 6 => .int
  | 7 => .int
  | 8 => .int
  | 9 => .int
  | 10 => .int
  | 11 => .boolean
  | 12 => .array .int
  | 13 => .int
  | 14 => .int
  | 15 => .int
  | 16 => .array .int
  | 17 => .array .int
  | 18 => .array .int
  | 19 => .array .int
  | 20 => .int
  | 21 => .int
  | 22 => .array .int
  | 23 => .array .int
  | 24 => .array .int
  | _ => .array .int
def mzCls : List vw_C := [(RX0, TX0, 10), (RX1, TX1, 3), (RX2, TX2, 6), (RX3, TX3, 10), (RX4, TX4, 8), (RX5, TX5, 26)]
def mzNm : List String := ["MeltPins$Melt", "MeltPins$Sheet", "MeltPins$Tape", "MeltPins$World", "MeltPins", "MeltPinsModel", "MeltPinsLaw", "java/lang/Integer", "java/util/Arrays"]
/-- the methods: name, code, how many places, what comes back, of which of mzNm -/
def mzTab0 : List (MethodName × ByteArray × Nat × Option FieldType × Nat) := [
  (x, code, 4, some .boolean, 6),
  (⟨"MeltPinsModel", "finds", "(I)I"⟩, prog_7_method_2_code, 2, some .int, 5),
  (⟨"MeltPinsModel", "in", "(JJJ)Z"⟩, prog_7_method_3_code, 6, some .boolean, 5),
  (⟨"MeltPinsModel", "has", "(II)Z"⟩, prog_7_method_4_code, 2, some .boolean, 5),
  (⟨"MeltPinsModel", "many", "(I)I"⟩, prog_7_method_5_code, 3, some .int, 5),
  (⟨"MeltPinsModel", "of", "(II)I"⟩, prog_7_method_6_code, 3, some .int, 5),
  (⟨"MeltPinsModel", "isPlace", "(I)Z"⟩, prog_7_method_7_code, 2, some .boolean, 5),
  (⟨"MeltPinsModel", "every", "()I"⟩, prog_7_method_8_code, 1, some .int, 5),
  (⟨"MeltPinsModel", "isSet", "(I)Z"⟩, prog_7_method_9_code, 2, some .boolean, 5),
  (⟨"MeltPinsModel", "feed", "(II)I"⟩, prog_7_method_10_code, 4, some .int, 5),
  (⟨"MeltPinsModel", "wipe", "()I"⟩, prog_7_method_11_code, 2, some .int, 5),
  (⟨"MeltPinsModel", "isDigit", "(I)Z"⟩, prog_7_method_12_code, 1, some .boolean, 5),
  (⟨"MeltPinsModel", "isLetter", "(I)Z"⟩, prog_7_method_13_code, 1, some .boolean, 5),
  (⟨"MeltPinsModel", "next", "()V"⟩, prog_7_method_14_code, 2, none, 5),
  (⟨"MeltPinsModel", "isWord", "(Ljava/lang/String;)Z"⟩, prog_7_method_15_code, 4, some .boolean, 5),
  (⟨"MeltPinsModel", "takes", "(Ljava/lang/String;)Z"⟩, prog_7_method_16_code, 2, some .boolean, 5)]
def mzTab1 : List (MethodName × ByteArray × Nat × Option FieldType × Nat) := [
  (⟨"MeltPinsModel", "number", "(II)I"⟩, prog_7_method_17_code, 4, some .int, 5),
  (⟨"MeltPinsModel", "kindHere", "()I"⟩, prog_7_method_18_code, 1, some .int, 5),
  (⟨"MeltPinsModel", "placeItem", "()V"⟩, prog_7_method_19_code, 5, none, 5),
  (⟨"MeltPinsModel", "tieItem", "()V"⟩, prog_7_method_20_code, 4, none, 5),
  (⟨"MeltPinsModel", "world", "()I"⟩, prog_7_method_21_code, 4, some .int, 5),
  (⟨"MeltPinsModel", "height", "(I)I"⟩, prog_7_method_22_code, 4, some .int, 5),
  (⟨"MeltPinsModel", "placeOf", "(II)I"⟩, prog_7_method_23_code, 3, some .int, 5),
  (⟨"MeltPinsModel", "may", "(III)Z"⟩, prog_7_method_24_code, 4, some .boolean, 5),
  (⟨"MeltPinsModel", "becomes", "(II)I"⟩, prog_7_method_25_code, 4, some .int, 5),
  (⟨"MeltPinsModel", "change", "(III)I"⟩, prog_7_method_26_code, 4, some .int, 5),
  (⟨"MeltPinsModel", "step", "(I)I"⟩, prog_7_method_27_code, 2, some .int, 5),
  (⟨"MeltPinsModel", "isTie", "(II)Z"⟩, prog_7_method_28_code, 3, some .boolean, 5),
  (⟨"MeltPinsModel", "tie", "(III)I"⟩, prog_7_method_29_code, 5, some .int, 5),
  (⟨"MeltPinsModel", "tieOf", "(II)I"⟩, prog_7_method_30_code, 3, some .int, 5),
  (⟨"MeltPinsModel", "cut", "(II)I"⟩, prog_7_method_31_code, 4, some .int, 5),
  (⟨"MeltPinsModel", "hold", "(IZ)I"⟩, prog_7_method_32_code, 3, some .int, 5)]
def mzTab2 : List (MethodName × ByteArray × Nat × Option FieldType × Nat) := [
  (⟨"MeltPinsModel", "heldNow", "()I"⟩, prog_7_method_33_code, 3, some .int, 5),
  (⟨"MeltPinsModel", "begins", "(I)V"⟩, prog_7_method_34_code, 3, none, 5),
  (⟨"MeltPinsModel", "gets", "(II)I"⟩, prog_7_method_35_code, 5, some .int, 5),
  (⟨"MeltPinsModel", "company", "(II)I"⟩, prog_7_method_36_code, 5, some .int, 5),
  (⟨"MeltPinsModel", "goes", "(II)Z"⟩, prog_7_method_37_code, 3, some .boolean, 5),
  (⟨"MeltPinsModel", "falls", "(II)Z"⟩, prog_7_method_38_code, 4, some .boolean, 5),
  (⟨"MeltPinsModel", "year", "(I)Z"⟩, prog_7_method_39_code, 9, some .boolean, 5),
  (⟨"MeltPinsModel", "pushesOf", "(I)I"⟩, prog_7_method_40_code, 4, some .int, 5),
  (⟨"MeltPinsModel", "plan", "(I)V"⟩, prog_7_method_41_code, 3, none, 5),
  (⟨"MeltPinsModel", "push", "(II)I"⟩, prog_7_method_42_code, 4, some .int, 5),
  (⟨"MeltPinsModel", "pushOf", "(II)I"⟩, prog_7_method_43_code, 3, some .int, 5),
  (⟨"MeltPinsModel", "clear", "()I"⟩, prog_7_method_44_code, 2, some .int, 5),
  (⟨"MeltPinsModel", "run", "(II)I"⟩, prog_7_method_45_code, 3, some .int, 5),
  (⟨"MeltPinsModel", "runOf", "(III)I"⟩, prog_7_method_46_code, 4, some .int, 5),
  (⟨"MeltPinsModel", "when", "(I)I"⟩, prog_7_method_47_code, 3, some .int, 5),
  (⟨"MeltPinsModel", "settles", "()I"⟩, prog_7_method_48_code, 5, some .int, 5)]
def mzTab3 : List (MethodName × ByteArray × Nat × Option FieldType × Nat) := [
  (⟨"MeltPinsModel", "standOf", "(II)I"⟩, prog_7_method_49_code, 5, some .int, 5),
  (⟨"MeltPinsModel", "findStands", "()V"⟩, prog_7_method_50_code, 2, none, 5),
  (⟨"MeltPinsModel", "stand", "(I)I"⟩, prog_7_method_51_code, 2, some .int, 5),
  (⟨"MeltPinsModel", "allIn", "(I)I"⟩, prog_7_method_52_code, 3, some .int, 5),
  (⟨"MeltPinsModel", "asksNothing", "()V"⟩, prog_7_method_53_code, 2, none, 5),
  (⟨"MeltPinsModel", "late", "(I)I"⟩, prog_7_method_54_code, 3, some .int, 5),
  (⟨"MeltPinsModel", "sumOf", "(II)I"⟩, prog_7_method_55_code, 5, some .int, 5),
  (⟨"MeltPinsModel", "leastAll", "(II)I"⟩, prog_7_method_56_code, 7, some .int, 5),
  (⟨"MeltPinsModel", "told", "(II)I"⟩, prog_7_method_57_code, 3, some .int, 5),
  (⟨"MeltPinsModel", "fewest", "(I)I"⟩, prog_7_method_58_code, 2, some .int, 5),
  (⟨"MeltPinsModel", "cheapest", "(I)I"⟩, prog_7_method_59_code, 2, some .int, 5),
  (⟨"MeltPinsModel", "most", "(II)I"⟩, prog_7_method_60_code, 5, some .int, 5),
  (⟨"MeltPinsModel", "must", "()I"⟩, prog_7_method_61_code, 3, some .int, 5),
  (⟨"MeltPinsModel", "tries", "(IIII)V"⟩, prog_7_method_62_code, 6, none, 5),
  (⟨"MeltPinsModel", "order", "(III)I"⟩, prog_7_method_63_code, 4, some .int, 5),
  (⟨"MeltPinsModel", "stop", "(II)I"⟩, prog_7_method_64_code, 8, some .int, 5)]
def mzTab4 : List (MethodName × ByteArray × Nat × Option FieldType × Nat) := [
  (⟨"MeltPinsModel", "brings", "(I)Z"⟩, prog_7_method_65_code, 2, some .boolean, 5),
  (⟨"MeltPinsModel", "keepBars", "()V"⟩, prog_7_method_66_code, 2, none, 5),
  (⟨"MeltPinsModel", "giveBars", "(I)V"⟩, prog_7_method_67_code, 3, none, 5),
  (⟨"MeltPinsModel", "near", "(I)I"⟩, prog_7_method_68_code, 4, some .int, 5),
  (⟨"MeltPinsModel", "edge", "(II)I"⟩, prog_7_method_69_code, 7, some .int, 5),
  (⟨"MeltPinsModel", "look", "()I"⟩, prog_7_method_70_code, 5, some .int, 5),
  (⟨"MeltPinsModel", "likely", "()J"⟩, prog_7_method_71_code, 7, some .long, 5),
  (⟨"MeltPinsModel", "century", "(I)I"⟩, prog_7_method_72_code, 6, some .int, 5),
  (⟨"MeltPinsModel", "seed", "(I)I"⟩, prog_7_method_73_code, 3, some .int, 5),
  (⟨"MeltPinsModel", "ones", "(III)I"⟩, prog_7_method_74_code, 8, some .int, 5),
  (⟨"MeltPinsModel", "others", "(III)I"⟩, prog_7_method_75_code, 8, some .int, 5),
  (⟨"MeltPinsModel", "game", "(II)I"⟩, prog_7_method_76_code, 6, some .int, 5),
  (⟨"MeltPinsModel", "isSheet", "(I)Z"⟩, prog_7_method_77_code, 1, some .boolean, 5),
  (⟨"MeltPinsModel", "isFirst", "(II)Z"⟩, prog_7_method_78_code, 6, some .boolean, 5),
  (⟨"MeltPinsModel", "first", "(I)I"⟩, prog_7_method_79_code, 4, some .int, 5),
  (⟨"MeltPinsModel", "judge", "(I)I"⟩, prog_7_method_80_code, 3, some .int, 5)]
def mzTab5 : List (MethodName × ByteArray × Nat × Option FieldType × Nat) := [
  (⟨"MeltPinsModel", "spot", "(II)I"⟩, prog_7_method_81_code, 3, some .int, 5),
  (⟨"MeltPinsModel", "above", "(I)I"⟩, prog_7_method_82_code, 1, some .int, 5),
  (⟨"MeltPinsModel", "as", "(II)I"⟩, prog_7_method_83_code, 5, some .int, 5),
  (⟨"MeltPinsModel", "sheet", "(III)I"⟩, prog_7_method_84_code, 5, some .int, 5),
  (⟨"MeltPinsModel", "write", "(III)I"⟩, prog_7_method_85_code, 4, some .int, 5),
  (⟨"MeltPinsModel", "copy", "(IIIII)I"⟩, prog_7_method_86_code, 9, some .int, 5),
  (⟨"MeltPinsModel", "image", "()I"⟩, prog_7_method_87_code, 2, some .int, 5),
  (⟨"MeltPinsModel", "undo", "()I"⟩, prog_7_method_88_code, 2, some .int, 5),
  (⟨"MeltPinsModel", "tear", "()I"⟩, prog_7_method_89_code, 2, some .int, 5),
  (⟨"MeltPinsModel", "count", "(I)I"⟩, prog_7_method_90_code, 4, some .int, 5),
  (⟨"MeltPinsModel", "status", "(I)I"⟩, prog_7_method_91_code, 4, some .int, 5),
  (⟨"MeltPins$Sheet", "lowestBits", "(I)I"⟩, prog_3_method_2_code, 2, some .int, 1),
  (⟨"MeltPins$Sheet", "hasRow", "(II)Z"⟩, prog_3_method_3_code, 3, some .boolean, 1),
  (⟨"MeltPins$World", "become", "(LMeltPins$World;)V"⟩, prog_5_method_2_code, 3, none, 3),
  (⟨"MeltPins$World", "all", "()I"⟩, prog_5_method_3_code, 1, some .int, 3),
  (⟨"MeltPins$World", "addPlace", "(II)[I"⟩, prog_5_method_4_code, 4, some (.array .int), 3)]
def mzTab6 : List (MethodName × ByteArray × Nat × Option FieldType × Nat) := [
  (⟨"MeltPins$World", "putTie", "(III)V"⟩, prog_5_method_5_code, 4, none, 3),
  (⟨"MeltPins$World", "heightOf", "(II)I"⟩, prog_5_method_6_code, 3, some .int, 3),
  (⟨"MeltPins$World", "pushedIn", "(I)I"⟩, prog_5_method_7_code, 4, some .int, 3),
  (⟨"MeltPins$World", "sumOf", "(II)I"⟩, prog_5_method_8_code, 5, some .int, 3),
  (⟨"MeltPins$World", "fullSpots", "()I"⟩, prog_5_method_9_code, 3, some .int, 3),
  (⟨"MeltPins$World", "draw", "()I"⟩, prog_5_method_10_code, 1, some .int, 3),
  (⟨"MeltPins$Melt", "survey", "()V"⟩, prog_2_method_2_code, 6, none, 0),
  (⟨"MeltPins$Melt", "lowerBars", "(I)V"⟩, prog_2_method_3_code, 3, none, 0),
  (⟨"MeltPins$Melt", "takeBar", "(II)V"⟩, prog_2_method_4_code, 3, none, 0),
  (⟨"MeltPins$Melt", "mustBePushed", "()I"⟩, prog_2_method_5_code, 3, some .int, 0),
  (⟨"MeltPins$Melt", "standsAll", "(I)Z"⟩, prog_2_method_6_code, 2, some .boolean, 0),
  (⟨"MeltPins$Melt", "standOf", "(II)I"⟩, prog_2_method_7_code, 5, some .int, 0),
  (⟨"MeltPins$Melt", "begin", "(I)V"⟩, prog_2_method_8_code, 2, none, 0),
  (⟨"MeltPins$Melt", "passYear", "(I)Z"⟩, prog_2_method_9_code, 7, some .boolean, 0),
  (⟨"MeltPins$Melt", "walk", "(IZ)Z"⟩, prog_2_method_10_code, 4, some .boolean, 0),
  (⟨"MeltPins$Melt", "drownSpoilt", "(I)V"⟩, prog_2_method_11_code, 5, none, 0)]
def mzTab7 : List (MethodName × ByteArray × Nat × Option FieldType × Nat) := [
  (⟨"MeltPins$Melt", "gets", "(II)I"⟩, prog_2_method_12_code, 5, some .int, 0),
  (⟨"MeltPins$Melt", "goes", "(II)Z"⟩, prog_2_method_13_code, 3, some .boolean, 0),
  (⟨"MeltPins$Melt", "falls", "(II)Z"⟩, prog_2_method_14_code, 4, some .boolean, 0),
  (⟨"MeltPins$Tape", "append", "(I)V"⟩, prog_4_method_2_code, 2, none, 2),
  (⟨"MeltPins$Tape", "readText", "(LMeltPins$World;)I"⟩, prog_4_method_3_code, 4, some .int, 2),
  (⟨"MeltPins$Tape", "readPlace", "(LMeltPins$World;)Z"⟩, prog_4_method_4_code, 6, some .boolean, 2),
  (⟨"MeltPins$Tape", "readTie", "(LMeltPins$World;)Z"⟩, prog_4_method_5_code, 4, some .boolean, 2),
  (⟨"MeltPins$Tape", "nextToken", "()V"⟩, prog_4_method_6_code, 1, none, 2),
  (⟨"MeltPins$Tape", "takeNumber", "()V"⟩, prog_4_method_7_code, 1, none, 2),
  (⟨"MeltPins$Tape", "isLetter", "(I)Z"⟩, prog_4_method_8_code, 1, some .boolean, 2),
  (⟨"MeltPins$Tape", "isDigit", "(I)Z"⟩, prog_4_method_9_code, 1, some .boolean, 2),
  (⟨"MeltPins$Tape", "isNumber", "(II)Z"⟩, prog_4_method_10_code, 3, some .boolean, 2),
  (⟨"MeltPins$Tape", "isWord", "(Ljava/lang/String;)Z"⟩, prog_4_method_11_code, 3, some .boolean, 2),
  (⟨"MeltPins$Tape", "kindHere", "()I"⟩, prog_4_method_12_code, 2, some .int, 2),
  (⟨"MeltPins$Tape", "traitHere", "()I"⟩, prog_4_method_13_code, 2, some .int, 2),
  (⟨"MeltPins$Tape", "kindName", "(I)Ljava/lang/String;"⟩, prog_4_method_14_code, 1, some (.object "java/lang/String"), 2)]
def mzTab8 : List (MethodName × ByteArray × Nat × Option FieldType × Nat) := [
  (⟨"MeltPins$Tape", "traitName", "(I)Ljava/lang/String;"⟩, prog_4_method_15_code, 1, some (.object "java/lang/String"), 2),
  (⟨"MeltPins", "feed", "(II)I"⟩, prog_1_method_2_code, 4, some .int, 4),
  (⟨"MeltPins", "wipe", "()I"⟩, prog_1_method_3_code, 2, some .int, 4),
  (⟨"MeltPins", "world", "()I"⟩, prog_1_method_4_code, 2, some .int, 4),
  (⟨"MeltPins", "placeOf", "(II)I"⟩, prog_1_method_5_code, 3, some .int, 4),
  (⟨"MeltPins", "change", "(III)I"⟩, prog_1_method_6_code, 5, some .int, 4),
  (⟨"MeltPins", "step", "(I)I"⟩, prog_1_method_7_code, 2, some .int, 4),
  (⟨"MeltPins", "tie", "(III)I"⟩, prog_1_method_8_code, 5, some .int, 4),
  (⟨"MeltPins", "tieOf", "(II)I"⟩, prog_1_method_9_code, 3, some .int, 4),
  (⟨"MeltPins", "cut", "(II)I"⟩, prog_1_method_10_code, 3, some .int, 4),
  (⟨"MeltPins", "hold", "(IZ)I"⟩, prog_1_method_11_code, 4, some .int, 4),
  (⟨"MeltPins", "push", "(II)I"⟩, prog_1_method_12_code, 3, some .int, 4),
  (⟨"MeltPins", "pushOf", "(II)I"⟩, prog_1_method_13_code, 3, some .int, 4),
  (⟨"MeltPins", "clear", "()I"⟩, prog_1_method_14_code, 2, some .int, 4),
  (⟨"MeltPins", "run", "(II)I"⟩, prog_1_method_15_code, 3, some .int, 4),
  (⟨"MeltPins", "runOf", "(III)I"⟩, prog_1_method_16_code, 4, some .int, 4)]
def mzTab9 : List (MethodName × ByteArray × Nat × Option FieldType × Nat) := [
  (⟨"MeltPins", "when", "(I)I"⟩, prog_1_method_17_code, 3, some .int, 4),
  (⟨"MeltPins", "settles", "()I"⟩, prog_1_method_18_code, 5, some .int, 4),
  (⟨"MeltPins", "stand", "(I)I"⟩, prog_1_method_19_code, 2, some .int, 4),
  (⟨"MeltPins", "late", "(I)I"⟩, prog_1_method_20_code, 3, some .int, 4),
  (⟨"MeltPins", "fewest", "(I)I"⟩, prog_1_method_21_code, 2, some .int, 4),
  (⟨"MeltPins", "cheapest", "(I)I"⟩, prog_1_method_22_code, 2, some .int, 4),
  (⟨"MeltPins", "most", "(II)I"⟩, prog_1_method_23_code, 7, some .int, 4),
  (⟨"MeltPins", "must", "()I"⟩, prog_1_method_24_code, 1, some .int, 4),
  (⟨"MeltPins", "order", "(III)I"⟩, prog_1_method_25_code, 10, some .int, 4),
  (⟨"MeltPins", "stop", "(II)I"⟩, prog_1_method_26_code, 8, some .int, 4),
  (⟨"MeltPins", "near", "(I)I"⟩, prog_1_method_27_code, 3, some .int, 4),
  (⟨"MeltPins", "look", "()I"⟩, prog_1_method_28_code, 5, some .int, 4),
  (⟨"MeltPins", "edge", "(II)I"⟩, prog_1_method_29_code, 4, some .int, 4),
  (⟨"MeltPins", "likely", "()J"⟩, prog_1_method_30_code, 7, some .long, 4),
  (⟨"MeltPins", "century", "(I)I"⟩, prog_1_method_31_code, 4, some .int, 4),
  (⟨"MeltPins", "seed", "(I)I"⟩, prog_1_method_32_code, 3, some .int, 4)]
def mzTab10 : List (MethodName × ByteArray × Nat × Option FieldType × Nat) := [
  (⟨"MeltPins", "game", "(II)I"⟩, prog_1_method_33_code, 8, some .int, 4),
  (⟨"MeltPins", "first", "(I)I"⟩, prog_1_method_34_code, 7, some .int, 4),
  (⟨"MeltPins", "judge", "(I)I"⟩, prog_1_method_35_code, 4, some .int, 4),
  (⟨"MeltPins", "spot", "(II)I"⟩, prog_1_method_36_code, 3, some .int, 4),
  (⟨"MeltPins", "as", "(II)I"⟩, prog_1_method_37_code, 4, some .int, 4),
  (⟨"MeltPins", "sheet", "(III)I"⟩, prog_1_method_38_code, 5, some .int, 4),
  (⟨"MeltPins", "write", "(III)I"⟩, prog_1_method_39_code, 5, some .int, 4),
  (⟨"MeltPins", "copy", "(IIIII)I"⟩, prog_1_method_40_code, 8, some .int, 4),
  (⟨"MeltPins", "image", "()I"⟩, prog_1_method_41_code, 1, some .int, 4),
  (⟨"MeltPins", "undo", "()I"⟩, prog_1_method_42_code, 1, some .int, 4),
  (⟨"MeltPins", "tear", "()I"⟩, prog_1_method_43_code, 2, some .int, 4),
  (⟨"MeltPins", "count", "(I)I"⟩, prog_1_method_44_code, 2, some .int, 4),
  (⟨"MeltPins", "status", "(I)I"⟩, prog_1_method_45_code, 4, some .int, 4),
  (⟨"MeltPins", "finding", "(I)I"⟩, prog_1_method_46_code, 3, some .int, 4),
  (⟨"MeltPins", "isPlace", "(I)Z"⟩, prog_1_method_47_code, 2, some .boolean, 4),
  (⟨"MeltPins", "isSet", "(I)Z"⟩, prog_1_method_48_code, 2, some .boolean, 4)]
def mzTab11 : List (MethodName × ByteArray × Nat × Option FieldType × Nat) := [
  (⟨"MeltPins", "isSheet", "(I)Z"⟩, prog_1_method_49_code, 1, some .boolean, 4),
  (⟨"MeltPins", "isOfKind", "(II)Z"⟩, prog_1_method_50_code, 4, some .boolean, 4),
  (⟨"MeltPins", "passPlan", "(I)V"⟩, prog_1_method_51_code, 3, none, 4),
  (⟨"MeltPins", "leastThatStands", "(Z)I"⟩, prog_1_method_52_code, 9, some .int, 4),
  (⟨"MeltPins", "tellOfSet", "(II)I"⟩, prog_1_method_53_code, 3, some .int, 4),
  (⟨"MeltPins", "digitSet", "(II)I"⟩, prog_1_method_54_code, 5, some .int, 4),
  (⟨"MeltPins", "orderYears", "(III)I"⟩, prog_1_method_55_code, 5, some .int, 4),
  (⟨"MeltPins", "orderPushes", "(IIII)I"⟩, prog_1_method_56_code, 7, some .int, 4),
  (⟨"MeltPins", "chanceOf", "(I)J"⟩, prog_1_method_57_code, 6, some .long, 4),
  (⟨"MeltPins", "drawnSet", "()I"⟩, prog_1_method_58_code, 3, some .int, 4),
  (⟨"MeltPins", "bestPush", "(IIIII)I"⟩, prog_1_method_59_code, 9, some .int, 4),
  (⟨"MeltPins", "bestHold", "(IIIII)I"⟩, prog_1_method_60_code, 9, some .int, 4),
  (⟨"MeltPins", "bringsLayers", "(ILMeltPins$Sheet;)Z"⟩, prog_1_method_61_code, 5, some .boolean, 4),
  (⟨"MeltPins", "areAll", "(ILMeltPins$Sheet;I)Z"⟩, prog_1_method_62_code, 5, some .boolean, 4),
  (⟨"java/lang/Integer", "bitCount", "(I)I"⟩, prog_8_method_49_code, 1, some .int, 7),
  (⟨"java/util/Arrays", "fill", "([II)V"⟩, prog_14_method_103_code, 4, none, 8)]
def mzTab : List (List (MethodName × ByteArray × Nat × Option FieldType × Nat)) := [mzTab0, mzTab1, mzTab2, mzTab3, mzTab4, mzTab5, mzTab6, mzTab7, mzTab8, mzTab9, mzTab10, mzTab11]
def mzFL : List (Nat × Nat × Nat × Nat × Nat) := [(0, 9, 0, 1, 0), (0, 15, 0, 2, 0), (0, 18, 0, 3, 0), (0, 23, 0, 4, 0), (0, 26, 0, 5, 0), (0, 29, 0, 6, 0), (0, 32, 0, 0, 0), (0, 40, 3, 0, 1), (0, 46, 3, 6, 1), (0, 49, 3, 5, 1), (0, 72, 3, 3, 1), (0, 85, 0, 7, 0), (0, 88, 0, 8, 0), (0, 91, 0, 9, 0), (1, 15, 1, 0, 0), (1, 19, 1, 1, 0), (2, 9, 2, 0, 0), (2, 15, 2, 1, 0), (2, 19, 2, 4, 0), (2, 25, 2, 2, 0), (2, 35, 2, 3, 0), (2, 42, 3, 0, 1), (2, 51, 2, 5, 0), (2, 67, 3, 1, 1), (2, 76, 3, 6, 1), (3, 9, 3, 4, 0), (3, 17, 3, 5, 0), (3, 20, 3, 6, 0), (3, 23, 3, 7, 0), (3, 27, 3, 8, 0), (3, 30, 3, 9, 0), (3, 39, 3, 0, 0), (3, 42, 3, 1, 0), (3, 45, 3, 2, 0), (3, 48, 3, 3, 0), (4, 12, 4, 0, 0), (4, 16, 4, 1, 0), (4, 19, 4, 2, 0), (4, 27, 4, 3, 0), (4, 34, 4, 4, 0), (4, 40, 4, 5, 0), (4, 44, 4, 6, 0), (4, 54, 2, 1, 1), (4, 70, 3, 0, 1), (4, 77, 3, 5, 1), (4, 85, 3, 3, 1), (4, 94, 3, 6, 1), (4, 97, 3, 1, 1), (4, 109, 3, 2, 1), (4, 112, 3, 7, 1), (4, 115, 3, 8, 1), (4, 121, 0, 7, 1), (4, 124, 0, 8, 1), (4, 127, 0, 6, 1), (4, 195, 3, 4, 1), (4, 210, 1, 0, 1), (4, 214, 1, 1, 1), (4, 219, 1, 2, 1), (4, 222, 3, 9, 1), (4, 249, 4, 7, 0), (5, 9, 5, 0, 0), (5, 13, 5, 1, 0), (5, 16, 5, 3, 0), (5, 19, 5, 5, 0), (5, 22, 5, 12, 0), (5, 25, 5, 16, 0), (5, 28, 5, 17, 0), (5, 31, 5, 18, 0), (5, 34, 5, 19, 0), (5, 37, 5, 22, 0), (5, 40, 5, 23, 0), (5, 43, 5, 24, 0), (5, 46, 5, 25, 0), (5, 64, 5, 6, 0), (5, 77, 5, 9, 0), (5, 80, 5, 8, 0), (5, 83, 5, 10, 0), (5, 86, 5, 7, 0), (5, 96, 5, 11, 0), (5, 160, 5, 4, 0), (5, 187, 5, 13, 0), (5, 190, 5, 14, 0), (5, 193, 5, 15, 0), (5, 259, 5, 20, 0), (5, 262, 5, 21, 0), (5, 306, 5, 2, 0)]
def mzCL : List (Nat × Nat × Int) := [(3, 63, 1103515245), (4, 49, (-1000001)), (4, 58, (-1000002)), (4, 104, (-1000004)), (4, 108, (-1000005)), (4, 174, 100000000), (4, 213, (-1000006)), (4, 229, (-1000003)), (4, 230, (-1000007)), (5, 49, (-1000001)), (5, 68, (-1000002)), (5, 186, (-1000004)), (5, 225, (-1000005)), (5, 282, 1103515245), (5, 295, (-1000006)), (5, 304, (-1000003)), (5, 305, (-1000007)), (7, 265, 1431655765), (7, 266, 858993459), (7, 267, 252645135)]
def mzJL : List (Nat × Nat × Int) := [(5, 58, 4), (5, 69, 48), (5, 71, 57), (5, 73, 97), (5, 75, 122), (5, 166, 10), (5, 171, 99), (5, 173, 9), (5, 223, 49), (5, 250, 2), (5, 257, 12), (5, 269, 5), (5, 280, 50), (5, 290, 3), (5, 299, 6), (5, 309, (-1))]
def mzSL : List (Nat × Nat × Nat) := [(2, 70, 0), (2, 80, 1), (2, 117, 2), (2, 119, 3), (2, 121, 4), (2, 123, 5), (2, 125, 6), (2, 127, 7), (2, 129, 8), (2, 131, 9), (2, 133, 10), (2, 135, 11), (2, 137, 12), (2, 139, 13), (5, 116, 2), (5, 118, 3), (5, 120, 4), (5, 122, 5), (5, 124, 6), (5, 126, 7), (5, 128, 8), (5, 136, 9), (5, 141, 10), (5, 142, 11), (5, 144, 12), (5, 146, 13), (5, 148, 0), (5, 152, 1)]
def mzTL : List (Nat × Nat × Nat) := [(2, 61, 1), (2, 64, 2), (4, 88, 1), (4, 91, 2), (4, 256, 0)]
def mzML : List (Nat × Nat × Nat × Nat) := [(0, 36, 103, 0), (0, 58, 104, 0), (0, 62, 97, 1), (0, 65, 94, 1), (0, 69, 112, 0), (0, 75, 107, 0), (0, 78, 108, 0), (0, 81, 109, 0), (0, 92, 191, 2), (0, 98, 114, 0), (0, 102, 113, 0), (0, 105, 110, 0), (0, 109, 111, 0), (0, 112, 190, 2), (2, 22, 119, 0), (2, 28, 118, 0), (2, 32, 117, 0), (2, 38, 125, 0), (2, 47, 123, 0), (2, 54, 95, 1), (2, 58, 126, 0), (2, 72, 124, 0), (2, 82, 96, 1), (2, 86, 121, 2), (2, 90, 122, 2), (2, 93, 120, 0), (2, 110, 127, 2), (2, 114, 128, 2), (3, 33, 191, 2), (4, 50, 173, 0), (4, 59, 115, 1), (4, 63, 93, 1), (4, 66, 116, 1), (4, 73, 174, 0), (4, 81, 97, 1), (4, 100, 96, 1), (4, 105, 98, 1), (4, 118, 178, 0), (4, 130, 112, 1), (4, 133, 109, 1), (4, 136, 175, 0), (4, 139, 102, 1), (4, 142, 107, 1), (4, 145, 108, 1), (4, 148, 94, 1), (4, 152, 179, 0), (4, 156, 180, 0), (4, 159, 190, 2), (4, 164, 105, 1), (4, 167, 181, 2), (4, 170, 182, 0), (4, 175, 99, 1), (4, 178, 103, 1), (4, 181, 106, 1), (4, 184, 104, 1), (4, 188, 184, 0), (4, 192, 185, 0), (4, 198, 187, 0), (4, 207, 176, 2), (4, 215, 188, 0), (4, 225, 177, 2), (4, 231, 191, 2), (4, 237, 91, 1), (4, 240, 92, 1), (4, 253, 100, 1), (4, 259, 183, 2), (4, 263, 101, 1), (4, 266, 186, 0), (4, 272, 189, 0), (5, 50, 2, 2), (5, 54, 7, 0), (5, 60, 1, 0), (5, 89, 12, 2), (5, 93, 11, 2), (5, 109, 14, 0), (5, 113, 13, 0), (5, 130, 17, 0), (5, 133, 16, 0), (5, 138, 15, 0), (5, 149, 6, 0), (5, 154, 19, 0), (5, 157, 18, 0), (5, 163, 5, 0), (5, 168, 21, 0), (5, 175, 23, 0), (5, 179, 24, 0), (5, 182, 27, 0), (5, 196, 3, 2), (5, 199, 34, 0), (5, 202, 35, 0), (5, 204, 37, 0), (5, 207, 36, 0), (5, 210, 32, 0), (5, 213, 33, 0), (5, 217, 39, 0), (5, 220, 38, 0), (5, 226, 40, 0), (5, 229, 48, 0), (5, 232, 8, 0), (5, 235, 52, 0), (5, 238, 51, 0), (5, 241, 49, 0), (5, 244, 4, 2), (5, 247, 54, 0), (5, 252, 55, 0), (5, 255, 56, 0), (5, 265, 61, 0), (5, 271, 65, 0), (5, 274, 66, 0), (5, 277, 64, 0), (5, 283, 74, 0), (5, 287, 73, 0), (5, 292, 76, 2), (5, 296, 77, 0), (5, 301, 81, 2), (6, 13, 129, 0), (6, 17, 9, 0), (6, 18, 130, 0), (6, 22, 10, 0), (6, 23, 131, 0), (6, 26, 20, 0), (6, 27, 132, 0), (6, 30, 22, 0), (6, 31, 133, 0), (6, 35, 25, 0), (6, 36, 134, 0), (6, 40, 26, 0), (6, 41, 135, 0), (6, 44, 28, 0), (6, 45, 136, 0), (6, 48, 29, 0), (6, 49, 137, 0), (6, 52, 30, 0), (6, 53, 138, 0), (6, 57, 31, 0), (6, 58, 139, 0), (6, 61, 41, 0), (6, 62, 140, 0), (6, 65, 42, 0), (6, 66, 141, 0), (6, 69, 43, 0), (6, 70, 142, 0), (6, 73, 44, 0), (6, 74, 143, 0), (6, 77, 45, 0), (6, 78, 144, 0), (6, 81, 46, 0), (6, 82, 145, 0), (6, 85, 47, 0), (6, 86, 146, 0), (6, 89, 50, 0), (6, 90, 147, 0), (6, 93, 53, 0), (6, 94, 148, 0), (6, 97, 57, 0), (6, 98, 149, 0), (6, 101, 58, 0), (6, 102, 150, 0), (6, 105, 59, 0), (6, 106, 151, 0), (6, 109, 60, 0), (6, 110, 152, 0), (6, 113, 62, 0), (6, 114, 153, 0), (6, 117, 63, 0), (6, 118, 154, 0), (6, 121, 67, 0), (6, 122, 155, 0), (6, 125, 69, 0), (6, 126, 156, 0), (6, 129, 68, 0), (6, 130, 157, 0), (6, 134, 70, 0), (6, 135, 158, 0), (6, 138, 71, 0), (6, 139, 159, 0), (6, 142, 72, 0), (6, 143, 160, 0), (6, 146, 75, 0), (6, 147, 161, 0), (6, 150, 78, 0), (6, 151, 162, 0), (6, 154, 79, 0), (6, 155, 163, 0), (6, 158, 80, 0), (6, 159, 164, 0), (6, 162, 82, 0), (6, 163, 165, 0), (6, 166, 83, 0), (6, 167, 166, 0), (6, 170, 84, 0), (6, 171, 167, 0), (6, 175, 85, 0), (6, 176, 168, 0), (6, 179, 86, 0), (6, 180, 169, 0), (6, 183, 87, 0), (6, 184, 170, 0), (6, 187, 88, 0), (6, 188, 171, 0), (6, 191, 89, 0), (6, 192, 172, 0), (6, 195, 90, 0)]
/-- each thing: (0, places, _) a row of ints; (1, class, _) an object; (2, places, first) a row of rows of ints; (3, places, first) a row of sheets -/
def mzShape : List (Nat × Nat × Nat) := [(1, 5, 0), (0, 318, 0), (0, 318, 0), (0, 7, 0), (0, 120, 0), (0, 318, 0), (0, 12, 0), (0, 12, 0), (0, 4096, 0), (0, 50, 0), (0, 12, 0), (0, 4, 0), (0, 4, 0), (0, 160, 0), (1, 4, 0), (0, 7, 0), (1, 0, 0), (0, 12, 0), (0, 12, 0), (0, 12, 0), (2, 12, 124), (2, 12, 136), (0, 12, 0), (1, 2, 0), (0, 120, 0), (3, 4, 44), (1, 3, 0), (1, 3, 0), (1, 3, 0), (2, 12, 52), (2, 12, 64), (2, 12, 76), (2, 12, 88), (2, 12, 100), (2, 12, 112), (0, 20, 0), (0, 20, 0), (0, 20, 0), (0, 20, 0), (0, 20, 0), (0, 20, 0), (0, 10, 0), (0, 10, 0), (0, 10, 0), (1, 1, 0), (1, 1, 0), (1, 1, 0), (1, 1, 0), (0, 40, 0), (0, 40, 0), (0, 40, 0), (0, 40, 0), (0, 9, 0), (0, 9, 0), (0, 9, 0), (0, 9, 0), (0, 9, 0), (0, 9, 0), (0, 9, 0), (0, 9, 0), (0, 9, 0), (0, 9, 0), (0, 9, 0), (0, 9, 0), (0, 9, 0), (0, 9, 0), (0, 9, 0), (0, 9, 0), (0, 9, 0), (0, 9, 0), (0, 9, 0), (0, 9, 0), (0, 9, 0), (0, 9, 0), (0, 9, 0), (0, 9, 0), (0, 9, 0), (0, 9, 0), (0, 9, 0), (0, 9, 0), (0, 9, 0), (0, 9, 0), (0, 9, 0), (0, 9, 0), (0, 9, 0), (0, 9, 0), (0, 9, 0), (0, 9, 0), (0, 12, 0), (0, 12, 0), (0, 12, 0), (0, 12, 0), (0, 12, 0), (0, 12, 0), (0, 12, 0), (0, 12, 0), (0, 12, 0), (0, 12, 0), (0, 12, 0), (0, 12, 0), (0, 12, 0), (0, 12, 0), (0, 12, 0), (0, 12, 0), (0, 12, 0), (0, 12, 0), (0, 12, 0), (0, 12, 0), (0, 12, 0), (0, 12, 0), (0, 12, 0), (0, 12, 0), (0, 12, 0), (0, 12, 0), (0, 12, 0), (0, 12, 0), (0, 12, 0), (0, 12, 0), (0, 12, 0), (0, 12, 0), (0, 12, 0), (0, 12, 0), (0, 12, 0), (0, 12, 0), (0, 12, 0), (0, 12, 0), (0, 12, 0), (0, 12, 0), (0, 12, 0), (0, 12, 0), (0, 12, 0), (0, 12, 0), (0, 12, 0), (0, 12, 0), (0, 12, 0), (0, 12, 0), (0, 12, 0), (0, 12, 0), (0, 12, 0), (0, 12, 0), (0, 12, 0), (0, 12, 0), (0, 12, 0), (0, 12, 0), (0, 12, 0), (0, 12, 0), (0, 12, 0), (0, 12, 0)]
/-- kinds of which there are several: first, how many, (0 a row of ints, places) or (1 an object, class) -/
def mzPools : List (Nat × Nat × Nat × Nat) := [(44, 4, 1, 1), (48, 4, 0, 40), (52, 12, 0, 9), (64, 12, 0, 9), (76, 12, 0, 9), (88, 12, 0, 12), (100, 12, 0, 12), (112, 12, 0, 12), (124, 12, 0, 12), (136, 12, 0, 12), (300, 14, 5, 0)]
/-- what a field holds: (0, _) a number; (1, k) thing k; (2, d) the thing d behind its own -/
def mzRfT : List (List (Nat × Nat)) := [[(1, 26), (1, 17), (1, 18), (1, 19), (1, 20), (1, 21), (1, 22), (0, 0), (0, 0), (0, 0)], [(0, 0), (0, 0), (2, 4)], [(1, 24), (0, 0), (0, 0), (0, 0), (0, 0), (0, 0)], [(0, 0), (0, 0), (0, 0), (0, 0), (0, 0), (2, 3), (2, 6), (2, 9), (2, 12), (2, 15)], [(1, 26), (1, 27), (1, 28), (1, 16), (1, 23), (1, 25), (1, 15), (0, 0)], [(1, 1), (1, 2), (0, 0), (1, 3), (0, 0), (1, 4), (0, 0), (0, 0), (0, 0), (0, 0), (0, 0), (0, 0), (1, 5), (0, 0), (0, 0), (0, 0), (1, 6), (1, 7), (1, 8), (1, 9), (0, 0), (0, 0), (1, 10), (1, 11), (1, 12), (1, 13)]]
def mzCstT : List (List Int) := [[-1, 0, 0, 1, 1, 2, 3], [0, 1, 0, 0, 1, 1, 0, -1, 0], [6, 99, 99, 9, 99, 99, 10, 11, 9]]
def mzStrT : List (List Int) := [[116, 111], [98, 121], [112, 108, 97, 99, 101], [115, 116, 97, 121], [98, 97, 99, 107], [99, 111, 109, 112, 97, 110, 121], [100, 114, 111, 119, 110], [112, 97, 114, 116], [116, 111, 108, 100], [108, 111, 119, 101, 114], [116, 97, 107, 101, 115], [99, 111, 115, 116], [112, 114, 105, 99, 101], [99, 104, 97, 110, 99, 101]]
def mzStrS : List String := ["to", "by", "place", "stay", "back", "company", "drown", "part", "told", "lower", "takes", "cost", "price", "chance"]
