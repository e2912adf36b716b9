section
-- ===== PART A: goes FIRST, ahead of the names: the tables' words, and 'selects' of the private methods out of them =====
/-- a private method of a class that the tables say can be made, by its rows of tables_1 -/
def lw_okq (q : MethodName × Nat) : Prop := (q.1.cls ≠ "java/lang/invoke/MethodHandle" ∧ q.1.cls ≠ "java/lang/invoke/VarHandle") ∧ Cond.instantiable q.1.cls q.2 ∈ tables_1 ∧ Cond.privateMethod q.1 ∈ tables_1 ∧ Cond.instanceMethod q.1 ∈ tables_1
theorem lw_p0 : lw_okq (⟨"MeltPins", "finding", "(I)I"⟩, 8) := ⟨⟨by decide +kernel, by decide +kernel⟩, List.mem_of_getElem? (i := 16) (by decide +kernel), List.mem_of_getElem? (i := 201) (by decide +kernel), List.mem_of_getElem? (i := 202) (by decide +kernel)⟩
theorem lw_p1 : lw_okq (⟨"MeltPins$Tape", "append", "(I)V"⟩, 6) := ⟨⟨by decide +kernel, by decide +kernel⟩, List.mem_of_getElem? (i := 125) (by decide +kernel), List.mem_of_getElem? (i := 206) (by decide +kernel), List.mem_of_getElem? (i := 207) (by decide +kernel)⟩
theorem lw_p2 : lw_okq (⟨"MeltPins$World", "become", "(LMeltPins$World;)V"⟩, 10) := ⟨⟨by decide +kernel, by decide +kernel⟩, List.mem_of_getElem? (i := 24) (by decide +kernel), List.mem_of_getElem? (i := 218) (by decide +kernel), List.mem_of_getElem? (i := 219) (by decide +kernel)⟩
theorem lw_p3 : lw_okq (⟨"MeltPins$Tape", "readText", "(LMeltPins$World;)I"⟩, 6) := ⟨⟨by decide +kernel, by decide +kernel⟩, List.mem_of_getElem? (i := 125) (by decide +kernel), List.mem_of_getElem? (i := 225) (by decide +kernel), List.mem_of_getElem? (i := 226) (by decide +kernel)⟩
theorem lw_p4 : lw_okq (⟨"MeltPins$Tape", "nextToken", "()V"⟩, 6) := ⟨⟨by decide +kernel, by decide +kernel⟩, List.mem_of_getElem? (i := 125) (by decide +kernel), List.mem_of_getElem? (i := 229) (by decide +kernel), List.mem_of_getElem? (i := 230) (by decide +kernel)⟩
theorem lw_p5 : lw_okq (⟨"MeltPins$Tape", "takeNumber", "()V"⟩, 6) := ⟨⟨by decide +kernel, by decide +kernel⟩, List.mem_of_getElem? (i := 125) (by decide +kernel), List.mem_of_getElem? (i := 239) (by decide +kernel), List.mem_of_getElem? (i := 240) (by decide +kernel)⟩
theorem lw_p6 : lw_okq (⟨"MeltPins$Tape", "readTie", "(LMeltPins$World;)Z"⟩, 6) := ⟨⟨by decide +kernel, by decide +kernel⟩, List.mem_of_getElem? (i := 125) (by decide +kernel), List.mem_of_getElem? (i := 246) (by decide +kernel), List.mem_of_getElem? (i := 247) (by decide +kernel)⟩
theorem lw_p7 : lw_okq (⟨"MeltPins$Tape", "isNumber", "(II)Z"⟩, 6) := ⟨⟨by decide +kernel, by decide +kernel⟩, List.mem_of_getElem? (i := 125) (by decide +kernel), List.mem_of_getElem? (i := 250) (by decide +kernel), List.mem_of_getElem? (i := 251) (by decide +kernel)⟩
theorem lw_p8 : lw_okq (⟨"MeltPins$Tape", "isWord", "(Ljava/lang/String;)Z"⟩, 6) := ⟨⟨by decide +kernel, by decide +kernel⟩, List.mem_of_getElem? (i := 125) (by decide +kernel), List.mem_of_getElem? (i := 255) (by decide +kernel), List.mem_of_getElem? (i := 256) (by decide +kernel)⟩
theorem lw_p9 : lw_okq (⟨"MeltPins$World", "putTie", "(III)V"⟩, 10) := ⟨⟨by decide +kernel, by decide +kernel⟩, List.mem_of_getElem? (i := 24) (by decide +kernel), List.mem_of_getElem? (i := 308) (by decide +kernel), List.mem_of_getElem? (i := 309) (by decide +kernel)⟩
theorem lw_p10 : lw_okq (⟨"MeltPins$Tape", "readPlace", "(LMeltPins$World;)Z"⟩, 6) := ⟨⟨by decide +kernel, by decide +kernel⟩, List.mem_of_getElem? (i := 125) (by decide +kernel), List.mem_of_getElem? (i := 312) (by decide +kernel), List.mem_of_getElem? (i := 313) (by decide +kernel)⟩
theorem lw_p11 : lw_okq (⟨"MeltPins$Tape", "kindHere", "()I"⟩, 6) := ⟨⟨by decide +kernel, by decide +kernel⟩, List.mem_of_getElem? (i := 125) (by decide +kernel), List.mem_of_getElem? (i := 316) (by decide +kernel), List.mem_of_getElem? (i := 317) (by decide +kernel)⟩
theorem lw_p12 : lw_okq (⟨"MeltPins$World", "addPlace", "(II)[I"⟩, 10) := ⟨⟨by decide +kernel, by decide +kernel⟩, List.mem_of_getElem? (i := 24) (by decide +kernel), List.mem_of_getElem? (i := 330) (by decide +kernel), List.mem_of_getElem? (i := 331) (by decide +kernel)⟩
theorem lw_p13 : lw_okq (⟨"MeltPins$Tape", "traitHere", "()I"⟩, 6) := ⟨⟨by decide +kernel, by decide +kernel⟩, List.mem_of_getElem? (i := 125) (by decide +kernel), List.mem_of_getElem? (i := 334) (by decide +kernel), List.mem_of_getElem? (i := 335) (by decide +kernel)⟩
theorem lw_p14 : lw_okq (⟨"MeltPins", "isPlace", "(I)Z"⟩, 8) := ⟨⟨by decide +kernel, by decide +kernel⟩, List.mem_of_getElem? (i := 16) (by decide +kernel), List.mem_of_getElem? (i := 355) (by decide +kernel), List.mem_of_getElem? (i := 356) (by decide +kernel)⟩
theorem lw_p15 : lw_okq (⟨"MeltPins$World", "heightOf", "(II)I"⟩, 10) := ⟨⟨by decide +kernel, by decide +kernel⟩, List.mem_of_getElem? (i := 24) (by decide +kernel), List.mem_of_getElem? (i := 359) (by decide +kernel), List.mem_of_getElem? (i := 360) (by decide +kernel)⟩
def lw_privs_1 : List (MethodName × Nat) := [(⟨"MeltPins", "finding", "(I)I"⟩, 8), (⟨"MeltPins$Tape", "append", "(I)V"⟩, 6), (⟨"MeltPins$World", "become", "(LMeltPins$World;)V"⟩, 10), (⟨"MeltPins$Tape", "readText", "(LMeltPins$World;)I"⟩, 6), (⟨"MeltPins$Tape", "nextToken", "()V"⟩, 6), (⟨"MeltPins$Tape", "takeNumber", "()V"⟩, 6), (⟨"MeltPins$Tape", "readTie", "(LMeltPins$World;)Z"⟩, 6), (⟨"MeltPins$Tape", "isNumber", "(II)Z"⟩, 6), (⟨"MeltPins$Tape", "isWord", "(Ljava/lang/String;)Z"⟩, 6), (⟨"MeltPins$World", "putTie", "(III)V"⟩, 10), (⟨"MeltPins$Tape", "readPlace", "(LMeltPins$World;)Z"⟩, 6), (⟨"MeltPins$Tape", "kindHere", "()I"⟩, 6), (⟨"MeltPins$World", "addPlace", "(II)[I"⟩, 10), (⟨"MeltPins$Tape", "traitHere", "()I"⟩, 6), (⟨"MeltPins", "isPlace", "(I)Z"⟩, 8), (⟨"MeltPins$World", "heightOf", "(II)I"⟩, 10)]
theorem lw_r1 : ∀ q ∈ lw_privs_1, lw_okq q := List.forall_mem_cons.mpr ⟨lw_p0, List.forall_mem_cons.mpr ⟨lw_p1, List.forall_mem_cons.mpr ⟨lw_p2, List.forall_mem_cons.mpr ⟨lw_p3, List.forall_mem_cons.mpr ⟨lw_p4, List.forall_mem_cons.mpr ⟨lw_p5, List.forall_mem_cons.mpr ⟨lw_p6, List.forall_mem_cons.mpr ⟨lw_p7, List.forall_mem_cons.mpr ⟨lw_p8, List.forall_mem_cons.mpr ⟨lw_p9, List.forall_mem_cons.mpr ⟨lw_p10, List.forall_mem_cons.mpr ⟨lw_p11, List.forall_mem_cons.mpr ⟨lw_p12, List.forall_mem_cons.mpr ⟨lw_p13, List.forall_mem_cons.mpr ⟨lw_p14, List.forall_mem_cons.mpr ⟨lw_p15, fun _ h => absurd h List.not_mem_nil⟩⟩⟩⟩⟩⟩⟩⟩⟩⟩⟩⟩⟩⟩⟩⟩
theorem lw_p16 : lw_okq (⟨"MeltPins$World", "pushedIn", "(I)I"⟩, 10) := ⟨⟨by decide +kernel, by decide +kernel⟩, List.mem_of_getElem? (i := 24) (by decide +kernel), List.mem_of_getElem? (i := 398) (by decide +kernel), List.mem_of_getElem? (i := 399) (by decide +kernel)⟩
theorem lw_p17 : lw_okq (⟨"MeltPins", "passPlan", "(I)V"⟩, 8) := ⟨⟨by decide +kernel, by decide +kernel⟩, List.mem_of_getElem? (i := 16) (by decide +kernel), List.mem_of_getElem? (i := 415) (by decide +kernel), List.mem_of_getElem? (i := 416) (by decide +kernel)⟩
theorem lw_p18 : lw_okq (⟨"MeltPins$Melt", "survey", "()V"⟩, 10) := ⟨⟨by decide +kernel, by decide +kernel⟩, List.mem_of_getElem? (i := 84) (by decide +kernel), List.mem_of_getElem? (i := 419) (by decide +kernel), List.mem_of_getElem? (i := 420) (by decide +kernel)⟩
theorem lw_p19 : lw_okq (⟨"MeltPins$Melt", "lowerBars", "(I)V"⟩, 10) := ⟨⟨by decide +kernel, by decide +kernel⟩, List.mem_of_getElem? (i := 84) (by decide +kernel), List.mem_of_getElem? (i := 423) (by decide +kernel), List.mem_of_getElem? (i := 424) (by decide +kernel)⟩
theorem lw_p20 : lw_okq (⟨"MeltPins$Melt", "takeBar", "(II)V"⟩, 10) := ⟨⟨by decide +kernel, by decide +kernel⟩, List.mem_of_getElem? (i := 84) (by decide +kernel), List.mem_of_getElem? (i := 428) (by decide +kernel), List.mem_of_getElem? (i := 429) (by decide +kernel)⟩
theorem lw_p21 : lw_okq (⟨"MeltPins$Melt", "begin", "(I)V"⟩, 10) := ⟨⟨by decide +kernel, by decide +kernel⟩, List.mem_of_getElem? (i := 84) (by decide +kernel), List.mem_of_getElem? (i := 433) (by decide +kernel), List.mem_of_getElem? (i := 434) (by decide +kernel)⟩
theorem lw_p22 : lw_okq (⟨"MeltPins$Melt", "passYear", "(I)Z"⟩, 10) := ⟨⟨by decide +kernel, by decide +kernel⟩, List.mem_of_getElem? (i := 84) (by decide +kernel), List.mem_of_getElem? (i := 438) (by decide +kernel), List.mem_of_getElem? (i := 439) (by decide +kernel)⟩
theorem lw_p23 : lw_okq (⟨"MeltPins$Melt", "falls", "(II)Z"⟩, 10) := ⟨⟨by decide +kernel, by decide +kernel⟩, List.mem_of_getElem? (i := 84) (by decide +kernel), List.mem_of_getElem? (i := 442) (by decide +kernel), List.mem_of_getElem? (i := 443) (by decide +kernel)⟩
theorem lw_p24 : lw_okq (⟨"MeltPins$Melt", "gets", "(II)I"⟩, 10) := ⟨⟨by decide +kernel, by decide +kernel⟩, List.mem_of_getElem? (i := 84) (by decide +kernel), List.mem_of_getElem? (i := 446) (by decide +kernel), List.mem_of_getElem? (i := 447) (by decide +kernel)⟩
theorem lw_p25 : lw_okq (⟨"MeltPins$Melt", "goes", "(II)Z"⟩, 10) := ⟨⟨by decide +kernel, by decide +kernel⟩, List.mem_of_getElem? (i := 84) (by decide +kernel), List.mem_of_getElem? (i := 450) (by decide +kernel), List.mem_of_getElem? (i := 451) (by decide +kernel)⟩
theorem lw_p26 : lw_okq (⟨"MeltPins$Melt", "walk", "(IZ)Z"⟩, 10) := ⟨⟨by decide +kernel, by decide +kernel⟩, List.mem_of_getElem? (i := 84) (by decide +kernel), List.mem_of_getElem? (i := 460) (by decide +kernel), List.mem_of_getElem? (i := 461) (by decide +kernel)⟩
theorem lw_p27 : lw_okq (⟨"MeltPins$Melt", "drownSpoilt", "(I)V"⟩, 10) := ⟨⟨by decide +kernel, by decide +kernel⟩, List.mem_of_getElem? (i := 84) (by decide +kernel), List.mem_of_getElem? (i := 464) (by decide +kernel), List.mem_of_getElem? (i := 465) (by decide +kernel)⟩
theorem lw_p28 : lw_okq (⟨"MeltPins", "isSet", "(I)Z"⟩, 8) := ⟨⟨by decide +kernel, by decide +kernel⟩, List.mem_of_getElem? (i := 16) (by decide +kernel), List.mem_of_getElem? (i := 485) (by decide +kernel), List.mem_of_getElem? (i := 486) (by decide +kernel)⟩
theorem lw_p29 : lw_okq (⟨"MeltPins$World", "all", "()I"⟩, 10) := ⟨⟨by decide +kernel, by decide +kernel⟩, List.mem_of_getElem? (i := 24) (by decide +kernel), List.mem_of_getElem? (i := 489) (by decide +kernel), List.mem_of_getElem? (i := 490) (by decide +kernel)⟩
theorem lw_p30 : lw_okq (⟨"MeltPins$Melt", "standOf", "(II)I"⟩, 10) := ⟨⟨by decide +kernel, by decide +kernel⟩, List.mem_of_getElem? (i := 84) (by decide +kernel), List.mem_of_getElem? (i := 493) (by decide +kernel), List.mem_of_getElem? (i := 494) (by decide +kernel)⟩
theorem lw_p31 : lw_okq (⟨"MeltPins", "leastThatStands", "(Z)I"⟩, 8) := ⟨⟨by decide +kernel, by decide +kernel⟩, List.mem_of_getElem? (i := 16) (by decide +kernel), List.mem_of_getElem? (i := 507) (by decide +kernel), List.mem_of_getElem? (i := 508) (by decide +kernel)⟩
def lw_privs_2 : List (MethodName × Nat) := [(⟨"MeltPins$World", "pushedIn", "(I)I"⟩, 10), (⟨"MeltPins", "passPlan", "(I)V"⟩, 8), (⟨"MeltPins$Melt", "survey", "()V"⟩, 10), (⟨"MeltPins$Melt", "lowerBars", "(I)V"⟩, 10), (⟨"MeltPins$Melt", "takeBar", "(II)V"⟩, 10), (⟨"MeltPins$Melt", "begin", "(I)V"⟩, 10), (⟨"MeltPins$Melt", "passYear", "(I)Z"⟩, 10), (⟨"MeltPins$Melt", "falls", "(II)Z"⟩, 10), (⟨"MeltPins$Melt", "gets", "(II)I"⟩, 10), (⟨"MeltPins$Melt", "goes", "(II)Z"⟩, 10), (⟨"MeltPins$Melt", "walk", "(IZ)Z"⟩, 10), (⟨"MeltPins$Melt", "drownSpoilt", "(I)V"⟩, 10), (⟨"MeltPins", "isSet", "(I)Z"⟩, 8), (⟨"MeltPins$World", "all", "()I"⟩, 10), (⟨"MeltPins$Melt", "standOf", "(II)I"⟩, 10), (⟨"MeltPins", "leastThatStands", "(Z)I"⟩, 8)]
theorem lw_r2 : ∀ q ∈ lw_privs_2, lw_okq q := List.forall_mem_cons.mpr ⟨lw_p16, List.forall_mem_cons.mpr ⟨lw_p17, List.forall_mem_cons.mpr ⟨lw_p18, List.forall_mem_cons.mpr ⟨lw_p19, List.forall_mem_cons.mpr ⟨lw_p20, List.forall_mem_cons.mpr ⟨lw_p21, List.forall_mem_cons.mpr ⟨lw_p22, List.forall_mem_cons.mpr ⟨lw_p23, List.forall_mem_cons.mpr ⟨lw_p24, List.forall_mem_cons.mpr ⟨lw_p25, List.forall_mem_cons.mpr ⟨lw_p26, List.forall_mem_cons.mpr ⟨lw_p27, List.forall_mem_cons.mpr ⟨lw_p28, List.forall_mem_cons.mpr ⟨lw_p29, List.forall_mem_cons.mpr ⟨lw_p30, List.forall_mem_cons.mpr ⟨lw_p31, fun _ h => absurd h List.not_mem_nil⟩⟩⟩⟩⟩⟩⟩⟩⟩⟩⟩⟩⟩⟩⟩⟩
theorem lw_p32 : lw_okq (⟨"MeltPins$Melt", "mustBePushed", "()I"⟩, 10) := ⟨⟨by decide +kernel, by decide +kernel⟩, List.mem_of_getElem? (i := 84) (by decide +kernel), List.mem_of_getElem? (i := 511) (by decide +kernel), List.mem_of_getElem? (i := 512) (by decide +kernel)⟩
theorem lw_p33 : lw_okq (⟨"MeltPins$World", "sumOf", "(II)I"⟩, 10) := ⟨⟨by decide +kernel, by decide +kernel⟩, List.mem_of_getElem? (i := 24) (by decide +kernel), List.mem_of_getElem? (i := 518) (by decide +kernel), List.mem_of_getElem? (i := 519) (by decide +kernel)⟩
theorem lw_p34 : lw_okq (⟨"MeltPins$Melt", "standsAll", "(I)Z"⟩, 10) := ⟨⟨by decide +kernel, by decide +kernel⟩, List.mem_of_getElem? (i := 84) (by decide +kernel), List.mem_of_getElem? (i := 522) (by decide +kernel), List.mem_of_getElem? (i := 523) (by decide +kernel)⟩
theorem lw_p35 : lw_okq (⟨"MeltPins", "tellOfSet", "(II)I"⟩, 8) := ⟨⟨by decide +kernel, by decide +kernel⟩, List.mem_of_getElem? (i := 16) (by decide +kernel), List.mem_of_getElem? (i := 527) (by decide +kernel), List.mem_of_getElem? (i := 528) (by decide +kernel)⟩
theorem lw_p36 : lw_okq (⟨"MeltPins", "orderYears", "(III)I"⟩, 8) := ⟨⟨by decide +kernel, by decide +kernel⟩, List.mem_of_getElem? (i := 16) (by decide +kernel), List.mem_of_getElem? (i := 550) (by decide +kernel), List.mem_of_getElem? (i := 551) (by decide +kernel)⟩
theorem lw_p37 : lw_okq (⟨"MeltPins", "chanceOf", "(I)J"⟩, 8) := ⟨⟨by decide +kernel, by decide +kernel⟩, List.mem_of_getElem? (i := 16) (by decide +kernel), List.mem_of_getElem? (i := 579) (by decide +kernel), List.mem_of_getElem? (i := 580) (by decide +kernel)⟩
theorem lw_p38 : lw_okq (⟨"MeltPins", "drawnSet", "()I"⟩, 8) := ⟨⟨by decide +kernel, by decide +kernel⟩, List.mem_of_getElem? (i := 16) (by decide +kernel), List.mem_of_getElem? (i := 587) (by decide +kernel), List.mem_of_getElem? (i := 588) (by decide +kernel)⟩
theorem lw_p39 : lw_okq (⟨"MeltPins$World", "draw", "()I"⟩, 10) := ⟨⟨by decide +kernel, by decide +kernel⟩, List.mem_of_getElem? (i := 24) (by decide +kernel), List.mem_of_getElem? (i := 591) (by decide +kernel), List.mem_of_getElem? (i := 592) (by decide +kernel)⟩
theorem lw_p40 : lw_okq (⟨"MeltPins", "bestHold", "(IIIII)I"⟩, 8) := ⟨⟨by decide +kernel, by decide +kernel⟩, List.mem_of_getElem? (i := 16) (by decide +kernel), List.mem_of_getElem? (i := 604) (by decide +kernel), List.mem_of_getElem? (i := 605) (by decide +kernel)⟩
theorem lw_p41 : lw_okq (⟨"MeltPins", "bestPush", "(IIIII)I"⟩, 8) := ⟨⟨by decide +kernel, by decide +kernel⟩, List.mem_of_getElem? (i := 16) (by decide +kernel), List.mem_of_getElem? (i := 608) (by decide +kernel), List.mem_of_getElem? (i := 609) (by decide +kernel)⟩
theorem lw_p42 : lw_okq (⟨"MeltPins", "bringsLayers", "(ILMeltPins$Sheet;)Z"⟩, 8) := ⟨⟨by decide +kernel, by decide +kernel⟩, List.mem_of_getElem? (i := 16) (by decide +kernel), List.mem_of_getElem? (i := 622) (by decide +kernel), List.mem_of_getElem? (i := 623) (by decide +kernel)⟩
theorem lw_p43 : lw_okq (⟨"MeltPins", "areAll", "(ILMeltPins$Sheet;I)Z"⟩, 8) := ⟨⟨by decide +kernel, by decide +kernel⟩, List.mem_of_getElem? (i := 16) (by decide +kernel), List.mem_of_getElem? (i := 626) (by decide +kernel), List.mem_of_getElem? (i := 627) (by decide +kernel)⟩
theorem lw_p44 : lw_okq (⟨"MeltPins$Sheet", "lowestBits", "(I)I"⟩, 3) := ⟨⟨by decide +kernel, by decide +kernel⟩, List.mem_of_getElem? (i := 152) (by decide +kernel), List.mem_of_getElem? (i := 658) (by decide +kernel), List.mem_of_getElem? (i := 659) (by decide +kernel)⟩
theorem lw_p45 : lw_okq (⟨"MeltPins$Sheet", "hasRow", "(II)Z"⟩, 3) := ⟨⟨by decide +kernel, by decide +kernel⟩, List.mem_of_getElem? (i := 152) (by decide +kernel), List.mem_of_getElem? (i := 666) (by decide +kernel), List.mem_of_getElem? (i := 667) (by decide +kernel)⟩
theorem lw_p46 : lw_okq (⟨"MeltPins$World", "fullSpots", "()I"⟩, 10) := ⟨⟨by decide +kernel, by decide +kernel⟩, List.mem_of_getElem? (i := 24) (by decide +kernel), List.mem_of_getElem? (i := 687) (by decide +kernel), List.mem_of_getElem? (i := 688) (by decide +kernel)⟩
theorem lw_p47 : lw_okq (⟨"MeltPinsModel", "finds", "(I)I"⟩, 26) := ⟨⟨by decide +kernel, by decide +kernel⟩, List.mem_of_getElem? (i := 695) (by decide +kernel), List.mem_of_getElem? (i := 789) (by decide +kernel), List.mem_of_getElem? (i := 790) (by decide +kernel)⟩
def lw_privs_3 : List (MethodName × Nat) := [(⟨"MeltPins$Melt", "mustBePushed", "()I"⟩, 10), (⟨"MeltPins$World", "sumOf", "(II)I"⟩, 10), (⟨"MeltPins$Melt", "standsAll", "(I)Z"⟩, 10), (⟨"MeltPins", "tellOfSet", "(II)I"⟩, 8), (⟨"MeltPins", "orderYears", "(III)I"⟩, 8), (⟨"MeltPins", "chanceOf", "(I)J"⟩, 8), (⟨"MeltPins", "drawnSet", "()I"⟩, 8), (⟨"MeltPins$World", "draw", "()I"⟩, 10), (⟨"MeltPins", "bestHold", "(IIIII)I"⟩, 8), (⟨"MeltPins", "bestPush", "(IIIII)I"⟩, 8), (⟨"MeltPins", "bringsLayers", "(ILMeltPins$Sheet;)Z"⟩, 8), (⟨"MeltPins", "areAll", "(ILMeltPins$Sheet;I)Z"⟩, 8), (⟨"MeltPins$Sheet", "lowestBits", "(I)I"⟩, 3), (⟨"MeltPins$Sheet", "hasRow", "(II)Z"⟩, 3), (⟨"MeltPins$World", "fullSpots", "()I"⟩, 10), (⟨"MeltPinsModel", "finds", "(I)I"⟩, 26)]
theorem lw_r3 : ∀ q ∈ lw_privs_3, lw_okq q := List.forall_mem_cons.mpr ⟨lw_p32, List.forall_mem_cons.mpr ⟨lw_p33, List.forall_mem_cons.mpr ⟨lw_p34, List.forall_mem_cons.mpr ⟨lw_p35, List.forall_mem_cons.mpr ⟨lw_p36, List.forall_mem_cons.mpr ⟨lw_p37, List.forall_mem_cons.mpr ⟨lw_p38, List.forall_mem_cons.mpr ⟨lw_p39, List.forall_mem_cons.mpr ⟨lw_p40, List.forall_mem_cons.mpr ⟨lw_p41, List.forall_mem_cons.mpr ⟨lw_p42, List.forall_mem_cons.mpr ⟨lw_p43, List.forall_mem_cons.mpr ⟨lw_p44, List.forall_mem_cons.mpr ⟨lw_p45, List.forall_mem_cons.mpr ⟨lw_p46, List.forall_mem_cons.mpr ⟨lw_p47, fun _ h => absurd h List.not_mem_nil⟩⟩⟩⟩⟩⟩⟩⟩⟩⟩⟩⟩⟩⟩⟩⟩
theorem lw_p48 : lw_okq (⟨"MeltPinsModel", "next", "()V"⟩, 26) := ⟨⟨by decide +kernel, by decide +kernel⟩, List.mem_of_getElem? (i := 695) (by decide +kernel), List.mem_of_getElem? (i := 802) (by decide +kernel), List.mem_of_getElem? (i := 803) (by decide +kernel)⟩
theorem lw_p49 : lw_okq (⟨"MeltPinsModel", "tieItem", "()V"⟩, 26) := ⟨⟨by decide +kernel, by decide +kernel⟩, List.mem_of_getElem? (i := 695) (by decide +kernel), List.mem_of_getElem? (i := 816) (by decide +kernel), List.mem_of_getElem? (i := 817) (by decide +kernel)⟩
theorem lw_p50 : lw_okq (⟨"MeltPinsModel", "number", "(II)I"⟩, 26) := ⟨⟨by decide +kernel, by decide +kernel⟩, List.mem_of_getElem? (i := 695) (by decide +kernel), List.mem_of_getElem? (i := 820) (by decide +kernel), List.mem_of_getElem? (i := 821) (by decide +kernel)⟩
theorem lw_p51 : lw_okq (⟨"MeltPinsModel", "isWord", "(Ljava/lang/String;)Z"⟩, 26) := ⟨⟨by decide +kernel, by decide +kernel⟩, List.mem_of_getElem? (i := 695) (by decide +kernel), List.mem_of_getElem? (i := 825) (by decide +kernel), List.mem_of_getElem? (i := 826) (by decide +kernel)⟩
theorem lw_p52 : lw_okq (⟨"MeltPinsModel", "isPlace", "(I)Z"⟩, 26) := ⟨⟨by decide +kernel, by decide +kernel⟩, List.mem_of_getElem? (i := 695) (by decide +kernel), List.mem_of_getElem? (i := 831) (by decide +kernel), List.mem_of_getElem? (i := 832) (by decide +kernel)⟩
theorem lw_p53 : lw_okq (⟨"MeltPinsModel", "placeItem", "()V"⟩, 26) := ⟨⟨by decide +kernel, by decide +kernel⟩, List.mem_of_getElem? (i := 695) (by decide +kernel), List.mem_of_getElem? (i := 836) (by decide +kernel), List.mem_of_getElem? (i := 837) (by decide +kernel)⟩
theorem lw_p54 : lw_okq (⟨"MeltPinsModel", "kindHere", "()I"⟩, 26) := ⟨⟨by decide +kernel, by decide +kernel⟩, List.mem_of_getElem? (i := 695) (by decide +kernel), List.mem_of_getElem? (i := 840) (by decide +kernel), List.mem_of_getElem? (i := 841) (by decide +kernel)⟩
theorem lw_p55 : lw_okq (⟨"MeltPinsModel", "takes", "(Ljava/lang/String;)Z"⟩, 26) := ⟨⟨by decide +kernel, by decide +kernel⟩, List.mem_of_getElem? (i := 695) (by decide +kernel), List.mem_of_getElem? (i := 852) (by decide +kernel), List.mem_of_getElem? (i := 853) (by decide +kernel)⟩
theorem lw_p56 : lw_okq (⟨"MeltPinsModel", "of", "(II)I"⟩, 26) := ⟨⟨by decide +kernel, by decide +kernel⟩, List.mem_of_getElem? (i := 695) (by decide +kernel), List.mem_of_getElem? (i := 865) (by decide +kernel), List.mem_of_getElem? (i := 866) (by decide +kernel)⟩
theorem lw_p57 : lw_okq (⟨"MeltPinsModel", "height", "(I)I"⟩, 26) := ⟨⟨by decide +kernel, by decide +kernel⟩, List.mem_of_getElem? (i := 695) (by decide +kernel), List.mem_of_getElem? (i := 869) (by decide +kernel), List.mem_of_getElem? (i := 870) (by decide +kernel)⟩
theorem lw_p58 : lw_okq (⟨"MeltPinsModel", "may", "(III)Z"⟩, 26) := ⟨⟨by decide +kernel, by decide +kernel⟩, List.mem_of_getElem? (i := 695) (by decide +kernel), List.mem_of_getElem? (i := 877) (by decide +kernel), List.mem_of_getElem? (i := 878) (by decide +kernel)⟩
theorem lw_p59 : lw_okq (⟨"MeltPinsModel", "becomes", "(II)I"⟩, 26) := ⟨⟨by decide +kernel, by decide +kernel⟩, List.mem_of_getElem? (i := 695) (by decide +kernel), List.mem_of_getElem? (i := 883) (by decide +kernel), List.mem_of_getElem? (i := 884) (by decide +kernel)⟩
theorem lw_p60 : lw_okq (⟨"MeltPinsModel", "isTie", "(II)Z"⟩, 26) := ⟨⟨by decide +kernel, by decide +kernel⟩, List.mem_of_getElem? (i := 695) (by decide +kernel), List.mem_of_getElem? (i := 895) (by decide +kernel), List.mem_of_getElem? (i := 896) (by decide +kernel)⟩
theorem lw_p61 : lw_okq (⟨"MeltPinsModel", "pushesOf", "(I)I"⟩, 26) := ⟨⟨by decide +kernel, by decide +kernel⟩, List.mem_of_getElem? (i := 695) (by decide +kernel), List.mem_of_getElem? (i := 917) (by decide +kernel), List.mem_of_getElem? (i := 918) (by decide +kernel)⟩
theorem lw_p62 : lw_okq (⟨"MeltPinsModel", "plan", "(I)V"⟩, 26) := ⟨⟨by decide +kernel, by decide +kernel⟩, List.mem_of_getElem? (i := 695) (by decide +kernel), List.mem_of_getElem? (i := 937) (by decide +kernel), List.mem_of_getElem? (i := 938) (by decide +kernel)⟩
theorem lw_p63 : lw_okq (⟨"MeltPinsModel", "heldNow", "()I"⟩, 26) := ⟨⟨by decide +kernel, by decide +kernel⟩, List.mem_of_getElem? (i := 695) (by decide +kernel), List.mem_of_getElem? (i := 941) (by decide +kernel), List.mem_of_getElem? (i := 942) (by decide +kernel)⟩
def lw_privs_4 : List (MethodName × Nat) := [(⟨"MeltPinsModel", "next", "()V"⟩, 26), (⟨"MeltPinsModel", "tieItem", "()V"⟩, 26), (⟨"MeltPinsModel", "number", "(II)I"⟩, 26), (⟨"MeltPinsModel", "isWord", "(Ljava/lang/String;)Z"⟩, 26), (⟨"MeltPinsModel", "isPlace", "(I)Z"⟩, 26), (⟨"MeltPinsModel", "placeItem", "()V"⟩, 26), (⟨"MeltPinsModel", "kindHere", "()I"⟩, 26), (⟨"MeltPinsModel", "takes", "(Ljava/lang/String;)Z"⟩, 26), (⟨"MeltPinsModel", "of", "(II)I"⟩, 26), (⟨"MeltPinsModel", "height", "(I)I"⟩, 26), (⟨"MeltPinsModel", "may", "(III)Z"⟩, 26), (⟨"MeltPinsModel", "becomes", "(II)I"⟩, 26), (⟨"MeltPinsModel", "isTie", "(II)Z"⟩, 26), (⟨"MeltPinsModel", "pushesOf", "(I)I"⟩, 26), (⟨"MeltPinsModel", "plan", "(I)V"⟩, 26), (⟨"MeltPinsModel", "heldNow", "()I"⟩, 26)]
theorem lw_r4 : ∀ q ∈ lw_privs_4, lw_okq q := List.forall_mem_cons.mpr ⟨lw_p48, List.forall_mem_cons.mpr ⟨lw_p49, List.forall_mem_cons.mpr ⟨lw_p50, List.forall_mem_cons.mpr ⟨lw_p51, List.forall_mem_cons.mpr ⟨lw_p52, List.forall_mem_cons.mpr ⟨lw_p53, List.forall_mem_cons.mpr ⟨lw_p54, List.forall_mem_cons.mpr ⟨lw_p55, List.forall_mem_cons.mpr ⟨lw_p56, List.forall_mem_cons.mpr ⟨lw_p57, List.forall_mem_cons.mpr ⟨lw_p58, List.forall_mem_cons.mpr ⟨lw_p59, List.forall_mem_cons.mpr ⟨lw_p60, List.forall_mem_cons.mpr ⟨lw_p61, List.forall_mem_cons.mpr ⟨lw_p62, List.forall_mem_cons.mpr ⟨lw_p63, fun _ h => absurd h List.not_mem_nil⟩⟩⟩⟩⟩⟩⟩⟩⟩⟩⟩⟩⟩⟩⟩⟩
theorem lw_p64 : lw_okq (⟨"MeltPinsModel", "begins", "(I)V"⟩, 26) := ⟨⟨by decide +kernel, by decide +kernel⟩, List.mem_of_getElem? (i := 695) (by decide +kernel), List.mem_of_getElem? (i := 945) (by decide +kernel), List.mem_of_getElem? (i := 946) (by decide +kernel)⟩
theorem lw_p65 : lw_okq (⟨"MeltPinsModel", "year", "(I)Z"⟩, 26) := ⟨⟨by decide +kernel, by decide +kernel⟩, List.mem_of_getElem? (i := 695) (by decide +kernel), List.mem_of_getElem? (i := 949) (by decide +kernel), List.mem_of_getElem? (i := 950) (by decide +kernel)⟩
theorem lw_p66 : lw_okq (⟨"MeltPinsModel", "falls", "(II)Z"⟩, 26) := ⟨⟨by decide +kernel, by decide +kernel⟩, List.mem_of_getElem? (i := 695) (by decide +kernel), List.mem_of_getElem? (i := 953) (by decide +kernel), List.mem_of_getElem? (i := 954) (by decide +kernel)⟩
theorem lw_p67 : lw_okq (⟨"MeltPinsModel", "gets", "(II)I"⟩, 26) := ⟨⟨by decide +kernel, by decide +kernel⟩, List.mem_of_getElem? (i := 695) (by decide +kernel), List.mem_of_getElem? (i := 957) (by decide +kernel), List.mem_of_getElem? (i := 958) (by decide +kernel)⟩
theorem lw_p68 : lw_okq (⟨"MeltPinsModel", "goes", "(II)Z"⟩, 26) := ⟨⟨by decide +kernel, by decide +kernel⟩, List.mem_of_getElem? (i := 695) (by decide +kernel), List.mem_of_getElem? (i := 961) (by decide +kernel), List.mem_of_getElem? (i := 962) (by decide +kernel)⟩
theorem lw_p69 : lw_okq (⟨"MeltPinsModel", "company", "(II)I"⟩, 26) := ⟨⟨by decide +kernel, by decide +kernel⟩, List.mem_of_getElem? (i := 695) (by decide +kernel), List.mem_of_getElem? (i := 965) (by decide +kernel), List.mem_of_getElem? (i := 966) (by decide +kernel)⟩
theorem lw_p70 : lw_okq (⟨"MeltPinsModel", "isSet", "(I)Z"⟩, 26) := ⟨⟨by decide +kernel, by decide +kernel⟩, List.mem_of_getElem? (i := 695) (by decide +kernel), List.mem_of_getElem? (i := 985) (by decide +kernel), List.mem_of_getElem? (i := 986) (by decide +kernel)⟩
theorem lw_p71 : lw_okq (⟨"MeltPinsModel", "every", "()I"⟩, 26) := ⟨⟨by decide +kernel, by decide +kernel⟩, List.mem_of_getElem? (i := 695) (by decide +kernel), List.mem_of_getElem? (i := 989) (by decide +kernel), List.mem_of_getElem? (i := 990) (by decide +kernel)⟩
theorem lw_p72 : lw_okq (⟨"MeltPinsModel", "standOf", "(II)I"⟩, 26) := ⟨⟨by decide +kernel, by decide +kernel⟩, List.mem_of_getElem? (i := 695) (by decide +kernel), List.mem_of_getElem? (i := 993) (by decide +kernel), List.mem_of_getElem? (i := 994) (by decide +kernel)⟩
theorem lw_p73 : lw_okq (⟨"MeltPinsModel", "asksNothing", "()V"⟩, 26) := ⟨⟨by decide +kernel, by decide +kernel⟩, List.mem_of_getElem? (i := 695) (by decide +kernel), List.mem_of_getElem? (i := 1001) (by decide +kernel), List.mem_of_getElem? (i := 1002) (by decide +kernel)⟩
theorem lw_p74 : lw_okq (⟨"MeltPinsModel", "allIn", "(I)I"⟩, 26) := ⟨⟨by decide +kernel, by decide +kernel⟩, List.mem_of_getElem? (i := 695) (by decide +kernel), List.mem_of_getElem? (i := 1005) (by decide +kernel), List.mem_of_getElem? (i := 1006) (by decide +kernel)⟩
theorem lw_p75 : lw_okq (⟨"MeltPinsModel", "leastAll", "(II)I"⟩, 26) := ⟨⟨by decide +kernel, by decide +kernel⟩, List.mem_of_getElem? (i := 695) (by decide +kernel), List.mem_of_getElem? (i := 1014) (by decide +kernel), List.mem_of_getElem? (i := 1015) (by decide +kernel)⟩
theorem lw_p76 : lw_okq (⟨"MeltPinsModel", "findStands", "()V"⟩, 26) := ⟨⟨by decide +kernel, by decide +kernel⟩, List.mem_of_getElem? (i := 695) (by decide +kernel), List.mem_of_getElem? (i := 1018) (by decide +kernel), List.mem_of_getElem? (i := 1019) (by decide +kernel)⟩
theorem lw_p77 : lw_okq (⟨"MeltPinsModel", "sumOf", "(II)I"⟩, 26) := ⟨⟨by decide +kernel, by decide +kernel⟩, List.mem_of_getElem? (i := 695) (by decide +kernel), List.mem_of_getElem? (i := 1025) (by decide +kernel), List.mem_of_getElem? (i := 1026) (by decide +kernel)⟩
theorem lw_p78 : lw_okq (⟨"MeltPinsModel", "told", "(II)I"⟩, 26) := ⟨⟨by decide +kernel, by decide +kernel⟩, List.mem_of_getElem? (i := 695) (by decide +kernel), List.mem_of_getElem? (i := 1029) (by decide +kernel), List.mem_of_getElem? (i := 1030) (by decide +kernel)⟩
theorem lw_p79 : lw_okq (⟨"MeltPinsModel", "tries", "(IIII)V"⟩, 26) := ⟨⟨by decide +kernel, by decide +kernel⟩, List.mem_of_getElem? (i := 695) (by decide +kernel), List.mem_of_getElem? (i := 1051) (by decide +kernel), List.mem_of_getElem? (i := 1052) (by decide +kernel)⟩
def lw_privs_5 : List (MethodName × Nat) := [(⟨"MeltPinsModel", "begins", "(I)V"⟩, 26), (⟨"MeltPinsModel", "year", "(I)Z"⟩, 26), (⟨"MeltPinsModel", "falls", "(II)Z"⟩, 26), (⟨"MeltPinsModel", "gets", "(II)I"⟩, 26), (⟨"MeltPinsModel", "goes", "(II)Z"⟩, 26), (⟨"MeltPinsModel", "company", "(II)I"⟩, 26), (⟨"MeltPinsModel", "isSet", "(I)Z"⟩, 26), (⟨"MeltPinsModel", "every", "()I"⟩, 26), (⟨"MeltPinsModel", "standOf", "(II)I"⟩, 26), (⟨"MeltPinsModel", "asksNothing", "()V"⟩, 26), (⟨"MeltPinsModel", "allIn", "(I)I"⟩, 26), (⟨"MeltPinsModel", "leastAll", "(II)I"⟩, 26), (⟨"MeltPinsModel", "findStands", "()V"⟩, 26), (⟨"MeltPinsModel", "sumOf", "(II)I"⟩, 26), (⟨"MeltPinsModel", "told", "(II)I"⟩, 26), (⟨"MeltPinsModel", "tries", "(IIII)V"⟩, 26)]
theorem lw_r5 : ∀ q ∈ lw_privs_5, lw_okq q := List.forall_mem_cons.mpr ⟨lw_p64, List.forall_mem_cons.mpr ⟨lw_p65, List.forall_mem_cons.mpr ⟨lw_p66, List.forall_mem_cons.mpr ⟨lw_p67, List.forall_mem_cons.mpr ⟨lw_p68, List.forall_mem_cons.mpr ⟨lw_p69, List.forall_mem_cons.mpr ⟨lw_p70, List.forall_mem_cons.mpr ⟨lw_p71, List.forall_mem_cons.mpr ⟨lw_p72, List.forall_mem_cons.mpr ⟨lw_p73, List.forall_mem_cons.mpr ⟨lw_p74, List.forall_mem_cons.mpr ⟨lw_p75, List.forall_mem_cons.mpr ⟨lw_p76, List.forall_mem_cons.mpr ⟨lw_p77, List.forall_mem_cons.mpr ⟨lw_p78, List.forall_mem_cons.mpr ⟨lw_p79, fun _ h => absurd h List.not_mem_nil⟩⟩⟩⟩⟩⟩⟩⟩⟩⟩⟩⟩⟩⟩⟩⟩
theorem lw_p80 : lw_okq (⟨"MeltPinsModel", "keepBars", "()V"⟩, 26) := ⟨⟨by decide +kernel, by decide +kernel⟩, List.mem_of_getElem? (i := 695) (by decide +kernel), List.mem_of_getElem? (i := 1063) (by decide +kernel), List.mem_of_getElem? (i := 1064) (by decide +kernel)⟩
theorem lw_p81 : lw_okq (⟨"MeltPinsModel", "giveBars", "(I)V"⟩, 26) := ⟨⟨by decide +kernel, by decide +kernel⟩, List.mem_of_getElem? (i := 695) (by decide +kernel), List.mem_of_getElem? (i := 1067) (by decide +kernel), List.mem_of_getElem? (i := 1068) (by decide +kernel)⟩
theorem lw_p82 : lw_okq (⟨"MeltPinsModel", "brings", "(I)Z"⟩, 26) := ⟨⟨by decide +kernel, by decide +kernel⟩, List.mem_of_getElem? (i := 695) (by decide +kernel), List.mem_of_getElem? (i := 1071) (by decide +kernel), List.mem_of_getElem? (i := 1072) (by decide +kernel)⟩
theorem lw_p83 : lw_okq (⟨"MeltPinsModel", "ones", "(III)I"⟩, 26) := ⟨⟨by decide +kernel, by decide +kernel⟩, List.mem_of_getElem? (i := 695) (by decide +kernel), List.mem_of_getElem? (i := 1101) (by decide +kernel), List.mem_of_getElem? (i := 1102) (by decide +kernel)⟩
theorem lw_p84 : lw_okq (⟨"MeltPinsModel", "others", "(III)I"⟩, 26) := ⟨⟨by decide +kernel, by decide +kernel⟩, List.mem_of_getElem? (i := 695) (by decide +kernel), List.mem_of_getElem? (i := 1105) (by decide +kernel), List.mem_of_getElem? (i := 1106) (by decide +kernel)⟩
theorem lw_p85 : lw_okq (⟨"MeltPinsModel", "isFirst", "(II)Z"⟩, 26) := ⟨⟨by decide +kernel, by decide +kernel⟩, List.mem_of_getElem? (i := 695) (by decide +kernel), List.mem_of_getElem? (i := 1118) (by decide +kernel), List.mem_of_getElem? (i := 1119) (by decide +kernel)⟩
def lw_privs_6 : List (MethodName × Nat) := [(⟨"MeltPinsModel", "keepBars", "()V"⟩, 26), (⟨"MeltPinsModel", "giveBars", "(I)V"⟩, 26), (⟨"MeltPinsModel", "brings", "(I)Z"⟩, 26), (⟨"MeltPinsModel", "ones", "(III)I"⟩, 26), (⟨"MeltPinsModel", "others", "(III)I"⟩, 26), (⟨"MeltPinsModel", "isFirst", "(II)Z"⟩, 26)]
theorem lw_r6 : ∀ q ∈ lw_privs_6, lw_okq q := List.forall_mem_cons.mpr ⟨lw_p80, List.forall_mem_cons.mpr ⟨lw_p81, List.forall_mem_cons.mpr ⟨lw_p82, List.forall_mem_cons.mpr ⟨lw_p83, List.forall_mem_cons.mpr ⟨lw_p84, List.forall_mem_cons.mpr ⟨lw_p85, fun _ h => absurd h List.not_mem_nil⟩⟩⟩⟩⟩⟩
def lw_privs : List (MethodName × Nat) := lw_privs_1 ++ (lw_privs_2 ++ (lw_privs_3 ++ (lw_privs_4 ++ (lw_privs_5 ++ (lw_privs_6)))))
def lw_tbl : List Cond := k2_sels lw_privs ++ tables_1
theorem lw_privs_ok : ∀ q ∈ lw_privs, lw_okq q := by
  show ∀ q ∈ lw_privs_1 ++ (lw_privs_2 ++ (lw_privs_3 ++ (lw_privs_4 ++ (lw_privs_5 ++ (lw_privs_6))))), lw_okq q
  exact List.forall_mem_append.mpr ⟨lw_r1, List.forall_mem_append.mpr ⟨lw_r2, List.forall_mem_append.mpr ⟨lw_r3, List.forall_mem_append.mpr ⟨lw_r4, List.forall_mem_append.mpr ⟨lw_r5, lw_r6⟩⟩⟩⟩⟩

def RX0 : String := "MeltPins$Melt"
def TX0 : u_T := fun k => match k with
  | 0 => ("MeltPins$Melt", "world", "LMeltPins$World;", true)
  | 1 => ("MeltPins$Melt", "heights", "[I", true)
  | 2 => ("MeltPins$Melt", "givers", "[I", true)
  | 3 => ("MeltPins$Melt", "giverCounts", "[I", true)
  | 4 => ("MeltPins$Melt", "giverAt", "[[I", true)
  | 5 => ("MeltPins$Melt", "partAt", "[[I", true)
  | 6 => ("MeltPins$Melt", "onWay", "[I", true)
  | 7 => ("MeltPins$Melt", "over", "I", false)
  | 8 => ("MeltPins$Melt", "drowned", "I", false)
  | _ => ("MeltPins$Melt", "held", "I", false)
def tyX0 : Nat → FieldType := fun k => match k with
  | 0 => .object "MeltPins$World"
  | 1 => .array .int
  | 2 => .array .int
  | 3 => .array .int
  | 4 => .array (.array .int)
  | 5 => .array (.array .int)
  | 6 => .array .int
  | 7 => .int
  | 8 => .int
  | _ => .int
def RX1 : String := "MeltPins$Sheet"
def TX1 : u_T := fun k => match k with
  | 0 => ("MeltPins$Sheet", "bits", "I", false)
  | 1 => ("MeltPins$Sheet", "length", "I", false)
  | _ => ("MeltPins$Sheet", "numbers", "[I", true)
def tyX1 : Nat → FieldType := fun k => match k with
  | 0 => .int
  | 1 => .int
  | _ => .array .int
def RX2 : String := "MeltPins$Tape"
def TX2 : u_T := fun k => match k with
  | 0 => ("MeltPins$Tape", "bytes", "[I", true)
  | 1 => ("MeltPins$Tape", "length", "I", false)
  | 2 => ("MeltPins$Tape", "token", "I", false)
  | 3 => ("MeltPins$Tape", "start", "I", false)
  | 4 => ("MeltPins$Tape", "end", "I", false)
  | _ => ("MeltPins$Tape", "number", "I", false)
def tyX2 : Nat → FieldType := fun k => match k with
  | 0 => .array .int
  | 1 => .int
  | 2 => .int
  | 3 => .int
  | 4 => .int
  | _ => .int
def RX3 : String := "MeltPins$World"
def TX3 : u_T := fun k => match k with
  | 0 => ("MeltPins$World", "places", "I", false)
  | 1 => ("MeltPins$World", "ties", "I", false)
  | 2 => ("MeltPins$World", "pushes", "I", false)
  | 3 => ("MeltPins$World", "held", "I", false)
  | 4 => ("MeltPins$World", "z", "I", false)
  | 5 => ("MeltPins$World", "traits", "[[I", true)
  | 6 => ("MeltPins$World", "parts", "[[I", true)
  | 7 => ("MeltPins$World", "pushYears", "[I", true)
  | 8 => ("MeltPins$World", "pushPlaces", "[I", true)
  | _ => ("MeltPins$World", "spots", "[I", true)
def tyX3 : Nat → FieldType := fun k => match k with
  | 0 => .int
  | 1 => .int
  | 2 => .int
  | 3 => .int
  | 4 => .int
  | 5 => .array (.array .int)
  | 6 => .array (.array .int)
  | 7 => .array .int
  | 8 => .array .int
  | _ => .array .int
def RX4 : String := "MeltPins"
def TX4 : u_T := fun k => match k with
  | 0 => ("MeltPins", "now", "LMeltPins$World;", true)
  | 1 => ("MeltPins", "kept", "LMeltPins$World;", true)
  | 2 => ("MeltPins", "draft", "LMeltPins$World;", true)
  | 3 => ("MeltPins", "melt", "LMeltPins$Melt;", true)
  | 4 => ("MeltPins", "tape", "LMeltPins$Tape;", true)
  | 5 => ("MeltPins", "sheets", "[LMeltPins$Sheet;", true)
  | 6 => ("MeltPins", "told", "[I", true)
  | _ => ("MeltPins", "keeps", "Z", false)
def tyX4 : Nat → FieldType := fun k => match k with
  | 0 => .object "MeltPins$World"
  | 1 => .object "MeltPins$World"
  | 2 => .object "MeltPins$World"
  | 3 => .object "MeltPins$Melt"
  | 4 => .object "MeltPins$Tape"
  | 5 => .array (.object "MeltPins$Sheet")
  | 6 => .array .int
  | _ => .boolean
def RX5 : String := "MeltPinsModel"
def TX5 : u_T := fun k => match k with
  | 0 => ("MeltPinsModel", "m", "[I", true)
  | 1 => ("MeltPinsModel", "kept", "[I", true)
  | 2 => ("MeltPinsModel", "isKept", "Z", false)
  | 3 => ("MeltPinsModel", "found", "[I", true)
  | 4 => ("MeltPinsModel", "isFresh", "Z", false)
  | 5 => ("MeltPinsModel", "tape", "[I", true)
  | 6 => ("MeltPinsModel", "taped", "I", false)
  | 7 => ("MeltPinsModel", "sort", "I", false)
  | 8 => ("MeltPinsModel", "from", "I", false)
  | 9 => ("MeltPinsModel", "to", "I", false)
  | 10 => ("MeltPinsModel", "value", "I", false)
  | 11 => ("MeltPinsModel", "bad", "Z", false)
  | 12 => ("MeltPinsModel", "ahead", "[I", true)
  | 13 => ("MeltPinsModel", "over", "I", false)
  | 14 => ("MeltPinsModel", "drowned", "I", false)
  | 15 => ("MeltPinsModel", "holds", "I", false)
  | 16 => ("MeltPinsModel", "way", "[I", true)
  | 17 => ("MeltPinsModel", "heights", "[I", true)
  | 18 => ("MeltPinsModel", "stands", "[I", true)
  | 19 => ("MeltPinsModel", "asked", "[I", true)
  | 20 => ("MeltPinsModel", "bestYears", "I", false)
  | 21 => ("MeltPinsModel", "bestOrder", "I", false)
  | 22 => ("MeltPinsModel", "bars", "[I", true)
  | 23 => ("MeltPinsModel", "bits", "[I", true)
  | 24 => ("MeltPinsModel", "size", "[I", true)
  | _ => ("MeltPinsModel", "number", "[I", true)
def tyX5 : Nat → FieldType := fun k => match k with
  | 0 => .array .int
  | 1 => .array .int
  | 2 => .boolean
  | 3 => .array .int
  | 4 => .boolean
  | 5 => .array .int
  | 6 => .int
  | 7 => .int
  | 8 => .int
  | 9 => .int
  | 10 => .int
  | 11 => .boolean
  | 12 => .array .int
  | 13 => .int
  | 14 => .int
  | 15 => .int
  | 16 => .array .int
  | 17 => .array .int
  | 18 => .array .int
  | 19 => .array .int
  | 20 => .int
  | 21 => .int
  | 22 => .array .int
  | 23 => .array .int
  | 24 => .array .int
  | _ => .array .int
def mzCls : List vw_C := [(RX0, TX0, 10), (RX1, TX1, 3), (RX2, TX2, 6), (RX3, TX3, 10), (RX4, TX4, 8), (RX5, TX5, 26)]
def mzNm : List String := ["MeltPins$Melt", "MeltPins$Sheet", "MeltPins$Tape", "MeltPins$World", "MeltPins", "MeltPinsModel", "MeltPinsLaw", "java/lang/Integer", "java/util/Arrays"]
/-- the methods: name, code, how many places, what comes back, of which of mzNm -/
def mzTab0 : List (MethodName × ByteArray × Nat × Option FieldType × Nat) := [
  (x, code, 4, some .boolean, 6),
  (⟨"MeltPinsModel", "finds", "(I)I"⟩, prog_7_method_2_code, 2, some .int, 5),
  (⟨"MeltPinsModel", "in", "(JJJ)Z"⟩, prog_7_method_3_code, 6, some .boolean, 5),
  (⟨"MeltPinsModel", "has", "(II)Z"⟩, prog_7_method_4_code, 2, some .boolean, 5),
  (⟨"MeltPinsModel", "many", "(I)I"⟩, prog_7_method_5_code, 3, some .int, 5),
  (⟨"MeltPinsModel", "of", "(II)I"⟩, prog_7_method_6_code, 3, some .int, 5),
  (⟨"MeltPinsModel", "isPlace", "(I)Z"⟩, prog_7_method_7_code, 2, some .boolean, 5),
  (⟨"MeltPinsModel", "every", "()I"⟩, prog_7_method_8_code, 1, some .int, 5),
  (⟨"MeltPinsModel", "isSet", "(I)Z"⟩, prog_7_method_9_code, 2, some .boolean, 5),
  (⟨"MeltPinsModel", "feed", "(II)I"⟩, prog_7_method_10_code, 4, some .int, 5),
  (⟨"MeltPinsModel", "wipe", "()I"⟩, prog_7_method_11_code, 2, some .int, 5),
  (⟨"MeltPinsModel", "isDigit", "(I)Z"⟩, prog_7_method_12_code, 1, some .boolean, 5),
  (⟨"MeltPinsModel", "isLetter", "(I)Z"⟩, prog_7_method_13_code, 1, some .boolean, 5),
  (⟨"MeltPinsModel", "next", "()V"⟩, prog_7_method_14_code, 2, none, 5),
  (⟨"MeltPinsModel", "isWord", "(Ljava/lang/String;)Z"⟩, prog_7_method_15_code, 4, some .boolean, 5),
  (⟨"MeltPinsModel", "takes", "(Ljava/lang/String;)Z"⟩, prog_7_method_16_code, 2, some .boolean, 5)]
def mzTab1 : List (MethodName × ByteArray × Nat × Option FieldType × Nat) := [
  (⟨"MeltPinsModel", "number", "(II)I"⟩, prog_7_method_17_code, 4, some .int, 5),
  (⟨"MeltPinsModel", "kindHere", "()I"⟩, prog_7_method_18_code, 1, some .int, 5),
  (⟨"MeltPinsModel", "placeItem", "()V"⟩, prog_7_method_19_code, 5, none, 5),
  (⟨"MeltPinsModel", "tieItem", "()V"⟩, prog_7_method_20_code, 4, none, 5),
  (⟨"MeltPinsModel", "world", "()I"⟩, prog_7_method_21_code, 4, some .int, 5),
  (⟨"MeltPinsModel", "height", "(I)I"⟩, prog_7_method_22_code, 4, some .int, 5),
  (⟨"MeltPinsModel", "placeOf", "(II)I"⟩, prog_7_method_23_code, 3, some .int, 5),
  (⟨"MeltPinsModel", "may", "(III)Z"⟩, prog_7_method_24_code, 4, some .boolean, 5),
  (⟨"MeltPinsModel", "becomes", "(II)I"⟩, prog_7_method_25_code, 4, some .int, 5),
  (⟨"MeltPinsModel", "change", "(III)I"⟩, prog_7_method_26_code, 4, some .int, 5),
  (⟨"MeltPinsModel", "step", "(I)I"⟩, prog_7_method_27_code, 2, some .int, 5),
  (⟨"MeltPinsModel", "isTie", "(II)Z"⟩, prog_7_method_28_code, 3, some .boolean, 5),
  (⟨"MeltPinsModel", "tie", "(III)I"⟩, prog_7_method_29_code, 5, some .int, 5),
  (⟨"MeltPinsModel", "tieOf", "(II)I"⟩, prog_7_method_30_code, 3, some .int, 5),
  (⟨"MeltPinsModel", "cut", "(II)I"⟩, prog_7_method_31_code, 4, some .int, 5),
  (⟨"MeltPinsModel", "hold", "(IZ)I"⟩, prog_7_method_32_code, 3, some .int, 5)]
def mzTab2 : List (MethodName × ByteArray × Nat × Option FieldType × Nat) := [
  (⟨"MeltPinsModel", "heldNow", "()I"⟩, prog_7_method_33_code, 3, some .int, 5),
  (⟨"MeltPinsModel", "begins", "(I)V"⟩, prog_7_method_34_code, 3, none, 5),
  (⟨"MeltPinsModel", "gets", "(II)I"⟩, prog_7_method_35_code, 5, some .int, 5),
  (⟨"MeltPinsModel", "company", "(II)I"⟩, prog_7_method_36_code, 5, some .int, 5),
  (⟨"MeltPinsModel", "goes", "(II)Z"⟩, prog_7_method_37_code, 3, some .boolean, 5),
  (⟨"MeltPinsModel", "falls", "(II)Z"⟩, prog_7_method_38_code, 4, some .boolean, 5),
  (⟨"MeltPinsModel", "year", "(I)Z"⟩, prog_7_method_39_code, 9, some .boolean, 5),
  (⟨"MeltPinsModel", "pushesOf", "(I)I"⟩, prog_7_method_40_code, 4, some .int, 5),
  (⟨"MeltPinsModel", "plan", "(I)V"⟩, prog_7_method_41_code, 3, none, 5),
  (⟨"MeltPinsModel", "push", "(II)I"⟩, prog_7_method_42_code, 4, some .int, 5),
  (⟨"MeltPinsModel", "pushOf", "(II)I"⟩, prog_7_method_43_code, 3, some .int, 5),
  (⟨"MeltPinsModel", "clear", "()I"⟩, prog_7_method_44_code, 2, some .int, 5),
  (⟨"MeltPinsModel", "run", "(II)I"⟩, prog_7_method_45_code, 3, some .int, 5),
  (⟨"MeltPinsModel", "runOf", "(III)I"⟩, prog_7_method_46_code, 4, some .int, 5),
  (⟨"MeltPinsModel", "when", "(I)I"⟩, prog_7_method_47_code, 3, some .int, 5),
  (⟨"MeltPinsModel", "settles", "()I"⟩, prog_7_method_48_code, 5, some .int, 5)]
def mzTab3 : List (MethodName × ByteArray × Nat × Option FieldType × Nat) := [
  (⟨"MeltPinsModel", "standOf", "(II)I"⟩, prog_7_method_49_code, 5, some .int, 5),
  (⟨"MeltPinsModel", "findStands", "()V"⟩, prog_7_method_50_code, 2, none, 5),
  (⟨"MeltPinsModel", "stand", "(I)I"⟩, prog_7_method_51_code, 2, some .int, 5),
  (⟨"MeltPinsModel", "allIn", "(I)I"⟩, prog_7_method_52_code, 3, some .int, 5),
  (⟨"MeltPinsModel", "asksNothing", "()V"⟩, prog_7_method_53_code, 2, none, 5),
  (⟨"MeltPinsModel", "late", "(I)I"⟩, prog_7_method_54_code, 3, some .int, 5),
  (⟨"MeltPinsModel", "sumOf", "(II)I"⟩, prog_7_method_55_code, 5, some .int, 5),
  (⟨"MeltPinsModel", "leastAll", "(II)I"⟩, prog_7_method_56_code, 7, some .int, 5),
  (⟨"MeltPinsModel", "told", "(II)I"⟩, prog_7_method_57_code, 3, some .int, 5),
  (⟨"MeltPinsModel", "fewest", "(I)I"⟩, prog_7_method_58_code, 2, some .int, 5),
  (⟨"MeltPinsModel", "cheapest", "(I)I"⟩, prog_7_method_59_code, 2, some .int, 5),
  (⟨"MeltPinsModel", "most", "(II)I"⟩, prog_7_method_60_code, 5, some .int, 5),
  (⟨"MeltPinsModel", "must", "()I"⟩, prog_7_method_61_code, 3, some .int, 5),
  (⟨"MeltPinsModel", "tries", "(IIII)V"⟩, prog_7_method_62_code, 6, none, 5),
  (⟨"MeltPinsModel", "order", "(III)I"⟩, prog_7_method_63_code, 4, some .int, 5),
  (⟨"MeltPinsModel", "stop", "(II)I"⟩, prog_7_method_64_code, 8, some .int, 5)]
def mzTab4 : List (MethodName × ByteArray × Nat × Option FieldType × Nat) := [
  (⟨"MeltPinsModel", "brings", "(I)Z"⟩, prog_7_method_65_code, 2, some .boolean, 5),
  (⟨"MeltPinsModel", "keepBars", "()V"⟩, prog_7_method_66_code, 2, none, 5),
  (⟨"MeltPinsModel", "giveBars", "(I)V"⟩, prog_7_method_67_code, 3, none, 5),
  (⟨"MeltPinsModel", "near", "(I)I"⟩, prog_7_method_68_code, 4, some .int, 5),
  (⟨"MeltPinsModel", "edge", "(II)I"⟩, prog_7_method_69_code, 7, some .int, 5),
  (⟨"MeltPinsModel", "look", "()I"⟩, prog_7_method_70_code, 5, some .int, 5),
  (⟨"MeltPinsModel", "likely", "()J"⟩, prog_7_method_71_code, 7, some .long, 5),
  (⟨"MeltPinsModel", "century", "(I)I"⟩, prog_7_method_72_code, 6, some .int, 5),
  (⟨"MeltPinsModel", "seed", "(I)I"⟩, prog_7_method_73_code, 3, some .int, 5),
  (⟨"MeltPinsModel", "ones", "(III)I"⟩, prog_7_method_74_code, 8, some .int, 5),
  (⟨"MeltPinsModel", "others", "(III)I"⟩, prog_7_method_75_code, 8, some .int, 5),
  (⟨"MeltPinsModel", "game", "(II)I"⟩, prog_7_method_76_code, 6, some .int, 5),
  (⟨"MeltPinsModel", "isSheet", "(I)Z"⟩, prog_7_method_77_code, 1, some .boolean, 5),
  (⟨"MeltPinsModel", "isFirst", "(II)Z"⟩, prog_7_method_78_code, 6, some .boolean, 5),
  (⟨"MeltPinsModel", "first", "(I)I"⟩, prog_7_method_79_code, 4, some .int, 5),
  (⟨"MeltPinsModel", "judge", "(I)I"⟩, prog_7_method_80_code, 3, some .int, 5)]
def mzTab5 : List (MethodName × ByteArray × Nat × Option FieldType × Nat) := [
  (⟨"MeltPinsModel", "spot", "(II)I"⟩, prog_7_method_81_code, 3, some .int, 5),
  (⟨"MeltPinsModel", "above", "(I)I"⟩, prog_7_method_82_code, 1, some .int, 5),
  (⟨"MeltPinsModel", "as", "(II)I"⟩, prog_7_method_83_code, 5, some .int, 5),
  (⟨"MeltPinsModel", "sheet", "(III)I"⟩, prog_7_method_84_code, 5, some .int, 5),
  (⟨"MeltPinsModel", "write", "(III)I"⟩, prog_7_method_85_code, 4, some .int, 5),
  (⟨"MeltPinsModel", "copy", "(IIIII)I"⟩, prog_7_method_86_code, 9, some .int, 5),
  (⟨"MeltPinsModel", "image", "()I"⟩, prog_7_method_87_code, 2, some .int, 5),
  (⟨"MeltPinsModel", "undo", "()I"⟩, prog_7_method_88_code, 2, some .int, 5),
  (⟨"MeltPinsModel", "tear", "()I"⟩, prog_7_method_89_code, 2, some .int, 5),
  (⟨"MeltPinsModel", "count", "(I)I"⟩, prog_7_method_90_code, 4, some .int, 5),
  (⟨"MeltPinsModel", "status", "(I)I"⟩, prog_7_method_91_code, 4, some .int, 5),
  (⟨"MeltPins$Sheet", "lowestBits", "(I)I"⟩, prog_3_method_2_code, 2, some .int, 1),
  (⟨"MeltPins$Sheet", "hasRow", "(II)Z"⟩, prog_3_method_3_code, 3, some .boolean, 1),
  (⟨"MeltPins$World", "become", "(LMeltPins$World;)V"⟩, prog_5_method_2_code, 3, none, 3),
  (⟨"MeltPins$World", "all", "()I"⟩, prog_5_method_3_code, 1, some .int, 3),
  (⟨"MeltPins$World", "addPlace", "(II)[I"⟩, prog_5_method_4_code, 4, some (.array .int), 3)]
def mzTab6 : List (MethodName × ByteArray × Nat × Option FieldType × Nat) := [
  (⟨"MeltPins$World", "putTie", "(III)V"⟩, prog_5_method_5_code, 4, none, 3),
  (⟨"MeltPins$World", "heightOf", "(II)I"⟩, prog_5_method_6_code, 3, some .int, 3),
  (⟨"MeltPins$World", "pushedIn", "(I)I"⟩, prog_5_method_7_code, 4, some .int, 3),
  (⟨"MeltPins$World", "sumOf", "(II)I"⟩, prog_5_method_8_code, 5, some .int, 3),
  (⟨"MeltPins$World", "fullSpots", "()I"⟩, prog_5_method_9_code, 3, some .int, 3),
  (⟨"MeltPins$World", "draw", "()I"⟩, prog_5_method_10_code, 1, some .int, 3),
  (⟨"MeltPins$Melt", "survey", "()V"⟩, prog_2_method_2_code, 6, none, 0),
  (⟨"MeltPins$Melt", "lowerBars", "(I)V"⟩, prog_2_method_3_code, 3, none, 0),
  (⟨"MeltPins$Melt", "takeBar", "(II)V"⟩, prog_2_method_4_code, 3, none, 0),
  (⟨"MeltPins$Melt", "mustBePushed", "()I"⟩, prog_2_method_5_code, 3, some .int, 0),
  (⟨"MeltPins$Melt", "standsAll", "(I)Z"⟩, prog_2_method_6_code, 2, some .boolean, 0),
  (⟨"MeltPins$Melt", "standOf", "(II)I"⟩, prog_2_method_7_code, 5, some .int, 0),
  (⟨"MeltPins$Melt", "begin", "(I)V"⟩, prog_2_method_8_code, 2, none, 0),
  (⟨"MeltPins$Melt", "passYear", "(I)Z"⟩, prog_2_method_9_code, 7, some .boolean, 0),
  (⟨"MeltPins$Melt", "walk", "(IZ)Z"⟩, prog_2_method_10_code, 4, some .boolean, 0),
  (⟨"MeltPins$Melt", "drownSpoilt", "(I)V"⟩, prog_2_method_11_code, 5, none, 0)]
def mzTab7 : List (MethodName × ByteArray × Nat × Option FieldType × Nat) := [
  (⟨"MeltPins$Melt", "gets", "(II)I"⟩, prog_2_method_12_code, 5, some .int, 0),
  (⟨"MeltPins$Melt", "goes", "(II)Z"⟩, prog_2_method_13_code, 3, some .boolean, 0),
  (⟨"MeltPins$Melt", "falls", "(II)Z"⟩, prog_2_method_14_code, 4, some .boolean, 0),
  (⟨"MeltPins$Tape", "append", "(I)V"⟩, prog_4_method_2_code, 2, none, 2),
  (⟨"MeltPins$Tape", "readText", "(LMeltPins$World;)I"⟩, prog_4_method_3_code, 4, some .int, 2),
  (⟨"MeltPins$Tape", "readPlace", "(LMeltPins$World;)Z"⟩, prog_4_method_4_code, 6, some .boolean, 2),
  (⟨"MeltPins$Tape", "readTie", "(LMeltPins$World;)Z"⟩, prog_4_method_5_code, 4, some .boolean, 2),
  (⟨"MeltPins$Tape", "nextToken", "()V"⟩, prog_4_method_6_code, 1, none, 2),
  (⟨"MeltPins$Tape", "takeNumber", "()V"⟩, prog_4_method_7_code, 1, none, 2),
  (⟨"MeltPins$Tape", "isLetter", "(I)Z"⟩, prog_4_method_8_code, 1, some .boolean, 2),
  (⟨"MeltPins$Tape", "isDigit", "(I)Z"⟩, prog_4_method_9_code, 1, some .boolean, 2),
  (⟨"MeltPins$Tape", "isNumber", "(II)Z"⟩, prog_4_method_10_code, 3, some .boolean, 2),
  (⟨"MeltPins$Tape", "isWord", "(Ljava/lang/String;)Z"⟩, prog_4_method_11_code, 3, some .boolean, 2),
  (⟨"MeltPins$Tape", "kindHere", "()I"⟩, prog_4_method_12_code, 2, some .int, 2),
  (⟨"MeltPins$Tape", "traitHere", "()I"⟩, prog_4_method_13_code, 2, some .int, 2),
  (⟨"MeltPins$Tape", "kindName", "(I)Ljava/lang/String;"⟩, prog_4_method_14_code, 1, some (.object "java/lang/String"), 2)]
def mzTab8 : List (MethodName × ByteArray × Nat × Option FieldType × Nat) := [
  (⟨"MeltPins$Tape", "traitName", "(I)Ljava/lang/String;"⟩, prog_4_method_15_code, 1, some (.object "java/lang/String"), 2),
  (⟨"MeltPins", "feed", "(II)I"⟩, prog_1_method_2_code, 4, some .int, 4),
  (⟨"MeltPins", "wipe", "()I"⟩, prog_1_method_3_code, 2, some .int, 4),
  (⟨"MeltPins", "world", "()I"⟩, prog_1_method_4_code, 2, some .int, 4),
  (⟨"MeltPins", "placeOf", "(II)I"⟩, prog_1_method_5_code, 3, some .int, 4),
  (⟨"MeltPins", "change", "(III)I"⟩, prog_1_method_6_code, 5, some .int, 4),
  (⟨"MeltPins", "step", "(I)I"⟩, prog_1_method_7_code, 2, some .int, 4),
  (⟨"MeltPins", "tie", "(III)I"⟩, prog_1_method_8_code, 5, some .int, 4),
  (⟨"MeltPins", "tieOf", "(II)I"⟩, prog_1_method_9_code, 3, some .int, 4),
  (⟨"MeltPins", "cut", "(II)I"⟩, prog_1_method_10_code, 3, some .int, 4),
  (⟨"MeltPins", "hold", "(IZ)I"⟩, prog_1_method_11_code, 4, some .int, 4),
  (⟨"MeltPins", "push", "(II)I"⟩, prog_1_method_12_code, 3, some .int, 4),
  (⟨"MeltPins", "pushOf", "(II)I"⟩, prog_1_method_13_code, 3, some .int, 4),
  (⟨"MeltPins", "clear", "()I"⟩, prog_1_method_14_code, 2, some .int, 4),
  (⟨"MeltPins", "run", "(II)I"⟩, prog_1_method_15_code, 3, some .int, 4),
  (⟨"MeltPins", "runOf", "(III)I"⟩, prog_1_method_16_code, 4, some .int, 4)]
def mzTab9 : List (MethodName × ByteArray × Nat × Option FieldType × Nat) := [
  (⟨"MeltPins", "when", "(I)I"⟩, prog_1_method_17_code, 3, some .int, 4),
  (⟨"MeltPins", "settles", "()I"⟩, prog_1_method_18_code, 5, some .int, 4),
  (⟨"MeltPins", "stand", "(I)I"⟩, prog_1_method_19_code, 2, some .int, 4),
  (⟨"MeltPins", "late", "(I)I"⟩, prog_1_method_20_code, 3, some .int, 4),
  (⟨"MeltPins", "fewest", "(I)I"⟩, prog_1_method_21_code, 2, some .int, 4),
  (⟨"MeltPins", "cheapest", "(I)I"⟩, prog_1_method_22_code, 2, some .int, 4),
  (⟨"MeltPins", "most", "(II)I"⟩, prog_1_method_23_code, 7, some .int, 4),
  (⟨"MeltPins", "must", "()I"⟩, prog_1_method_24_code, 1, some .int, 4),
  (⟨"MeltPins", "order", "(III)I"⟩, prog_1_method_25_code, 10, some .int, 4),
  (⟨"MeltPins", "stop", "(II)I"⟩, prog_1_method_26_code, 8, some .int, 4),
  (⟨"MeltPins", "near", "(I)I"⟩, prog_1_method_27_code, 3, some .int, 4),
  (⟨"MeltPins", "look", "()I"⟩, prog_1_method_28_code, 5, some .int, 4),
  (⟨"MeltPins", "edge", "(II)I"⟩, prog_1_method_29_code, 4, some .int, 4),
  (⟨"MeltPins", "likely", "()J"⟩, prog_1_method_30_code, 7, some .long, 4),
  (⟨"MeltPins", "century", "(I)I"⟩, prog_1_method_31_code, 4, some .int, 4),
  (⟨"MeltPins", "seed", "(I)I"⟩, prog_1_method_32_code, 3, some .int, 4)]
def mzTab10 : List (MethodName × ByteArray × Nat × Option FieldType × Nat) := [
  (⟨"MeltPins", "game", "(II)I"⟩, prog_1_method_33_code, 8, some .int, 4),
  (⟨"MeltPins", "first", "(I)I"⟩, prog_1_method_34_code, 7, some .int, 4),
  (⟨"MeltPins", "judge", "(I)I"⟩, prog_1_method_35_code, 4, some .int, 4),
  (⟨"MeltPins", "spot", "(II)I"⟩, prog_1_method_36_code, 3, some .int, 4),
  (⟨"MeltPins", "as", "(II)I"⟩, prog_1_method_37_code, 4, some .int, 4),
  (⟨"MeltPins", "sheet", "(III)I"⟩, prog_1_method_38_code, 5, some .int, 4),
  (⟨"MeltPins", "write", "(III)I"⟩, prog_1_method_39_code, 5, some .int, 4),
  (⟨"MeltPins", "copy", "(IIIII)I"⟩, prog_1_method_40_code, 8, some .int, 4),
  (⟨"MeltPins", "image", "()I"⟩, prog_1_method_41_code, 1, some .int, 4),
  (⟨"MeltPins", "undo", "()I"⟩, prog_1_method_42_code, 1, some .int, 4),
  (⟨"MeltPins", "tear", "()I"⟩, prog_1_method_43_code, 2, some .int, 4),
  (⟨"MeltPins", "count", "(I)I"⟩, prog_1_method_44_code, 2, some .int, 4),
  (⟨"MeltPins", "status", "(I)I"⟩, prog_1_method_45_code, 4, some .int, 4),
  (⟨"MeltPins", "finding", "(I)I"⟩, prog_1_method_46_code, 3, some .int, 4),
  (⟨"MeltPins", "isPlace", "(I)Z"⟩, prog_1_method_47_code, 2, some .boolean, 4),
  (⟨"MeltPins", "isSet", "(I)Z"⟩, prog_1_method_48_code, 2, some .boolean, 4)]
def mzTab11 : List (MethodName × ByteArray × Nat × Option FieldType × Nat) := [
  (⟨"MeltPins", "isSheet", "(I)Z"⟩, prog_1_method_49_code, 1, some .boolean, 4),
  (⟨"MeltPins", "isOfKind", "(II)Z"⟩, prog_1_method_50_code, 4, some .boolean, 4),
  (⟨"MeltPins", "passPlan", "(I)V"⟩, prog_1_method_51_code, 3, none, 4),
  (⟨"MeltPins", "leastThatStands", "(Z)I"⟩, prog_1_method_52_code, 9, some .int, 4),
  (⟨"MeltPins", "tellOfSet", "(II)I"⟩, prog_1_method_53_code, 3, some .int, 4),
  (⟨"MeltPins", "digitSet", "(II)I"⟩, prog_1_method_54_code, 5, some .int, 4),
  (⟨"MeltPins", "orderYears", "(III)I"⟩, prog_1_method_55_code, 5, some .int, 4),
  (⟨"MeltPins", "orderPushes", "(IIII)I"⟩, prog_1_method_56_code, 7, some .int, 4),
  (⟨"MeltPins", "chanceOf", "(I)J"⟩, prog_1_method_57_code, 6, some .long, 4),
  (⟨"MeltPins", "drawnSet", "()I"⟩, prog_1_method_58_code, 3, some .int, 4),
  (⟨"MeltPins", "bestPush", "(IIIII)I"⟩, prog_1_method_59_code, 9, some .int, 4),
  (⟨"MeltPins", "bestHold", "(IIIII)I"⟩, prog_1_method_60_code, 9, some .int, 4),
  (⟨"MeltPins", "bringsLayers", "(ILMeltPins$Sheet;)Z"⟩, prog_1_method_61_code, 5, some .boolean, 4),
  (⟨"MeltPins", "areAll", "(ILMeltPins$Sheet;I)Z"⟩, prog_1_method_62_code, 5, some .boolean, 4),
  (⟨"java/lang/Integer", "bitCount", "(I)I"⟩, prog_8_method_49_code, 1, some .int, 7),
  (⟨"java/util/Arrays", "fill", "([II)V"⟩, prog_14_method_103_code, 4, none, 8)]
def mzTab : List (List (MethodName × ByteArray × Nat × Option FieldType × Nat)) := [mzTab0, mzTab1, mzTab2, mzTab3, mzTab4, mzTab5, mzTab6, mzTab7, mzTab8, mzTab9, mzTab10, mzTab11]
def mzFL : List (Nat × Nat × Nat × Nat × Nat) := [(0, 9, 0, 1, 0), (0, 15, 0, 2, 0), (0, 18, 0, 3, 0), (0, 23, 0, 4, 0), (0, 26, 0, 5, 0), (0, 29, 0, 6, 0), (0, 32, 0, 0, 0), (0, 40, 3, 0, 1), (0, 46, 3, 6, 1), (0, 49, 3, 5, 1), (0, 72, 3, 3, 1), (0, 85, 0, 7, 0), (0, 88, 0, 8, 0), (0, 91, 0, 9, 0), (1, 15, 1, 0, 0), (1, 19, 1, 1, 0), (2, 9, 2, 0, 0), (2, 15, 2, 1, 0), (2, 19, 2, 4, 0), (2, 25, 2, 2, 0), (2, 35, 2, 3, 0), (2, 42, 3, 0, 1), (2, 51, 2, 5, 0), (2, 67, 3, 1, 1), (2, 76, 3, 6, 1), (3, 9, 3, 4, 0), (3, 17, 3, 5, 0), (3, 20, 3, 6, 0), (3, 23, 3, 7, 0), (3, 27, 3, 8, 0), (3, 30, 3, 9, 0), (3, 39, 3, 0, 0), (3, 42, 3, 1, 0), (3, 45, 3, 2, 0), (3, 48, 3, 3, 0), (4, 12, 4, 0, 0), (4, 16, 4, 1, 0), (4, 19, 4, 2, 0), (4, 27, 4, 3, 0), (4, 34, 4, 4, 0), (4, 40, 4, 5, 0), (4, 44, 4, 6, 0), (4, 54, 2, 1, 1), (4, 70, 3, 0, 1), (4, 77, 3, 5, 1), (4, 85, 3, 3, 1), (4, 94, 3, 6, 1), (4, 97, 3, 1, 1), (4, 109, 3, 2, 1), (4, 112, 3, 7, 1), (4, 115, 3, 8, 1), (4, 121, 0, 7, 1), (4, 124, 0, 8, 1), (4, 127, 0, 6, 1), (4, 195, 3, 4, 1), (4, 210, 1, 0, 1), (4, 214, 1, 1, 1), (4, 219, 1, 2, 1), (4, 222, 3, 9, 1), (4, 249, 4, 7, 0), (5, 9, 5, 0, 0), (5, 13, 5, 1, 0), (5, 16, 5, 3, 0), (5, 19, 5, 5, 0), (5, 22, 5, 12, 0), (5, 25, 5, 16, 0), (5, 28, 5, 17, 0), (5, 31, 5, 18, 0), (5, 34, 5, 19, 0), (5, 37, 5, 22, 0), (5, 40, 5, 23, 0), (5, 43, 5, 24, 0), (5, 46, 5, 25, 0), (5, 64, 5, 6, 0), (5, 77, 5, 9, 0), (5, 80, 5, 8, 0), (5, 83, 5, 10, 0), (5, 86, 5, 7, 0), (5, 96, 5, 11, 0), (5, 160, 5, 4, 0), (5, 187, 5, 13, 0), (5, 190, 5, 14, 0), (5, 193, 5, 15, 0), (5, 259, 5, 20, 0), (5, 262, 5, 21, 0), (5, 306, 5, 2, 0)]
def mzCL : List (Nat × Nat × Int) := [(3, 63, 1103515245), (4, 49, (-1000001)), (4, 58, (-1000002)), (4, 104, (-1000004)), (4, 108, (-1000005)), (4, 174, 100000000), (4, 213, (-1000006)), (4, 229, (-1000003)), (4, 230, (-1000007)), (5, 49, (-1000001)), (5, 68, (-1000002)), (5, 186, (-1000004)), (5, 225, (-1000005)), (5, 282, 1103515245), (5, 295, (-1000006)), (5, 304, (-1000003)), (5, 305, (-1000007)), (7, 265, 1431655765), (7, 266, 858993459), (7, 267, 252645135)]
def mzJL : List (Nat × Nat × Int) := [(5, 58, 4), (5, 69, 48), (5, 71, 57), (5, 73, 97), (5, 75, 122), (5, 166, 10), (5, 171, 99), (5, 173, 9), (5, 223, 49), (5, 250, 2), (5, 257, 12), (5, 269, 5), (5, 280, 50), (5, 290, 3), (5, 299, 6), (5, 309, (-1))]
def mzSL : List (Nat × Nat × Nat) := [(2, 70, 0), (2, 80, 1), (2, 117, 2), (2, 119, 3), (2, 121, 4), (2, 123, 5), (2, 125, 6), (2, 127, 7), (2, 129, 8), (2, 131, 9), (2, 133, 10), (2, 135, 11), (2, 137, 12), (2, 139, 13), (5, 116, 2), (5, 118, 3), (5, 120, 4), (5, 122, 5), (5, 124, 6), (5, 126, 7), (5, 128, 8), (5, 136, 9), (5, 141, 10), (5, 142, 11), (5, 144, 12), (5, 146, 13), (5, 148, 0), (5, 152, 1)]
def mzTL : List (Nat × Nat × Nat) := [(2, 61, 1), (2, 64, 2), (4, 88, 1), (4, 91, 2), (4, 256, 0)]
def mzML : List (Nat × Nat × Nat × Nat) := [(0, 36, 103, 0), (0, 58, 104, 0), (0, 62, 97, 1), (0, 65, 94, 1), (0, 69, 112, 0), (0, 75, 107, 0), (0, 78, 108, 0), (0, 81, 109, 0), (0, 92, 191, 2), (0, 98, 114, 0), (0, 102, 113, 0), (0, 105, 110, 0), (0, 109, 111, 0), (0, 112, 190, 2), (2, 22, 119, 0), (2, 28, 118, 0), (2, 32, 117, 0), (2, 38, 125, 0), (2, 47, 123, 0), (2, 54, 95, 1), (2, 58, 126, 0), (2, 72, 124, 0), (2, 82, 96, 1), (2, 86, 121, 2), (2, 90, 122, 2), (2, 93, 120, 0), (2, 110, 127, 2), (2, 114, 128, 2), (3, 33, 191, 2), (4, 50, 173, 0), (4, 59, 115, 1), (4, 63, 93, 1), (4, 66, 116, 1), (4, 73, 174, 0), (4, 81, 97, 1), (4, 100, 96, 1), (4, 105, 98, 1), (4, 118, 178, 0), (4, 130, 112, 1), (4, 133, 109, 1), (4, 136, 175, 0), (4, 139, 102, 1), (4, 142, 107, 1), (4, 145, 108, 1), (4, 148, 94, 1), (4, 152, 179, 0), (4, 156, 180, 0), (4, 159, 190, 2), (4, 164, 105, 1), (4, 167, 181, 2), (4, 170, 182, 0), (4, 175, 99, 1), (4, 178, 103, 1), (4, 181, 106, 1), (4, 184, 104, 1), (4, 188, 184, 0), (4, 192, 185, 0), (4, 198, 187, 0), (4, 207, 176, 2), (4, 215, 188, 0), (4, 225, 177, 2), (4, 231, 191, 2), (4, 237, 91, 1), (4, 240, 92, 1), (4, 253, 100, 1), (4, 259, 183, 2), (4, 263, 101, 1), (4, 266, 186, 0), (4, 272, 189, 0), (5, 50, 2, 2), (5, 54, 7, 0), (5, 60, 1, 0), (5, 89, 12, 2), (5, 93, 11, 2), (5, 109, 14, 0), (5, 113, 13, 0), (5, 130, 17, 0), (5, 133, 16, 0), (5, 138, 15, 0), (5, 149, 6, 0), (5, 154, 19, 0), (5, 157, 18, 0), (5, 163, 5, 0), (5, 168, 21, 0), (5, 175, 23, 0), (5, 179, 24, 0), (5, 182, 27, 0), (5, 196, 3, 2), (5, 199, 34, 0), (5, 202, 35, 0), (5, 204, 37, 0), (5, 207, 36, 0), (5, 210, 32, 0), (5, 213, 33, 0), (5, 217, 39, 0), (5, 220, 38, 0), (5, 226, 40, 0), (5, 229, 48, 0), (5, 232, 8, 0), (5, 235, 52, 0), (5, 238, 51, 0), (5, 241, 49, 0), (5, 244, 4, 2), (5, 247, 54, 0), (5, 252, 55, 0), (5, 255, 56, 0), (5, 265, 61, 0), (5, 271, 65, 0), (5, 274, 66, 0), (5, 277, 64, 0), (5, 283, 74, 0), (5, 287, 73, 0), (5, 292, 76, 2), (5, 296, 77, 0), (5, 301, 81, 2), (6, 13, 129, 0), (6, 17, 9, 0), (6, 18, 130, 0), (6, 22, 10, 0), (6, 23, 131, 0), (6, 26, 20, 0), (6, 27, 132, 0), (6, 30, 22, 0), (6, 31, 133, 0), (6, 35, 25, 0), (6, 36, 134, 0), (6, 40, 26, 0), (6, 41, 135, 0), (6, 44, 28, 0), (6, 45, 136, 0), (6, 48, 29, 0), (6, 49, 137, 0), (6, 52, 30, 0), (6, 53, 138, 0), (6, 57, 31, 0), (6, 58, 139, 0), (6, 61, 41, 0), (6, 62, 140, 0), (6, 65, 42, 0), (6, 66, 141, 0), (6, 69, 43, 0), (6, 70, 142, 0), (6, 73, 44, 0), (6, 74, 143, 0), (6, 77, 45, 0), (6, 78, 144, 0), (6, 81, 46, 0), (6, 82, 145, 0), (6, 85, 47, 0), (6, 86, 146, 0), (6, 89, 50, 0), (6, 90, 147, 0), (6, 93, 53, 0), (6, 94, 148, 0), (6, 97, 57, 0), (6, 98, 149, 0), (6, 101, 58, 0), (6, 102, 150, 0), (6, 105, 59, 0), (6, 106, 151, 0), (6, 109, 60, 0), (6, 110, 152, 0), (6, 113, 62, 0), (6, 114, 153, 0), (6, 117, 63, 0), (6, 118, 154, 0), (6, 121, 67, 0), (6, 122, 155, 0), (6, 125, 69, 0), (6, 126, 156, 0)]
/-- each thing: (0, places, _) a row of ints; (1, class, _) an object; (2, places, first) a row of rows of ints; (3, places, first) a row of sheets -/
def mzShape : List (Nat × Nat × Nat) := [(1, 5, 0), (0, 318, 0), (0, 318, 0), (0, 7, 0), (0, 120, 0), (0, 318, 0), (0, 12, 0), (0, 12, 0), (0, 4096, 0), (0, 50, 0), (0, 12, 0), (0, 4, 0), (0, 4, 0), (0, 160, 0), (1, 4, 0), (0, 7, 0), (1, 0, 0), (0, 12, 0), (0, 12, 0), (0, 12, 0), (2, 12, 124), (2, 12, 136), (0, 12, 0), (1, 2, 0), (0, 120, 0), (3, 4, 44), (1, 3, 0), (1, 3, 0), (1, 3, 0), (2, 12, 52), (2, 12, 64), (2, 12, 76), (2, 12, 88), (2, 12, 100), (2, 12, 112), (0, 20, 0), (0, 20, 0), (0, 20, 0), (0, 20, 0), (0, 20, 0), (0, 20, 0), (0, 10, 0), (0, 10, 0), (0, 10, 0), (1, 1, 0), (1, 1, 0), (1, 1, 0), (1, 1, 0), (0, 40, 0), (0, 40, 0), (0, 40, 0), (0, 40, 0), (0, 9, 0), (0, 9, 0), (0, 9, 0), (0, 9, 0), (0, 9, 0), (0, 9, 0), (0, 9, 0), (0, 9, 0), (0, 9, 0), (0, 9, 0), (0, 9, 0), (0, 9, 0), (0, 9, 0), (0, 9, 0), (0, 9, 0), (0, 9, 0), (0, 9, 0), (0, 9, 0), (0, 9, 0), (0, 9, 0), (0, 9, 0), (0, 9, 0), (0, 9, 0), (0, 9, 0), (0, 9, 0), (0, 9, 0), (0, 9, 0), (0, 9, 0), (0, 9, 0), (0, 9, 0), (0, 9, 0), (0, 9, 0), (0, 9, 0), (0, 9, 0), (0, 9, 0), (0, 9, 0), (0, 12, 0), (0, 12, 0), (0, 12, 0), (0, 12, 0), (0, 12, 0), (0, 12, 0), (0, 12, 0), (0, 12, 0), (0, 12, 0), (0, 12, 0), (0, 12, 0), (0, 12, 0), (0, 12, 0), (0, 12, 0), (0, 12, 0), (0, 12, 0), (0, 12, 0), (0, 12, 0), (0, 12, 0), (0, 12, 0), (0, 12, 0), (0, 12, 0), (0, 12, 0), (0, 12, 0), (0, 12, 0), (0, 12, 0), (0, 12, 0), (0, 12, 0), (0, 12, 0), (0, 12, 0), (0, 12, 0), (0, 12, 0), (0, 12, 0), (0, 12, 0), (0, 12, 0), (0, 12, 0), (0, 12, 0), (0, 12, 0), (0, 12, 0), (0, 12, 0), (0, 12, 0), (0, 12, 0), (0, 12, 0), (0, 12, 0), (0, 12, 0), (0, 12, 0), (0, 12, 0), (0, 12, 0), (0, 12, 0), (0, 12, 0), (0, 12, 0), (0, 12, 0), (0, 12, 0), (0, 12, 0), (0, 12, 0), (0, 12, 0), (0, 12, 0), (0, 12, 0), (0, 12, 0), (0, 12, 0)]
/-- kinds of which there are several: first, how many, (0 a row of ints, places) or (1 an object, class) -/
def mzPools : List (Nat × Nat × Nat × Nat) := [(44, 4, 1, 1), (48, 4, 0, 40), (52, 12, 0, 9), (64, 12, 0, 9), (76, 12, 0, 9), (88, 12, 0, 12), (100, 12, 0, 12), (112, 12, 0, 12), (124, 12, 0, 12), (136, 12, 0, 12), (300, 14, 5, 0)]
/-- what a field holds: (0, _) a number; (1, k) thing k; (2, d) the thing d behind its own -/
def mzRfT : List (List (Nat × Nat)) := [[(1, 26), (1, 17), (1, 18), (1, 19), (1, 20), (1, 21), (1, 22), (0, 0), (0, 0), (0, 0)], [(0, 0), (0, 0), (2, 4)], [(1, 24), (0, 0), (0, 0), (0, 0), (0, 0), (0, 0)], [(0, 0), (0, 0), (0, 0), (0, 0), (0, 0), (2, 3), (2, 6), (2, 9), (2, 12), (2, 15)], [(1, 26), (1, 27), (1, 28), (1, 16), (1, 23), (1, 25), (1, 15), (0, 0)], [(1, 1), (1, 2), (0, 0), (1, 3), (0, 0), (1, 4), (0, 0), (0, 0), (0, 0), (0, 0), (0, 0), (0, 0), (1, 5), (0, 0), (0, 0), (0, 0), (1, 6), (1, 7), (1, 8), (1, 9), (0, 0), (0, 0), (1, 10), (1, 11), (1, 12), (1, 13)]]
def mzCstT : List (List Int) := [[-1, 0, 0, 1, 1, 2, 3], [0, 1, 0, 0, 1, 1, 0, -1, 0], [6, 99, 99, 9, 99, 99, 10, 11, 9]]
def mzStrT : List (List Int) := [[116, 111], [98, 121], [112, 108, 97, 99, 101], [115, 116, 97, 121], [98, 97, 99, 107], [99, 111, 109, 112, 97, 110, 121], [100, 114, 111, 119, 110], [112, 97, 114, 116], [116, 111, 108, 100], [108, 111, 119, 101, 114], [116, 97, 107, 101, 115], [99, 111, 115, 116], [112, 114, 105, 99, 101], [99, 104, 97, 110, 99, 101]]
def mzStrS : List String := ["to", "by", "place", "stay", "back", "company", "drown", "part", "told", "lower", "takes", "cost", "price", "chance"]
end
section
def mzAl0 : List (Nat × Nat × Nat × Nat × Nat × Nat) := [(0, 5, 173, 0, 0, 0), (1, 5, 115, 0, 0, 0), (2, 5, 93, 0, 0, 0), (3, 5, 116, 0, 0, 0), (4, 5, 119, 0, 0, 0), (5, 5, 120, 0, 0, 0), (6, 5, 118, 0, 0, 0), (7, 5, 123, 0, 0, 0), (8, 5, 124, 0, 0, 0), (9, 5, 96, 0, 0, 0), (10, 5, 117, 0, 0, 0), (11, 5, 125, 0, 0, 0), (12, 5, 95, 0, 0, 0), (13, 5, 126, 0, 0, 0), (14, 5, 174, 0, 0, 0), (15, 5, 97, 0, 0, 0), (16, 5, 98, 0, 0, 0), (17, 5, 178, 0, 0, 0), (18, 5, 102, 0, 0, 0), (19, 5, 103, 0, 0, 0), (20, 5, 104, 0, 0, 0), (21, 5, 108, 0, 0, 0), (22, 5, 109, 0, 0, 0), (23, 5, 114, 0, 0, 0), (24, 5, 112, 0, 0, 0), (25, 5, 113, 0, 0, 0), (26, 5, 110, 0, 0, 0), (27, 5, 111, 0, 0, 0), (28, 5, 175, 0, 0, 0), (29, 5, 94, 0, 0, 0), (30, 5, 107, 0, 0, 0), (31, 5, 179, 0, 0, 0), (32, 5, 105, 0, 0, 0), (33, 5, 99, 0, 0, 0), (34, 5, 106, 0, 0, 0), (35, 5, 180, 0, 0, 0), (36, 5, 182, 0, 0, 0), (37, 5, 184, 0, 0, 0), (38, 5, 185, 0, 0, 0), (39, 5, 101, 0, 0, 0), (40, 5, 187, 0, 0, 0), (41, 5, 186, 0, 0, 0), (42, 5, 188, 0, 0, 0), (43, 5, 189, 0, 0, 0), (44, 5, 91, 0, 0, 0), (45, 5, 92, 0, 0, 0), (46, 5, 100, 0, 0, 0), (47, 5, 1, 0, 0, 0), (48, 5, 13, 0, 0, 0), (49, 5, 19, 0, 0, 0), (50, 5, 16, 0, 0, 0), (51, 5, 14, 0, 0, 0), (52, 5, 6, 0, 0, 0), (53, 5, 18, 0, 0, 0), (54, 5, 17, 0, 0, 0), (55, 5, 15, 0, 0, 0), (56, 5, 5, 0, 0, 0), (57, 5, 21, 0, 0, 0), (58, 5, 23, 0, 0, 0), (59, 5, 24, 0, 0, 0), (60, 5, 27, 0, 0, 0), (61, 5, 39, 0, 0, 0), (62, 5, 40, 0, 0, 0), (63, 5, 32, 0, 0, 0), (64, 5, 33, 0, 0, 0), (65, 5, 38, 0, 0, 0), (66, 5, 37, 0, 0, 0), (67, 5, 34, 0, 0, 0), (68, 5, 36, 0, 0, 0), (69, 5, 35, 0, 0, 0), (70, 5, 8, 0, 0, 0), (71, 5, 7, 0, 0, 0), (72, 5, 48, 0, 0, 0), (73, 5, 52, 0, 0, 0), (74, 5, 51, 0, 0, 0), (75, 5, 55, 0, 0, 0), (76, 5, 49, 0, 0, 0), (77, 5, 54, 0, 0, 0), (78, 5, 56, 0, 0, 0), (79, 5, 61, 0, 0, 0), (80, 5, 65, 0, 0, 0), (81, 5, 66, 0, 0, 0), (82, 5, 64, 0, 0, 0), (83, 5, 73, 0, 0, 0), (84, 5, 74, 0, 0, 0), (85, 5, 77, 0, 0, 0), (86, 3, 6, 0, 0, 0), (87, 3, 4, 0, 0, 0), (88, 3, 3, 0, 0, 0), (89, 3, 8, 0, 0, 0), (90, 3, 0, 0, 0, 0), (91, 3, 2, 0, 0, 0), (92, 3, 1, 0, 0, 0), (93, 3, 5, 0, 0, 0), (94, 12, 7, 0, 0, 0), (95, 12, 2, 0, 0, 0), (100, 3, 7, 0, 0, 0), (117, 1, 3, 33, 191, 0), (118, 6, 191, 0, 0, 0), (120, 0, 3, 39, 3, 0), (124, 0, 3, 42, 3, 1), (127, 0, 3, 45, 3, 2), (129, 0, 3, 48, 3, 3), (132, 0, 3, 9, 3, 4), (134, 0, 3, 17, 3, 5), (137, 0, 3, 20, 3, 6), (141, 0, 3, 23, 3, 7), (143, 0, 3, 27, 3, 8), (145, 0, 3, 30, 3, 9), (147, 7, 3, 0, 0, 0), (149, 7, 3, 1, 0, 0), (151, 7, 3, 2, 0, 0), (153, 7, 3, 3, 0, 0), (155, 7, 3, 4, 0, 0), (157, 7, 3, 5, 0, 0), (159, 7, 3, 6, 0, 0), (161, 7, 3, 7, 0, 0), (163, 7, 3, 8, 0, 0), (165, 7, 3, 9, 0, 0), (176, 0, 0, 32, 0, 0), (177, 0, 0, 9, 0, 1), (178, 0, 0, 15, 0, 2), (179, 0, 0, 18, 0, 3), (180, 0, 0, 23, 0, 4), (181, 0, 0, 26, 0, 5), (182, 0, 0, 29, 0, 6), (184, 0, 0, 85, 0, 7), (186, 0, 0, 88, 0, 8), (188, 0, 0, 91, 0, 9), (189, 7, 0, 0, 0, 0), (191, 7, 0, 1, 0, 0), (193, 7, 0, 2, 0, 0), (195, 7, 0, 3, 0, 0), (197, 7, 0, 4, 0, 0), (199, 7, 0, 5, 0, 0), (201, 7, 0, 6, 0, 0), (203, 7, 0, 7, 0, 0), (205, 7, 0, 8, 0, 0), (207, 7, 0, 9, 0, 0), (216, 0, 2, 9, 2, 0), (217, 0, 2, 15, 2, 1), (219, 0, 2, 25, 2, 2), (220, 0, 2, 35, 2, 3), (221, 0, 2, 19, 2, 4), (222, 0, 2, 51, 2, 5), (223, 7, 2, 0, 0, 0), (225, 7, 2, 1, 0, 0), (227, 7, 2, 2, 0, 0), (229, 7, 2, 3, 0, 0), (231, 7, 2, 4, 0, 0)]
def mzAl1 : List (Nat × Nat × Nat × Nat × Nat × Nat) := [(233, 7, 2, 5, 0, 0), (243, 0, 1, 15, 1, 0), (245, 0, 1, 19, 1, 1), (249, 7, 1, 0, 0, 0), (251, 7, 1, 1, 0, 0), (253, 7, 1, 2, 0, 0), (256, 0, 4, 12, 4, 0), (257, 0, 4, 16, 4, 1), (258, 0, 4, 19, 4, 2), (259, 0, 4, 27, 4, 3), (260, 0, 4, 34, 4, 4), (261, 0, 4, 40, 4, 5), (262, 0, 4, 44, 4, 6), (263, 0, 4, 249, 4, 7), (264, 7, 4, 0, 0, 0), (266, 7, 4, 1, 0, 0), (268, 7, 4, 2, 0, 0), (270, 7, 4, 3, 0, 0), (272, 7, 4, 4, 0, 0), (274, 7, 4, 5, 0, 0), (276, 7, 4, 6, 0, 0), (278, 7, 4, 7, 0, 0), (281, 1, 6, 13, 129, 0), (282, 4, 129, 0, 0, 0), (283, 5, 129, 0, 0, 0), (285, 8, 4, 49, 1, 0), (286, 1, 4, 50, 173, 0), (288, 4, 173, 0, 0, 0), (290, 8, 4, 58, 2, 0), (293, 4, 115, 0, 0, 0), (295, 1, 6, 18, 130, 0), (296, 4, 130, 0, 0, 0), (297, 5, 130, 0, 0, 0), (299, 1, 6, 23, 131, 0), (300, 4, 131, 0, 0, 0), (301, 5, 131, 0, 0, 0), (305, 4, 93, 0, 0, 0), (307, 11, 3, 51, 3, 0), (308, 12, 6, 0, 0, 0), (309, 12, 5, 0, 0, 0), (312, 4, 116, 0, 0, 0), (314, 1, 2, 22, 119, 0), (316, 4, 119, 0, 0, 0), (318, 1, 2, 86, 121, 0), (319, 6, 121, 0, 0, 0), (321, 1, 2, 90, 122, 0), (322, 6, 122, 0, 0, 0), (324, 1, 2, 93, 120, 0), (326, 4, 120, 0, 0, 0), (328, 11, 2, 96, 2, 0), (329, 12, 1, 0, 0, 0), (331, 1, 2, 28, 118, 0), (333, 4, 118, 0, 0, 0), (335, 1, 2, 47, 123, 0), (337, 4, 123, 0, 0, 0), (340, 1, 2, 72, 124, 0), (342, 4, 124, 0, 0, 0), (344, 11, 2, 102, 4, 0), (354, 11, 2, 106, 5, 0), (395, 4, 96, 0, 0, 0), (397, 1, 2, 32, 117, 0), (399, 4, 117, 0, 0, 0), (401, 1, 2, 38, 125, 0), (403, 4, 125, 0, 0, 0), (405, 1, 2, 110, 127, 0), (406, 6, 127, 0, 0, 0), (417, 4, 95, 0, 0, 0), (419, 1, 2, 58, 126, 0), (421, 4, 126, 0, 0, 0), (423, 1, 2, 114, 128, 0), (424, 6, 128, 0, 0, 0), (436, 1, 6, 27, 132, 0), (437, 4, 132, 0, 0, 0), (438, 5, 132, 0, 0, 0), (440, 1, 4, 73, 174, 0), (442, 4, 174, 0, 0, 0), (446, 4, 97, 0, 0, 0), (448, 11, 3, 57, 1, 0), (449, 12, 0, 0, 0, 0), (451, 1, 6, 31, 133, 0), (452, 4, 133, 0, 0, 0), (453, 5, 133, 0, 0, 0), (455, 10, 4, 88, 1, 0), (456, 10, 4, 91, 2, 0), (457, 1, 6, 36, 134, 0), (458, 4, 134, 0, 0, 0), (459, 5, 134, 0, 0, 0), (461, 1, 6, 41, 135, 0), (462, 4, 135, 0, 0, 0), (463, 5, 135, 0, 0, 0), (466, 1, 6, 45, 136, 0), (467, 4, 136, 0, 0, 0), (468, 5, 136, 0, 0, 0), (470, 1, 6, 49, 137, 0), (471, 4, 137, 0, 0, 0), (472, 5, 137, 0, 0, 0), (474, 8, 4, 104, 3, 0), (475, 1, 6, 53, 138, 0), (476, 4, 138, 0, 0, 0), (477, 5, 138, 0, 0, 0), (479, 1, 6, 58, 139, 0), (480, 4, 139, 0, 0, 0), (481, 5, 139, 0, 0, 0), (485, 4, 98, 0, 0, 0), (487, 8, 4, 108, 4, 0), (488, 1, 6, 62, 140, 0), (489, 4, 140, 0, 0, 0), (490, 5, 140, 0, 0, 0), (492, 1, 6, 66, 141, 0), (493, 4, 141, 0, 0, 0), (494, 5, 141, 0, 0, 0), (496, 1, 6, 70, 142, 0), (497, 4, 142, 0, 0, 0), (498, 5, 142, 0, 0, 0), (500, 1, 4, 118, 178, 0), (502, 4, 178, 0, 0, 0), (506, 4, 102, 0, 0, 0), (508, 1, 0, 36, 103, 0), (510, 4, 103, 0, 0, 0), (512, 11, 0, 52, 1, 0), (513, 1, 0, 58, 104, 0), (515, 4, 104, 0, 0, 0), (520, 4, 108, 0, 0, 0), (522, 1, 0, 92, 191, 0), (525, 4, 109, 0, 0, 0), (527, 1, 0, 98, 114, 0), (529, 4, 114, 0, 0, 0), (531, 1, 0, 69, 112, 0), (533, 4, 112, 0, 0, 0), (535, 1, 0, 102, 113, 0), (537, 4, 113, 0, 0, 0), (539, 1, 0, 112, 190, 0), (540, 6, 190, 0, 0, 0), (542, 8, 7, 265, 17, 0), (543, 8, 7, 266, 18, 0), (544, 8, 7, 267, 19, 0), (545, 1, 0, 105, 110, 0), (547, 4, 110, 0, 0, 0), (549, 1, 0, 109, 111, 0), (551, 4, 111, 0, 0, 0), (553, 1, 6, 74, 143, 0), (554, 4, 143, 0, 0, 0), (555, 5, 143, 0, 0, 0), (558, 1, 6, 78, 144, 0), (559, 4, 144, 0, 0, 0), (560, 5, 144, 0, 0, 0), (562, 1, 6, 82, 145, 0), (563, 4, 145, 0, 0, 0), (564, 5, 145, 0, 0, 0), (566, 1, 6, 86, 146, 0)]
def mzAl2 : List (Nat × Nat × Nat × Nat × Nat × Nat) := [(567, 4, 146, 0, 0, 0), (568, 5, 146, 0, 0, 0), (570, 1, 4, 136, 175, 0), (572, 4, 175, 0, 0, 0), (576, 4, 94, 0, 0, 0), (580, 4, 107, 0, 0, 0), (582, 1, 0, 78, 108, 0), (583, 1, 0, 81, 109, 0), (584, 1, 6, 90, 147, 0), (585, 4, 147, 0, 0, 0), (586, 5, 147, 0, 0, 0), (588, 1, 6, 94, 148, 0), (589, 4, 148, 0, 0, 0), (590, 5, 148, 0, 0, 0), (592, 1, 4, 152, 179, 0), (594, 4, 179, 0, 0, 0), (598, 4, 105, 0, 0, 0), (601, 8, 4, 174, 5, 0), (602, 1, 4, 159, 190, 0), (605, 4, 99, 0, 0, 0), (609, 4, 106, 0, 0, 0), (611, 1, 0, 75, 107, 0), (612, 1, 4, 156, 180, 0), (614, 4, 180, 0, 0, 0), (616, 1, 6, 98, 149, 0), (617, 4, 149, 0, 0, 0), (618, 5, 149, 0, 0, 0), (620, 1, 6, 102, 150, 0), (621, 4, 150, 0, 0, 0), (622, 5, 150, 0, 0, 0), (624, 1, 6, 106, 151, 0), (625, 4, 151, 0, 0, 0), (626, 5, 151, 0, 0, 0), (628, 1, 6, 110, 152, 0), (629, 4, 152, 0, 0, 0), (630, 5, 152, 0, 0, 0), (632, 1, 4, 167, 181, 0), (633, 6, 181, 0, 0, 0), (635, 1, 4, 170, 182, 0), (637, 4, 182, 0, 0, 0), (639, 1, 4, 259, 183, 0), (640, 6, 183, 0, 0, 0), (642, 1, 6, 114, 153, 0), (643, 4, 153, 0, 0, 0), (644, 5, 153, 0, 0, 0), (646, 1, 6, 118, 154, 0), (647, 4, 154, 0, 0, 0), (648, 5, 154, 0, 0, 0), (651, 1, 6, 122, 155, 0), (652, 4, 155, 0, 0, 0), (653, 5, 155, 0, 0, 0), (655, 1, 6, 126, 156, 0), (656, 4, 156, 0, 0, 0), (657, 5, 156, 0, 0, 0), (664, 1, 4, 188, 184, 0), (666, 4, 184, 0, 0, 0), (672, 1, 4, 192, 185, 0), (674, 4, 185, 0, 0, 0), (678, 4, 101, 0, 0, 0), (680, 8, 3, 63, 0, 0), (689, 1, 4, 198, 187, 0), (691, 4, 187, 0, 0, 0), (693, 1, 4, 266, 186, 0), (695, 4, 186, 0, 0, 0), (697, 11, 4, 202, 1, 0), (698, 11, 4, 269, 2, 0), (703, 1, 4, 207, 176, 0), (704, 6, 176, 0, 0, 0), (706, 8, 4, 213, 6, 0), (707, 1, 4, 215, 188, 0), (709, 4, 188, 0, 0, 0), (711, 1, 4, 272, 189, 0), (713, 4, 189, 0, 0, 0), (727, 1, 4, 225, 177, 0), (728, 6, 177, 0, 0, 0), (730, 10, 4, 256, 0, 0), (732, 8, 4, 229, 7, 0), (737, 8, 4, 230, 8, 0), (738, 1, 4, 231, 191, 0), (745, 4, 91, 0, 0, 0), (753, 4, 92, 0, 0, 0), (755, 11, 4, 243, 3, 0), (774, 4, 100, 0, 0, 0), (786, 0, 5, 9, 5, 0), (787, 0, 5, 13, 5, 1), (788, 0, 5, 306, 5, 2), (789, 0, 5, 16, 5, 3), (790, 0, 5, 160, 5, 4), (791, 0, 5, 19, 5, 5), (792, 0, 5, 64, 5, 6), (793, 0, 5, 86, 5, 7), (794, 0, 5, 80, 5, 8), (795, 0, 5, 77, 5, 9), (796, 0, 5, 83, 5, 10), (797, 0, 5, 96, 5, 11), (798, 0, 5, 22, 5, 12), (799, 0, 5, 187, 5, 13), (800, 0, 5, 190, 5, 14), (801, 0, 5, 193, 5, 15), (802, 0, 5, 25, 5, 16), (803, 0, 5, 28, 5, 17), (804, 0, 5, 31, 5, 18), (805, 0, 5, 34, 5, 19), (806, 0, 5, 259, 5, 20), (807, 0, 5, 262, 5, 21), (808, 0, 5, 37, 5, 22), (809, 0, 5, 40, 5, 23), (810, 0, 5, 43, 5, 24), (811, 0, 5, 46, 5, 25), (812, 7, 5, 0, 0, 0), (814, 7, 5, 1, 0, 0), (816, 7, 5, 2, 0, 0), (818, 7, 5, 3, 0, 0), (820, 7, 5, 4, 0, 0), (822, 7, 5, 5, 0, 0), (824, 7, 5, 6, 0, 0), (826, 7, 5, 7, 0, 0), (828, 7, 5, 8, 0, 0), (830, 7, 5, 9, 0, 0), (832, 7, 5, 10, 0, 0), (834, 7, 5, 11, 0, 0), (836, 7, 5, 12, 0, 0), (838, 7, 5, 13, 0, 0), (840, 7, 5, 14, 0, 0), (842, 7, 5, 15, 0, 0), (844, 7, 5, 16, 0, 0), (846, 7, 5, 17, 0, 0), (848, 7, 5, 18, 0, 0), (850, 7, 5, 19, 0, 0), (852, 7, 5, 20, 0, 0), (854, 7, 5, 21, 0, 0), (856, 7, 5, 22, 0, 0), (858, 7, 5, 23, 0, 0), (860, 7, 5, 24, 0, 0), (862, 7, 5, 25, 0, 0), (865, 1, 6, 17, 9, 0), (866, 4, 9, 0, 0, 0), (867, 5, 9, 0, 0, 0), (869, 9, 5, 58, 0, 0), (870, 1, 5, 50, 2, 0), (871, 6, 2, 0, 0, 0), (873, 8, 5, 49, 9, 0), (874, 1, 5, 60, 1, 0), (876, 4, 1, 0, 0, 0), (878, 8, 5, 68, 10, 0), (879, 1, 6, 22, 10, 0), (880, 4, 10, 0, 0, 0), (881, 5, 10, 0, 0, 0), (883, 1, 6, 26, 20, 0), (884, 4, 20, 0, 0, 0)]
def mzAl3 : List (Nat × Nat × Nat × Nat × Nat × Nat) := [(885, 5, 20, 0, 0, 0), (887, 1, 5, 113, 13, 0), (889, 4, 13, 0, 0, 0), (891, 1, 5, 89, 12, 0), (892, 6, 12, 0, 0, 0), (894, 9, 5, 73, 3, 0), (895, 9, 5, 75, 4, 0), (896, 1, 5, 93, 11, 0), (897, 6, 11, 0, 0, 0), (899, 9, 5, 69, 1, 0), (900, 9, 5, 71, 2, 0), (901, 1, 5, 154, 19, 0), (903, 4, 19, 0, 0, 0), (905, 1, 5, 133, 16, 0), (907, 4, 16, 0, 0, 0), (910, 1, 5, 109, 14, 0), (912, 4, 14, 0, 0, 0), (914, 11, 5, 100, 4, 0), (915, 11, 5, 105, 5, 0), (916, 1, 5, 149, 6, 0), (918, 4, 6, 0, 0, 0), (921, 1, 5, 157, 18, 0), (923, 4, 18, 0, 0, 0), (925, 1, 5, 130, 17, 0), (927, 4, 17, 0, 0, 0), (937, 1, 5, 138, 15, 0), (939, 4, 15, 0, 0, 0), (945, 1, 6, 30, 22, 0), (946, 4, 22, 0, 0, 0), (947, 5, 22, 0, 0, 0), (949, 9, 5, 166, 5, 0), (950, 1, 5, 163, 5, 0), (952, 4, 5, 0, 0, 0), (954, 1, 5, 168, 21, 0), (956, 4, 21, 0, 0, 0), (958, 1, 6, 35, 25, 0), (959, 4, 25, 0, 0, 0), (960, 5, 25, 0, 0, 0), (962, 1, 5, 175, 23, 0), (964, 4, 23, 0, 0, 0), (966, 9, 5, 171, 6, 0), (967, 9, 5, 173, 7, 0), (968, 1, 5, 179, 24, 0), (970, 4, 24, 0, 0, 0), (972, 1, 6, 40, 26, 0), (973, 4, 26, 0, 0, 0), (974, 5, 26, 0, 0, 0), (976, 1, 6, 44, 28, 0), (977, 4, 28, 0, 0, 0), (978, 5, 28, 0, 0, 0), (980, 1, 5, 182, 27, 0), (982, 4, 27, 0, 0, 0), (984, 1, 6, 48, 29, 0), (985, 4, 29, 0, 0, 0), (986, 5, 29, 0, 0, 0), (988, 1, 6, 52, 30, 0), (989, 4, 30, 0, 0, 0), (990, 5, 30, 0, 0, 0), (992, 8, 5, 186, 11, 0), (993, 1, 6, 57, 31, 0), (994, 4, 31, 0, 0, 0), (995, 5, 31, 0, 0, 0), (997, 1, 6, 61, 41, 0), (998, 4, 41, 0, 0, 0), (999, 5, 41, 0, 0, 0), (1001, 9, 5, 223, 8, 0), (1002, 1, 5, 217, 39, 0), (1004, 4, 39, 0, 0, 0), (1006, 1, 5, 196, 3, 0), (1007, 6, 3, 0, 0, 0), (1009, 8, 5, 225, 12, 0), (1010, 1, 6, 65, 42, 0), (1011, 4, 42, 0, 0, 0), (1012, 5, 42, 0, 0, 0), (1014, 1, 6, 69, 43, 0), (1015, 4, 43, 0, 0, 0), (1016, 5, 43, 0, 0, 0), (1018, 1, 6, 73, 44, 0), (1019, 4, 44, 0, 0, 0), (1020, 5, 44, 0, 0, 0), (1022, 1, 5, 226, 40, 0), (1024, 4, 40, 0, 0, 0), (1026, 1, 5, 210, 32, 0), (1028, 4, 32, 0, 0, 0), (1030, 1, 5, 213, 33, 0), (1032, 4, 33, 0, 0, 0), (1034, 1, 5, 220, 38, 0), (1036, 4, 38, 0, 0, 0), (1038, 1, 5, 204, 37, 0), (1040, 4, 37, 0, 0, 0), (1042, 1, 5, 199, 34, 0), (1044, 4, 34, 0, 0, 0), (1046, 1, 5, 207, 36, 0), (1048, 4, 36, 0, 0, 0), (1050, 1, 5, 202, 35, 0), (1052, 4, 35, 0, 0, 0), (1054, 1, 6, 77, 45, 0), (1055, 4, 45, 0, 0, 0), (1056, 5, 45, 0, 0, 0), (1058, 1, 6, 81, 46, 0), (1059, 4, 46, 0, 0, 0), (1060, 5, 46, 0, 0, 0), (1062, 1, 6, 85, 47, 0), (1063, 4, 47, 0, 0, 0), (1064, 5, 47, 0, 0, 0), (1066, 1, 6, 89, 50, 0), (1067, 4, 50, 0, 0, 0), (1068, 5, 50, 0, 0, 0), (1070, 1, 5, 232, 8, 0), (1072, 4, 8, 0, 0, 0), (1074, 1, 5, 54, 7, 0), (1076, 4, 7, 0, 0, 0), (1078, 1, 5, 229, 48, 0), (1080, 4, 48, 0, 0, 0), (1082, 1, 6, 93, 53, 0), (1083, 4, 53, 0, 0, 0), (1084, 5, 53, 0, 0, 0), (1086, 1, 5, 235, 52, 0), (1088, 4, 52, 0, 0, 0), (1090, 1, 5, 238, 51, 0), (1092, 4, 51, 0, 0, 0), (1094, 1, 6, 97, 57, 0), (1095, 4, 57, 0, 0, 0), (1096, 5, 57, 0, 0, 0), (1098, 9, 5, 250, 9, 0), (1099, 1, 5, 252, 55, 0), (1101, 4, 55, 0, 0, 0), (1103, 1, 5, 241, 49, 0), (1105, 4, 49, 0, 0, 0), (1107, 1, 5, 244, 4, 0), (1108, 6, 4, 0, 0, 0), (1110, 1, 5, 247, 54, 0), (1112, 4, 54, 0, 0, 0), (1114, 1, 5, 255, 56, 0), (1116, 4, 56, 0, 0, 0), (1118, 1, 6, 101, 58, 0), (1119, 4, 58, 0, 0, 0), (1120, 5, 58, 0, 0, 0), (1122, 1, 6, 105, 59, 0), (1123, 4, 59, 0, 0, 0), (1124, 5, 59, 0, 0, 0), (1126, 9, 5, 257, 10, 0), (1127, 1, 6, 109, 60, 0), (1128, 4, 60, 0, 0, 0), (1129, 5, 60, 0, 0, 0), (1131, 1, 6, 113, 62, 0), (1132, 4, 62, 0, 0, 0), (1133, 5, 62, 0, 0, 0), (1135, 9, 5, 269, 11, 0), (1136, 1, 5, 265, 61, 0)]
def mzAl4 : List (Nat × Nat × Nat × Nat × Nat × Nat) := [(1138, 4, 61, 0, 0, 0), (1140, 1, 6, 117, 63, 0), (1141, 4, 63, 0, 0, 0), (1142, 5, 63, 0, 0, 0), (1144, 1, 6, 121, 67, 0), (1145, 4, 67, 0, 0, 0), (1146, 5, 67, 0, 0, 0), (1148, 1, 5, 271, 65, 0), (1150, 4, 65, 0, 0, 0), (1152, 1, 5, 274, 66, 0), (1154, 4, 66, 0, 0, 0), (1156, 1, 5, 277, 64, 0), (1158, 4, 64, 0, 0, 0), (1164, 1, 6, 125, 69, 0), (1165, 4, 69, 0, 0, 0), (1166, 5, 69, 0, 0, 0), (1176, 9, 5, 280, 12, 0), (1177, 8, 5, 282, 13, 0), (1186, 1, 5, 287, 73, 0), (1188, 4, 73, 0, 0, 0), (1190, 1, 5, 283, 74, 0), (1192, 4, 74, 0, 0, 0), (1198, 1, 5, 292, 76, 0), (1199, 6, 76, 0, 0, 0), (1201, 9, 5, 290, 13, 0), (1202, 8, 5, 295, 14, 0), (1203, 1, 5, 296, 77, 0), (1205, 4, 77, 0, 0, 0), (1219, 9, 5, 299, 14, 0), (1220, 1, 5, 301, 81, 0), (1221, 6, 81, 0, 0, 0), (1223, 8, 5, 304, 15, 0), (1228, 8, 5, 305, 16, 0), (1257, 9, 5, 309, 15, 0)]
def mzAll : List (Nat × Nat × Nat × Nat × Nat × Nat) := mzAl0 ++ mzAl1 ++ mzAl2 ++ mzAl3 ++ mzAl4
def mzAlN : List (Nat × Nat × Nat × Nat × Nat × Nat) := [(1, 0, 0, 40, 3, 0), (2, 0, 2, 42, 3, 0), (3, 0, 4, 70, 3, 0), (4, 0, 2, 67, 3, 1), (5, 0, 4, 97, 3, 1), (6, 0, 4, 109, 3, 2), (7, 0, 4, 85, 3, 3), (8, 0, 0, 72, 3, 3), (9, 0, 4, 195, 3, 4), (10, 0, 0, 49, 3, 5), (11, 0, 4, 77, 3, 5), (12, 0, 0, 46, 3, 6), (13, 0, 2, 76, 3, 6), (14, 0, 4, 94, 3, 6), (15, 0, 4, 112, 3, 7), (16, 0, 4, 115, 3, 8), (17, 0, 4, 222, 3, 9), (19, 0, 4, 127, 0, 6), (20, 0, 4, 121, 0, 7), (21, 0, 4, 124, 0, 8), (23, 0, 4, 54, 2, 1), (25, 0, 4, 210, 1, 0), (26, 0, 4, 214, 1, 1), (27, 0, 4, 219, 1, 2), (28, 1, 4, 59, 115, 0), (29, 1, 4, 63, 93, 0), (30, 1, 4, 66, 116, 0), (31, 1, 2, 82, 96, 0), (32, 1, 2, 54, 95, 0), (33, 2, 2, 61, 1, 0), (34, 2, 2, 64, 2, 0), (35, 1, 4, 81, 97, 0), (36, 1, 4, 100, 96, 0), (37, 1, 4, 105, 98, 0), (38, 1, 4, 139, 102, 0), (39, 1, 0, 62, 97, 0), (40, 1, 4, 145, 108, 0), (41, 1, 4, 133, 109, 0), (42, 1, 4, 130, 112, 0), (43, 1, 4, 148, 94, 0), (44, 1, 4, 142, 107, 0), (45, 1, 4, 164, 105, 0), (46, 1, 0, 65, 94, 0), (47, 1, 4, 175, 99, 0), (48, 1, 4, 181, 106, 0), (49, 1, 4, 178, 103, 0), (50, 1, 4, 184, 104, 0), (51, 1, 4, 263, 101, 0), (52, 1, 4, 237, 91, 0), (53, 1, 4, 240, 92, 0), (54, 1, 4, 253, 100, 0)]
def mzCol : List Nat := [1000, 1001, 1002, 191, 1003, 1004, 1005, 129, 173, 115, 130, 131, 93, 116, 119, 121, 122, 120, 1006, 118, 123, 124, 1007, 1008, 1009, 1010, 1011, 1012, 1013, 1014, 1015, 1016, 1017, 96, 117, 125, 127, 95, 126, 128, 132, 174, 97, 1018, 133, 134, 135, 136, 137, 138, 139, 98, 140, 141, 142, 178, 102, 103, 104, 108, 109, 114, 112, 113, 190, 110, 111, 143, 144, 145, 146, 175, 94, 107, 147, 148, 179, 105, 99, 106, 180, 149, 150, 151, 152, 181, 182, 183, 153, 154, 155, 156, 157, 184, 158, 185, 101, 159, 160, 187, 186, 161, 176, 188, 189, 162, 163, 164, 177, 165, 166, 91, 167, 92, 168, 169, 170, 171, 100, 172, 1019, 9, 2, 1, 10, 20, 13, 12, 11, 19, 16, 14, 6, 18, 17, 15, 22, 5, 21, 25, 23, 24, 26, 28, 27, 29, 30, 31, 41, 39, 3, 42, 43, 44, 40, 32, 33, 38, 37, 34, 36, 35, 45, 46, 47, 50, 8, 7, 48, 53, 52, 51, 57, 55, 49, 4, 54, 56, 58, 59, 60, 62, 61, 63, 67, 65, 66, 64, 68, 69, 70, 71, 72, 75, 73, 74, 78, 76, 77, 79, 80, 82, 81, 83, 84, 85, 86, 87, 88, 89, 90]
def mzCot : List Jvm.Cond := [.code ⟨"MeltPins", "<init>", "()V"⟩ prog_1_method_1_code 2 (Option.none : Option Jvm.ClassFile.FieldType), .code ⟨"java/lang/Object", "<init>", "()V"⟩ object_method_1_code 1 (Option.none : Option Jvm.ClassFile.FieldType), .code ⟨"MeltPins$World", "<init>", "()V"⟩ prog_5_method_1_code 1 (Option.none : Option Jvm.ClassFile.FieldType), .code ⟨"MeltPins$Melt", "<init>", "(LMeltPins$World;)V"⟩ prog_2_method_1_code 2 (Option.none : Option Jvm.ClassFile.FieldType), .code ⟨"MeltPins$Tape", "<init>", "()V"⟩ prog_4_method_1_code 1 (Option.none : Option Jvm.ClassFile.FieldType), .code ⟨"MeltPins$Sheet", "<init>", "()V"⟩ prog_3_method_1_code 1 (Option.none : Option Jvm.ClassFile.FieldType), .code ⟨"java/lang/Math", "min", "(II)I"⟩ prog_9_method_69_code 2 (Option.some Jvm.ClassFile.FieldType.int), .code ⟨"java/lang/String", "length", "()I"⟩ prog_10_method_54_code 1 (Option.some Jvm.ClassFile.FieldType.int), .code ⟨"java/lang/String", "coder", "()B"⟩ prog_10_method_152_code 1 (Option.some Jvm.ClassFile.FieldType.byte), .code ⟨"java/lang/String", "charAt", "(I)C"⟩ prog_10_method_56_code 2 (Option.some Jvm.ClassFile.FieldType.char), .code ⟨"java/lang/String", "isLatin1", "()Z"⟩ prog_10_method_154_code 1 (Option.some Jvm.ClassFile.FieldType.boolean), .code ⟨"java/lang/StringLatin1", "charAt", "([BI)C"⟩ prog_11_method_2_code 2 (Option.some Jvm.ClassFile.FieldType.char), .code ⟨"java/lang/String", "checkIndex", "(II)V"⟩ prog_10_method_155_code 2 (Option.none : Option Jvm.ClassFile.FieldType), .code ⟨"jdk/internal/util/Preconditions", "checkIndex", "(IILjava/util/function/BiFunction;)I"⟩ prog_15_method_11_code 3 (Option.some Jvm.ClassFile.FieldType.int), .code ⟨"java/lang/StringUTF16", "charAt", "([BI)C"⟩ prog_12_method_83_code 2 (Option.some Jvm.ClassFile.FieldType.char), .code ⟨"java/lang/StringUTF16", "checkIndex", "(I[B)V"⟩ prog_12_method_91_code 2 (Option.none : Option Jvm.ClassFile.FieldType), .code ⟨"java/lang/StringUTF16", "length", "([B)I"⟩ prog_12_method_6_code 1 (Option.some Jvm.ClassFile.FieldType.int), .code ⟨"java/lang/StringUTF16", "getChar", "([BI)C"⟩ prog_12_method_5_code 2 (Option.some Jvm.ClassFile.FieldType.char), .code ⟨"java/lang/Math", "max", "(II)I"⟩ prog_9_method_65_code 2 (Option.some Jvm.ClassFile.FieldType.int), .code ⟨"MeltPinsModel", "<init>", "()V"⟩ prog_7_method_1_code 2 (Option.none : Option Jvm.ClassFile.FieldType)]
def mzPL : List (Nat × Nat × Nat) := [(0, 52, 1), (2, 96, 2), (2, 102, 4), (2, 106, 5), (3, 51, 3), (3, 57, 1), (4, 202, 1), (4, 243, 3), (4, 269, 2), (5, 100, 4), (5, 105, 5)]
end
section
/-! THE MACHINE OF A FIXED MEMORY: numbers as Int, things by their numbers, the memory a function; a goal at an instruction is turned by computing -/
abbrev mzV : Type := Option (Int ⊕ (Int ⊕ (Nat ⊕ (Nat × Nat))))
abbrev mzI (x : Int) : mzV := some (.inl x)
abbrev mzL (x : Int) : mzV := some (.inr (.inl x))
abbrev mzR (k : Nat) : mzV := some (.inr (.inr (.inl k)))
abbrev mzP (b o : Nat) : mzV := some (.inr (.inr (.inr (b, o))))
abbrev mzM : Type := Nat → Nat → Int
abbrev mzO : Type := Nat × Instr × Int × Nat × Nat
/-- where things lie: the classes' numbers and slots; each thing's address; the classes of rows of numbers, of rows of those, of rows of sheets; the script -/
abbrev mzG : Type := va_G × (Nat → Nat) × ClassId × ClassId × ClassId × (Nat → Int) × Nat
def mzW (z : Int) : Int := (z + 2147483648) % 4294967296 - 2147483648
def mzX (z : Int) : Int := (z + 9223372036854775808) % 18446744073709551616 - 9223372036854775808
def mzAnd (x y : Int) : Int := (Int32.ofInt x &&& Int32.ofInt y).toInt
def mzOr (x y : Int) : Int := (Int32.ofInt x ||| Int32.ofInt y).toInt
def mzXor (x y : Int) : Int := (Int32.ofInt x ^^^ Int32.ofInt y).toInt
def mzShl (x y : Int) : Int := (Int32.ofInt x <<< (Int32.ofInt y &&& 31)).toInt
def mzShr (x y : Int) : Int := (Int32.ofInt x >>> (Int32.ofInt y &&& 31)).toInt
def mzUsh (x y : Int) : Int := (((Int32.ofInt x).toUInt32 >>> ((Int32.ofInt y).toUInt32 &&& Int32.toUInt32 31)).toInt32).toInt
def mzDiv (x y : Int) : Int := (Int32.ofInt x / Int32.ofInt y).toInt
def mzRem (x y : Int) : Int := (Int32.ofInt x - Int32.ofInt x / Int32.ofInt y * Int32.ofInt y).toInt
def mzB8 (x : Int) : Int := ((Int32.ofInt x).toInt8.toInt32).toInt
def mzB16 (x : Int) : Int := ((Int32.ofInt x).toInt16.toInt32).toInt
def mzMx (x y : Int) : Int := if x < y then y else x
def mzMn (x y : Int) : Int := if y < x then y else x
def mzCmp (x y : Int) : Int := if x < y then -1 else if x = y then 0 else 1
/-- the memory with one number put -/
def mzS (μ : mzM) (k j : Nat) (v : Int) : mzM := fun a b => if a = k ∧ b = j then v else μ a b
/-- the memory with n numbers of thing a from i on put into thing b from j on -/
def mzCp (μ : mzM) (a i b j n : Nat) : mzM := fun k q => if k = b ∧ j ≤ q ∧ q < j + n then μ a (i + (q - j)) else μ k q
def mzSh (k : Nat) : Nat × Nat × Nat := mzShape.getD k (9, 0, 0)
def mzFind : List (Nat × Nat × Nat × Nat) → Nat → Nat × Nat × Nat
  | [], _ => (0, 9, 0)
  | (k, v) :: r, b => match Nat.beq k b with
    | true => v
    | false => mzFind r b
def mzPq (b : Nat) : Nat × Nat × Nat := mzFind mzPools b
def mzRf (ci j k : Nat) : Nat := match (mzRfT.getD ci []).getD j (0, 0) with
  | (0, _) => 0
  | (1, v) => v
  | (_, v) => k + v
def mzCst (k j : Nat) : Int := (mzCstT.getD (k - 200) []).getD j 0
def mzCsl (k : Nat) : Nat := (mzCstT.getD (k - 200) []).length
def mzSl (o : Nat) : Int := ((mzStrT.getD o []).length : Int)
def mzSc (o j : Nat) : Int := (mzStrT.getD o []).getD j 0
def mzCc (c : Nat) : Nat := match Nat.ble 100 c with
  | true => c - 100
  | false => c
def mzIsO (k ci : Nat) : Bool := match mzSh k with
  | (1, c, _) => Nat.beq c ci
  | _ => false
def mzGt (L : List mzV) (k : Nat) : mzV := L.getD k none
def mzKill (L : List mzV) : Nat → List mzV
  | 0 => L
  | j + 1 => match L.getD j none with
    | some (.inr (.inl _)) => L.set j none
    | _ => L
def mzPut (L : List mzV) (k : Nat) (v : mzV) : List mzV := (mzKill L k).set k v
def mzPut2 (L : List mzV) (k : Nat) (v : mzV) : List mzV := ((mzKill L k).set k v).set (k + 1) none
def mzC1 (v : mzV) : Bool := match v with
  | some (.inr (.inl _)) => false
  | some _ => true
  | none => false
/-- how many words a stack takes -/
def mzSz : List mzV → Nat
  | [] => 0
  | some (.inr (.inl _)) :: r => mzSz r + 2
  | _ :: r => mzSz r + 1
/-- a row of numbers that may be written: its number and its places -/
def mzArr (v : mzV) (f : Nat → Nat → Prop) : Prop := match v with
  | some (.inr (.inr (.inl k))) => (match mzSh k with
    | (0, n, _) => f k n
    | _ => False)
  | some (.inr (.inr (.inr (p, o)))) => (match mzPq p with
    | (cnt, 0, n) => o < cnt ∧ f (p + o) n
    | _ => False)
  | _ => False
/-- one instruction without branch or call -/
def mz1 (i : Instr) (a : Int) (b c y : Nat) (K : List mzV → List mzV → mzM → Prop) (L S : List mzV) (μ : mzM) : Prop :=
  match i with
  | .iconst n => K L (mzI n :: S) μ
  | .bipush n => K L (mzI n :: S) μ
  | .sipush n => K L (mzI n :: S) μ
  | .ldc _ => (match c with
    | 0 => K L (mzI a :: S) μ
    | _ => K L (mzP 300 b :: S) μ)
  | .ldc_w _ => K L (mzI a :: S) μ
  | .ldc2_w _ => K L (mzL a :: S) μ
  | .lconst n => K L (mzL ((n : Nat) : Int) :: S) μ
  | .iload k => (match mzGt L k with
    | some (.inl x) => K L (mzI x :: S) μ
    | _ => False)
  | .iload_n k => (match mzGt L k.val with
    | some (.inl x) => K L (mzI x :: S) μ
    | _ => False)
  | .lload k => (match mzGt L k with
    | some (.inr (.inl x)) => K L (mzL x :: S) μ
    | _ => False)
  | .lload_n k => (match mzGt L k.val with
    | some (.inr (.inl x)) => K L (mzL x :: S) μ
    | _ => False)
  | .aload k => (match mzGt L k with
    | some (.inr (.inr v)) => K L (some (.inr (.inr v)) :: S) μ
    | _ => False)
  | .aload_n k => (match mzGt L k.val with
    | some (.inr (.inr v)) => K L (some (.inr (.inr v)) :: S) μ
    | _ => False)
  | .istore k => (match S with
    | some (.inl x) :: S' => K (mzPut L k (mzI x)) S' μ
    | _ => False)
  | .istore_n k => (match S with
    | some (.inl x) :: S' => K (mzPut L k.val (mzI x)) S' μ
    | _ => False)
  | .lstore k => (match S with
    | some (.inr (.inl x)) :: S' => K (mzPut2 L k (mzL x)) S' μ
    | _ => False)
  | .lstore_n k => (match S with
    | some (.inr (.inl x)) :: S' => K (mzPut2 L k.val (mzL x)) S' μ
    | _ => False)
  | .astore k => (match S with
    | some (.inr (.inr v)) :: S' => K (mzPut L k (some (.inr (.inr v)))) S' μ
    | _ => False)
  | .astore_n k => (match S with
    | some (.inr (.inr v)) :: S' => K (mzPut L k.val (some (.inr (.inr v)))) S' μ
    | _ => False)
  | .iinc k n => (match mzGt L k with
    | some (.inl x) => K (mzPut L k (mzI (mzW (x + n)))) S μ
    | _ => False)
  | .iadd => (match S with
    | some (.inl v) :: some (.inl u) :: S' => K L (mzI (mzW (u + v)) :: S') μ
    | _ => False)
  | .isub => (match S with
    | some (.inl v) :: some (.inl u) :: S' => K L (mzI (mzW (u - v)) :: S') μ
    | _ => False)
  | .imul => (match S with
    | some (.inl v) :: some (.inl u) :: S' => K L (mzI (mzW (u * v)) :: S') μ
    | _ => False)
  | .iand => (match S with
    | some (.inl v) :: some (.inl u) :: S' => K L (mzI (mzAnd u v) :: S') μ
    | _ => False)
  | .ior => (match S with
    | some (.inl v) :: some (.inl u) :: S' => K L (mzI (mzOr u v) :: S') μ
    | _ => False)
  | .ixor => (match S with
    | some (.inl v) :: some (.inl u) :: S' => K L (mzI (mzXor u v) :: S') μ
    | _ => False)
  | .ishl => (match S with
    | some (.inl v) :: some (.inl u) :: S' => K L (mzI (mzShl u v) :: S') μ
    | _ => False)
  | .ishr => (match S with
    | some (.inl v) :: some (.inl u) :: S' => K L (mzI (mzShr u v) :: S') μ
    | _ => False)
  | .iushr => (match S with
    | some (.inl v) :: some (.inl u) :: S' => K L (mzI (mzUsh u v) :: S') μ
    | _ => False)
  | .idiv => (match S with
    | some (.inl v) :: some (.inl u) :: S' => v ≠ 0 ∧ K L (mzI (mzDiv u v) :: S') μ
    | _ => False)
  | .irem => (match S with
    | some (.inl v) :: some (.inl u) :: S' => v ≠ 0 ∧ K L (mzI (mzRem u v) :: S') μ
    | _ => False)
  | .ladd => (match S with
    | some (.inr (.inl v)) :: some (.inr (.inl u)) :: S' => K L (mzL (mzX (u + v)) :: S') μ
    | _ => False)
  | .lmul => (match S with
    | some (.inr (.inl v)) :: some (.inr (.inl u)) :: S' => K L (mzL (mzX (u * v)) :: S') μ
    | _ => False)
  | .lcmp => (match S with
    | some (.inr (.inl v)) :: some (.inr (.inl u)) :: S' => K L (mzI (mzCmp u v) :: S') μ
    | _ => False)
  | .i2l => (match S with
    | some (.inl u) :: S' => K L (mzL u :: S') μ
    | _ => False)
  | .i2b => (match S with
    | some (.inl u) :: S' => K L (mzI (mzB8 u) :: S') μ
    | _ => False)
  | .i2s => (match S with
    | some (.inl u) :: S' => K L (mzI (mzB16 u) :: S') μ
    | _ => False)
  | .dup => (match S with
    | v :: S' => (match mzC1 v with
      | true => K L (v :: v :: S') μ
      | false => False)
    | _ => False)
  | .dup2 => (match S with
    | v :: w :: S' => (match mzC1 v && mzC1 w with
      | true => K L (v :: w :: v :: w :: S') μ
      | false => False)
    | _ => False)
  | .pop => (match S with
    | v :: S' => (match mzC1 v with
      | true => K L S' μ
      | false => False)
    | _ => False)
  | .pop2 => (match S with
    | some (.inr (.inl _)) :: S' => K L S' μ
    | _ => False)
  | .getfield _ => (match S with
    | some (.inr (.inr (.inl k))) :: S' => (match mzIsO k (mzCc c) with
      | true => (match mzRf (mzCc c) b k with
        | 0 => K L (mzI (μ k b) :: S') μ
        | t + 1 => K L (mzR (t + 1) :: S') μ)
      | false => False)
    | some (.inr (.inr (.inr (p, o)))) :: S' => (match mzPq p with
      | (cnt, 1, ci) => (match Nat.beq ci (mzCc c) with
        | true => o < cnt ∧ (match mzRf (mzCc c) b 0 with
          | 0 => K L (mzI (μ (p + o) b) :: S') μ
          | t + 1 => K L (mzP (p + (t + 1)) o :: S') μ)
        | false => False)
      | _ => False)
    | _ => False)
  | .putfield _ => (match S with
    | some (.inl x) :: some (.inr (.inr (.inl k))) :: S' => (match mzIsO k (mzCc c) && Nat.beq (mzRf (mzCc c) b k) 0 with
      | true => (match Nat.ble 100 c with
        | true => (x = 0 ∨ x = 1) ∧ K L S' (mzS μ k b x)
        | false => K L S' (mzS μ k b x))
      | false => False)
    | some (.inl x) :: some (.inr (.inr (.inr (p, o)))) :: S' => (match mzPq p with
      | (cnt, 1, ci) => (match Nat.beq ci c && Nat.beq (mzRf c b 0) 0 with
        | true => o < cnt ∧ K L S' (mzS μ (p + o) b x)
        | false => False)
      | _ => False)
    | _ => False)
  | .getstatic _ => K L (mzR (200 + b) :: S) μ
  | .iaload => (match S with
    | some (.inl i) :: some (.inr (.inr (.inl k))) :: S' => (match Nat.ble 148 k with
      | true => (match Nat.beq k 148 && Nat.beq y 0 with
        | true => (0 ≤ i ∧ i < μ 149 0) ∧ K L (mzI (μ 148 i.toNat) :: S') μ
        | false => (match Nat.ble 200 k && Nat.ble k 202 with
          | true => (0 ≤ i ∧ i < (mzCsl k : Int)) ∧ K L (mzI (mzCst k i.toNat) :: S') μ
          | false => False))
      | false => (match mzSh k with
        | (0, n, _) => (0 ≤ i ∧ i < (n : Int)) ∧ K L (mzI (μ k i.toNat) :: S') μ
        | _ => False))
    | some (.inl i) :: some (.inr (.inr (.inr (p, o)))) :: S' => (match mzPq p with
      | (cnt, 0, n) => (o < cnt ∧ 0 ≤ i ∧ i < (n : Int)) ∧ K L (mzI (μ (p + o) i.toNat) :: S') μ
      | _ => False)
    | _ => False)
  | .iastore => (match S with
    | some (.inl x) :: some (.inl i) :: some (.inr (.inr (.inl k))) :: S' => (match mzSh k with
      | (0, n, _) => (0 ≤ i ∧ i < (n : Int)) ∧ K L S' (mzS μ k i.toNat x)
      | _ => False)
    | some (.inl x) :: some (.inl i) :: some (.inr (.inr (.inr (p, o)))) :: S' => (match mzPq p with
      | (cnt, 0, n) => (o < cnt ∧ 0 ≤ i ∧ i < (n : Int)) ∧ K L S' (mzS μ (p + o) i.toNat x)
      | _ => False)
    | _ => False)
  | .aaload => (match S with
    | some (.inl i) :: some (.inr (.inr (.inl k))) :: S' => (match mzSh k with
      | (2, n, f) => (0 ≤ i ∧ i < (n : Int)) ∧ K L (mzP f i.toNat :: S') μ
      | (3, n, f) => (0 ≤ i ∧ i < (n : Int)) ∧ K L (mzP f i.toNat :: S') μ
      | _ => False)
    | _ => False)
  | .arraylength => (match S with
    | some (.inr (.inr (.inl k))) :: S' => (match Nat.beq k 148 && Nat.beq y 0 with
      | true => K L (mzI (μ 149 0) :: S') μ
      | false => (match mzSh k with
        | (0, n, _) => K L (mzI (n : Int) :: S') μ
        | _ => False))
    | some (.inr (.inr (.inr (p, o)))) :: S' => (match mzPq p with
      | (cnt, 0, n) => o < cnt ∧ K L (mzI (n : Int) :: S') μ
      | _ => False)
    | _ => False)
  | _ => False
def mzIf (q : Jvm.ClassFile.Cond) (x v : Int) (T F : Prop) : Prop := match q with
  | .eq => (x = v → T) ∧ (x ≠ v → F)
  | .ne => (x ≠ v → T) ∧ (x = v → F)
  | .lt => (x < v → T) ∧ (v ≤ x → F)
  | .ge => (v ≤ x → T) ∧ (x < v → F)
  | .gt => (v < x → T) ∧ (x ≤ v → F)
  | .le => (x ≤ v → T) ∧ (v < x → F)
def mzTs (pc : Nat) : List Int → Int → Int → (Nat → Prop) → Prop
  | [], _, _, _ => True
  | o :: r, lo, x, k => (x = lo → k ((pc : Int) + o).toNat) ∧ mzTs pc r (lo + 1) x k
def mzLs (pc : Nat) : List (Int × Int) → Int → (Nat → Prop) → Prop → Prop
  | [], _, _, D => D
  | (q, o) :: r, x, k, D => (x = q → k ((pc : Int) + o).toNat) ∧ (x ≠ q → mzLs pc r x k D)
/-- where a road is cut: the place, and which of the frame's numbers are needed behind it -/
def mzIn : Nat → List (Nat × List Bool) → Option (List Bool)
  | _, [] => none
  | a, (b, k) :: r => match Nat.beq a b with
    | true => some k
    | false => mzIn a r
def mzMask : List Bool → List mzV → List mzV
  | true :: bs, v :: r => v :: mzMask bs r
  | false :: bs, _ :: r => none :: mzMask bs r
  | [], r => r
  | _ :: _, [] => []
def mzDr : List mzO → Nat → List mzO
  | [], _ => []
  | e :: r, t => match Nat.beq e.1 t with
    | true => e :: r
    | false => mzDr r t
-- the methods' table, by number
def mzTq (y : Nat) : MethodName × ByteArray × Nat × Option FieldType × Nat := (mzTab.getD (y / 16) []).getD (y % 16) (⟨"", "", ""⟩, ⟨#[]⟩, 0, none, 0)
def mzYn (y : Nat) : MethodName := (mzTq y).1
def mzBy (y : Nat) : ByteArray := (mzTq y).2.1
def mzNl (y : Nat) : Nat := (mzTq y).2.2.1
def mzRt (y : Nat) : Option FieldType := (mzTq y).2.2.2.1
def mzOw (y : Nat) : Nat := (mzTq y).2.2.2.2
def mzNo (o : Nat) : String := mzNm.getD o ""
def mzRk (y : Nat) : Nat := match mzRt y with
  | none => 0
  | some .int => 1
  | some .boolean => 1
  | some .long => 2
  | some _ => 3
def mzQi (q : Int → mzM → Prop) (v : mzV) (μ : mzM) : Prop := match v with
  | some (.inl x) => q x μ
  | _ => False
def mzQj (q : Int → mzM → Prop) (v : mzV) (μ : mzM) : Prop := match v with
  | some (.inr (.inl x)) => q x μ
  | _ => False
def mzQr (q : Nat → Nat → mzM → Prop) (v : mzV) (μ : mzM) : Prop := match v with
  | some (.inr (.inr (.inr (p, o)))) => q p o μ
  | _ => False
def mzQv (q : mzM → Prop) (_ : mzV) (μ : mzM) : Prop := q μ
/-- the places with which a method begins -/
def mzLay : List mzV → List mzV
  | [] => []
  | some (.inr (.inl x)) :: r => mzL x :: none :: mzLay r
  | v :: r => v :: mzLay r
def mzEn (n : Nat) (as : List mzV) : List mzV := mzLay as ++ List.replicate (n - (mzLay as).length) none
-- the words
def mzTb : List Jvm.Cond := lw_tbl.filter goodWord
def mzNest : List Jvm.Cond := tables_1.filter fun w => match w with
  | .fieldLinkNest .. => true
  | .methodLinkNest .. => true
  | _ => false
def mzWs (y : Nat) : List Jvm.Cond := .code (mzYn y) (mzBy y) (mzNl y) (mzRt y) :: mzTb
def mzAd (G : mzG) (k : Nat) : Nat := G.2.1 k
def mzC (G : mzG) (v : mzV) : Value := match v with
  | some (.inl x) => .int (Int32.ofInt x)
  | some (.inr (.inl x)) => .long (Int64.ofInt x)
  | some (.inr (.inr (.inl k))) => .ref (mzAd G k)
  | some (.inr (.inr (.inr (p, o)))) => .ref (mzAd G (p + o))
  | none => .null
/-- numbers in their bounds -/
def mzK (v : mzV) : Prop := match v with
  | some (.inl x) => -2147483648 ≤ x ∧ x < 2147483648
  | some (.inr (.inl x)) => -9223372036854775808 ≤ x ∧ x < 9223372036854775808
  | _ => True
def mzNf (ci : Nat) : Nat := (mzRfT.getD ci []).length
def mzFv (G : mzG) (μ : mzM) (ci k j : Nat) : Value := match mzRf ci j k with
  | 0 => .int (Int32.ofInt (μ k j))
  | t + 1 => .ref (mzAd G (t + 1))
def mzRow (G : mzG) (n f : Nat) : Nat → Option Nat := fun i => if i < n then some (mzAd G (f + i)) else none
def mzEnt (G : mzG) (μ : mzM) (k : Nat) : va_E := match mzSh k with
  | (0, n, _) => .inl (G.2.2.1, n, .inl (fun j => Int32.ofInt (μ k j)))
  | (1, ci, _) => .inr (ci, (List.range (mzNf ci)).map (mzFv G μ ci k))
  | (2, n, f) => .inl (G.2.2.2.1, n, .inr (.inr (.inr (.inr (mzRow G n f)))))
  | (_, n, f) => .inl (G.2.2.2.2.1, n, .inr (.inr (.inr (.inr (mzRow G n f)))))
def mzWo (G : mzG) (μ : mzM) : va_W := (List.range 148).map (fun k => (mzAd G k, mzEnt G μ k))
def mzTys (G : mzG) : List (ClassId × FieldType) := [(G.2.2.1, .int), (G.2.2.2.1, .array .int), (G.2.2.2.2.1, .object "MeltPins$Sheet")]
def mzA (G : mzG) : Nat → Prop := fun q => ∃ k, k < 148 ∧ q = mzAd G k
def mzSt (G : mzG) (H : Heap) (μ : mzM) : Prop := va_P G.1 mzCls (mzWo G μ) H ∧ (∀ k j, -2147483648 ≤ μ k j ∧ μ k j < 2147483648) ∧ (∀ j, μ 148 j = G.2.2.2.2.2.1 j) ∧ μ 149 0 = (G.2.2.2.2.2.2 : Int)
def mzInj (G : mzG) : Prop := ∀ i j, i < 148 → j < 148 → mzAd G i = mzAd G j → i = j
def mzScr (G : mzG) (s : State) : Prop := va_X (mzAd G 148) G.2.2.2.2.2.2 (fun j => Int32.ofInt (G.2.2.2.2.2.1 j)) s s.heap ∧ mzAd G 148 < s.heap.size ∧ ¬ mzA G (mzAd G 148)
def mzStat (k : Nat) : String := ["KIND_ABOVE", "LEAST", "GREATEST"].getD k ""
/-- what holds of the tables and of what is there from the start, in every method -/
def mzAmb (G : mzG) (U : State) : Prop := (∀ w ∈ mzNest, va_Nw w U) ∧ va_K G.1 mzCls (mzTys G) U ∧
  (∀ k, k < 3 → va_Z "MeltPins" (mzStat k) "[I" (.ref (mzAd G (200 + k))) (mzA G) U U.heap ∧ va_T .int (mzAd G (200 + k)) (mzCsl (200 + k)) (fun j => .int (Int32.ofInt (mzCst (200 + k) j))) (mzA G) U U.heap) ∧
  (∀ q ∈ mzSL, vk_R (mzNo q.1) q.2.1 (mzStrS.getD q.2.2 "") (mzAd G (300 + q.2.2)) U) ∧
  vk_S 14 (mzStrT.map List.length) (mzStrT.map (List.map Int32.ofInt)) (fun i => mzAd G (300 + i)) (fun i => mzAd G (320 + i)) (mzA G) U U.heap ∧
  va_Z "java/lang/String" "COMPACT_STRINGS" "Z" (.int 1) (mzA G) U U.heap
def mzRm (d : Nat) : Room := { frames := d, cells := 0, slots := 0, locals := 64 * d }
def mzCx (G : mzG) (p : Program) (R : Room) (s : State) (m : MethodId) (args : Array Value) (meth : Method) (c : Code) (y d cells slots : Nat) : Prop :=
  p.tables.exec = Jvm.exec ∧ c.code = mzBy y ∧ c.maxLocals = mzNl y ∧ meth.sig.returnType = mzRt y ∧ meth.locks = false ∧ s.vm.findClass (mzNo (mzOw y)) = some m.cls ∧ (∀ w ∈ mzTb, w.before args s = true) ∧ mzAmb G s ∧ mzInj G ∧
  (cells ≤ R.cells ∧ slots ≤ R.slots) ∧ (d ≤ R.frames ∧ 64 * d ≤ R.locals) ∧ (y = 0 → mzScr G s)
def mzFr (G : mzG) (y : Nat) (ls : Array Slot) (L : List mzV) : Prop := ls.size = mzNl y ∧ lv_wf ls ∧ L.length = mzNl y ∧ ∀ (i : Nat) (v : Int ⊕ (Int ⊕ (Nat ⊕ (Nat × Nat)))), L[i]? = some (some v) → ls[i]? = some (Slot.val (mzC G (some v))) ∧ mzK (some v)
def mzSk (S : List mzV) : Prop := ∀ v ∈ S, v ≠ none ∧ mzK v
section MZ
variable (G : mzG) (p : Program) (l : Launch) (e : Env) (R : Room) (s : State) (m : MethodId) (args : Array Value) (below : List Frame) (meth : Method) (c : Code) (cells slots : Nat) (Z : State → Prop)
/-- from every heap that holds the memory, every frame that holds the places, the machine comes to Z -/
def mzGo (y pc : Nat) (L S : List mzV) (μ : mzM) : Prop := ∀ (H : Heap) (locs : List Loc) (ls : Array Slot), mzSt G H μ → va_S (mzA G) s.heap H locs → mzFr G y ls L → mzSk S → W p l e R s m args below meth c H locs cells slots Z (F0 m pc ls (S.map (mzC G)))
end MZ
def mzTyp (r : Option FieldType) (v : mzV) : Prop := match r with
  | none => v = none
  | some .int => ∃ x, v = mzI x
  | some .boolean => v = mzI 0 ∨ v = mzI 1
  | some .long => ∃ x, v = mzL x
  | some _ => ∃ p o, v = mzP p o
def mzRi (r : Option FieldType) : Instr := match r with
  | none => .return_
  | some .int => .ireturn
  | some .boolean => .ireturn
  | some .long => .lreturn
  | some _ => .areturn
def mzRs (G : mzG) (v : mzV) : List Value := match v with
  | none => []
  | some w => [mzC G (some w)]
/-- a method's frame: the machine goes from here to its end with v and a memory that Q holds of -/
def mzWp (d y pc : Nat) (L S : List mzV) (μ : mzM) (Q : mzV → mzM → Prop) : Prop :=
  ∀ (G : mzG) (p : Program) (l : Launch) (e : Env) (R : Room) (s : State) (m : MethodId) (args : Array Value) (below : List Frame) (meth : Method) (c : Code) (cells slots : Nat) (Z : State → Prop), mzCx G p R s m args meth c y d cells slots →
    (∀ (v : mzV) (μ' : mzM) (H' : Heap) (locs' : List Loc) (ls' : Array Slot) (pc' : Nat), Q v μ' → mzTyp (mzRt y) v → mzK v → mzSt G H' μ' → va_S (mzA G) s.heap H' locs' → decode (mzBy y) pc' = .ok (mzRi (mzRt y), 1) → W p l e R s m args below meth c H' locs' cells slots Z (F0 m pc' ls' (mzRs G v))) →
    mzGo G p l e R s m args below meth c cells slots Z y pc L S μ
/-- a call of method y, from its entry -/
def mzCl (d y : Nat) (as : List mzV) (μ : mzM) (Q : mzV → mzM → Prop) : Prop := mzWp d y 0 (mzEn (mzNl y) as) [] μ Q
/-- the receiver is an object of the method's class -/
def mzRc (ci : Nat) (v : mzV) (P : Prop) : Prop := match v with
  | some (.inr (.inr (.inl k))) => (match mzIsO k ci with
    | true => P
    | false => False)
  | some (.inr (.inr (.inr (p, o)))) => (match mzPq p with
    | (cnt, 1, c) => (match Nat.beq c ci with
      | true => o < cnt ∧ P
      | false => False)
    | _ => False)
  | _ => False
/-- a call, by what comes back -/
def mzRp (b : Nat) : Nat := match mzRt b with
  | some (.array _) => 76
  | _ => 300
def mzCall (d b : Nat) (as : List mzV) (μ : mzM) (K : mzV → mzM → Prop) : Prop := match mzRk b with
  | 0 => mzCl d b as μ (mzQv (fun μ' => K none μ'))
  | 1 => mzCl d b as μ (mzQi (fun x μ' => K (mzI x) μ'))
  | 2 => mzCl d b as μ (mzQj (fun x μ' => K (mzL x) μ'))
  | _ => mzCl d b as μ (mzQr (fun p o μ' => p = mzRp b ∧ K (mzP (mzRp b) o) μ'))
def mzPu (v : mzV) (S : List mzV) : List mzV := match v with
  | none => S
  | some w => some w :: S
/-- members of the library that are taken by the kit's own rows -/
def mzPr (c : Nat) (K : List mzV → List mzV → mzM → Prop) (L S : List mzV) (μ : mzM) : Prop := match c with
  | 1 => (match S with
    | some (.inl v) :: some (.inl u) :: S' => (match Nat.ble (mzSz S') 8 with
      | true => K L (mzI (mzMx u v) :: S') μ
      | false => False)
    | _ => False)
  | 2 => (match S with
    | some (.inl v) :: some (.inl u) :: S' => (match Nat.ble (mzSz S') 8 with
      | true => K L (mzI (mzMn u v) :: S') μ
      | false => False)
    | _ => False)
  | 3 => (match S with
    | some (.inl n) :: some (.inl j) :: w :: some (.inl i) :: u :: S' => (match Nat.ble (mzSz S') 8 with
      | true => mzArr u (fun ka na => mzArr w (fun kb nb => (0 ≤ i ∧ 0 ≤ j ∧ 0 ≤ n ∧ i + n ≤ (na : Int) ∧ j + n ≤ (nb : Int)) ∧ K L S' (mzCp μ ka i.toNat kb j.toNat n.toNat)))
      | false => False)
    | _ => False)
  | 4 => (match S with
    | some (.inr (.inr (.inr (300, o)))) :: S' => (match Nat.ble (mzSz S') 8 with
      | true => o < 14 ∧ K L (mzI (mzSl o) :: S') μ
      | false => False)
    | _ => False)
  | 5 => (match S with
    | some (.inl i) :: some (.inr (.inr (.inr (300, o)))) :: S' => (match Nat.ble (mzSz S') 8 with
      | true => (o < 14 ∧ 0 ≤ i ∧ i < mzSl o) ∧ K L (mzI (mzSc o i.toNat) :: S') μ
      | false => False)
    | _ => False)
  | _ => False
def mzInv (d : Nat) (st : Bool) (b c : Nat) (K : List mzV → List mzV → mzM → Prop) (L S : List mzV) (μ : mzM) : Prop := match d with
  | 0 => False
  | d + 1 => (match b with
    | 0 => mzPr c K L S μ
    | _ => (match Nat.ble (mzSz (S.drop c)) 8 && (Nat.ble c S.length && Nat.ble (mzLay (S.take c).reverse).length (mzNl b)) with
      | true => (match st with
        | true => mzCall d b (S.take c).reverse μ (fun v μ' => K L (mzPu v (S.drop c)) μ')
        | false => mzRc (mzOw b) ((S.take c).reverse.headD none) (mzCall d b (S.take c).reverse μ (fun v μ' => K L (mzPu v (S.drop c)) μ')))
      | false => False))
/-- one instruction, V what comes behind it -/
def mzStp (d y : Nat) (cd : List mzO) (Q : mzV → mzM → Prop) (V : List mzO → List mzV → List mzV → mzM → Prop) (pc : Nat) (i : Instr) (a : Int) (b c : Nat) (r : List mzO) (L S : List mzV) (μ : mzM) : Prop := match i with
  | .goto _ => V (mzDr cd b) L S μ
  | .ifCond q _ => (match S with
    | some (.inl x) :: S' => mzIf q x 0 (V (mzDr cd b) L S' μ) (V r L S' μ)
    | _ => False)
  | .if_icmp q _ => (match S with
    | some (.inl v) :: some (.inl x) :: S' => mzIf q x v (V (mzDr cd b) L S' μ) (V r L S' μ)
    | _ => False)
  | .tableswitch dflt lo hi offs => (match S with
    | some (.inl x) :: S' => mzTs pc offs.toList lo x (fun t => V (mzDr cd t) L S' μ) ∧ ((x < lo ∨ hi < x) → V (mzDr cd ((pc : Int) + dflt).toNat) L S' μ)
    | _ => False)
  | .lookupswitch dflt ps => (match S with
    | some (.inl x) :: S' => mzLs pc ps.toList x (fun t => V (mzDr cd t) L S' μ) (V (mzDr cd ((pc : Int) + dflt).toNat) L S' μ)
    | _ => False)
  | .ireturn => (match S with
    | [some (.inl x)] => (match c with
      | 0 => Q (mzI x) μ
      | _ => (x = 0 ∨ x = 1) ∧ Q (mzI x) μ)
    | _ => False)
  | .lreturn => (match S with
    | [some (.inr (.inl x))] => Q (mzL x) μ
    | _ => False)
  | .areturn => (match S with
    | [some (.inr (.inr (.inr (p, o))))] => Q (mzP p o) μ
    | _ => False)
  | .return_ => (match S with
    | [] => Q none μ
    | _ => False)
  | .invokevirtual _ => mzInv d false b c (fun L S μ => V r L S μ) L S μ
  | .invokestatic _ => mzInv d true b c (fun L S μ => V r L S μ) L S μ
  | i => mz1 i a b c y (fun L S μ => V r L S μ) L S μ
def mzVc (d y : Nat) (cd : List mzO) (Q : mzV → mzM → Prop) (cuts : List (Nat × List Bool)) : Nat → List mzO → List mzV → List mzV → mzM → Prop
  | 0, _, _, _, _ => False
  | n + 1, r, L, S, μ => match r with
    | [] => False
    | (pc, i, a, b, c) :: r' => match mzIn pc cuts with
      | some k => mzWp d y pc (mzMask k L) S μ Q
      | none => mzStp d y cd Q (mzVc d y cd Q cuts n) pc i a b c r' L S μ
/-- from an instruction on, that one whether it is a cut or not -/
def mzVg (d y : Nat) (cd : List mzO) (Q : mzV → mzM → Prop) (cuts : List (Nat × List Bool)) (n pc : Nat) (L S : List mzV) (μ : mzM) : Prop := match mzDr cd pc with
  | [] => False
  | (pc, i, a, b, c) :: r' => mzStp d y cd Q (mzVc d y cd Q cuts n) pc i a b c r' L S μ
end
section
/-! the words: each by its place in the tables, looked at once -/
def mzFq (ci j : Nat) : String × String × String × Bool := (mzCls.getD ci ("", fun _ => ("", "", "", false), 0)).2.1 j
def mzPn (c : Nat) : MethodName := match c with
  | 1 => Lib.Math.max.name
  | 2 => Lib.Math.min.name
  | 3 => arraycopyName
  | 4 => ⟨"java/lang/String", "length", "()I"⟩
  | _ => ⟨"java/lang/String", "charAt", "(I)C"⟩
def mzWd (k a b c d : Nat) : Jvm.Cond := match k with
  | 0 => .fieldLink (mzNo a) b (mzNo c) (mzFq c d).2.1 (mzFq c d).2.2.1
  | 1 => .methodLink (mzNo a) b (mzYn c)
  | 2 => .code (mzYn a) (mzBy a) (mzNl a) (mzRt a)
  | 3 => .initialized (mzNo a)
  | 4 => .instanceMethod (mzYn a)
  | 5 => .selects (mzYn a).cls (mzYn a) (mzYn a)
  | 6 => .static (mzYn a)
  | 7 => u_lay (mzNo a) (mzFq a) b
  | 8 => .constant (mzNo a) b (Int32.ofInt ((mzCL.getD c (0, 0, 0)).2.2))
  | 9 => .constantLong (mzNo a) b (Int64.ofInt ((mzJL.getD c (0, 0, 0)).2.2))
  | 10 => .fieldLink (mzNo a) b "MeltPins" (mzStat c) "[I"
  | 11 => .methodLink (mzNo a) b (mzPn c)
  | _ => (match a with
    | 0 => .static Lib.Math.max.name
    | 1 => .static Lib.Math.min.name
    | 2 => .initialized "java/lang/Math"
    | 5 => .native arraycopyName
    | 6 => .static arraycopyName
    | _ => .initialized "java/lang/System")
def mzWdN (k a b c d : Nat) : Jvm.Cond := match k with
  | 0 => .fieldLinkNest (mzNo a) b (mzNo c) (mzFq c d).2.1 (mzFq c d).2.2.1 "MeltPins"
  | 1 => .methodLinkNest (mzNo a) b (mzYn c) "MeltPins"
  | _ => .fieldLinkNest (mzNo a) b "MeltPins" (mzStat c) "[I" "MeltPins"
def mzWalk (f : Nat → Nat → Nat → Nat → Nat → Jvm.Cond) : List Jvm.Cond → Nat → List (Nat × Nat × Nat × Nat × Nat × Nat) → Bool
  | [], _, ps => (match ps with
    | [] => true
    | _ => false)
  | w :: t, n, ps => (match ps with
    | [] => true
    | (i, k, a, b, c, d) :: r => (match Nat.beq n i with
      | true => decide (w = f k a b c d) && mzWalk f t (n + 1) r
      | false => mzWalk f t (n + 1) ((i, k, a, b, c, d) :: r)))
theorem mz_walk {f : Nat → Nat → Nat → Nat → Nat → Jvm.Cond} : ∀ (l : List Jvm.Cond) (n : Nat) (ps : List (Nat × Nat × Nat × Nat × Nat × Nat)), mzWalk f l n ps = true → ∀ q ∈ ps, f q.2.1 q.2.2.1 q.2.2.2.1 q.2.2.2.2.1 q.2.2.2.2.2 ∈ l := by
  intro l
  induction l with
  | nil =>
    intro n ps h q hq
    cases ps with
    | nil => cases hq
    | cons _ _ => simp [mzWalk] at h
  | cons w t ih =>
    intro n ps h q hq
    cases ps with
    | nil => cases hq
    | cons z r =>
      obtain ⟨i, k, a, b, c, d⟩ := z
      unfold mzWalk at h
      dsimp only at h
      split at h
      · simp only [Bool.and_eq_true, decide_eq_true_eq] at h
        rcases List.mem_cons.mp hq with rfl | h9
        · rw [h.1]
          exact List.mem_cons_self
        · exact List.mem_cons_of_mem _ (ih _ _ h.2 q h9)
      · exact List.mem_cons_of_mem _ (ih _ _ h q hq)
theorem mz_all : mzWalk mzWd lw_tbl 0 mzAll = true := by decide +kernel
theorem mz_allN : mzWalk mzWdN mzNest 0 mzAlN = true := by decide +kernel
/-- the word is there -/
def mzHas (l : List (Nat × Nat × Nat × Nat × Nat × Nat)) (k a b c d : Nat) : Bool := l.any (fun q => Nat.beq q.2.2.2.1 b && (Nat.beq q.2.2.1 a && (Nat.beq q.2.1 k && (Nat.beq q.2.2.2.2.1 c && Nat.beq q.2.2.2.2.2 d))))
theorem mz_hasq {l : List (Nat × Nat × Nat × Nat × Nat × Nat)} {k a b c d : Nat} (h : mzHas l k a b c d = true) : ∃ q ∈ l, q.2.1 = k ∧ q.2.2.1 = a ∧ q.2.2.2.1 = b ∧ q.2.2.2.2.1 = c ∧ q.2.2.2.2.2 = d := by
  unfold mzHas at h
  obtain ⟨q, hq, h⟩ := List.any_eq_true.mp h
  simp only [Bool.and_eq_true] at h
  exact ⟨q, hq, Nat.eq_of_beq_eq_true h.2.2.1, Nat.eq_of_beq_eq_true h.2.1, Nat.eq_of_beq_eq_true h.1, Nat.eq_of_beq_eq_true h.2.2.2.1, Nat.eq_of_beq_eq_true h.2.2.2.2⟩
theorem mz_in {k a b c d : Nat} (h : mzHas mzAll k a b c d = true) : mzWd k a b c d ∈ lw_tbl := by
  obtain ⟨q, hq, rfl, rfl, rfl, rfl, rfl⟩ := mz_hasq h
  exact mz_walk _ _ _ mz_all q hq
theorem mz_inN {k a b c d : Nat} (h : mzHas mzAlN k a b c d = true) : mzWdN k a b c d ∈ mzNest := by
  obtain ⟨q, hq, rfl, rfl, rfl, rfl, rfl⟩ := mz_hasq h
  exact mz_walk _ _ _ mz_allN q hq
theorem mz_tb {w : Jvm.Cond} (h : w ∈ lw_tbl) (hg : goodWord w = true) : w ∈ mzTb := List.mem_filter.mpr ⟨h, hg⟩
/-- the code words, by place -/
def mzCw (y : Nat) : Jvm.Cond := .code (mzYn y) (mzBy y) (mzNl y) (mzRt y)
def mzCg (n : Nat) : Jvm.Cond := match Nat.ble 1000 n with
  | true => mzCot.getD (n - 1000) .tt
  | false => mzCw n
set_option maxRecDepth 200000 in
theorem mz_cws : tables_1.filter k2_isCode = mzCol.map mzCg := rfl
theorem mz_cys : ∀ y, y < 192 → 0 < y → y ∈ mzCol := by decide +kernel
theorem mz_cin {n : Nat} (h : n ∈ mzCol) : mzCg n ∈ lw_tbl := by
  have h1 : mzCg n ∈ tables_1.filter k2_isCode := by
    rw [mz_cws]
    exact List.mem_map.mpr ⟨n, h, rfl⟩
  exact List.mem_append_right _ (List.mem_filter.mp h1).1
theorem mz_code {y : Nat} (hy : y < 192) (h0 : 0 < y) : Jvm.Cond.code (mzYn y) (mzBy y) (mzNl y) (mzRt y) ∈ lw_tbl := by
  have h := mz_cin (mz_cys y hy h0)
  have e : Nat.ble 1000 y = false := by
    cases hb : Nat.ble 1000 y with
    | false => rfl
    | true => have := Nat.le_of_ble_eq_true hb; omega
  simp only [mzCg, e] at h
  exact h
theorem mz_cmax : Jvm.Cond.code Lib.Math.max.name Lib.Math.max.code 2 (some .int) ∈ lw_tbl := List.mem_of_getElem? (i := 450) (by decide +kernel)
theorem mz_cmin : Jvm.Cond.code Lib.Math.min.name Lib.Math.min.code 2 (some .int) ∈ lw_tbl := List.mem_of_getElem? (i := 330) (by decide +kernel)
end
section
/-! the bytes of an instruction: told once for each kind, so that a method's code is looked at byte by byte -/
def mzHi (n : Int) : Nat := ((n % 65536) / 256).toNat
def mzLo (n : Int) : Nat := (n % 256).toNat
def mzCo (q : Jvm.ClassFile.Cond) : Nat := match q with
  | .eq => 0
  | .ne => 1
  | .lt => 2
  | .ge => 3
  | .gt => 4
  | .le => 5
def mzBy1 (i : Instr) : List Nat := match i with
  | .iaload => [46]
  | .aaload => [50]
  | .iastore => [79]
  | .pop => [87]
  | .pop2 => [88]
  | .dup => [89]
  | .dup2 => [92]
  | .iadd => [96]
  | .ladd => [97]
  | .isub => [100]
  | .imul => [104]
  | .lmul => [105]
  | .idiv => [108]
  | .irem => [112]
  | .ishl => [120]
  | .ishr => [122]
  | .iushr => [124]
  | .iand => [126]
  | .ior => [128]
  | .ixor => [130]
  | .i2l => [133]
  | .i2b => [145]
  | .i2s => [147]
  | .lcmp => [148]
  | .ireturn => [172]
  | .lreturn => [173]
  | .areturn => [176]
  | .return_ => [177]
  | .arraylength => [190]
  | .ldc k => [18, k]
  | .iload k => [21, k]
  | .lload k => [22, k]
  | .aload k => [25, k]
  | .istore k => [54, k]
  | .lstore k => [55, k]
  | .astore k => [58, k]
  | .ldc_w k => [19, k / 256, k % 256]
  | .ldc2_w k => [20, k / 256, k % 256]
  | .getstatic k => [178, k / 256, k % 256]
  | .getfield k => [180, k / 256, k % 256]
  | .putfield k => [181, k / 256, k % 256]
  | .invokevirtual k => [182, k / 256, k % 256]
  | .invokestatic k => [184, k / 256, k % 256]
  | .iload_n k => [26 + k.val]
  | .lload_n k => [30 + k.val]
  | .aload_n k => [42 + k.val]
  | .istore_n k => [59 + k.val]
  | .lstore_n k => [63 + k.val]
  | .astore_n k => [75 + k.val]
  | .iconst n => [(n + 3).toNat]
  | .lconst n => [9 + n.val]
  | .bipush n => [16, mzLo n]
  | .sipush n => [17, mzHi n, mzLo n]
  | .iinc k n => [132, k, mzLo n]
  | .ifCond q n => [153 + mzCo q, mzHi n, mzLo n]
  | .if_icmp q n => [159 + mzCo q, mzHi n, mzLo n]
  | .goto n => [167, mzHi n, mzLo n]
  | _ => []
def mzEn1 (i : Instr) : Bool := match i with
  | .iaload => true
  | .aaload => true
  | .iastore => true
  | .pop => true
  | .pop2 => true
  | .dup => true
  | .dup2 => true
  | .iadd => true
  | .ladd => true
  | .isub => true
  | .imul => true
  | .lmul => true
  | .idiv => true
  | .irem => true
  | .ishl => true
  | .ishr => true
  | .iushr => true
  | .iand => true
  | .ior => true
  | .ixor => true
  | .i2l => true
  | .i2b => true
  | .i2s => true
  | .lcmp => true
  | .ireturn => true
  | .lreturn => true
  | .areturn => true
  | .return_ => true
  | .arraylength => true
  | .ldc _ => true
  | .iload _ => true
  | .lload _ => true
  | .aload _ => true
  | .istore _ => true
  | .lstore _ => true
  | .astore _ => true
  | .ldc_w _ => true
  | .ldc2_w _ => true
  | .getstatic _ => true
  | .getfield _ => true
  | .putfield _ => true
  | .invokevirtual _ => true
  | .invokestatic _ => true
  | .iload_n _ => true
  | .lload_n _ => true
  | .aload_n _ => true
  | .istore_n _ => true
  | .lstore_n _ => true
  | .astore_n _ => true
  | .iconst n => decide (-1 ≤ n ∧ n ≤ 5)
  | .lconst _ => true
  | .bipush n => decide (-128 ≤ n ∧ n < 128)
  | .sipush n => decide (-32768 ≤ n ∧ n < 32768)
  | .iinc _ n => decide (-128 ≤ n ∧ n < 128)
  | .ifCond _ n => decide (-32768 ≤ n ∧ n < 32768)
  | .if_icmp _ n => decide (-32768 ≤ n ∧ n < 32768)
  | .goto n => decide (-32768 ≤ n ∧ n < 32768)
  | _ => false
section MZD
variable {code : ByteArray} {pc : Nat}
def mzAt (code : ByteArray) (p b : Nat) : Prop := ∃ u : UInt8, code.data.toList[p]? = some u ∧ u.toNat = b
theorem mz_u1 {p b : Nat} (h : mzAt code p b) : (Reader.u1 : Decoder Nat) code p = .ok (b, p + 1) := by
  obtain ⟨u, hu, rfl⟩ := h
  have hl : p < code.data.toList.length := (List.getElem?_eq_some_iff.mp hu).1
  have hs : p < code.size := by rw [ByteArray.size]; simpa using hl
  have hv : code[p] = u := by
    have := (List.getElem?_eq_some_iff.mp hu).2
    show code.data[p] = u
    simpa using this
  show (if h : p < code.size then _ else _ : Reader DecodeError Nat) code p = _
  simp only [hs, dite_true]
  rw [← hv]
  rfl
theorem mz_bind {α β : Type} {r : Decoder α} {F : α → Decoder β} {p q : Nat} {a : α} (h : r code p = .ok (a, q)) : (r >>= F) code p = F a code q := by
  show Except.bind (r code p) _ = _
  rw [h]
  rfl
theorem mz_u2 {p a b : Nat} (h1 : mzAt code p a) (h2 : mzAt code (p + 1) b) : (Reader.u2 : Decoder Nat) code p = .ok (a * 256 + b, p + 2) := (mz_bind (mz_u1 h1)).trans ((mz_bind (mz_u1 h2)).trans rfl)
theorem mz_s1 {p a : Nat} (h1 : mzAt code p a) : (Reader.s1 : Decoder Int) code p = .ok (Reader.signed 8 a, p + 1) := (mz_bind (F := fun n => pure (Reader.signed 8 n)) (mz_u1 h1)).trans rfl
theorem mz_s2 {p a b : Nat} (h1 : mzAt code p a) (h2 : mzAt code (p + 1) b) : (Reader.s2 : Decoder Int) code p = .ok (Reader.signed 16 (a * 256 + b), p + 2) := (mz_bind (F := fun n => pure (Reader.signed 16 n)) (mz_u2 h1 h2)).trans rfl
theorem mz_dec {i : Instr} {n : Nat} (h : Decoder.instr pc code pc = .ok (i, pc + n)) : decode code pc = .ok (i, n) := by
  show Except.bind (Decoder.instr pc code pc) _ = _
  rw [h]
  show Except.ok (i, pc + n - pc) = _
  rw [Nat.add_sub_cancel_left]
theorem mz_sg8 {n : Int} (h : -128 ≤ n ∧ n < 128) : Reader.signed 8 (mzLo n) = n := by
  unfold Reader.signed mzLo
  split <;> omega
theorem mz_sg16 {n : Int} (h : -32768 ≤ n ∧ n < 32768) : Reader.signed 16 (mzHi n * 256 + mzLo n) = n := by
  unfold Reader.signed mzLo mzHi
  split <;> omega
theorem mz_k16 (k : Nat) : k / 256 * 256 + k % 256 = k := by omega
theorem mz_enc {i : Instr} (hok : mzEn1 i = true) (h : ∀ k b, (mzBy1 i)[k]? = some b → mzAt code (pc + k) b) : decode code pc = .ok (i, (mzBy1 i).length) := by
  cases i with
  | iaload => exact mz_dec ((mz_bind (mz_u1 (h 0 _ rfl))).trans rfl)
  | aaload => exact mz_dec ((mz_bind (mz_u1 (h 0 _ rfl))).trans rfl)
  | iastore => exact mz_dec ((mz_bind (mz_u1 (h 0 _ rfl))).trans rfl)
  | pop => exact mz_dec ((mz_bind (mz_u1 (h 0 _ rfl))).trans rfl)
  | pop2 => exact mz_dec ((mz_bind (mz_u1 (h 0 _ rfl))).trans rfl)
  | dup => exact mz_dec ((mz_bind (mz_u1 (h 0 _ rfl))).trans rfl)
  | dup2 => exact mz_dec ((mz_bind (mz_u1 (h 0 _ rfl))).trans rfl)
  | iadd => exact mz_dec ((mz_bind (mz_u1 (h 0 _ rfl))).trans rfl)
  | ladd => exact mz_dec ((mz_bind (mz_u1 (h 0 _ rfl))).trans rfl)
  | isub => exact mz_dec ((mz_bind (mz_u1 (h 0 _ rfl))).trans rfl)
  | imul => exact mz_dec ((mz_bind (mz_u1 (h 0 _ rfl))).trans rfl)
  | lmul => exact mz_dec ((mz_bind (mz_u1 (h 0 _ rfl))).trans rfl)
  | idiv => exact mz_dec ((mz_bind (mz_u1 (h 0 _ rfl))).trans rfl)
  | irem => exact mz_dec ((mz_bind (mz_u1 (h 0 _ rfl))).trans rfl)
  | ishl => exact mz_dec ((mz_bind (mz_u1 (h 0 _ rfl))).trans rfl)
  | ishr => exact mz_dec ((mz_bind (mz_u1 (h 0 _ rfl))).trans rfl)
  | iushr => exact mz_dec ((mz_bind (mz_u1 (h 0 _ rfl))).trans rfl)
  | iand => exact mz_dec ((mz_bind (mz_u1 (h 0 _ rfl))).trans rfl)
  | ior => exact mz_dec ((mz_bind (mz_u1 (h 0 _ rfl))).trans rfl)
  | ixor => exact mz_dec ((mz_bind (mz_u1 (h 0 _ rfl))).trans rfl)
  | i2l => exact mz_dec ((mz_bind (mz_u1 (h 0 _ rfl))).trans rfl)
  | i2b => exact mz_dec ((mz_bind (mz_u1 (h 0 _ rfl))).trans rfl)
  | i2s => exact mz_dec ((mz_bind (mz_u1 (h 0 _ rfl))).trans rfl)
  | lcmp => exact mz_dec ((mz_bind (mz_u1 (h 0 _ rfl))).trans rfl)
  | ireturn => exact mz_dec ((mz_bind (mz_u1 (h 0 _ rfl))).trans rfl)
  | lreturn => exact mz_dec ((mz_bind (mz_u1 (h 0 _ rfl))).trans rfl)
  | areturn => exact mz_dec ((mz_bind (mz_u1 (h 0 _ rfl))).trans rfl)
  | return_ => exact mz_dec ((mz_bind (mz_u1 (h 0 _ rfl))).trans rfl)
  | arraylength => exact mz_dec ((mz_bind (mz_u1 (h 0 _ rfl))).trans rfl)
  | ldc k => exact mz_dec ((mz_bind (mz_u1 (h 0 _ rfl))).trans ((mz_bind (mz_u1 (h 1 _ rfl))).trans rfl))
  | iload k => exact mz_dec ((mz_bind (mz_u1 (h 0 _ rfl))).trans ((mz_bind (mz_u1 (h 1 _ rfl))).trans rfl))
  | lload k => exact mz_dec ((mz_bind (mz_u1 (h 0 _ rfl))).trans ((mz_bind (mz_u1 (h 1 _ rfl))).trans rfl))
  | aload k => exact mz_dec ((mz_bind (mz_u1 (h 0 _ rfl))).trans ((mz_bind (mz_u1 (h 1 _ rfl))).trans rfl))
  | istore k => exact mz_dec ((mz_bind (mz_u1 (h 0 _ rfl))).trans ((mz_bind (mz_u1 (h 1 _ rfl))).trans rfl))
  | lstore k => exact mz_dec ((mz_bind (mz_u1 (h 0 _ rfl))).trans ((mz_bind (mz_u1 (h 1 _ rfl))).trans rfl))
  | astore k => exact mz_dec ((mz_bind (mz_u1 (h 0 _ rfl))).trans ((mz_bind (mz_u1 (h 1 _ rfl))).trans rfl))
  | ldc_w k => exact mz_dec ((mz_bind (mz_u1 (h 0 _ rfl))).trans ((mz_bind (mz_u2 (h 1 _ rfl) (h 2 _ rfl))).trans (by rw [mz_k16]; rfl)))
  | ldc2_w k => exact mz_dec ((mz_bind (mz_u1 (h 0 _ rfl))).trans ((mz_bind (mz_u2 (h 1 _ rfl) (h 2 _ rfl))).trans (by rw [mz_k16]; rfl)))
  | getstatic k => exact mz_dec ((mz_bind (mz_u1 (h 0 _ rfl))).trans ((mz_bind (mz_u2 (h 1 _ rfl) (h 2 _ rfl))).trans (by rw [mz_k16]; rfl)))
  | getfield k => exact mz_dec ((mz_bind (mz_u1 (h 0 _ rfl))).trans ((mz_bind (mz_u2 (h 1 _ rfl) (h 2 _ rfl))).trans (by rw [mz_k16]; rfl)))
  | putfield k => exact mz_dec ((mz_bind (mz_u1 (h 0 _ rfl))).trans ((mz_bind (mz_u2 (h 1 _ rfl) (h 2 _ rfl))).trans (by rw [mz_k16]; rfl)))
  | invokevirtual k => exact mz_dec ((mz_bind (mz_u1 (h 0 _ rfl))).trans ((mz_bind (mz_u2 (h 1 _ rfl) (h 2 _ rfl))).trans (by rw [mz_k16]; rfl)))
  | invokestatic k => exact mz_dec ((mz_bind (mz_u1 (h 0 _ rfl))).trans ((mz_bind (mz_u2 (h 1 _ rfl) (h 2 _ rfl))).trans (by rw [mz_k16]; rfl)))
  | iload_n k =>
    match k, h with
    | 0, h => exact mz_dec ((mz_bind (mz_u1 (b := 26) (h 0 _ rfl))).trans rfl)
    | 1, h => exact mz_dec ((mz_bind (mz_u1 (b := 27) (h 0 _ rfl))).trans rfl)
    | 2, h => exact mz_dec ((mz_bind (mz_u1 (b := 28) (h 0 _ rfl))).trans rfl)
    | 3, h => exact mz_dec ((mz_bind (mz_u1 (b := 29) (h 0 _ rfl))).trans rfl)
  | lload_n k =>
    match k, h with
    | 0, h => exact mz_dec ((mz_bind (mz_u1 (b := 30) (h 0 _ rfl))).trans rfl)
    | 1, h => exact mz_dec ((mz_bind (mz_u1 (b := 31) (h 0 _ rfl))).trans rfl)
    | 2, h => exact mz_dec ((mz_bind (mz_u1 (b := 32) (h 0 _ rfl))).trans rfl)
    | 3, h => exact mz_dec ((mz_bind (mz_u1 (b := 33) (h 0 _ rfl))).trans rfl)
  | aload_n k =>
    match k, h with
    | 0, h => exact mz_dec ((mz_bind (mz_u1 (b := 42) (h 0 _ rfl))).trans rfl)
    | 1, h => exact mz_dec ((mz_bind (mz_u1 (b := 43) (h 0 _ rfl))).trans rfl)
    | 2, h => exact mz_dec ((mz_bind (mz_u1 (b := 44) (h 0 _ rfl))).trans rfl)
    | 3, h => exact mz_dec ((mz_bind (mz_u1 (b := 45) (h 0 _ rfl))).trans rfl)
  | istore_n k =>
    match k, h with
    | 0, h => exact mz_dec ((mz_bind (mz_u1 (b := 59) (h 0 _ rfl))).trans rfl)
    | 1, h => exact mz_dec ((mz_bind (mz_u1 (b := 60) (h 0 _ rfl))).trans rfl)
    | 2, h => exact mz_dec ((mz_bind (mz_u1 (b := 61) (h 0 _ rfl))).trans rfl)
    | 3, h => exact mz_dec ((mz_bind (mz_u1 (b := 62) (h 0 _ rfl))).trans rfl)
  | lstore_n k =>
    match k, h with
    | 0, h => exact mz_dec ((mz_bind (mz_u1 (b := 63) (h 0 _ rfl))).trans rfl)
    | 1, h => exact mz_dec ((mz_bind (mz_u1 (b := 64) (h 0 _ rfl))).trans rfl)
    | 2, h => exact mz_dec ((mz_bind (mz_u1 (b := 65) (h 0 _ rfl))).trans rfl)
    | 3, h => exact mz_dec ((mz_bind (mz_u1 (b := 66) (h 0 _ rfl))).trans rfl)
  | astore_n k =>
    match k, h with
    | 0, h => exact mz_dec ((mz_bind (mz_u1 (b := 75) (h 0 _ rfl))).trans rfl)
    | 1, h => exact mz_dec ((mz_bind (mz_u1 (b := 76) (h 0 _ rfl))).trans rfl)
    | 2, h => exact mz_dec ((mz_bind (mz_u1 (b := 77) (h 0 _ rfl))).trans rfl)
    | 3, h => exact mz_dec ((mz_bind (mz_u1 (b := 78) (h 0 _ rfl))).trans rfl)
  | iconst n =>
    have hn : -1 ≤ n ∧ n ≤ 5 := of_decide_eq_true hok
    have hc : n = -1 ∨ n = 0 ∨ n = 1 ∨ n = 2 ∨ n = 3 ∨ n = 4 ∨ n = 5 := by omega
    rcases hc with rfl | rfl | rfl | rfl | rfl | rfl | rfl
    · exact mz_dec ((mz_bind (mz_u1 (b := 2) (h 0 _ rfl))).trans rfl)
    · exact mz_dec ((mz_bind (mz_u1 (b := 3) (h 0 _ rfl))).trans rfl)
    · exact mz_dec ((mz_bind (mz_u1 (b := 4) (h 0 _ rfl))).trans rfl)
    · exact mz_dec ((mz_bind (mz_u1 (b := 5) (h 0 _ rfl))).trans rfl)
    · exact mz_dec ((mz_bind (mz_u1 (b := 6) (h 0 _ rfl))).trans rfl)
    · exact mz_dec ((mz_bind (mz_u1 (b := 7) (h 0 _ rfl))).trans rfl)
    · exact mz_dec ((mz_bind (mz_u1 (b := 8) (h 0 _ rfl))).trans rfl)
  | lconst k =>
    match k, h with
    | 0, h => exact mz_dec ((mz_bind (mz_u1 (b := 9) (h 0 _ rfl))).trans rfl)
    | 1, h => exact mz_dec ((mz_bind (mz_u1 (b := 10) (h 0 _ rfl))).trans rfl)
  | bipush n => exact mz_dec ((mz_bind (mz_u1 (h 0 _ rfl))).trans ((mz_bind (mz_s1 (h 1 _ rfl))).trans (by rw [mz_sg8 (of_decide_eq_true hok)]; rfl)))
  | sipush n => exact mz_dec ((mz_bind (mz_u1 (h 0 _ rfl))).trans ((mz_bind (mz_s2 (h 1 _ rfl) (h 2 _ rfl))).trans (by rw [mz_sg16 (of_decide_eq_true hok)]; rfl)))
  | iinc k n => exact mz_dec ((mz_bind (mz_u1 (h 0 _ rfl))).trans ((mz_bind (mz_u1 (h 1 _ rfl))).trans ((mz_bind (mz_s1 (h 2 _ rfl))).trans (by rw [mz_sg8 (of_decide_eq_true hok)]; rfl))))
  | goto n => exact mz_dec ((mz_bind (mz_u1 (h 0 _ rfl))).trans ((mz_bind (mz_s2 (h 1 _ rfl) (h 2 _ rfl))).trans (by rw [mz_sg16 (of_decide_eq_true hok)]; rfl)))
  | ifCond q n =>
    cases q with
    | eq => exact mz_dec ((mz_bind (mz_u1 (b := 153) (h 0 _ rfl))).trans ((mz_bind (mz_s2 (h 1 _ rfl) (h 2 _ rfl))).trans (by rw [mz_sg16 (of_decide_eq_true hok)]; rfl)))
    | ne => exact mz_dec ((mz_bind (mz_u1 (b := 154) (h 0 _ rfl))).trans ((mz_bind (mz_s2 (h 1 _ rfl) (h 2 _ rfl))).trans (by rw [mz_sg16 (of_decide_eq_true hok)]; rfl)))
    | lt => exact mz_dec ((mz_bind (mz_u1 (b := 155) (h 0 _ rfl))).trans ((mz_bind (mz_s2 (h 1 _ rfl) (h 2 _ rfl))).trans (by rw [mz_sg16 (of_decide_eq_true hok)]; rfl)))
    | ge => exact mz_dec ((mz_bind (mz_u1 (b := 156) (h 0 _ rfl))).trans ((mz_bind (mz_s2 (h 1 _ rfl) (h 2 _ rfl))).trans (by rw [mz_sg16 (of_decide_eq_true hok)]; rfl)))
    | gt => exact mz_dec ((mz_bind (mz_u1 (b := 157) (h 0 _ rfl))).trans ((mz_bind (mz_s2 (h 1 _ rfl) (h 2 _ rfl))).trans (by rw [mz_sg16 (of_decide_eq_true hok)]; rfl)))
    | le => exact mz_dec ((mz_bind (mz_u1 (b := 158) (h 0 _ rfl))).trans ((mz_bind (mz_s2 (h 1 _ rfl) (h 2 _ rfl))).trans (by rw [mz_sg16 (of_decide_eq_true hok)]; rfl)))
  | if_icmp q n =>
    cases q with
    | eq => exact mz_dec ((mz_bind (mz_u1 (b := 159) (h 0 _ rfl))).trans ((mz_bind (mz_s2 (h 1 _ rfl) (h 2 _ rfl))).trans (by rw [mz_sg16 (of_decide_eq_true hok)]; rfl)))
    | ne => exact mz_dec ((mz_bind (mz_u1 (b := 160) (h 0 _ rfl))).trans ((mz_bind (mz_s2 (h 1 _ rfl) (h 2 _ rfl))).trans (by rw [mz_sg16 (of_decide_eq_true hok)]; rfl)))
    | lt => exact mz_dec ((mz_bind (mz_u1 (b := 161) (h 0 _ rfl))).trans ((mz_bind (mz_s2 (h 1 _ rfl) (h 2 _ rfl))).trans (by rw [mz_sg16 (of_decide_eq_true hok)]; rfl)))
    | ge => exact mz_dec ((mz_bind (mz_u1 (b := 162) (h 0 _ rfl))).trans ((mz_bind (mz_s2 (h 1 _ rfl) (h 2 _ rfl))).trans (by rw [mz_sg16 (of_decide_eq_true hok)]; rfl)))
    | gt => exact mz_dec ((mz_bind (mz_u1 (b := 163) (h 0 _ rfl))).trans ((mz_bind (mz_s2 (h 1 _ rfl) (h 2 _ rfl))).trans (by rw [mz_sg16 (of_decide_eq_true hok)]; rfl)))
    | le => exact mz_dec ((mz_bind (mz_u1 (b := 164) (h 0 _ rfl))).trans ((mz_bind (mz_s2 (h 1 _ rfl) (h 2 _ rfl))).trans (by rw [mz_sg16 (of_decide_eq_true hok)]; rfl)))
  | _ => exact absurd hok Bool.false_ne_true
end MZD
def mzLn (i : Instr) : Nat := match i with
  | .bipush _ => 2
  | .sipush _ => 3
  | .ldc _ => 2
  | .ldc_w _ => 3
  | .ldc2_w _ => 3
  | .iload _ => 2
  | .lload _ => 2
  | .aload _ => 2
  | .istore _ => 2
  | .lstore _ => 2
  | .astore _ => 2
  | .iinc _ _ => 3
  | .getfield _ => 3
  | .putfield _ => 3
  | .getstatic _ => 3
  | .goto _ => 3
  | .ifCond _ _ => 3
  | .if_icmp _ _ => 3
  | .invokevirtual _ => 3
  | .invokestatic _ => 3
  | _ => 1

def mzSw (i : Instr) : Bool := match i with
  | .tableswitch _ _ _ _ => true
  | .lookupswitch _ _ => true
  | _ => false
/-- an instruction's length as the code has it -/
def mzLb (e : mzO) : Nat := match mzSw e.2.1 with
  | true => e.2.2.2.1
  | false => mzLn e.2.1
def mzPfx : List Nat → List UInt8 → Option (List UInt8)
  | [], bs => some bs
  | _ :: _, [] => none
  | n :: ns, b :: bs => match Nat.beq b.toNat n with
    | true => mzPfx ns bs
    | false => none
/-- the code's bytes from pc on are those of the instructions -/
def mzBts : Nat → List mzO → List UInt8 → Bool
  | _, [], _ => true
  | pc, (p, i, a, b, c) :: r, bs => Nat.beq p pc && (match mzSw i with
    | true => mzBts (pc + b) r (bs.drop b)
    | false => mzEn1 i && (Nat.beq (mzBy1 i).length (mzLn i) && (match mzPfx (mzBy1 i) bs with
      | some bs' => mzBts (pc + mzLn i) r bs'
      | none => false)))
theorem mz_prep : ∀ (ns : List Nat) (bs bs' : List UInt8), mzPfx ns bs = some bs' → bs' = bs.drop ns.length ∧ ∀ (k b : Nat), ns[k]? = some b → ∃ u : UInt8, bs[k]? = some u ∧ u.toNat = b := by
  intro ns
  induction ns with
  | nil =>
    intro bs bs' h
    cases h
    exact ⟨rfl, fun k b hk => by simp at hk⟩
  | cons n ns ih =>
    intro bs bs' h
    cases bs with
    | nil => cases h
    | cons u bs =>
      unfold mzPfx at h
      split at h
      · next hb =>
        obtain ⟨h1, h2⟩ := ih bs bs' h
        refine ⟨h1, fun k b hk => ?_⟩
        cases k with
        | zero =>
          cases hk
          exact ⟨u, rfl, Nat.eq_of_beq_eq_true hb⟩
        | succ k => exact h2 k b hk
      · cases h
theorem mz_bts {code : ByteArray} : ∀ (cd : List mzO) (pc : Nat) (bs : List UInt8), bs = code.data.toList.drop pc → mzBts pc cd bs = true → ∀ e ∈ cd, mzSw e.2.1 = false → decode code e.1 = .ok (e.2.1, mzLn e.2.1) := by
  intro cd
  induction cd with
  | nil => intro pc bs _ _ e he; cases he
  | cons z r ih =>
    obtain ⟨p, i, a, b, c⟩ := z
    intro pc bs hbs h e he hsw
    simp only [mzBts, Bool.and_eq_true] at h
    obtain ⟨hp, h⟩ := h
    have hp := Nat.eq_of_beq_eq_true hp
    subst hp
    split at h
    · next hs =>
      rcases List.mem_cons.mp he with rfl | he
      · rw [hs] at hsw
        cases hsw
      · exact ih (p + b) _ (by rw [hbs, List.drop_drop]) h e he hsw
    · next hs =>
      simp only [Bool.and_eq_true] at h
      obtain ⟨h1, h2, h3⟩ := h
      have h2 := Nat.eq_of_beq_eq_true h2
      split at h3
      · next bs' hb =>
        obtain ⟨g1, g2⟩ := mz_prep _ _ _ hb
        rcases List.mem_cons.mp he with rfl | he
        · show decode code p = .ok (i, mzLn i)
          rw [← h2]
          refine mz_enc h1 (fun k b hk => ?_)
          obtain ⟨u, hu, hv⟩ := g2 k b hk
          rw [hbs, List.getElem?_drop] at hu
          exact ⟨u, hu, hv⟩
        · exact ih (p + mzLn i) _ (by rw [g1, hbs, List.drop_drop, h2]) h3 e he hsw
      · cases h3
end
section
/-! the machine follows: numbers -/
theorem mz_ofInt_toInt (x : Int32) : Int32.ofInt x.toInt = x := by simp
theorem mz_toInt (z : Int) : (Int32.ofInt z).toInt = mzW z := by
  rw [Int32.toInt_ofInt, mzW, Int.bmod_def]
  have h : Int32.size = 4294967296 := rfl
  rw [h]
  omega
theorem mz_toInt64 (z : Int) : (Int64.ofInt z).toInt = mzX z := by
  rw [Int64.toInt_ofInt, mzX, Int.bmod_def]
  have h : Int64.size = 18446744073709551616 := rfl
  rw [h]
  omega
theorem mz_W (z : Int) : Int32.ofInt (mzW z) = Int32.ofInt z := by rw [← mz_toInt, mz_ofInt_toInt]
theorem mz_ofInt_toInt64 (x : Int64) : Int64.ofInt x.toInt = x := by simp
theorem mz_Xo (z : Int) : Int64.ofInt (mzX z) = Int64.ofInt z := by rw [← mz_toInt64, mz_ofInt_toInt64]
theorem mz_id {x : Int} (h : -2147483648 ≤ x ∧ x < 2147483648) : (Int32.ofInt x).toInt = x := by
  rw [mz_toInt, mzW]; omega
theorem mz_id64 {x : Int} (h : -9223372036854775808 ≤ x ∧ x < 9223372036854775808) : (Int64.ofInt x).toInt = x := by
  rw [mz_toInt64, mzX]; omega
theorem mz_bd (x : Int32) : -2147483648 ≤ x.toInt ∧ x.toInt < 2147483648 := by
  have h := mz_toInt x.toInt
  rw [mz_ofInt_toInt] at h
  unfold mzW at h
  omega
theorem mz_bd64 (x : Int64) : -9223372036854775808 ≤ x.toInt ∧ x.toInt < 9223372036854775808 := by
  have h := mz_toInt64 x.toInt
  have e : Int64.ofInt x.toInt = x := by simp
  rw [e] at h
  unfold mzX at h
  omega
theorem mz_Wb (z : Int) : -2147483648 ≤ mzW z ∧ mzW z < 2147483648 := by unfold mzW; omega
theorem mz_Xb (z : Int) : -9223372036854775808 ≤ mzX z ∧ mzX z < 9223372036854775808 := by unfold mzX; omega
theorem mz_eq {x y : Int} (hx : -2147483648 ≤ x ∧ x < 2147483648) (hy : -2147483648 ≤ y ∧ y < 2147483648) : Int32.ofInt x = Int32.ofInt y ↔ x = y :=
  ⟨fun h => by rw [← mz_id hx, ← mz_id hy, h], fun h => by rw [h]⟩
theorem mz_lt {x y : Int} (hx : -2147483648 ≤ x ∧ x < 2147483648) (hy : -2147483648 ≤ y ∧ y < 2147483648) : Int32.ofInt x < Int32.ofInt y ↔ x < y := by
  rw [Int32.lt_iff_toInt_lt, mz_id hx, mz_id hy]
theorem mz_le {x y : Int} (hx : -2147483648 ≤ x ∧ x < 2147483648) (hy : -2147483648 ≤ y ∧ y < 2147483648) : Int32.ofInt x ≤ Int32.ofInt y ↔ x ≤ y := by
  rw [Int32.le_iff_toInt_le, mz_id hx, mz_id hy]
theorem mz_add (x y : Int) : Int32.ofInt x + Int32.ofInt y = Int32.ofInt (mzW (x + y)) := by rw [mz_W, Int32.ofInt_add]
theorem mz_sub (x y : Int) : Int32.ofInt x - Int32.ofInt y = Int32.ofInt (mzW (x - y)) := by rw [mz_W, Int32.ofInt_sub]
theorem mz_mul (x y : Int) : Int32.ofInt x * Int32.ofInt y = Int32.ofInt (mzW (x * y)) := by rw [mz_W, Int32.ofInt_mul]
theorem mz_addL (x y : Int) : Int64.ofInt x + Int64.ofInt y = Int64.ofInt (mzX (x + y)) := by rw [mz_Xo, Int64.ofInt_add]
theorem mz_mulL (x y : Int) : Int64.ofInt x * Int64.ofInt y = Int64.ofInt (mzX (x * y)) := by rw [mz_Xo, Int64.ofInt_mul]
theorem mz_nat {i : Int} (h : 0 ≤ i) : (Int32.ofInt i).toNatClampNeg = (mzW i).toNat := by
  show (Int32.ofInt i).toInt.toNat = _
  rw [mz_toInt]
theorem mz_nat' {i : Int} (h0 : 0 ≤ i) (h : i < 2147483648) : (Int32.ofInt i).toNatClampNeg = i.toNat := by
  show (Int32.ofInt i).toInt.toNat = _
  rw [mz_id ⟨by omega, h⟩]
theorem mz_vpin {i : Int} {n : Nat} (h0 : 0 ≤ i) (h : i < n) (hn : n < 2147483648) : vp_in (Int32.ofInt i) n := by
  rw [vp_in_iff, mz_id ⟨by omega, by omega⟩]
  exact ⟨h0, h⟩
/-! the places of a frame -/
theorem mz_Kkill {L : List mzV} {k i : Nat} {v : Int ⊕ (Int ⊕ (Nat ⊕ (Nat × Nat)))} (h : (mzKill L k)[i]? = some (some v)) : L[i]? = some (some v) ∧ (i + 1 = k → ∀ x, v ≠ .inr (.inl x)) := by
  cases k with
  | zero => exact ⟨h, fun e => by omega⟩
  | succ j =>
    simp only [mzKill] at h
    split at h
    · by_cases hij : j = i
      · subst hij
        rw [List.getElem?_set_self'] at h
        cases hL : L[j]? with
        | none => rw [hL] at h; cases h
        | some w => rw [hL] at h; cases h
      · rw [List.getElem?_set_ne hij] at h
        exact ⟨h, fun e => by omega⟩
    · next hn =>
      refine ⟨h, fun e x hx => ?_⟩
      have : i = j := by omega
      subst this
      subst hx
      refine hn x ?_
      rw [List.getD_eq_getElem?_getD, h]
      rfl
theorem mz_killlen (L : List mzV) (k : Nat) : (mzKill L k).length = L.length := by
  cases k with
  | zero => rfl
  | succ j =>
    simp only [mzKill]
    split <;> simp
def mzAs (G : mzG) (L : List mzV) : List (Nat × Value) := (List.range L.length).filterMap fun i => match L.getD i none with
  | some v => some (i, mzC G (some v))
  | none => none
theorem mz_asmem {G : mzG} {L : List mzV} {q : Nat × Value} (h : q ∈ mzAs G L) : ∃ v, L[q.1]? = some (some v) ∧ q.2 = mzC G (some v) := by
  unfold mzAs at h
  obtain ⟨i, hi, hq⟩ := List.mem_filterMap.mp h
  split at hq
  · next v hv =>
    cases hq
    refine ⟨v, ?_, rfl⟩
    rw [List.getD_eq_getElem?_getD] at hv
    cases hL : L[i]? with
    | none => rw [hL] at hv; cases hv
    | some w => rw [hL] at hv; exact congrArg some hv
  · cases hq
theorem mz_memas {G : mzG} {L : List mzV} {i : Nat} {v : Int ⊕ (Int ⊕ (Nat ⊕ (Nat × Nat)))} (h : L[i]? = some (some v)) : (i, mzC G (some v)) ∈ mzAs G L := by
  unfold mzAs
  refine List.mem_filterMap.mpr ⟨i, List.mem_range.mpr (List.getElem?_eq_some_iff.mp h).1, ?_⟩
  rw [List.getD_eq_getElem?_getD, h]
  rfl
theorem mz_has {G : mzG} {y : Nat} {ls : Array Slot} {L : List mzV} (h : mzFr G y ls L) : lv_has ls (mzNl y) (mzAs G L) := ⟨h.1, h.2.1, fun q hq => by
  obtain ⟨v, h1, h2⟩ := mz_asmem hq
  rw [h2]
  exact (h.2.2.2 _ _ h1).1⟩
theorem mz_cat1 {G : mzG} {v : mzV} (h : mzC1 v = true) : (mzC G v).category = 1 := by
  match v, h with
  | some (.inl _), _ => rfl
  | some (.inr (.inr (.inl _))), _ => rfl
  | some (.inr (.inr (.inr (_, _)))), _ => rfl
theorem mz_put1 {G : mzG} {y k : Nat} {ls ls' : Array Slot} {L : List mzV} {v : mzV} {lv : List (Nat × Value)} (h : mzFr G y ls L) (hv : v ≠ none) (hk : mzK v)
    (hlv : lv = (k, mzC G v) :: (mzAs G L).filter (fun q => !(q.1 == k) && !(q.1 + 1 == k && q.2.category == 2))) (h' : lv_has ls' (mzNl y) lv) : mzFr G y ls' (mzPut L k v) := by
  refine ⟨h'.1, h'.2.1, ?_, fun i w hw => ?_⟩
  · unfold mzPut
    rw [List.length_set, mz_killlen]
    exact h.2.2.1
  · unfold mzPut at hw
    by_cases hik : k = i
    · subst hik
      rw [List.getElem?_set_self'] at hw
      have hvw : v = some w := by
        cases hL : (mzKill L k)[k]? with
        | none => rw [hL] at hw; cases hw
        | some z => rw [hL] at hw; exact Option.some.inj hw
      subst hvw
      refine ⟨?_, hk⟩
      have := h'.2.2 (k, mzC G (some w)) (by rw [hlv]; exact List.mem_cons_self)
      exact this
    · rw [List.getElem?_set_ne hik] at hw
      obtain ⟨h1, h2⟩ := mz_Kkill hw
      refine ⟨?_, (h.2.2.2 i w h1).2⟩
      refine h'.2.2 (i, mzC G (some w)) ?_
      rw [hlv]
      refine List.mem_cons_of_mem _ (List.mem_filter.mpr ⟨mz_memas h1, ?_⟩)
      have e1 : (i == k) = false := by simp; omega
      by_cases e : i + 1 = k
      · have hc : (mzC G (some w)).category = 1 := by
          refine mz_cat1 ?_
          match w, h2 e with
          | .inl _, _ => rfl
          | .inr (.inl x), h9 => exact absurd rfl (h9 x)
          | .inr (.inr _), _ => rfl
        simp [e1, hc]
      · simp [e1]; omega
theorem mz_put2 {G : mzG} {y k : Nat} {ls ls' : Array Slot} {L : List mzV} {x : Int} {lv : List (Nat × Value)} (h : mzFr G y ls L) (hk : mzK (mzL x))
    (hlv : lv = (k, mzC G (mzL x)) :: (mzAs G L).filter (fun q => !(q.1 == k) && (!(q.1 == k + 1) && !(q.1 + 1 == k && q.2.category == 2)))) (h' : lv_has ls' (mzNl y) lv) : mzFr G y ls' (mzPut2 L k (mzL x)) := by
  refine ⟨h'.1, h'.2.1, ?_, fun i w hw => ?_⟩
  · unfold mzPut2
    rw [List.length_set, List.length_set, mz_killlen]
    exact h.2.2.1
  · unfold mzPut2 at hw
    by_cases hi1 : k + 1 = i
    · subst hi1
      rw [List.getElem?_set_self'] at hw
      cases hL : ((mzKill L k).set k (mzL x))[k + 1]? with
      | none => rw [hL] at hw; cases hw
      | some z => rw [hL] at hw; cases hw
    rw [List.getElem?_set_ne hi1] at hw
    by_cases hik : k = i
    · subst hik
      rw [List.getElem?_set_self'] at hw
      have hvw : mzL x = some w := by
        cases hL : (mzKill L k)[k]? with
        | none => rw [hL] at hw; cases hw
        | some z => rw [hL] at hw; exact Option.some.inj hw
      cases hvw
      refine ⟨?_, hk⟩
      exact h'.2.2 (k, mzC G (mzL x)) (by rw [hlv]; exact List.mem_cons_self)
    · rw [List.getElem?_set_ne hik] at hw
      obtain ⟨h1, h2⟩ := mz_Kkill hw
      refine ⟨?_, (h.2.2.2 i w h1).2⟩
      refine h'.2.2 (i, mzC G (some w)) ?_
      rw [hlv]
      refine List.mem_cons_of_mem _ (List.mem_filter.mpr ⟨mz_memas h1, ?_⟩)
      have e1 : (i == k) = false := by simp; omega
      have e2 : (i == k + 1) = false := by simp; omega
      by_cases e : i + 1 = k
      · have hc : (mzC G (some w)).category = 1 := by
          refine mz_cat1 ?_
          match w, h2 e with
          | .inl _, _ => rfl
          | .inr (.inl x), h9 => exact absurd rfl (h9 x)
          | .inr (.inr _), _ => rfl
        simp [e1, e2, hc]
      · simp [e1, e2]; omega
theorem mz_gt {L : List mzV} {k : Nat} {v : Int ⊕ (Int ⊕ (Nat ⊕ (Nat × Nat)))} (h : mzGt L k = some v) : L[k]? = some (some v) := by
  unfold mzGt at h
  rw [List.getD_eq_getElem?_getD] at h
  cases hL : L[k]? with
  | none => rw [hL] at h; cases h
  | some w => rw [hL] at h; exact congrArg some h
theorem mz_sk {v : mzV} {S : List mzV} (h : v ≠ none) (h2 : mzK v) (hS : mzSk S) : mzSk (v :: S) := fun w hw => by
  rcases List.mem_cons.mp hw with rfl | h9
  · exact ⟨h, h2⟩
  · exact hS w h9
theorem mz_skt {v : mzV} {S : List mzV} (hS : mzSk (v :: S)) : mzSk S := fun w hw => hS w (List.mem_cons_of_mem _ hw)
theorem mz_skh {v : mzV} {S : List mzV} (hS : mzSk (v :: S)) : v ≠ none ∧ mzK v := hS v List.mem_cons_self
/-! the memory -/
theorem mz_wo {G : mzG} {μ : mzM} {k : Nat} (h : k < 148) : (mzWo G μ)[k]? = some (mzAd G k, mzEnt G μ k) := by
  unfold mzWo
  rw [List.getElem?_map, List.getElem?_range h]
  rfl
theorem mz_wlen {G : mzG} {μ : mzM} : (mzWo G μ).length = 148 := by simp [mzWo]
theorem mz_woi {G : mzG} {μ : mzM} {k : Nat} {q : Nat × va_E} (h : (mzWo G μ)[k]? = some q) : k < 148 ∧ q = (mzAd G k, mzEnt G μ k) := by
  have hl : k < 148 := by
    have := (List.getElem?_eq_some_iff.mp h).1
    rw [mz_wlen] at this
    exact this
  refine ⟨hl, ?_⟩
  rw [mz_wo hl] at h
  exact (Option.some.inj h).symm
theorem mz_D {G : mzG} (hI : mzInj G) (μ : mzM) : va_D (mzA G) (mzWo G μ) := by
  refine ⟨fun i j x z hi hj hxy => ?_, fun k q hk => ?_⟩
  · obtain ⟨a1, a2⟩ := mz_woi hi
    obtain ⟨b1, b2⟩ := mz_woi hj
    subst a2
    subst b2
    exact hI i j a1 b1 hxy
  · obtain ⟨a1, a2⟩ := mz_woi hk
    subst a2
    exact ⟨k, a1, rfl⟩
theorem mz_set {G : mzG} {μ μ' : mzM} {k : Nat} {en : va_E} (hk : k < 148) (h1 : mzEnt G μ' k = en) (h2 : ∀ j, j < 148 → j ≠ k → mzEnt G μ' j = mzEnt G μ j) : (mzWo G μ).set k (mzAd G k, en) = mzWo G μ' := by
  apply List.ext_getElem?
  intro i
  by_cases hi : i < 148
  · rw [mz_wo hi]
    by_cases hik : k = i
    · subst hik
      rw [List.getElem?_set_self (by rw [mz_wlen]; exact hk), h1]
    · rw [List.getElem?_set_ne hik, mz_wo hi, h2 i hi (fun q => hik q.symm)]
  · rw [List.getElem?_eq_none (by rw [List.length_set, mz_wlen]; omega), List.getElem?_eq_none (by rw [mz_wlen]; omega)]
theorem mz_ent_ne {G : mzG} {μ μ' : mzM} {k : Nat} (h : ∀ j, μ' k j = μ k j) : mzEnt G μ' k = mzEnt G μ k := by
  have e : μ' k = μ k := funext h
  unfold mzEnt
  split
  · rw [e]
  · congr 2
    apply List.map_congr_left
    intro j _
    unfold mzFv
    split
    · rw [e]
    · rfl
  · rfl
  · rfl
theorem mz_sne {μ : mzM} {k a : Nat} {j : Nat} {v : Int} (h : a ≠ k) : ∀ b, mzS μ k j v a b = μ a b := fun b => by
  unfold mzS
  rw [if_neg (fun q => h q.1)]
end
section
/-! each instruction by the kit's row -/
def mzDk (y pc : Nat) (i : Instr) (n : Nat) : Bool := decide (decode (mzBy y) pc = .ok (i, n))
theorem mz_dk {y pc n : Nat} {i : Instr} (h : mzDk y pc i n = true) : decode (mzBy y) pc = .ok (i, n) := of_decide_eq_true h
def mzFt : List (Nat → FieldType) := [tyX0, tyX1, tyX2, tyX3, tyX4, tyX5]
theorem mz_cls : ∀ ci, ci < 6 → mzCls[ci]? = some (mzNo ci, mzFq ci, mzNf ci) := by
  intro ci h
  match ci, h with
  | 0, _ => rfl
  | 1, _ => rfl
  | 2, _ => rfl
  | 3, _ => rfl
  | 4, _ => rfl
  | 5, _ => rfl
theorem mz_uws (ci : Nat) (h : ci < 6) : ∀ w ∈ u_ws (mzNo ci) (mzFq ci) (mzNf ci), w ∈ mzTb := by
  intro w hw
  have hh : ∀ ci, ci < 6 → ∀ j, j < mzNf ci → mzHas mzAll 7 ci j 0 0 = true := by decide +kernel
  unfold u_ws at hw
  obtain ⟨j, hj, rfl⟩ := List.mem_map.mp hw
  refine mz_tb (mz_in (hh ci h j (List.mem_range.mp hj))) ?_
  unfold u_lay
  split <;> rfl
theorem mz_fty : ∀ ci, ci < 6 → ∀ k, k < mzNf ci → parseFieldDescriptor (mzFq ci k).2.2.1 = some ((mzFt.getD ci tyX0) k) := by decide +kernel
theorem mz_fnm : ∀ ci, ci < 6 → ∀ a, a < mzNf ci → ∀ b, b < mzNf ci → a ≠ b → (mzFq ci a).2.1 ≠ (mzFq ci b).2.1 := by decide +kernel
theorem mz_FL0 : ∀ q ∈ mzFL, q.2.2.1 < 6 ∧ q.2.2.2.1 < mzNf q.2.2.1 ∧ (q.2.2.2.2 = 0 → mzHas mzAll 0 q.1 q.2.1 q.2.2.1 q.2.2.2.1 = true) ∧ (q.2.2.2.2 = 1 → mzHas mzAlN 0 q.1 q.2.1 q.2.2.1 q.2.2.2.1 = true) := by decide +kernel
/-- what the list of fields says -/
theorem mz_FL (q : Nat × Nat × Nat × Nat × Nat) (hq : q ∈ mzFL) : q.2.2.1 < 6 ∧ q.2.2.2.1 < mzNf q.2.2.1 ∧ (q.2.2.2.2 = 0 → Jvm.Cond.fieldLink (mzNo q.1) q.2.1 (mzNo q.2.2.1) (mzFq q.2.2.1 q.2.2.2.1).2.1 (mzFq q.2.2.1 q.2.2.2.1).2.2.1 ∈ mzTb) ∧
    (q.2.2.2.2 = 1 → Jvm.Cond.fieldLinkNest (mzNo q.1) q.2.1 (mzNo q.2.2.1) (mzFq q.2.2.1 q.2.2.2.1).2.1 (mzFq q.2.2.1 q.2.2.2.1).2.2.1 "MeltPins" ∈ mzNest) := by
  obtain ⟨h1, h2, h3, h4⟩ := mz_FL0 q hq
  exact ⟨h1, h2, fun h => mz_tb (mz_in (h3 h)) rfl, fun h => mz_inN (h4 h)⟩
theorem mz_Fown : ∀ ci, ci < 6 → ∀ j, j < mzNf ci → (mzFq ci j).1 = mzNo ci := by decide +kernel
theorem mz_CL0 : ∀ i, i < mzCL.length → mzHas mzAll 8 (mzCL.getD i (0, 0, 0)).1 (mzCL.getD i (0, 0, 0)).2.1 i 0 = true ∧ -2147483648 ≤ (mzCL.getD i (0, 0, 0)).2.2 ∧ (mzCL.getD i (0, 0, 0)).2.2 < 2147483648 := by decide +kernel
theorem mz_CL (q : Nat × Nat × Int) (hq : q ∈ mzCL) : Jvm.Cond.constant (mzNo q.1) q.2.1 (Int32.ofInt q.2.2) ∈ mzTb ∧ -2147483648 ≤ q.2.2 ∧ q.2.2 < 2147483648 := by
  obtain ⟨i, hi⟩ := List.getElem?_of_mem hq
  have hl := (List.getElem?_eq_some_iff.mp hi).1
  have e : mzCL.getD i (0, 0, 0) = q := by rw [List.getD_eq_getElem?_getD, hi]; rfl
  obtain ⟨h1, h2⟩ := mz_CL0 i hl
  have h3 := mz_in h1
  unfold mzWd at h3
  rw [e] at h2 h3
  exact ⟨mz_tb h3 rfl, h2⟩
theorem mz_JL0 : ∀ i, i < mzJL.length → mzHas mzAll 9 (mzJL.getD i (0, 0, 0)).1 (mzJL.getD i (0, 0, 0)).2.1 i 0 = true ∧ -9223372036854775808 ≤ (mzJL.getD i (0, 0, 0)).2.2 ∧ (mzJL.getD i (0, 0, 0)).2.2 < 9223372036854775808 := by decide +kernel
theorem mz_JL (q : Nat × Nat × Int) (hq : q ∈ mzJL) : Jvm.Cond.constantLong (mzNo q.1) q.2.1 (Int64.ofInt q.2.2) ∈ mzTb ∧ -9223372036854775808 ≤ q.2.2 ∧ q.2.2 < 9223372036854775808 := by
  obtain ⟨i, hi⟩ := List.getElem?_of_mem hq
  have hl := (List.getElem?_eq_some_iff.mp hi).1
  have e : mzJL.getD i (0, 0, 0) = q := by rw [List.getD_eq_getElem?_getD, hi]; rfl
  obtain ⟨h1, h2⟩ := mz_JL0 i hl
  have h3 := mz_in h1
  unfold mzWd at h3
  rw [e] at h2 h3
  exact ⟨mz_tb h3 rfl, h2⟩
theorem mz_TL0 : ∀ q ∈ mzTL, q.2.2 < 3 ∧ (q.1 = 4 → mzHas mzAll 10 q.1 q.2.1 q.2.2 0 = true) ∧ (q.1 ≠ 4 → mzHas mzAlN 2 q.1 q.2.1 q.2.2 0 = true) := by decide +kernel
theorem mz_TL (q : Nat × Nat × Nat) (hq : q ∈ mzTL) : q.2.2 < 3 ∧ (q.1 = 4 → Jvm.Cond.fieldLink (mzNo q.1) q.2.1 "MeltPins" (mzStat q.2.2) "[I" ∈ mzTb) ∧ (q.1 ≠ 4 → Jvm.Cond.fieldLinkNest (mzNo q.1) q.2.1 "MeltPins" (mzStat q.2.2) "[I" "MeltPins" ∈ mzNest) := by
  obtain ⟨h1, h2, h3⟩ := mz_TL0 q hq
  exact ⟨h1, fun h => mz_tb (mz_in (h2 h)) rfl, fun h => mz_inN (h3 h)⟩
theorem mz_shl : mzShape.length = 148 := by decide +kernel
theorem mz_shn : ∀ k, k < 148 → (mzSh k).1 ≤ 3 ∧ ((mzSh k).1 = 1 → (mzSh k).2.1 < 6) ∧ ((mzSh k).1 ≠ 1 → (mzSh k).2.1 ≤ 4096) := by decide +kernel
theorem mz_shlt {k a b z : Nat} (h : mzSh k = (a, b, z)) (ha : a ≠ 9) : k < 148 := by
  rcases Nat.lt_or_ge k 148 with q | q
  · exact q
  · exfalso
    unfold mzSh at h
    rw [List.getD_eq_getElem?_getD, List.getElem?_eq_none (by rw [mz_shl]; exact q)] at h
    cases h
    exact ha rfl
theorem mz_pools : ∀ q ∈ mzPools, q.1 < 300 → ∀ o, o < q.2.1 → mzSh (q.1 + o) = (q.2.2.1, q.2.2.2, 0) := by decide +kernel
theorem mz_find {l : List (Nat × Nat × Nat × Nat)} {b : Nat} {v : Nat × Nat × Nat} (h : mzFind l b = v) (hv : v.2.1 ≠ 9) : (b, v) ∈ l := by
  induction l with
  | nil => subst h; exact absurd rfl hv
  | cons q r ih =>
    obtain ⟨k, w⟩ := q
    simp only [mzFind] at h
    split at h
    · next e =>
      have := Nat.eq_of_beq_eq_true e
      subst this
      subst h
      exact List.mem_cons_self
    · exact List.mem_cons_of_mem _ (ih h)
theorem mz_pool0 {p o cnt n : Nat} (h : mzPq p = (cnt, 0, n)) (ho : o < cnt) : mzSh (p + o) = (0, n, 0) := by
  have h1 := mz_find (v := (cnt, 0, n)) h (show (0 : Nat) ≠ 9 by decide)
  have h2 : p < 300 := by
    have h3 : ∀ q ∈ mzPools, q.2.2.1 = 0 → q.1 < 300 := by decide +kernel
    exact h3 _ h1 rfl
  exact mz_pools _ h1 h2 o ho
theorem mz_pool1 {p cnt ci : Nat} (h : mzPq p = (cnt, 1, ci)) : p = 44 ∧ cnt = 4 ∧ ci = 1 := by
  have h1 := mz_find (v := (cnt, 1, ci)) h (show (1 : Nat) ≠ 9 by decide)
  have h3 : ∀ q ∈ mzPools, q.2.2.1 = 1 → q.1 = 44 ∧ q.2.1 = 4 ∧ q.2.2.2 = 1 := by decide +kernel
  exact h3 _ h1 rfl
theorem mz_ent0 {G : mzG} {μ : mzM} {k n z : Nat} (h : mzSh k = (0, n, z)) : mzEnt G μ k = .inl (G.2.2.1, n, .inl (fun j => Int32.ofInt (μ k j))) := by
  simp only [mzEnt, h]
theorem mz_ent1 {G : mzG} {μ : mzM} {k n z : Nat} (h : mzSh k = (1, n, z)) : mzEnt G μ k = .inr (n, (List.range (mzNf n)).map (mzFv G μ n k)) := by
  simp only [mzEnt, h]
theorem mz_ent2 {G : mzG} {μ : mzM} {k n z : Nat} (h : mzSh k = (2, n, z)) : mzEnt G μ k = .inl (G.2.2.2.1, n, .inr (.inr (.inr (.inr (mzRow G n z))))) := by
  simp only [mzEnt, h]
theorem mz_ent3 {G : mzG} {μ : mzM} {k n z : Nat} (h : mzSh k = (3, n, z)) : mzEnt G μ k = .inl (G.2.2.2.2.1, n, .inr (.inr (.inr (.inr (mzRow G n z))))) := by
  simp only [mzEnt, h]
theorem mz_isO {k ci : Nat} (h : mzIsO k ci = true) : ∃ z, mzSh k = (1, ci, z) := by
  unfold mzIsO at h
  split at h
  · next c z e =>
    have := Nat.eq_of_beq_eq_true h
    subst this
    exact ⟨z, e⟩
  · cases h
/-- a store into a row of numbers -/
theorem mz_st0 {G : mzG} {μ : mzM} {k n z j : Nat} {v : Int} (h : mzSh k = (0, n, z)) : mzEnt G (mzS μ k j v) k = .inl (G.2.2.1, n, .inl (upd (fun j => Int32.ofInt (μ k j)) j (Int32.ofInt v))) := by
  rw [mz_ent0 h]
  congr 4
  funext i
  unfold mzS upd
  by_cases e : i = j
  · subst e; simp
  · simp [e]
theorem mz_rset {α : Type} (n j : Nat) (f g : Nat → α) (v : α) (h : ∀ i, i ≠ j → g i = f i) (hj : g j = v) : ((List.range n).map f).set j v = (List.range n).map g := by
  apply List.ext_getElem?
  intro i
  by_cases hi : i < n
  · by_cases e : j = i
    · subst e
      rw [List.getElem?_set_self (by simpa using hi), List.getElem?_map, List.getElem?_range hi]
      simp [hj]
    · rw [List.getElem?_set_ne e, List.getElem?_map, List.getElem?_map, List.getElem?_range hi]
      simp [h i (fun q => e q.symm)]
  · rw [List.getElem?_eq_none (by simp; omega), List.getElem?_eq_none (by simp; omega)]
theorem mz_st1 {G : mzG} {μ : mzM} {k ci z j : Nat} {v : Int} (h : mzSh k = (1, ci, z)) (hr : mzRf ci j k = 0) : mzEnt G (mzS μ k j v) k = .inr (ci, ((List.range (mzNf ci)).map (mzFv G μ ci k)).set j (.int (Int32.ofInt v))) := by
  rw [mz_ent1 h]
  congr 2
  symm
  refine mz_rset _ _ _ _ _ (fun i hi => ?_) ?_
  · unfold mzFv
    split
    · unfold mzS; rw [if_neg (fun q => hi q.2)]
    · rfl
  · unfold mzFv
    rw [hr]
    unfold mzS
    simp
theorem mz_stok {G : mzG} {H H1 : Heap} {μ : mzM} {k j : Nat} {v : Int} (hS : mzSt G H μ) (hk : k < 148) (hv : -2147483648 ≤ v ∧ v < 2147483648) {en : va_E} (he : mzEnt G (mzS μ k j v) k = en) (hP : va_P G.1 mzCls ((mzWo G μ).set k (mzAd G k, en)) H1) : mzSt G H1 (mzS μ k j v) := by
  refine ⟨?_, fun a b => ?_, fun a => ?_, ?_⟩
  · rw [mz_set hk he (fun j hj hn => mz_ent_ne (mz_sne hn))] at hP
    exact hP
  · unfold mzS
    split
    · exact hv
    · exact hS.2.1 a b
  · unfold mzS
    rw [if_neg (fun q => by omega)]
    exact hS.2.2.1 a
  · unfold mzS
    rw [if_neg (fun q => by omega)]
    exact hS.2.2.2
section MZR
variable {G : mzG} {p : Program} {l : Launch} {e : Env} {R : Room} {s : State} {m : MethodId} {args : Array Value} {below : List Frame} {meth : Method} {c : Code} {cells slots : Nat} {Z : State → Prop} {y d pc : Nat} {L S : List mzV} {μ : mzM}
theorem mzr_const (C : mzCx G p R s m args meth c y d cells slots) {n : Int} (hn : -2147483648 ≤ n ∧ n < 2147483648) {len : Nat} (row : ∀ (H : Heap) (locs : List Loc) (ls : Array Slot) (rest : List Value), W p l e R s m args below meth c H locs cells slots Z (F0 m (pc + len) ls (.int (Int32.ofInt n) :: rest)) → W p l e R s m args below meth c H locs cells slots Z (F0 m pc ls rest))
    (k : mzGo G p l e R s m args below meth c cells slots Z y (pc + len) L (mzI n :: S) μ) : mzGo G p l e R s m args below meth c cells slots Z y pc L S μ :=
  fun H locs ls h1 h2 h3 h4 => row H locs ls _ (k H locs ls h1 h2 h3 (mz_sk (by simp) hn h4))
theorem mzr_push (C : mzCx G p R s m args meth c y d cells slots) {v : mzV} (hv : v ≠ none) (hk : ∀ ls : Array Slot, mzFr G y ls L → mzK v) {len : Nat} (row : ∀ (H : Heap) (locs : List Loc) (ls : Array Slot) (rest : List Value), va_S (mzA G) s.heap H locs → mzFr G y ls L → W p l e R s m args below meth c H locs cells slots Z (F0 m (pc + len) ls (mzC G v :: rest)) → W p l e R s m args below meth c H locs cells slots Z (F0 m pc ls rest))
    (k : mzGo G p l e R s m args below meth c cells slots Z y (pc + len) L (v :: S) μ) : mzGo G p l e R s m args below meth c cells slots Z y pc L S μ :=
  fun H locs ls h1 h2 h3 h4 => row H locs ls _ h2 h3 (k H locs ls h1 h2 h3 (mz_sk hv (hk ls h3) h4))
/-- one number off the stack, one on -/
theorem mzr_op1 (C : mzCx G p R s m args meth c y d cells slots) {u w : mzV} (hw : w ≠ none) (hk : mzK u → mzK w) {len : Nat} (row : ∀ (H : Heap) (locs : List Loc) (ls : Array Slot) (rest : List Value), mzK u → W p l e R s m args below meth c H locs cells slots Z (F0 m (pc + len) ls (mzC G w :: rest)) → W p l e R s m args below meth c H locs cells slots Z (F0 m pc ls (mzC G u :: rest)))
    (k : mzGo G p l e R s m args below meth c cells slots Z y (pc + len) L (w :: S) μ) : mzGo G p l e R s m args below meth c cells slots Z y pc L (u :: S) μ :=
  fun H locs ls h1 h2 h3 h4 => row H locs ls _ (mz_skh h4).2 (k H locs ls h1 h2 h3 (mz_sk hw (hk (mz_skh h4).2) (mz_skt h4)))
theorem mzr_op2 (C : mzCx G p R s m args meth c y d cells slots) {u v w : mzV} (hw : w ≠ none) (hk : mzK w) {len : Nat} (row : ∀ (H : Heap) (locs : List Loc) (ls : Array Slot) (rest : List Value), mzK u → mzK v → W p l e R s m args below meth c H locs cells slots Z (F0 m (pc + len) ls (mzC G w :: rest)) → W p l e R s m args below meth c H locs cells slots Z (F0 m pc ls (mzC G v :: mzC G u :: rest)))
    (k : mzGo G p l e R s m args below meth c cells slots Z y (pc + len) L (w :: S) μ) : mzGo G p l e R s m args below meth c cells slots Z y pc L (v :: u :: S) μ :=
  fun H locs ls h1 h2 h3 h4 => row H locs ls _ (mz_skh (mz_skt h4)).2 (mz_skh h4).2 (k H locs ls h1 h2 h3 (mz_sk hw hk (mz_skt (mz_skt h4))))
/-- a number into its place -/
theorem mzr_st (C : mzCx G p R s m args meth c y d cells slots) {k : Nat} {v : mzV} (hc : mzC1 v = true) {len : Nat} (row : ∀ (H : Heap) (locs : List Loc) (ls : Array Slot) (rest : List Value) (lv : List (Nat × Value)), lv_has ls (mzNl y) (mzAs G L) → (k, mzC G v) :: (mzAs G L).filter (fun q => !(q.1 == k) && !(q.1 + 1 == k && q.2.category == 2)) = lv →
      (∀ ls' : Array Slot, lv_has ls' (mzNl y) lv → W p l e R s m args below meth c H locs cells slots Z (F0 m (pc + len) ls' rest)) → W p l e R s m args below meth c H locs cells slots Z (F0 m pc ls (mzC G v :: rest)))
    (kk : mzGo G p l e R s m args below meth c cells slots Z y (pc + len) (mzPut L k v) S μ) : mzGo G p l e R s m args below meth c cells slots Z y pc L (v :: S) μ :=
  fun H locs ls h1 h2 h3 h4 => row H locs ls _ _ (mz_has h3) rfl (fun ls' h' => kk H locs ls' h1 h2 (mz_put1 h3 (mz_skh h4).1 (mz_skh h4).2 rfl h') (mz_skt h4))
theorem mzr_st2 (C : mzCx G p R s m args meth c y d cells slots) {k : Nat} {x : Int} {len : Nat} (row : ∀ (H : Heap) (locs : List Loc) (ls : Array Slot) (rest : List Value) (lv : List (Nat × Value)), lv_has ls (mzNl y) (mzAs G L) → (k, mzC G (mzL x)) :: (mzAs G L).filter (fun q => !(q.1 == k) && (!(q.1 == k + 1) && !(q.1 + 1 == k && q.2.category == 2))) = lv →
      (∀ ls' : Array Slot, lv_has ls' (mzNl y) lv → W p l e R s m args below meth c H locs cells slots Z (F0 m (pc + len) ls' rest)) → W p l e R s m args below meth c H locs cells slots Z (F0 m pc ls (mzC G (mzL x) :: rest)))
    (kk : mzGo G p l e R s m args below meth c cells slots Z y (pc + len) (mzPut2 L k (mzL x)) S μ) : mzGo G p l e R s m args below meth c cells slots Z y pc L (mzL x :: S) μ :=
  fun H locs ls h1 h2 h3 h4 => row H locs ls _ _ (mz_has h3) rfl (fun ls' h' => kk H locs ls' h1 h2 (mz_put2 h3 (mz_skh h4).2 rfl h') (mz_skt h4))
theorem mzr_iinc (C : mzCx G p R s m args meth c y d cells slots) {k : Nat} {n x : Int} (hn : k < mzNl y) (hd : decode (mzBy y) pc = .ok (.iinc k n, 3)) (hg : mzGt L k = some (.inl x))
    (kk : mzGo G p l e R s m args below meth c cells slots Z y (pc + 3) (mzPut L k (mzI (mzW (x + n)))) S μ) : mzGo G p l e R s m args below meth c cells slots Z y pc L S μ := by
  intro H locs ls h1 h2 h3 h4
  obtain ⟨j, hj⟩ := List.getElem?_of_mem (mz_memas (G := G) (mz_gt hg))
  refine lv_iinc C.1 C.2.1 (k := j) (x := Int32.ofInt x) (v := Int32.ofInt (mzW (x + n))) hd (mz_has h3) hj (mz_add x n) hn rfl (fun ls' h' => kk H locs ls' h1 h2 (mz_put1 (v := mzI (mzW (x + n))) h3 (by simp) (mz_Wb _) rfl h') h4)
theorem mzr_getO (C : mzCx G p R s m args meth c y d cells slots) {k ci j idx : Nat} (hin : (mzOw y, idx, ci, j, 0) ∈ mzFL ∨ (mzOw y, idx, ci, j, 1) ∈ mzFL) (hd : decode (mzBy y) pc = .ok (.getfield idx, 3)) {z : Nat} (hk : mzSh k = (1, ci, z)) {v : mzV} (hv : v ≠ none) (hvk : mzK v) {u : mzV} (hu : mzC G u = .ref (mzAd G k)) (hf : mzFv G μ ci k j = mzC G v)
    (kk : mzGo G p l e R s m args below meth c cells slots Z y (pc + 3) L (v :: S) μ) : mzGo G p l e R s m args below meth c cells slots Z y pc L (u :: S) μ := by
  intro H locs ls h1 h2 h3 h4
  have hk1 := mz_shlt hk (by decide)
  have he : (mzWo G μ)[k]? = some (mzAd G k, .inr (ci, (List.range (mzNf ci)).map (mzFv G μ ci k))) := by rw [mz_wo hk1, mz_ent1 hk]
  have hq : ci < 6 ∧ j < mzNf ci := by
    rcases hin with q | q
    · exact ⟨(mz_FL _ q).1, (mz_FL _ q).2.1⟩
    · exact ⟨(mz_FL _ q).1, (mz_FL _ q).2.1⟩
  have hvv : ((List.range (mzNf ci)).map (mzFv G μ ci k))[j]? = some (mzC G v) := by
    rw [List.getElem?_map, List.getElem?_range hq.2, ← hf]
    rfl
  have gg : W p l e R s m args below meth c H locs cells slots Z (F0 m (pc + 3) ls (mzC G v :: S.map (mzC G))) := kk H locs ls h1 h2 h3 (mz_sk hv hvk (mz_skt h4))
  have own := mz_Fown ci hq.1 j hq.2
  show W p l e R s m args below meth c H locs cells slots Z (F0 m pc ls (mzC G u :: S.map (mzC G)))
  rw [hu]
  rcases hin with q | q
  · exact va_get C.1 C.2.1 C.2.2.2.2.2.2.1 (mz_uws ci hq.1) C.2.2.2.2.2.1 C.2.2.2.2.2.2.2.1.2.1 h1.1 k he (mz_cls ci hq.1) j hq.2 (C.2.2.2.2.2.2.1 _ ((mz_FL _ q).2.2.1 rfl)) (fun x hx => by rw [← own]; exact hx) hvv hd gg
  · exact va_getN C.1 C.2.1 C.2.2.2.2.2.2.1 (mz_uws ci hq.1) C.2.2.2.2.2.1 C.2.2.2.2.2.2.2.1.2.1 h1.1 k he (mz_cls ci hq.1) j hq.2 (va_Nw.use rfl (C.2.2.2.2.2.2.2.1.1 _ ((mz_FL _ q).2.2.2 rfl))) (fun x hx => by rw [← own]; exact hx) hvv hd gg
theorem mzr_putO (C : mzCx G p R s m args meth c y d cells slots) {k ci j idx : Nat} {x : Int} (hin : (mzOw y, idx, ci, j, 0) ∈ mzFL ∨ (mzOw y, idx, ci, j, 1) ∈ mzFL) (hd : decode (mzBy y) pc = .ok (.putfield idx, 3)) {z : Nat} (hk : mzSh k = (1, ci, z)) (hr : mzRf ci j k = 0) (hfin : (mzFq ci j).2.2.2 = false)
    {ty : FieldType} (hty : parseFieldDescriptor (mzFq ci j).2.2.1 = some ty) (hnar : narrow ty (.int (Int32.ofInt x)) = .int (Int32.ofInt x)) (hfit : fits ty (.int (Int32.ofInt x)) = true) {u : mzV} (hu : mzC G u = .ref (mzAd G k))
    (kk : mzGo G p l e R s m args below meth c cells slots Z y (pc + 3) L S (mzS μ k j x)) : mzGo G p l e R s m args below meth c cells slots Z y pc L (mzI x :: u :: S) μ := by
  intro H locs ls h1 h2 h3 h4
  have hk1 := mz_shlt hk (by decide)
  have he : (mzWo G μ)[k]? = some (mzAd G k, .inr (ci, (List.range (mzNf ci)).map (mzFv G μ ci k))) := by rw [mz_wo hk1, mz_ent1 hk]
  have hq : ci < 6 ∧ j < mzNf ci := by
    rcases hin with q | q
    · exact ⟨(mz_FL _ q).1, (mz_FL _ q).2.1⟩
    · exact ⟨(mz_FL _ q).1, (mz_FL _ q).2.1⟩
  have own := mz_Fown ci hq.1 j hq.2
  show W p l e R s m args below meth c H locs cells slots Z (F0 m pc ls (.int (Int32.ofInt x) :: mzC G u :: S.map (mzC G)))
  rw [hu]
  have goal : ∀ (H1 : Heap) (locs1 : List Loc), va_P G.1 mzCls ((mzWo G μ).set k (mzAd G k, .inr (ci, ((List.range (mzNf ci)).map (mzFv G μ ci k)).set j (.int (Int32.ofInt x))))) H1 → va_D (mzA G) ((mzWo G μ).set k (mzAd G k, .inr (ci, ((List.range (mzNf ci)).map (mzFv G μ ci k)).set j (.int (Int32.ofInt x))))) → va_S (mzA G) s.heap H1 locs1 → W p l e R s m args below meth c H1 locs1 cells slots Z (F0 m (pc + 3) ls (S.map (mzC G))) :=
    fun H1 locs1 hP1 _ hS1 => kk H1 locs1 ls (mz_stok h1 hk1 (mz_skh h4).2 (mz_st1 hk hr) hP1) hS1 h3 (mz_skt (mz_skt h4))
  rcases hin with q | q
  · exact va_put C.1 C.2.1 C.2.2.2.2.2.2.1 (mz_uws ci hq.1) (mzFt.getD ci tyX0) (mz_fty ci hq.1) (mz_fnm ci hq.1) C.2.2.2.2.2.1 C.2.2.2.2.2.2.2.1.2.1 h1.1 (mz_D C.2.2.2.2.2.2.2.2.1 μ) h2 k he (mz_cls ci hq.1) j hq.2 (C.2.2.2.2.2.2.1 _ ((mz_FL _ q).2.2.1 rfl)) (fun x hx => by rw [← own]; exact hx) hfin hty hnar hfit (by simpa using hq.2) hd goal
  · exact va_putN C.1 C.2.1 C.2.2.2.2.2.2.1 (mz_uws ci hq.1) (mzFt.getD ci tyX0) (mz_fty ci hq.1) (mz_fnm ci hq.1) C.2.2.2.2.2.1 C.2.2.2.2.2.2.2.1.2.1 h1.1 (mz_D C.2.2.2.2.2.2.2.2.1 μ) h2 k he (mz_cls ci hq.1) j hq.2 (va_Nw.use rfl (C.2.2.2.2.2.2.2.1.1 _ ((mz_FL _ q).2.2.2 rfl))) (fun x hx => by rw [← own]; exact hx) hfin hty hnar hfit (by simpa using hq.2) hd goal
theorem mzr_iald (C : mzCx G p R s m args meth c y d cells slots) {k n z : Nat} {i : Int} (hk : mzSh k = (0, n, z)) (hi : 0 ≤ i ∧ i < (n : Int)) (hd : decode (mzBy y) pc = .ok (.iaload, 1)) {u : mzV} (hu : mzC G u = .ref (mzAd G k))
    (kk : mzGo G p l e R s m args below meth c cells slots Z y (pc + 1) L (mzI (μ k i.toNat) :: S) μ) : mzGo G p l e R s m args below meth c cells slots Z y pc L (mzI i :: u :: S) μ := by
  intro H locs ls h1 h2 h3 h4
  have hk1 := mz_shlt hk (by decide)
  have hn : n ≤ 4096 := by
    have := (mz_shn k hk1).2.2
    rw [hk] at this
    exact this (show (0 : Nat) ≠ 1 by decide)
  have he : (mzWo G μ)[k]? = some (mzAd G k, .inl (G.2.2.1, n, .inl (fun j => Int32.ofInt (μ k j)))) := by rw [mz_wo hk1, mz_ent0 hk]
  show W p l e R s m args below meth c H locs cells slots Z (F0 m pc ls (.int (Int32.ofInt i) :: mzC G u :: S.map (mzC G)))
  rw [hu]
  refine va_iald C.1 C.2.1 C.2.2.2.2.2.2.2.1.2.1 h1.1 k 0 he rfl (mz_vpin hi.1 hi.2 (by omega)) hd ?_
  show W p l e R s m args below meth c H locs cells slots Z (F0 m (pc + 1) ls (.int (Int32.ofInt (μ k (Int32.ofInt i).toNatClampNeg)) :: S.map (mzC G)))
  rw [mz_nat' hi.1 (by omega)]
  exact kk H locs ls h1 h2 h3 (mz_sk (by simp) (h1.2.1 k _) (mz_skt (mz_skt h4)))
theorem mzr_iast (C : mzCx G p R s m args meth c y d cells slots) {k n z : Nat} {i x : Int} (hk : mzSh k = (0, n, z)) (hi : 0 ≤ i ∧ i < (n : Int)) (hd : decode (mzBy y) pc = .ok (.iastore, 1)) {u : mzV} (hu : mzC G u = .ref (mzAd G k))
    (kk : mzGo G p l e R s m args below meth c cells slots Z y (pc + 1) L S (mzS μ k i.toNat x)) : mzGo G p l e R s m args below meth c cells slots Z y pc L (mzI x :: mzI i :: u :: S) μ := by
  intro H locs ls h1 h2 h3 h4
  have hk1 := mz_shlt hk (by decide)
  have hn : n ≤ 4096 := by
    have := (mz_shn k hk1).2.2
    rw [hk] at this
    exact this (show (0 : Nat) ≠ 1 by decide)
  have he : (mzWo G μ)[k]? = some (mzAd G k, .inl (G.2.2.1, n, .inl (fun j => Int32.ofInt (μ k j)))) := by rw [mz_wo hk1, mz_ent0 hk]
  show W p l e R s m args below meth c H locs cells slots Z (F0 m pc ls (.int (Int32.ofInt x) :: .int (Int32.ofInt i) :: mzC G u :: S.map (mzC G)))
  rw [hu]
  refine va_iast C.1 C.2.1 C.2.2.2.2.2.2.2.1.2.1 h1.1 (mz_D C.2.2.2.2.2.2.2.2.1 μ) h2 k 0 he rfl (mz_vpin hi.1 hi.2 (by omega)) hd (fun H1 locs1 hP1 _ hS1 => ?_)
  rw [mz_nat' hi.1 (by omega)] at hP1
  exact kk H1 locs1 ls (mz_stok h1 hk1 (mz_skh h4).2 (mz_st0 hk) hP1) hS1 h3 (mz_skt (mz_skt (mz_skt h4)))
theorem mzr_cald (C : mzCx G p R s m args meth c y d cells slots) {k : Nat} {i : Int} (hk : 200 ≤ k ∧ k ≤ 202) (hi : 0 ≤ i ∧ i < (mzCsl k : Int)) (hd : decode (mzBy y) pc = .ok (.iaload, 1))
    (kk : mzGo G p l e R s m args below meth c cells slots Z y (pc + 1) L (mzI (mzCst k i.toNat) :: S) μ) : mzGo G p l e R s m args below meth c cells slots Z y pc L (mzI i :: mzR k :: S) μ := by
  intro H locs ls h1 h2 h3 h4
  obtain ⟨j, hj, rfl⟩ : ∃ j, j < 3 ∧ k = 200 + j := ⟨k - 200, by omega, by omega⟩
  have hn : ∀ j, j < 3 → mzCsl (200 + j) ≤ 9 := by decide +kernel
  have hb : ∀ j, j < 3 → ∀ i, i < 9 → -2147483648 ≤ mzCst (200 + j) i ∧ mzCst (200 + j) i < 2147483648 := by decide +kernel
  have hn := hn j hj
  have hT := (C.2.2.2.2.2.2.2.1.2.2.1 j hj).2
  refine va_ti C.1 C.2.1 hT h2 (i := Int32.ofInt i) (mz_vpin hi.1 hi.2 (by omega)) (v := .int (Int32.ofInt (mzCst (200 + j) i.toNat))) ?_ hd ?_
  · rw [mz_nat' hi.1 (by omega)]
  · exact kk H locs ls h1 h2 h3 (mz_sk (by simp) (hb j hj _ (by omega)) (mz_skt (mz_skt h4)))
theorem mzr_sld (C : mzCx G p R s m args meth c y d cells slots) {i : Int} (hy : y = 0) (hi : 0 ≤ i ∧ i < μ 149 0) (hd : decode (mzBy y) pc = .ok (.iaload, 1))
    (kk : mzGo G p l e R s m args below meth c cells slots Z y (pc + 1) L (mzI (μ 148 i.toNat) :: S) μ) : mzGo G p l e R s m args below meth c cells slots Z y pc L (mzI i :: mzR 148 :: S) μ := by
  intro H locs ls h1 h2 h3 h4
  obtain ⟨g1, g2, g3⟩ := C.2.2.2.2.2.2.2.2.2.2.2 hy
  have hb := h1.2.1 149 0
  have hL := h1.2.2.2
  refine va_sld C.1 C.2.1 g1 g2 g3 h2 (i := Int32.ofInt i) (mz_vpin hi.1 (by rw [← hL]; exact hi.2) (by omega)) hd ?_
  show W p l e R s m args below meth c H locs cells slots Z (F0 m (pc + 1) ls (.int (Int32.ofInt (G.2.2.2.2.2.1 (Int32.ofInt i).toNatClampNeg)) :: S.map (mzC G)))
  rw [mz_nat' hi.1 (by omega), ← h1.2.2.1]
  exact kk H locs ls h1 h2 h3 (mz_sk (by simp) (h1.2.1 148 _) (mz_skt (mz_skt h4)))
theorem mzr_slen (C : mzCx G p R s m args meth c y d cells slots) (hy : y = 0) (hd : decode (mzBy y) pc = .ok (.arraylength, 1))
    (kk : mzGo G p l e R s m args below meth c cells slots Z y (pc + 1) L (mzI (μ 149 0) :: S) μ) : mzGo G p l e R s m args below meth c cells slots Z y pc L (mzR 148 :: S) μ := by
  intro H locs ls h1 h2 h3 h4
  obtain ⟨g1, g2, g3⟩ := C.2.2.2.2.2.2.2.2.2.2.2 hy
  have hL := h1.2.2.2
  refine va_slen C.1 C.2.1 g1 g2 g3 h2 hd ?_
  have gg : W p l e R s m args below meth c H locs cells slots Z (F0 m (pc + 1) ls (.int (Int32.ofInt (μ 149 0)) :: S.map (mzC G))) := kk H locs ls h1 h2 h3 (mz_sk (by simp) (h1.2.1 149 _) (mz_skt h4))
  rw [hL] at gg
  exact gg
theorem mzr_alen (C : mzCx G p R s m args meth c y d cells slots) {k n z : Nat} (hk : mzSh k = (0, n, z)) (hd : decode (mzBy y) pc = .ok (.arraylength, 1)) {u : mzV} (hu : mzC G u = .ref (mzAd G k))
    (kk : mzGo G p l e R s m args below meth c cells slots Z y (pc + 1) L (mzI (n : Int) :: S) μ) : mzGo G p l e R s m args below meth c cells slots Z y pc L (u :: S) μ := by
  intro H locs ls h1 h2 h3 h4
  have hk1 := mz_shlt hk (by decide)
  have hn : n ≤ 4096 := by
    have := (mz_shn k hk1).2.2
    rw [hk] at this
    exact this (show (0 : Nat) ≠ 1 by decide)
  have he : (mzWo G μ)[k]? = some (mzAd G k, .inl (G.2.2.1, n, .inl (fun j => Int32.ofInt (μ k j)))) := by rw [mz_wo hk1, mz_ent0 hk]
  show W p l e R s m args below meth c H locs cells slots Z (F0 m pc ls (mzC G u :: S.map (mzC G)))
  rw [hu]
  refine va_alen C.1 C.2.1 C.2.2.2.2.2.2.2.1.2.1 h1.1 k 0 he rfl (v := Int32.ofInt (n : Int)) rfl hd ?_
  exact kk H locs ls h1 h2 h3 (mz_sk (by simp) (show -2147483648 ≤ (n : Int) ∧ (n : Int) < 2147483648 by omega) (mz_skt h4))
theorem mzr_aald (C : mzCx G p R s m args meth c y d cells slots) {k n f t0 : Nat} {i : Int} {cA : ClassId} {ty : FieldType} (hk1 : k < 148) (hent : mzEnt G μ k = .inl (cA, n, .inr (.inr (.inr (.inr (mzRow G n f)))))) (hn : n ≤ 4096) (ht : (mzTys G)[t0]? = some (cA, ty)) (href : refKind ty = true) (hi : 0 ≤ i ∧ i < (n : Int)) (hd : decode (mzBy y) pc = .ok (.aaload, 1))
    (kk : mzGo G p l e R s m args below meth c cells slots Z y (pc + 1) L (mzP f i.toNat :: S) μ) : mzGo G p l e R s m args below meth c cells slots Z y pc L (mzI i :: mzR k :: S) μ := by
  intro H locs ls h1 h2 h3 h4
  have he : (mzWo G μ)[k]? = some (mzAd G k, .inl (cA, n, .inr (.inr (.inr (.inr (mzRow G n f)))))) := by rw [mz_wo hk1, hent]
  have hin : vp_in (Int32.ofInt i) n := mz_vpin hi.1 hi.2 (by omega)
  have hlt : (Int32.ofInt i).toNatClampNeg < n := Nat.not_le.mp fun q => hin (Or.inr q)
  have gg : W p l e R s m args below meth c H locs cells slots Z (F0 m (pc + 1) ls (va_rf (mzRow G n f (Int32.ofInt i).toNatClampNeg) :: S.map (mzC G))) := by
    unfold mzRow
    rw [if_pos hlt, mz_nat' hi.1 (by omega)]
    exact kk H locs ls h1 h2 h3 (mz_sk (by simp) trivial (mz_skt (mz_skt h4)))
  exact W.aald (v := va_rf (mzRow G n f (Int32.ofInt i).toNatClampNeg)) (ty := ty) C.1 C.2.1 (h1.1 k _ he) ((C.2.2.2.2.2.2.2.1.2.1.2 t0 _ ht).1 n (fun j => va_rf (mzRow G n f j))) href (fun q => by cases q) (by show ¬ (Int32.ofInt i < 0 ∨ (arrV _ _ _).slots.size ≤ _); rw [arrV_size]; exact hin) (by show (arrV _ _ _).slots[_]? = _; rw [arrV_read _ _ hlt]) rfl rfl hd gg
end MZR
end
section
/-! what is looked at in an instruction ahead of time, and that the machine follows one instruction -/
def mzO1 (y pc : Nat) (i : Instr) (a : Int) (b c : Nat) : Bool := match i with
  | .iconst n => decide (-2147483648 ≤ n ∧ n < 2147483648)
  | .bipush n => decide (-128 ≤ n ∧ n < 128)
  | .sipush n => decide (-32768 ≤ n ∧ n < 32768)
  | .ldc k => (match c with
    | 0 => decide ((mzOw y, k, a) ∈ mzCL)
    | _ => decide ((mzOw y, k, b) ∈ mzSL))
  | .ldc_w k => decide ((mzOw y, k, a) ∈ mzCL)
  | .ldc2_w k => decide ((mzOw y, k, a) ∈ mzJL)
  | .istore k => decide (k < mzNl y)
  | .istore_n k => decide (k.val < mzNl y)
  | .lstore k => decide (k + 1 < mzNl y)
  | .lstore_n k => decide (k.val + 1 < mzNl y)
  | .astore k => decide (k < mzNl y)
  | .astore_n k => decide (k.val < mzNl y)
  | .iinc k _ => decide (k < mzNl y)
  | .getfield k => decide ((mzOw y, k, mzCc c, b, 0) ∈ mzFL ∨ (mzOw y, k, mzCc c, b, 1) ∈ mzFL)
  | .putfield k => decide ((mzOw y, k, mzCc c, b, 0) ∈ mzFL ∨ (mzOw y, k, mzCc c, b, 1) ∈ mzFL) && (decide ((mzFq (mzCc c) b).2.2.2 = false) && (match Nat.ble 100 c with
    | true => decide ((mzFq (mzCc c) b).2.2.1 = "Z")
    | false => decide ((mzFq (mzCc c) b).2.2.1 = "I")))
  | .getstatic k => decide ((mzOw y, k, b) ∈ mzTL)
  | _ => true
theorem mz_i8 {n : Int} (h : -128 ≤ n ∧ n < 128) : (Int8.ofInt n).toInt32 = Int32.ofInt n := by
  rw [← mz_ofInt_toInt (Int8.ofInt n).toInt32, Int8.toInt_toInt32, Int8.toInt_ofInt, Int.bmod_def]
  have e : Int8.size = 256 := rfl
  rw [e]
  congr 1
  omega
theorem mz_i16 {n : Int} (h : -32768 ≤ n ∧ n < 32768) : (Int16.ofInt n).toInt32 = Int32.ofInt n := by
  rw [← mz_ofInt_toInt (Int16.ofInt n).toInt32, Int16.toInt_toInt32, Int16.toInt_ofInt, Int.bmod_def]
  have e : Int16.size = 65536 := rfl
  rw [e]
  congr 1
  omega
theorem mz_i2l {u : Int} (h : -2147483648 ≤ u ∧ u < 2147483648) : (Int32.ofInt u).toInt64 = Int64.ofInt u := by
  rw [← mz_ofInt_toInt64 ((Int32.ofInt u).toInt64), Int32.toInt_toInt64, mz_id h]
theorem mz_cmp {u v : Int} (hu : -9223372036854775808 ≤ u ∧ u < 9223372036854775808) (hv : -9223372036854775808 ≤ v ∧ v < 9223372036854775808) : lg_cmp (Int64.ofInt u) (Int64.ofInt v) = Int32.ofInt (mzCmp u v) := by
  unfold lg_cmp mzCmp
  simp only [Int64.lt_iff_toInt_lt, mz_id64 hu, mz_id64 hv, show (Int64.ofInt u = Int64.ofInt v ↔ u = v) from ⟨fun h => by rw [← mz_id64 hu, ← mz_id64 hv, h], fun h => by rw [h]⟩]
  repeat' split
  all_goals first | rfl | omega
theorem mz_cmpb (u v : Int) : -2147483648 ≤ mzCmp u v ∧ mzCmp u v < 2147483648 := by
  unfold mzCmp
  split
  · omega
  · split <;> omega
theorem mz_num {G : mzG} {μ : mzM} (o : Nat) : mzFv G μ 1 (44 + o) 2 = mzC G (mzP 48 o) := by
  show Value.ref (mzAd G ((44 + o) + 4)) = .ref (mzAd G (48 + o))
  rw [show (44 + o) + 4 = 48 + o by omega]
section MZ1
variable {G : mzG} {p : Program} {l : Launch} {e : Env} {R : Room} {s : State} {m : MethodId} {args : Array Value} {below : List Frame} {meth : Method} {c : Code} {cells slots : Nat} {Z : State → Prop} {y d pc : Nat} {L S : List mzV} {μ : mzM}
theorem mz_go_b {pc : Nat} {L S : List mzV} {μ : mzM} (h : (∀ k j, -2147483648 ≤ μ k j ∧ μ k j < 2147483648) → mzGo G p l e R s m args below meth c cells slots Z y pc L S μ) : mzGo G p l e R s m args below meth c cells slots Z y pc L S μ :=
  fun H locs ls h1 h2 h3 h4 => h h1.2.1 H locs ls h1 h2 h3 h4
set_option maxHeartbeats 4000000 in
theorem mz1_ok (C : mzCx G p R s m args meth c y d cells slots) {i : Instr} {a : Int} {b c0 : Nat} {K : List mzV → List mzV → mzM → Prop} (hdg : decode (mzBy y) pc = .ok (i, mzLn i)) (hok : mzO1 y pc i a b c0 = true) (h : mz1 i a b c0 y K L S μ)
    (kk : ∀ L' S' μ', K L' S' μ' → mzGo G p l e R s m args below meth c cells slots Z y (pc + mzLn i) L' S' μ') : mzGo G p l e R s m args below meth c cells slots Z y pc L S μ := by
  cases i with
  | iconst n =>
    exact mzr_const C (of_decide_eq_true hok) (fun H locs ls rest g => lv_iconst C.1 C.2.1 hdg rfl g) (kk _ _ _ h)
  | bipush n =>
    have hn : -128 ≤ n ∧ n < 128 := of_decide_eq_true hok
    exact mzr_const C ⟨by omega, by omega⟩ (fun H locs ls rest g => lv_bipush C.1 C.2.1 hdg (mz_i8 hn) g) (kk _ _ _ h)
  | sipush n =>
    have hn : -32768 ≤ n ∧ n < 32768 := of_decide_eq_true hok
    exact mzr_const C ⟨by omega, by omega⟩ (fun H locs ls rest g => lv_sipush C.1 C.2.1 hdg (mz_i16 hn) g) (kk _ _ _ h)
  | ldc k =>
    cases c0 with
    | zero =>
      have hw := mz_CL _ (of_decide_eq_true (show decide ((mzOw y, k, a) ∈ mzCL) = true from hok))
      exact mzr_const C hw.2 (fun H locs ls rest g => lv_ldc C.1 C.2.1 C.2.2.2.2.2.1 (C.2.2.2.2.2.2.1 _ hw.1) hdg g) (kk _ _ _ h)
    | succ n =>
      have hw : (mzOw y, k, b) ∈ mzSL := of_decide_eq_true (show decide ((mzOw y, k, b) ∈ mzSL) = true from hok)
      have hz := C.2.2.2.2.2.2.2.1.2.2.2.1 _ hw
      exact mzr_push C (v := mzP 300 b) (by simp) (fun _ _ => trivial) (fun H locs ls rest _ _ g => va_ldcS C.1 C.2.1 C.2.2.2.2.2.1 hz hdg g) (kk _ _ _ h)
  | ldc_w k =>
    have hw := mz_CL _ (of_decide_eq_true (show decide ((mzOw y, k, a) ∈ mzCL) = true from hok))
    exact mzr_const C hw.2 (fun H locs ls rest g => lv_ldcw C.1 C.2.1 C.2.2.2.2.2.1 (C.2.2.2.2.2.2.1 _ hw.1) hdg g) (kk _ _ _ h)
  | ldc2_w k =>
    have hw := mz_JL _ (of_decide_eq_true (show decide ((mzOw y, k, a) ∈ mzJL) = true from hok))
    exact mzr_push C (v := mzL a) (by simp) (fun _ _ => hw.2) (fun H locs ls rest _ _ g => lv_ldc2 C.1 C.2.1 C.2.2.2.2.2.1 (C.2.2.2.2.2.2.1 _ hw.1) hdg g) (kk _ _ _ h)
  | lconst n =>
    exact mzr_push C (v := mzL ((n : Nat) : Int)) (by simp) (fun _ _ => by show -9223372036854775808 ≤ ((n : Nat) : Int) ∧ ((n : Nat) : Int) < 9223372036854775808; omega) (fun H locs ls rest _ _ g => lv_lconst C.1 C.2.1 hdg rfl g) (kk _ _ _ h)
  | iload k =>
    simp only [mz1] at h
    split at h
    · next x hx => exact mzr_push C (v := mzI x) (by simp) (fun ls hf => (hf.2.2.2 k _ (mz_gt hx)).2) (fun H locs ls rest _ hf g => lv_iload C.1 C.2.1 hdg (hf.2.2.2 k _ (mz_gt hx)).1 g) (kk _ _ _ h)
    · exact h.elim
  | iload_n k =>
    simp only [mz1] at h
    split at h
    · next x hx => exact mzr_push C (v := mzI x) (by simp) (fun ls hf => (hf.2.2.2 _ _ (mz_gt hx)).2) (fun H locs ls rest _ hf g => lv_iload_n C.1 C.2.1 hdg rfl (hf.2.2.2 _ _ (mz_gt hx)).1 g) (kk _ _ _ h)
    · exact h.elim
  | lload k =>
    simp only [mz1] at h
    split at h
    · next x hx => exact mzr_push C (v := mzL x) (by simp) (fun ls hf => (hf.2.2.2 k _ (mz_gt hx)).2) (fun H locs ls rest _ hf g => lv_lload C.1 C.2.1 hdg (hf.2.2.2 k _ (mz_gt hx)).1 g) (kk _ _ _ h)
    · exact h.elim
  | lload_n k =>
    simp only [mz1] at h
    split at h
    · next x hx => exact mzr_push C (v := mzL x) (by simp) (fun ls hf => (hf.2.2.2 _ _ (mz_gt hx)).2) (fun H locs ls rest _ hf g => lv_lload_n C.1 C.2.1 hdg rfl (hf.2.2.2 _ _ (mz_gt hx)).1 g) (kk _ _ _ h)
    · exact h.elim
  | aload k =>
    simp only [mz1] at h
    split at h
    · next v hx => 
      refine mzr_push C (v := some (.inr (.inr v))) (by simp) (fun ls hf => (hf.2.2.2 k _ (mz_gt hx)).2) (fun H locs ls rest _ hf g => ?_) (kk _ _ _ h)
      have hl := (hf.2.2.2 _ _ (mz_gt hx)).1
      match v, hl, g with
      | .inl k1, hl, g => exact lv_aload C.1 C.2.1 hdg hl g
      | .inr (p1, o1), hl, g => exact lv_aload C.1 C.2.1 hdg hl g
    · exact h.elim
  | aload_n k =>
    simp only [mz1] at h
    split at h
    · next v hx => 
      refine mzr_push C (v := some (.inr (.inr v))) (by simp) (fun ls hf => (hf.2.2.2 _ _ (mz_gt hx)).2) (fun H locs ls rest _ hf g => ?_) (kk _ _ _ h)
      have hl := (hf.2.2.2 _ _ (mz_gt hx)).1
      match v, hl, g with
      | .inl k1, hl, g => exact lv_aload_n C.1 C.2.1 hdg rfl hl g
      | .inr (p1, o1), hl, g => exact lv_aload_n C.1 C.2.1 hdg rfl hl g
    · exact h.elim
  | istore k =>
    have hn : k < mzNl y := of_decide_eq_true hok
    simp only [mz1] at h
    split at h
    · exact mzr_st C (k := k) rfl (fun H locs ls rest lv g1 g2 g3 => lv_istore C.1 C.2.1 hdg g1 hn g2 g3) (kk _ _ _ h)
    · exact h.elim
  | istore_n k =>
    have hn : k.val < mzNl y := of_decide_eq_true hok
    simp only [mz1] at h
    split at h
    · exact mzr_st C (k := k.val) rfl (fun H locs ls rest lv g1 g2 g3 => lv_istore_n C.1 C.2.1 hdg rfl g1 hn g2 g3) (kk _ _ _ h)
    · exact h.elim
  | lstore k =>
    have hn : k + 1 < mzNl y := of_decide_eq_true hok
    simp only [mz1] at h
    split at h
    · exact mzr_st2 C (k := k) (fun H locs ls rest lv g1 g2 g3 => lv_lstore C.1 C.2.1 hdg g1 hn g2 g3) (kk _ _ _ h)
    · exact h.elim
  | lstore_n k =>
    have hn : k.val + 1 < mzNl y := of_decide_eq_true hok
    simp only [mz1] at h
    split at h
    · exact mzr_st2 C (k := k.val) (fun H locs ls rest lv g1 g2 g3 => lv_lstore_n C.1 C.2.1 hdg rfl g1 hn g2 g3) (kk _ _ _ h)
    · exact h.elim
  | astore k =>
    have hn : k < mzNl y := of_decide_eq_true hok
    simp only [mz1] at h
    split at h
    · next v S' =>
      match v, h with
      | .inl k1, h => exact mzr_st C (v := mzR k1) (k := k) rfl (fun H locs ls rest lv g1 g2 g3 => lv_astore C.1 C.2.1 hdg g1 hn g2 g3) (kk _ _ _ h)
      | .inr (p1, o1), h => exact mzr_st C (v := mzP p1 o1) (k := k) rfl (fun H locs ls rest lv g1 g2 g3 => lv_astore C.1 C.2.1 hdg g1 hn g2 g3) (kk _ _ _ h)
    · exact h.elim
  | astore_n k =>
    have hn : k.val < mzNl y := of_decide_eq_true hok
    simp only [mz1] at h
    split at h
    · next v S' =>
      match v, h with
      | .inl k1, h => exact mzr_st C (v := mzR k1) (k := k.val) rfl (fun H locs ls rest lv g1 g2 g3 => lv_astore_n C.1 C.2.1 hdg rfl g1 hn g2 g3) (kk _ _ _ h)
      | .inr (p1, o1), h => exact mzr_st C (v := mzP p1 o1) (k := k.val) rfl (fun H locs ls rest lv g1 g2 g3 => lv_astore_n C.1 C.2.1 hdg rfl g1 hn g2 g3) (kk _ _ _ h)
    · exact h.elim
  | iinc k n =>
    have hn : k < mzNl y := of_decide_eq_true hok
    simp only [mz1] at h
    split at h
    · next x hx => exact mzr_iinc C hn hdg hx (kk _ _ _ h)
    · exact h.elim
  | iadd =>
    simp only [mz1] at h
    split at h
    · next v u _ => exact mzr_op2 C (w := mzI (mzW (u + v))) (by simp) (mz_Wb _) (fun H locs ls rest _ _ g => lv_iadd C.1 C.2.1 hdg (by rw [mz_add]; exact g)) (kk _ _ _ h)
    · exact h.elim
  | isub =>
    simp only [mz1] at h
    split at h
    · next v u _ => exact mzr_op2 C (w := mzI (mzW (u - v))) (by simp) (mz_Wb _) (fun H locs ls rest _ _ g => lv_isub C.1 C.2.1 hdg (by rw [mz_sub]; exact g)) (kk _ _ _ h)
    · exact h.elim
  | imul =>
    simp only [mz1] at h
    split at h
    · next v u _ => exact mzr_op2 C (w := mzI (mzW (u * v))) (by simp) (mz_Wb _) (fun H locs ls rest _ _ g => lv_imul C.1 C.2.1 hdg (by rw [mz_mul]; exact g)) (kk _ _ _ h)
    · exact h.elim
  | iand =>
    simp only [mz1] at h
    split at h
    · next v u _ => exact mzr_op2 C (w := mzI (mzAnd u v)) (by simp) (mz_bd _) (fun H locs ls rest _ _ g => lv_iand C.1 C.2.1 hdg (by rw [← mz_ofInt_toInt (Int32.ofInt u &&& Int32.ofInt v)]; exact g)) (kk _ _ _ h)
    · exact h.elim
  | ior =>
    simp only [mz1] at h
    split at h
    · next v u _ => exact mzr_op2 C (w := mzI (mzOr u v)) (by simp) (mz_bd _) (fun H locs ls rest _ _ g => lv_ior C.1 C.2.1 hdg (by rw [← mz_ofInt_toInt (Int32.ofInt u ||| Int32.ofInt v)]; exact g)) (kk _ _ _ h)
    · exact h.elim
  | ixor =>
    simp only [mz1] at h
    split at h
    · next v u _ => exact mzr_op2 C (w := mzI (mzXor u v)) (by simp) (mz_bd _) (fun H locs ls rest _ _ g => lv_ixor C.1 C.2.1 hdg (by rw [← mz_ofInt_toInt (Int32.ofInt u ^^^ Int32.ofInt v)]; exact g)) (kk _ _ _ h)
    · exact h.elim
  | ishl =>
    simp only [mz1] at h
    split at h
    · next v u _ => exact mzr_op2 C (w := mzI (mzShl u v)) (by simp) (mz_bd _) (fun H locs ls rest _ _ g => lv_ishl C.1 C.2.1 hdg (by rw [← mz_ofInt_toInt (Int32.ofInt u <<< (Int32.ofInt v &&& 31))]; exact g)) (kk _ _ _ h)
    · exact h.elim
  | ishr =>
    simp only [mz1] at h
    split at h
    · next v u _ => exact mzr_op2 C (w := mzI (mzShr u v)) (by simp) (mz_bd _) (fun H locs ls rest _ _ g => lv_ishr C.1 C.2.1 hdg (by rw [← mz_ofInt_toInt (Int32.ofInt u >>> (Int32.ofInt v &&& 31))]; exact g)) (kk _ _ _ h)
    · exact h.elim
  | iushr =>
    simp only [mz1] at h
    split at h
    · next v u _ => exact mzr_op2 C (w := mzI (mzUsh u v)) (by simp) (mz_bd _) (fun H locs ls rest _ _ g => lv_iushr C.1 C.2.1 hdg (mz_ofInt_toInt _).symm g) (kk _ _ _ h)
    · exact h.elim
  | idiv =>
    simp only [mz1] at h
    split at h
    · next v u _ => exact mzr_op2 C (u := mzI u) (v := mzI v) (w := mzI (mzDiv u v)) (by simp) (mz_bd _) (fun H locs ls rest hu hv g => lv_idiv C.1 C.2.1 hdg (fun z => h.1 ((mz_eq hv ⟨by omega, by omega⟩).mp z)) (by rw [← mz_ofInt_toInt (Int32.ofInt u / Int32.ofInt v)]; exact g)) (kk _ _ _ h.2)
    · exact h.elim
  | irem =>
    simp only [mz1] at h
    split at h
    · next v u _ => exact mzr_op2 C (u := mzI u) (v := mzI v) (w := mzI (mzRem u v)) (by simp) (mz_bd _) (fun H locs ls rest hu hv g => lv_irem C.1 C.2.1 hdg (fun z => h.1 ((mz_eq hv ⟨by omega, by omega⟩).mp z)) (by rw [← mz_ofInt_toInt (Int32.ofInt u - Int32.ofInt u / Int32.ofInt v * Int32.ofInt v)]; exact g)) (kk _ _ _ h.2)
    · exact h.elim
  | ladd =>
    simp only [mz1] at h
    split at h
    · next v u _ => exact mzr_op2 C (w := mzL (mzX (u + v))) (by simp) (mz_Xb _) (fun H locs ls rest _ _ g => lv_ladd C.1 C.2.1 hdg (by rw [mz_addL]; exact g)) (kk _ _ _ h)
    · exact h.elim
  | lmul =>
    simp only [mz1] at h
    split at h
    · next v u _ => exact mzr_op2 C (w := mzL (mzX (u * v))) (by simp) (mz_Xb _) (fun H locs ls rest _ _ g => lv_lmul C.1 C.2.1 hdg (by rw [mz_mulL]; exact g)) (kk _ _ _ h)
    · exact h.elim
  | lcmp =>
    simp only [mz1] at h
    split at h
    · next v u _ => exact mzr_op2 C (u := mzL u) (v := mzL v) (w := mzI (mzCmp u v)) (by simp) (mz_cmpb u v) (fun H locs ls rest hu hv g => W.lcmp C.1 C.2.1 hdg (by rw [mz_cmp hu hv]; exact g)) (kk _ _ _ h)
    · exact h.elim
  | i2l =>
    simp only [mz1] at h
    split at h
    · next u _ => exact mzr_op1 C (u := mzI u) (w := mzL u) (by simp) (fun (q : -2147483648 ≤ u ∧ u < 2147483648) => ⟨by omega, by omega⟩) (fun H locs ls rest hu g => t_i2l C.1 C.2.1 hdg (mz_i2l hu) g) (kk _ _ _ h)
    · exact h.elim
  | i2b =>
    simp only [mz1] at h
    split at h
    · next u _ => exact mzr_op1 C (u := mzI u) (w := mzI (mzB8 u)) (by simp) (fun _ => mz_bd _) (fun H locs ls rest hu g => lv_i2b C.1 C.2.1 hdg (mz_ofInt_toInt _).symm g) (kk _ _ _ h)
    · exact h.elim
  | i2s =>
    simp only [mz1] at h
    split at h
    · next u _ => exact mzr_op1 C (u := mzI u) (w := mzI (mzB16 u)) (by simp) (fun _ => mz_bd _) (fun H locs ls rest hu g => lv_i2s C.1 C.2.1 hdg (mz_ofInt_toInt _).symm g) (kk _ _ _ h)
    · exact h.elim
  | dup =>
    simp only [mz1] at h
    split at h
    · split at h
      · next hc => exact fun H locs ls h1 h2 h3 h4 => lv_dup C.1 C.2.1 hdg (mz_cat1 hc) (kk _ _ _ h H locs ls h1 h2 h3 (mz_sk (mz_skh h4).1 (mz_skh h4).2 h4))
      · exact h.elim
    · exact h.elim
  | dup2 =>
    simp only [mz1] at h
    split at h
    · split at h
      · next hc =>
        simp only [Bool.and_eq_true] at hc
        exact fun H locs ls h1 h2 h3 h4 => lv_dup2_11 C.1 C.2.1 hdg (mz_cat1 hc.1) (mz_cat1 hc.2) (kk _ _ _ h H locs ls h1 h2 h3 (mz_sk (mz_skh h4).1 (mz_skh h4).2 (mz_sk (mz_skh (mz_skt h4)).1 (mz_skh (mz_skt h4)).2 h4)))
      · exact h.elim
    · exact h.elim
  | pop =>
    simp only [mz1] at h
    split at h
    · split at h
      · next hc => exact fun H locs ls h1 h2 h3 h4 => lv_pop C.1 C.2.1 hdg (mz_cat1 hc) (kk _ _ _ h H locs ls h1 h2 h3 (mz_skt h4))
      · exact h.elim
    · exact h.elim
  | pop2 =>
    simp only [mz1] at h
    split at h
    · exact fun H locs ls h1 h2 h3 h4 => lv_pop2_2 C.1 C.2.1 hdg rfl (kk _ _ _ h H locs ls h1 h2 h3 (mz_skt h4))
    · exact h.elim
  | getfield k =>
    have hin : (mzOw y, k, mzCc c0, b, 0) ∈ mzFL ∨ (mzOw y, k, mzCc c0, b, 1) ∈ mzFL := of_decide_eq_true hok
    simp only [mz1] at h
    split at h
    · next k1 S' =>
      split at h
      · next hO =>
        obtain ⟨z, hz⟩ := mz_isO hO
        refine mz_go_b (fun hb => ?_)
        split at h
        · next hr => exact mzr_getO C hin hdg hz (v := mzI (μ k1 b)) (by simp) (hb _ _) (u := mzR k1) rfl (by unfold mzFv; rw [hr]; rfl) (kk _ _ _ h)
        · next t hr => exact mzr_getO C hin hdg hz (v := mzR (t + 1)) (by simp) trivial (u := mzR k1) rfl (by unfold mzFv; rw [hr]; rfl) (kk _ _ _ h)
      · exact h.elim
    · next p1 o1 S' =>
      split at h
      · next cnt ci hp =>
        split at h
        · next hc =>
          obtain ⟨rfl, rfl, rfl⟩ := mz_pool1 hp
          have hcc : mzCc c0 = 1 := (Nat.eq_of_beq_eq_true hc).symm
          rw [hcc] at h hin
          have hz : mzSh (44 + o1) = (1, 1, 0) := mz_pools (44, 4, 1, 1) (by decide) (by decide) o1 h.1
          refine mz_go_b (fun hb => ?_)
          have hj : b < 3 := by
            rcases hin with q | q
            · exact (mz_FL _ q).2.1
            · exact (mz_FL _ q).2.1
          have h2 := h.2
          match b, hj, hin, h2 with
          | 0, _, hin, h2 => exact mzr_getO C hin hdg hz (v := mzI (μ (44 + o1) 0)) (by simp) (hb _ _) (u := mzP 44 o1) rfl rfl (kk _ _ _ h2)
          | 1, _, hin, h2 => exact mzr_getO C hin hdg hz (v := mzI (μ (44 + o1) 1)) (by simp) (hb _ _) (u := mzP 44 o1) rfl rfl (kk _ _ _ h2)
          | 2, _, hin, h2 => exact mzr_getO C hin hdg hz (v := mzP 48 o1) (by simp) trivial (u := mzP 44 o1) rfl (mz_num o1) (kk _ _ _ h2)
        · exact h.elim
      · exact h.elim
    · exact h.elim
  | putfield k =>
    simp only [mzO1, Bool.and_eq_true, decide_eq_true_eq] at hok
    obtain ⟨hin, hfin, hty⟩ := hok
    simp only [mz1] at h
    split at h
    · next x k1 S' =>
      split at h
      · next hO =>
        simp only [Bool.and_eq_true] at hO
        obtain ⟨z, hz⟩ := mz_isO hO.1
        have hr := Nat.eq_of_beq_eq_true hO.2
        split at h
        · next hc =>
          rw [hc] at hty
          have hty := of_decide_eq_true hty
          rcases h.1 with rfl | rfl
          · exact mzr_putO C hin hdg hz hr hfin (ty := .boolean) (by rw [hty]; decide) (by decide) (by decide) (u := mzR k1) rfl (kk _ _ _ h.2)
          · exact mzr_putO C hin hdg hz hr hfin (ty := .boolean) (by rw [hty]; decide) (by decide) (by decide) (u := mzR k1) rfl (kk _ _ _ h.2)
        · next hc =>
          rw [hc] at hty
          have hty := of_decide_eq_true hty
          exact mzr_putO C hin hdg hz hr hfin (ty := .int) (by rw [hty]; decide) rfl rfl (u := mzR k1) rfl (kk _ _ _ h)
      · exact h.elim
    · next x p1 o1 S' =>
      split at h
      · next cnt ci hp =>
        split at h
        · next hc =>
          simp only [Bool.and_eq_true] at hc
          obtain ⟨rfl, rfl, rfl⟩ := mz_pool1 hp
          have hcc : c0 = 1 := (Nat.eq_of_beq_eq_true hc.1).symm
          subst hcc
          have hr := Nat.eq_of_beq_eq_true hc.2
          have hz : mzSh (44 + o1) = (1, 1, 0) := mz_pools (44, 4, 1, 1) (by decide) (by decide) o1 h.1
          have hj : b < 3 := by
            rcases hin with q | q
            · exact (mz_FL _ q).2.1
            · exact (mz_FL _ q).2.1
          have hty := of_decide_eq_true hty
          have hr2 : mzRf 1 b (44 + o1) = 0 := by
            match b, hj, hr with
            | 0, _, _ => rfl
            | 1, _, _ => rfl
            | 2, _, hr => exact absurd hr (by decide)
          exact mzr_putO C hin hdg hz hr2 hfin (ty := .int) (by rw [hty]; decide) rfl rfl (u := mzP 44 o1) rfl (kk _ _ _ h.2)
        · exact h.elim
      · exact h.elim
    · exact h.elim
  | getstatic k =>
    have hin : (mzOw y, k, b) ∈ mzTL := of_decide_eq_true hok
    have hw := mz_TL _ hin
    have hz := (C.2.2.2.2.2.2.2.1.2.2.1 b hw.1).1
    refine mzr_push C (v := mzR (200 + b)) (by simp) (fun _ _ => trivial) (fun H locs ls rest hS _ g => ?_) (kk _ _ _ h)
    by_cases h4 : mzOw y = 4
    · exact va_gets C.1 C.2.1 hz hS C.2.2.2.2.2.1 (C.2.2.2.2.2.2.1 _ (hw.2.1 h4)) (fun _ q => q) hdg g
    · exact va_getsN C.1 C.2.1 hz hS C.2.2.2.2.2.1 (va_Nw.use rfl (C.2.2.2.2.2.2.2.1.1 _ (hw.2.2 h4))) (fun _ q => q) hdg g
  | iaload =>
    simp only [mz1] at h
    split at h
    · next i k1 S' =>
      split at h
      · split at h
        · next hc =>
          simp only [Bool.and_eq_true] at hc
          have e1 := Nat.eq_of_beq_eq_true hc.1
          have e2 := Nat.eq_of_beq_eq_true hc.2
          subst e1
          exact mzr_sld C e2 h.1 hdg (kk _ _ _ h.2)
        · split at h
          · next hc =>
            simp only [Bool.and_eq_true] at hc
            exact mzr_cald C ⟨Nat.le_of_ble_eq_true hc.1, Nat.le_of_ble_eq_true hc.2⟩ h.1 hdg (kk _ _ _ h.2)
          · exact h.elim
      · split at h
        · next n z hz => exact mzr_iald C hz h.1 hdg (u := mzR k1) rfl (kk _ _ _ h.2)
        · exact h.elim
    · next i p1 o1 S' =>
      split at h
      · next cnt n hp => exact mzr_iald C (mz_pool0 hp h.1.1) h.1.2 hdg (u := mzP p1 o1) rfl (kk _ _ _ h.2)
      · exact h.elim
    · exact h.elim
  | iastore =>
    simp only [mz1] at h
    split at h
    · next x i k1 S' =>
      split at h
      · next n z hz => exact mzr_iast C hz h.1 hdg (u := mzR k1) rfl (kk _ _ _ h.2)
      · exact h.elim
    · next x i p1 o1 S' =>
      split at h
      · next cnt n hp => exact mzr_iast C (mz_pool0 hp h.1.1) h.1.2 hdg (u := mzP p1 o1) rfl (kk _ _ _ h.2)
      · exact h.elim
    · exact h.elim
  | aaload =>
    simp only [mz1] at h
    split at h
    · next i k1 S' =>
      split at h
      · next n f hz => exact mzr_aald C (mz_shlt hz (by decide)) (mz_ent2 hz) (by have := (mz_shn k1 (mz_shlt hz (by decide))).2.2; rw [hz] at this; exact this (show (2 : Nat) ≠ 1 by decide)) (t0 := 1) rfl rfl h.1 hdg (kk _ _ _ h.2)
      · next n f hz => exact mzr_aald C (mz_shlt hz (by decide)) (mz_ent3 hz) (by have := (mz_shn k1 (mz_shlt hz (by decide))).2.2; rw [hz] at this; exact this (show (3 : Nat) ≠ 1 by decide)) (t0 := 2) rfl rfl h.1 hdg (kk _ _ _ h.2)
      · exact h.elim
    · exact h.elim
  | arraylength =>
    simp only [mz1] at h
    split at h
    · next k1 S' =>
      split at h
      · next hc =>
        simp only [Bool.and_eq_true] at hc
        have e1 := Nat.eq_of_beq_eq_true hc.1
        have e2 := Nat.eq_of_beq_eq_true hc.2
        subst e1
        exact mzr_slen C e2 hdg (kk _ _ _ h)
      · split at h
        · next n z hz => exact mzr_alen C hz hdg (u := mzR k1) rfl (kk _ _ _ h)
        · exact h.elim
    · next p1 o1 S' =>
      split at h
      · next cnt n hp => exact mzr_alen C (mz_pool0 hp h.1) hdg (u := mzP p1 o1) rfl (kk _ _ _ h.2)
      · exact h.elim
    · exact h.elim
  | _ => exact False.elim h
end MZ1
end
section
/-! calls: what is there in every method goes along; a method's frame as a contract; the call's row -/
theorem mz_nestk : ∀ w ∈ mzNest, (∃ a i b n dd h, w = Jvm.Cond.fieldLinkNest a i b n dd h) ∨ (∃ a i x0 h, w = Jvm.Cond.methodLinkNest a i x0 h) := by
  intro w hw
  unfold mzNest at hw
  have h := (List.mem_filter.mp hw).2
  cases w with
  | fieldLinkNest a i b n dd hh => exact Or.inl ⟨_, _, _, _, _, _, rfl⟩
  | methodLinkNest a i x0 hh => exact Or.inr ⟨_, _, _, _, rfl⟩
  | _ => exact absurd h (by simp)
theorem mz_amb {G : mzG} {s U : State} (hN : ∀ w ∈ mzNest, va_Nw w s → va_Nw w U) (hA : s.vm.Alike U.vm) (hR : ∀ own k tx a, vk_R own k tx a s → vk_R own k tx a U) (hH : ∀ a : Nat, a < s.heap.size → ¬ mzA G a → U.heap[a]? = s.heap[a]?) (h : mzAmb G s) : mzAmb G U :=
  ⟨fun w hw => hN w hw (h.1 w hw), va_K.moved hA h.2.1, fun k hk => ⟨((h.2.2.1 k hk).1.moved hA).kept hH, ((h.2.2.1 k hk).2.moved hA).kept hH⟩, fun q hq => hR _ _ _ _ (h.2.2.2.1 q hq), (h.2.2.2.2.1.moved hA).kept hH, (h.2.2.2.2.2.moved hA).kept hH⟩
theorem mz_amb_w {G : mzG} {s U : State} {locs : List Loc} (hW : s.WarmedH U.vm) (hS : va_S (mzA G) s.heap U.heap locs) (h : mzAmb G s) : mzAmb G U := by
  refine mz_amb (fun w hw hz => ?_) hW.alike (fun own k tx a hr => vk_R.warm hW hr) (fun a h1 h2 => hS.2.1 a h1 h2) h
  rcases mz_nestk w hw with ⟨_, _, _, _, _, _, rfl⟩ | ⟨_, _, _, _, rfl⟩
  · exact va_Nw.warmF hW hz
  · exact va_Nw.warmM hW hz
theorem mz_amb_v {G : mzG} {s U : State} (hv : s.vm = U.vm) (hh : U.heap = s.heap) (h : mzAmb G s) : mzAmb G U := by
  refine mz_amb (fun w hw hz => ?_) (by rw [← hv]; exact Vm.Alike.refl _) (fun own k tx a hr => vk_R.same hv.symm hr) (fun a _ _ => by rw [hh]) h
  rcases mz_nestk w hw with ⟨_, _, _, _, _, _, rfl⟩ | ⟨_, _, _, _, rfl⟩
  · exact va_Nw.same rfl hv hz
  · exact va_Nw.same rfl hv hz
def mzPre (G : mzG) (μ : mzM) (U : State) : Prop := mzAmb G U ∧ mzSt G U.heap μ
theorem mz_blind {G : mzG} {μ : mzM} {as : List Value} : FrameBlind (va_Pc as (mzPre G μ)) := fun a U g mk h => ⟨h.1, mz_amb_v (s := U) (U := U.calling g mk a) rfl rfl h.2.1, h.2.2⟩
def mzOv (G : mzG) (v : mzV) : Option Value := match v with
  | none => none
  | some w => some (mzC G (some w))
def mzPost (G : mzG) (r : Option FieldType) (Q : mzV → mzM → Prop) : Array Value → State → Outcome → State → Prop := fun _ st o t =>
  ∃ (v : mzV) (μ' : mzM), o = .returned (mzOv G v) ∧ Q v μ' ∧ mzTyp r v ∧ mzK v ∧ mzSt G t.heap μ' ∧ va_F (mzA G) st t
theorem mz_nl : ∀ y, y < 192 → mzNl y ≤ 45 := by decide +kernel
theorem mz_plain : ∀ y, y < 192 → plainName (mzYn y).cls = true := by decide +kernel
theorem mz_names : ∀ y, y < 192 → 0 < y → (mzYn y).cls = mzNo (mzOw y) := by decide +kernel
theorem mz_good {w : Jvm.Cond} (h : w ∈ mzTb) : (w.onTables && w.keeps) = true ∨ ∃ ty, w = .arrayClass ty := good_of_word (List.mem_filter.mp h).2
theorem mz_lay {G : mzG} : ∀ (as : List mzV) (j : Nat) (v : Int ⊕ (Int ⊕ (Nat ⊕ (Nat × Nat)))), (∀ a ∈ as, a ≠ none) → (mzLay as)[j]? = some (some v) → ∀ i, (i + j, mzC G (some v)) ∈ lv_args i (as.map (mzC G)) ∧ some v ∈ as := by
  intro as
  induction as with
  | nil => intro j v _ h; simp [mzLay] at h
  | cons a r ih =>
    intro j v hn h i
    have hr : ∀ a ∈ r, a ≠ none := fun z hz => hn z (List.mem_cons_of_mem _ hz)
    match a, h with
    | none, _ => exact absurd rfl (hn none List.mem_cons_self)
    | some (.inr (.inl x)), h =>
      simp only [mzLay] at h
      show (i + j, mzC G (some v)) ∈ (i, mzC G (mzL x)) :: lv_args (i + 2) (r.map (mzC G)) ∧ _
      match j, h with
      | 0, h =>
        cases h
        exact ⟨List.mem_cons_self, List.mem_cons_self⟩
      | 1, h => cases h
      | j + 2, h =>
        obtain ⟨h1, h2⟩ := ih j v hr h (i + 2)
        refine ⟨List.mem_cons_of_mem _ ?_, List.mem_cons_of_mem _ h2⟩
        rw [show i + (j + 2) = i + 2 + j by omega]
        exact h1
    | some (.inl x), h =>
      simp only [mzLay] at h
      show (i + j, mzC G (some v)) ∈ (i, mzC G (mzI x)) :: lv_args (i + 1) (r.map (mzC G)) ∧ _
      match j, h with
      | 0, h =>
        cases h
        exact ⟨List.mem_cons_self, List.mem_cons_self⟩
      | j + 1, h =>
        obtain ⟨h1, h2⟩ := ih j v hr h (i + 1)
        refine ⟨List.mem_cons_of_mem _ ?_, List.mem_cons_of_mem _ h2⟩
        rw [show i + (j + 1) = i + 1 + j by omega]
        exact h1
    | some (.inr (.inr (.inl x))), h =>
      simp only [mzLay] at h
      show (i + j, mzC G (some v)) ∈ (i, mzC G (mzR x)) :: lv_args (i + 1) (r.map (mzC G)) ∧ _
      match j, h with
      | 0, h =>
        cases h
        exact ⟨List.mem_cons_self, List.mem_cons_self⟩
      | j + 1, h =>
        obtain ⟨h1, h2⟩ := ih j v hr h (i + 1)
        refine ⟨List.mem_cons_of_mem _ ?_, List.mem_cons_of_mem _ h2⟩
        rw [show i + (j + 1) = i + 1 + j by omega]
        exact h1
    | some (.inr (.inr (.inr (x, z)))), h =>
      simp only [mzLay] at h
      show (i + j, mzC G (some v)) ∈ (i, mzC G (mzP x z)) :: lv_args (i + 1) (r.map (mzC G)) ∧ _
      match j, h with
      | 0, h =>
        cases h
        exact ⟨List.mem_cons_self, List.mem_cons_self⟩
      | j + 1, h =>
        obtain ⟨h1, h2⟩ := ih j v hr h (i + 1)
        refine ⟨List.mem_cons_of_mem _ ?_, List.mem_cons_of_mem _ h2⟩
        rw [show i + (j + 1) = i + 1 + j by omega]
        exact h1
theorem mz_laylen {G : mzG} : ∀ (as : List mzV), (∀ a ∈ as, a ≠ none) → (lg_sl (as.map (mzC G))).length = (mzLay as).length := by
  intro as
  induction as with
  | nil => intro _; rfl
  | cons a r ih =>
    intro hn
    have hr := ih (fun z hz => hn z (List.mem_cons_of_mem _ hz))
    match a with
    | none => exact absurd rfl (hn none List.mem_cons_self)
    | some (.inr (.inl x)) =>
      show ([Slot.val (mzC G (mzL x)), .second] ++ lg_sl (r.map (mzC G))).length = (mzLay r).length + 2
      rw [List.length_append, hr]
      simp [Nat.add_comm]
    | some (.inl x) =>
      show ([Slot.val (mzC G (mzI x))] ++ lg_sl (r.map (mzC G))).length = (mzLay r).length + 1
      rw [List.length_append, hr]
      simp [Nat.add_comm]
    | some (.inr (.inr (.inl x))) =>
      show ([Slot.val (mzC G (mzR x))] ++ lg_sl (r.map (mzC G))).length = (mzLay r).length + 1
      rw [List.length_append, hr]
      simp [Nat.add_comm]
    | some (.inr (.inr (.inr (x, z)))) =>
      show ([Slot.val (mzC G (mzP x z))] ++ lg_sl (r.map (mzC G))).length = (mzLay r).length + 1
      rw [List.length_append, hr]
      simp [Nat.add_comm]
theorem mz_entry {G : mzG} {y : Nat} {as : List mzV} (hs : mzSk as) (hl : (mzLay as).length ≤ mzNl y) : mzFr G y ((lg_sl (as.map (mzC G)) ++ List.replicate (mzNl y - (lg_sl (as.map (mzC G))).length) Slot.unset).toArray) (mzEn (mzNl y) as) := by
  have hn : ∀ a ∈ as, a ≠ none := fun a ha => (hs a ha).1
  have hlen := mz_laylen (G := G) as hn
  have h := lv_entry (as.map (mzC G)) (n := mzNl y) (by rw [hlen]; exact hl)
  refine ⟨h.1, h.2.1, ?_, fun i v hv => ?_⟩
  · unfold mzEn
    rw [List.length_append, List.length_replicate]
    omega
  · unfold mzEn at hv
    by_cases hi : i < (mzLay as).length
    · rw [List.getElem?_append_left hi] at hv
      obtain ⟨h1, h2⟩ := mz_lay (G := G) as i v hn hv 0
      rw [Nat.zero_add] at h1
      exact ⟨h.2.2 _ h1, (hs _ h2).2⟩
    · rw [List.getElem?_append_right (by omega), List.getElem?_replicate] at hv
      split at hv
      · cases hv
      · cases hv
/-- a method's frame that comes to its end is a contract of the method -/
theorem mz_met {d y : Nat} {as : List mzV} {μ : mzM} {Q : mzV → mzM → Prop} (h : mzCl d y as μ Q) (h0 : 0 < y) (hy : y < 192) (hs : mzSk as) (hl : (mzLay as).length ≤ mzNl y) {G : mzG} (hI : mzInj G) (l : Launch) :
    Met l (mzYn y) (mzWs y) (mzRm d) (va_Pc (as.map (mzC G)) (mzPre G μ)) (mzPost G (mzRt y) Q) 0 0 (mzA G) := by
  refine Met.ofW (cc := mzBy y) (maxL := mzNl y) (ret := mzRt y) (mz_plain y hy) rfl ?_
  intro p e s m args below meth c s₁ B hml hv
  obtain ⟨rfl, hAm, hSt⟩ := hv
  have hts := atoms_spec (ws := mzWs y) B.pre
  have hown : s.vm.findClass (mzYn y).cls = some m.cls := findClass_of_methodNamed B.named
  rw [mz_names y hy h0] at hown
  have hr := B.returns
  have C : mzCx G p (headSpec (mzWs y) (mzRm d)).room s m ((as.map (mzC G)).toArray) meth c y d 0 0 := ⟨B.exec, B.bytes, hml, hr, B.notSynchronized, hown, fun w hw => hts w (List.mem_cons_of_mem _ hw), hAm, hI, ⟨Nat.zero_le _, Nat.zero_le _⟩, ⟨Nat.le_refl _, Nat.le_refl _⟩, fun z => by omega⟩
  rw [lg_entry_eq]
  refine h G p l e _ s m _ below meth c 0 0 _ C ?_ s.heap [] _ hSt va_S.rf (mz_entry hs hl) (fun v hv => by cases hv)
  intro v μ' H' locs' ls' pc' hQ hT hK hS' hva hdg
  have hq : ∀ t : State, t.heap = H' → s.WarmedH t.vm → mzPost G (mzRt y) Q ((as.map (mzC G)).toArray) s (.returned (mzOv G v)) t := fun t ht _ => ⟨v, μ', rfl, hQ, hT, hK, by rw [ht]; exact hS', hva.F ht⟩
  have hlk := B.notSynchronized
  cases hrt : mzRt y with
  | none =>
    rw [hrt] at hT hr hdg hq
    subst hT
    exact W.vret B.exec B.bytes hr hq hva.2.2 hdg hlk
  | some ty =>
    rw [hrt] at hT hr hdg hq
    cases ty with
    | int =>
      obtain ⟨x0, rfl⟩ := hT
      exact W.iret B.exec B.bytes hr hq hva.2.2 hdg hlk
    | boolean =>
      rcases hT with rfl | rfl
      · exact W.zret B.exec B.bytes hr (by decide) hq hva.2.2 hdg hlk
      · exact W.zret B.exec B.bytes hr (by decide) hq hva.2.2 hdg hlk
    | long =>
      obtain ⟨x0, rfl⟩ := hT
      exact W.lret B.exec B.bytes hr hq hva.2.2 hdg hlk
    | object n =>
      obtain ⟨p0, o0, rfl⟩ := hT
      exact W.aret B.exec B.bytes hr (Or.inl ⟨_, rfl⟩) (Or.inr ⟨_, rfl⟩) hq hva.2.2 hdg hlk
    | array t1 =>
      obtain ⟨p0, o0, rfl⟩ := hT
      exact W.aret B.exec B.bytes hr (Or.inr ⟨_, rfl⟩) (Or.inr ⟨_, rfl⟩) hq hva.2.2 hdg hlk
    | _ =>
      have hf : ∀ y, y < 192 → mzRt y ≠ some .byte ∧ mzRt y ≠ some .char ∧ mzRt y ≠ some .double ∧ mzRt y ≠ some .float ∧ mzRt y ≠ some .short := by decide +kernel
      have := hf y hy
      simp [hrt] at this
end
section
/-! the machine follows what is computed, call by call -/
def mzNp (y : Nat) : Nat := ((parseMethodDescriptor (mzYn y).desc).map (fun d => d.parameters.length)).getD 99
def mzPrW (own k c : Nat) : Bool := mzHas mzAll 11 own k c 0
def mzO2 (y pc : Nat) (i : Instr) (a : Int) (b c : Nat) : Bool := match i with
  | .goto off => decide ((pc : Int) + off = (b : Int))
  | .ifCond _ off => decide ((pc : Int) + off = (b : Int))
  | .if_icmp _ off => decide ((pc : Int) + off = (b : Int))
  | .tableswitch dflt lo hi offs => (decide (0 ≤ (pc : Int) + dflt) && (offs.toList.all (fun o => decide (0 ≤ (pc : Int) + o)) && decide (hi - lo + 1 = (offs.toList.length : Int))))
  | .lookupswitch dflt ps => (decide (0 ≤ (pc : Int) + dflt) && (ps.toList.all (fun o => decide (0 ≤ (pc : Int) + o.2)) && (ps.toList.zip (ps.toList.drop 1)).all (fun (a, next) => decide (a.1 < next.1))))
  | .ireturn => (match c with
    | 0 => decide (mzRt y = some .int)
    | _ => decide (mzRt y = some .boolean))
  | .lreturn => decide (mzRt y = some .long)
  | .areturn => decide (mzRi (mzRt y) = .areturn)
  | .return_ => decide (mzRt y = none)
  | .invokevirtual k => (match b with
    | 0 => mzPrW (mzOw y) k c && (Nat.ble 4 c)
    | _ => decide ((mzOw y, k, b, 0) ∈ mzML ∨ (mzOw y, k, b, 1) ∈ mzML) && decide (c = mzNp b + 1))
  | .invokestatic k => (match b with
    | 0 => mzPrW (mzOw y) k c && (Nat.ble c 3)
    | _ => decide ((mzOw y, k, b, 2) ∈ mzML) && decide (c = mzNp b))
  | _ => mzO1 y pc i a b c
def mzEd (i : Instr) : Bool := match i with
  | .goto _ => true
  | .tableswitch _ _ _ _ => true
  | .lookupswitch _ _ => true
  | .ireturn => true
  | .lreturn => true
  | .areturn => true
  | .return_ => true
  | _ => false
def mzChk (y : Nat) : List mzO → Bool
  | [] => true
  | (pc, i, a, b, c) :: r => mzO2 y pc i a b c && ((match r with
    | [] => true
    | e :: _ => mzEd i || Nat.beq e.1 (pc + mzLn i)) && mzChk y r)
theorem mz_drchk {y : Nat} : ∀ {cd : List mzO} {t : Nat}, mzChk y cd = true → mzChk y (mzDr cd t) = true := by
  intro cd
  induction cd with
  | nil => intro t h; exact h
  | cons e r ih =>
    intro t h
    unfold mzDr
    split
    · exact h
    · obtain ⟨pc, i, a, b, c⟩ := e
      simp only [mzChk, Bool.and_eq_true] at h
      exact ih h.2.2
/-- a method's code as it stands in the list: each instruction is where it is told to be, and what it needs is there -/
def mzGd (y : Nat) (cd : List mzO) : Prop := mzChk y cd = true ∧ ∀ e ∈ cd, decode (mzBy y) e.1 = .ok (e.2.1, mzLb e)
theorem mz_drin : ∀ {cd : List mzO} {t : Nat}, ∀ e ∈ mzDr cd t, e ∈ cd := by
  intro cd
  induction cd with
  | nil => intro t e h; exact h
  | cons z r ih =>
    intro t e h
    unfold mzDr at h
    split at h
    · exact h
    · exact List.mem_cons_of_mem _ (ih e h)
theorem mz_drgd {y t : Nat} {cd : List mzO} (h : mzGd y cd) : mzGd y (mzDr cd t) := ⟨mz_drchk h.1, fun e he => h.2 e (mz_drin e he)⟩
theorem mz_gd {y k : Nat} {cd : List mzO} (h1 : mzChk y cd = true) (h2 : mzBts k cd ((mzBy y).data.toList.drop k) = true) (h3 : cd.all (fun e => !(mzSw e.2.1) || mzDk y e.1 e.2.1 e.2.2.2.1) = true) : mzGd y cd := by
  refine ⟨h1, fun e he => ?_⟩
  unfold mzLb
  cases hs : mzSw e.2.1 with
  | true =>
    have := List.all_eq_true.mp h3 e he
    rw [hs] at this
    exact mz_dk (by simpa using this)
  | false => exact mz_bts cd k _ rfl h2 e he hs
theorem mz_drpc : ∀ {cd : List mzO} {t : Nat} {e : mzO} {r : List mzO}, mzDr cd t = e :: r → e.1 = t := by
  intro cd
  induction cd with
  | nil => intro t e r h; cases h
  | cons z q ih =>
    intro t e r h
    unfold mzDr at h
    split at h
    · next hb =>
      cases h
      exact Nat.eq_of_beq_eq_true hb
    · exact ih h
theorem mz_ML0 : ∀ q ∈ mzML, q.2.2.1 < 192 ∧ 0 < q.2.2.1 ∧ (q.2.2.2 ≠ 1 → mzHas mzAll 1 q.1 q.2.1 q.2.2.1 0 = true) ∧ (q.2.2.2 = 1 → mzHas mzAlN 1 q.1 q.2.1 q.2.2.1 0 = true) ∧ (q.2.2.2 ≤ 1 → mzHas mzAll 4 q.2.2.1 0 0 0 = true ∧ mzHas mzAll 5 q.2.2.1 0 0 0 = true ∧ mzOw q.2.2.1 < 6) ∧ (q.2.2.2 = 2 → mzHas mzAll 6 q.2.2.1 0 0 0 = true) := by decide +kernel
/-- what the list of methods says -/
theorem mz_ML (q : Nat × Nat × Nat × Nat) (hq : q ∈ mzML) : q.2.2.1 < 192 ∧ 0 < q.2.2.1 ∧ (q.2.2.2 ≠ 1 → Jvm.Cond.methodLink (mzNo q.1) q.2.1 (mzYn q.2.2.1) ∈ lw_tbl) ∧ (q.2.2.2 = 1 → Jvm.Cond.methodLinkNest (mzNo q.1) q.2.1 (mzYn q.2.2.1) "MeltPins" ∈ mzNest) ∧
    (q.2.2.2 ≤ 1 → Jvm.Cond.instanceMethod (mzYn q.2.2.1) ∈ lw_tbl ∧ Jvm.Cond.selects (mzYn q.2.2.1).cls (mzYn q.2.2.1) (mzYn q.2.2.1) ∈ lw_tbl ∧ mzOw q.2.2.1 < 6) ∧ (q.2.2.2 = 2 → Jvm.Cond.static (mzYn q.2.2.1) ∈ lw_tbl) := by
  obtain ⟨h1, h2, h3, h4, h5, h6⟩ := mz_ML0 q hq
  exact ⟨h1, h2, fun h => mz_in (h3 h), fun h => mz_inN (h4 h), fun h => ⟨mz_in (h5 h).1, mz_in (h5 h).2.1, (h5 h).2.2⟩, fun h => mz_in (h6 h)⟩
theorem mz_ini : ∀ o, o < 9 → Jvm.Cond.initialized (mzNo o) ∈ lw_tbl := by
  intro o ho
  have h : ∀ o, o < 9 → mzHas mzAll 3 o 0 0 0 = true := by decide +kernel
  exact mz_in (h o ho)
theorem mz_ow : ∀ y, y < 192 → mzOw y < 9 := by decide +kernel
theorem mz_desc : ∀ y, y < 192 → 0 < y → (parseMethodDescriptor (mzYn y).desc).map (fun d => d.parameters.length) = some (mzNp y) := by decide +kernel
theorem mz_noMH : ∀ o, o < 9 → mzNo o ≠ "java/lang/invoke/MethodHandle" ∧ mzNo o ≠ "java/lang/invoke/VarHandle" := by decide +kernel
theorem mz_prw : Jvm.Cond.static Lib.Math.max.name ∈ lw_tbl ∧ Jvm.Cond.static Lib.Math.min.name ∈ lw_tbl ∧ Jvm.Cond.initialized "java/lang/Math" ∈ lw_tbl ∧ Jvm.Cond.native arraycopyName ∈ lw_tbl ∧ Jvm.Cond.static arraycopyName ∈ lw_tbl ∧ Jvm.Cond.initialized "java/lang/System" ∈ lw_tbl := by
  have h : ∀ a ∈ [0, 1, 2, 5, 6, 7], mzHas mzAll 12 a 0 0 0 = true := by decide +kernel
  exact ⟨mz_in (h 0 (by decide)), mz_in (h 1 (by decide)), mz_in (h 2 (by decide)), mz_in (h 5 (by decide)), mz_in (h 6 (by decide)), mz_in (h 7 (by decide))⟩
theorem mz_goodws {y : Nat} (hy : y < 192) (h0 : 0 < y) : GoodIn mzTb (mzWs y) := fun w hw => by
  rcases List.mem_cons.mp hw with rfl | h
  · have := mz_tb (mz_code hy h0) rfl
    exact ⟨this, mz_good this⟩
  · exact ⟨h, mz_good h⟩
theorem mz_sz {G : mzG} : ∀ S : List mzV, ((S.map (mzC G)).map fun v => v.category).sum ≤ mzSz S := by
  intro S
  induction S with
  | nil => exact Nat.le_refl _
  | cons v r ih =>
    match v with
    | none =>
      show 1 + ((r.map (mzC G)).map fun v => v.category).sum ≤ mzSz r + 1
      omega
    | some (.inl x) =>
      show 1 + ((r.map (mzC G)).map fun v => v.category).sum ≤ mzSz r + 1
      omega
    | some (.inr (.inl x)) =>
      show 2 + ((r.map (mzC G)).map fun v => v.category).sum ≤ mzSz r + 2
      omega
    | some (.inr (.inr (.inl x))) =>
      show 1 + ((r.map (mzC G)).map fun v => v.category).sum ≤ mzSz r + 1
      omega
    | some (.inr (.inr (.inr (x, z)))) =>
      show 1 + ((r.map (mzC G)).map fun v => v.category).sum ≤ mzSz r + 1
      omega
section MZC
variable {G : mzG} {p : Program} {l : Launch} {e : Env} {R : Room} {s : State} {m : MethodId} {args : Array Value} {below : List Frame} {meth : Method} {c : Code} {cells slots : Nat} {Z : State → Prop} {y d pc : Nat} {L S : List mzV} {μ : mzM}
/-- behind a call -/
theorem mz_back {H : Heap} {locs : List Loc} {ls : Array Slot} {st0 rest : List Value} {r : Option FieldType} {Q : mzV → mzM → Prop} {a : Array Value} (hr : va_Run p l e R s m args below meth c H locs cells slots 0 0 (F0 m pc ls st0) rest (mzPost G r Q a) (mzA G)) (hS : va_S (mzA G) s.heap H locs)
    (kk : ∀ (v : mzV) (μ' : mzM) (H' : Heap) (locs' : List Loc), Q v μ' → mzTyp r v → mzK v → mzSt G H' μ' → va_S (mzA G) s.heap H' locs' → W p l e R s m args below meth c H' locs' cells slots Z (F0 m (pc + 3) ls ((mzOv G v).toList ++ rest))) : W p l e R s m args below meth c H locs cells slots Z (F0 m pc ls st0) := by
  intro T hT X
  obtain ⟨v, st₀, t, T', L, h0, X', hL, e1, e2, ⟨v', μ', hv, hQ, hTy, hK, hSt, hF⟩, st⟩ := hr T hT X
  cases hv
  unfold va_F at hF
  rw [h0] at hF
  obtain ⟨t2, a1, b1⟩ := kk v' μ' T'.heap (locs ++ L) hQ hTy hK (by rw [e1]; exact hSt) ⟨Nat.le_trans hS.1 (by rw [e1]; exact hF.1), fun q h1 h2 => by rw [e1, hF.2 q (Nat.lt_of_lt_of_le h1 hS.1) h2]; exact hS.2.1 q h1 h2, fun q hq => by
      rcases List.mem_append.mp hq with h | h
      · exact hS.2.2 q h
      · exact hL q h⟩ T' rfl X'
  exact ⟨t2, st t2 a1, b1⟩
theorem mz_pre {H : Heap} {locs : List Loc} {as : List mzV} (C : mzCx G p R s m args meth c y d cells slots) (h1 : mzSt G H μ) (h2 : va_S (mzA G) s.heap H locs) : ∀ U : State, U.heap = H → s.WarmedH U.vm → va_Pc (as.map (mzC G)) (mzPre G μ) (as.map (mzC G)).toArray U := by
  intro U hU hW
  subst hU
  exact ⟨rfl, mz_amb_w hW h2 C.2.2.2.2.2.2.2.1, h1⟩
theorem mz_room {d b : Nat} (C : mzCx G p R s m args meth c y (d + 1) cells slots) (hb : b < 192) : (mzRm d).frames + 1 ≤ R.frames ∧ 8 + (mzNl b + 11) + (mzRm d).locals ≤ R.locals := by
  have h1 := C.2.2.2.2.2.2.2.2.2.2.1
  have h2 := mz_nl b hb
  show d + 1 ≤ R.frames ∧ 8 + (mzNl b + 11) + 64 * d ≤ R.locals
  omega
/-- the receiver's cell -/
theorem mz_rcv {H : Heap} {k ci z : Nat} (C : mzCx G p R s m args meth c y d cells slots) (h1 : mzSt G H μ) (hk : mzSh k = (1, ci, z)) (hc : ci < 6) : ∃ cell : Cell, H[mzAd G k]? = some cell ∧ cell.vm.isStatics = false ∧ s.vm.findClass (mzNo ci) = some cell.cls := by
  have hk1 := mz_shlt hk (by decide)
  have he : (mzWo G μ)[k]? = some (mzAd G k, .inr (ci, (List.range (mzNf ci)).map (mzFv G μ ci k))) := by rw [mz_wo hk1, mz_ent1 hk]
  exact va_recv C.2.2.2.2.2.2.2.1.2.1 h1.1 (mz_cls ci hc) he
theorem mz_retk {d b : Nat} {as : List mzV} {K : mzV → mzM → Prop} (h : mzCall d b as μ K) : ∃ Q, mzCl d b as μ Q ∧ ∀ v μ', Q v μ' → mzTyp (mzRt b) v → K v μ' := by
  unfold mzCall mzRk at h
  cases hr : mzRt b with
  | none =>
    rw [hr] at h
    exact ⟨_, h, fun v μ' hq ht => by cases (show v = none from ht); exact hq⟩
  | some ty =>
    rw [hr] at h
    cases ty with
    | int => exact ⟨_, h, fun v μ' hq ht => by obtain ⟨x0, rfl⟩ := ht; exact hq⟩
    | boolean =>
      refine ⟨_, h, fun v μ' hq ht => ?_⟩
      rcases ht with rfl | rfl
      · exact hq
      · exact hq
    | long => exact ⟨_, h, fun v μ' hq ht => by obtain ⟨x0, rfl⟩ := ht; exact hq⟩
    | _ => exact ⟨_, h, fun v μ' hq ht => by
        obtain ⟨p0, o0, rfl⟩ := ht
        obtain ⟨e1, e2⟩ := hq
        rw [e1]
        exact e2⟩
theorem mz_ovl (v : mzV) (rest : List mzV) (S : List mzV) (h : S = rest) : (mzOv G v).toList ++ rest.map (mzC G) = (mzPu v S).map (mzC G) := by
  subst h
  cases v with
  | none => rfl
  | some w => rfl
theorem mz_take {n : Nat} (hs : mzSk S) : mzSk (S.take n).reverse := fun v hv => hs v (List.mem_of_mem_take (List.mem_reverse.mp hv))
theorem mz_drop {n : Nat} (hs : mzSk S) : mzSk (S.drop n) := fun v hv => hs v (List.mem_of_mem_drop hv)
theorem mz_stk (n : Nat) : S.map (mzC G) = ((S.take n).reverse.map (mzC G)).reverse ++ (S.drop n).map (mzC G) := by
  rw [← List.map_reverse, List.reverse_reverse, ← List.map_append, List.take_append_drop]
/-- words on an argument list -/
theorem mz_laysz : ∀ as : List mzV, (mzLay as).length ≤ 2 * as.length := by
  intro as
  induction as with
  | nil => exact Nat.le_refl _
  | cons a r ih =>
    match a with
    | none =>
      show (mzLay r).length + 1 ≤ 2 * (r.length + 1)
      omega
    | some (.inl x) =>
      show (mzLay r).length + 1 ≤ 2 * (r.length + 1)
      omega
    | some (.inr (.inl x)) =>
      show (mzLay r).length + 2 ≤ 2 * (r.length + 1)
      omega
    | some (.inr (.inr (.inl x))) =>
      show (mzLay r).length + 1 ≤ 2 * (r.length + 1)
      omega
    | some (.inr (.inr (.inr (x, z)))) =>
      show (mzLay r).length + 1 ≤ 2 * (r.length + 1)
      omega
end MZC
end
section
section MZS
variable {G : mzG} {p : Program} {l : Launch} {e : Env} {R : Room} {s : State} {m : MethodId} {args : Array Value} {below : List Frame} {meth : Method} {c : Code} {cells slots : Nat} {Z : State → Prop} {y d pc : Nat} {L S : List mzV} {μ : mzM}
theorem mzr_strlen (C : mzCx G p R s m args meth c y (d + 1) cells slots) {k o : Nat} (hl : Jvm.Cond.methodLink (mzNo (mzOw y)) k ⟨"java/lang/String", "length", "()I"⟩ ∈ lw_tbl) (ho : o < 14) (hsz : mzSz S ≤ 8) (hd : decode (mzBy y) pc = .ok (.invokevirtual k, 3))
    (kk : mzGo G p l e R s m args below meth c cells slots Z y (pc + 3) L (mzI (mzSl o) :: S) μ) : mzGo G p l e R s m args below meth c cells slots Z y pc L (mzP 300 o :: S) μ := sorry
theorem mzr_charAt (C : mzCx G p R s m args meth c y (d + 1) cells slots) {k o : Nat} {i : Int} (hl : Jvm.Cond.methodLink (mzNo (mzOw y)) k ⟨"java/lang/String", "charAt", "(I)C"⟩ ∈ lw_tbl) (ho : o < 14) (hi : 0 ≤ i ∧ i < mzSl o) (hsz : mzSz S ≤ 8) (hd : decode (mzBy y) pc = .ok (.invokevirtual k, 3))
    (kk : mzGo G p l e R s m args below meth c cells slots Z y (pc + 3) L (mzI (mzSc o i.toNat) :: S) μ) : mzGo G p l e R s m args below meth c cells slots Z y pc L (mzI i :: mzP 300 o :: S) μ := sorry
theorem mz_arr {v : mzV} {f : Nat → Nat → Prop} (h : mzArr v f) : ∃ k n z, mzSh k = (0, n, z) ∧ f k n ∧ mzC G v = .ref (mzAd G k) := by
  unfold mzArr at h
  split at h
  · next k =>
    split at h
    · next n z hz => exact ⟨k, n, z, hz, h, rfl⟩
    · exact h.elim
  · next q o =>
    split at h
    · next cnt n hp => exact ⟨q + o, n, 0, mz_pool0 hp h.1, h.2, rfl⟩
    · exact h.elim
  · exact h.elim
theorem mz_cpe {ka kb i j n na z : Nat} (hb : mzSh kb = (0, na, z)) : mzEnt G (mzCp μ ka i kb j n) kb = .inl (G.2.2.1, na, .inl (va_cpy (fun q => Int32.ofInt (μ ka q)) (fun q => Int32.ofInt (μ kb q)) i j n)) := by
  rw [mz_ent0 hb]
  congr 4
  funext q
  unfold mzCp va_cpy
  by_cases h : j ≤ q ∧ q < j + n
  · simp [h]
  · simp [h]
theorem mzr_copy (C : mzCx G p R s m args meth c y (d + 1) cells slots) {k ka kb na nb za zb : Nat} {i j n : Int} {u w : mzV} (hl : Jvm.Cond.methodLink (mzNo (mzOw y)) k arraycopyName ∈ lw_tbl) (ha : mzSh ka = (0, na, za)) (hb : mzSh kb = (0, nb, zb)) (hu : mzC G u = .ref (mzAd G ka)) (hw : mzC G w = .ref (mzAd G kb))
    (hq : 0 ≤ i ∧ 0 ≤ j ∧ 0 ≤ n ∧ i + n ≤ (na : Int) ∧ j + n ≤ (nb : Int)) (hsz : mzSz S ≤ 8) (hd : decode (mzBy y) pc = .ok (.invokestatic k, 3))
    (kk : mzGo G p l e R s m args below meth c cells slots Z y (pc + 3) L S (mzCp μ ka i.toNat kb j.toNat n.toNat)) : mzGo G p l e R s m args below meth c cells slots Z y pc L (mzI n :: mzI j :: w :: mzI i :: u :: S) μ := by
  intro H locs ls h1 h2 h3 h4
  have hka := mz_shlt ha (by decide)
  have hkb := mz_shlt hb (by decide)
  have hna : na ≤ 4096 := by
    have := (mz_shn ka hka).2.2
    rw [ha] at this
    exact this (show (0 : Nat) ≠ 1 by decide)
  have hnb : nb ≤ 4096 := by
    have := (mz_shn kb hkb).2.2
    rw [hb] at this
    exact this (show (0 : Nat) ≠ 1 by decide)
  have hea : (mzWo G μ)[ka]? = some (mzAd G ka, .inl (G.2.2.1, na, .inl (fun q => Int32.ofInt (μ ka q)))) := by rw [mz_wo hka, mz_ent0 ha]
  have heb : (mzWo G μ)[kb]? = some (mzAd G kb, .inl (G.2.2.1, nb, .inl (fun q => Int32.ofInt (μ kb q)))) := by rw [mz_wo hkb, mz_ent0 hb]
  have hsum := Nat.le_trans (mz_sz (G := G) S) hsz
  have hroom := C.2.2.2.2.2.2.2.2.2.2.1
  show W p l e R s m args below meth c H locs cells slots Z (F0 m pc ls (.int (Int32.ofInt n) :: .int (Int32.ofInt j) :: mzC G w :: .int (Int32.ofInt i) :: mzC G u :: S.map (mzC G)))
  rw [hu, hw]
  have ng : ∀ {z : Int}, 0 ≤ z → z < 2147483648 → ¬ Int32.ofInt z < 0 := fun {z} a b q => by
    have := (mz_lt (x := z) (y := 0) ⟨by omega, b⟩ ⟨by omega, by omega⟩).mp q
    omega
  obtain ⟨q1, q2, q3, q4, q5⟩ := hq
  have hnw : nativeFrameWords "java/lang/System" "arraycopy" 5 ≤ 20 := by decide
  refine va_copyi C.1 C.2.1 (by rw [C.2.2.1, h3.1]) C.2.2.2.2.2.1 (C.2.2.2.2.2.2.1 _ (mz_tb hl rfl)) (C.2.2.2.2.2.2.1 _ (mz_tb mz_prw.2.2.2.1 rfl)) (C.2.2.2.2.2.2.1 _ (mz_tb mz_prw.2.2.2.2.1 rfl)) (C.2.2.2.2.2.2.1 _ (mz_tb mz_prw.2.2.2.2.2 rfl)) C.2.2.2.2.2.2.2.1.2.1 h1.1 (mz_D C.2.2.2.2.2.2.2.2.1 μ) h2 ka kb 0 0 hea heb rfl rfl rfl (ng q1 (by omega)) (ng q2 (by omega)) (ng q3 (by omega))
    (by rw [mz_nat' q1 (by omega), mz_nat' q3 (by omega)]; omega) (by rw [mz_nat' q2 (by omega), mz_nat' q3 (by omega)]; omega) (fun _ _ => rfl) (by omega) (by omega) hd (fun H1 locs1 hP1 _ hS1 => ?_)
  rw [mz_nat' q1 (by omega), mz_nat' q2 (by omega), mz_nat' q3 (by omega)] at hP1
  refine kk H1 locs1 ls ⟨?_, fun a b => ?_, fun a => ?_, ?_⟩ hS1 h3 (mz_skt (mz_skt (mz_skt (mz_skt (mz_skt h4)))))
  · rw [mz_set hkb (mz_cpe hb) (fun k' _ hn => mz_ent_ne (fun q => by unfold mzCp; rw [if_neg (fun z => hn z.1)]))] at hP1
    exact hP1
  · unfold mzCp
    split
    · exact h1.2.1 _ _
    · exact h1.2.1 _ _
  · unfold mzCp
    rw [if_neg (fun q => by omega)]
    exact h1.2.2.1 a
  · unfold mzCp
    rw [if_neg (fun q => by omega)]
    exact h1.2.2.2
theorem mzPr_ok (C : mzCx G p R s m args meth c y (d + 1) cells slots) {c0 k : Nat} {K : List mzV → List mzV → mzM → Prop} {st : Bool} (hl : mzPrW (mzOw y) k c0 = true) (hst : (c0 ≤ 3 ∧ decode (mzBy y) pc = .ok (.invokestatic k, 3)) ∨ (4 ≤ c0 ∧ decode (mzBy y) pc = .ok (.invokevirtual k, 3))) (h : mzPr c0 K L S μ)
    (kk : ∀ L' S' μ', K L' S' μ' → mzGo G p l e R s m args below meth c cells slots Z y (pc + 3) L' S' μ') : mzGo G p l e R s m args below meth c cells slots Z y pc L S μ := by
  have hw := mz_in hl
  have hroom := C.2.2.2.2.2.2.2.2.2.2.1
  unfold mzPr at h
  split at h
  · have hd := (hst.resolve_right (fun q => by omega)).2
    split at h
    · next v u S' =>
      split at h
      · next hz =>
        have hz := Nat.le_of_ble_eq_true hz
        intro H locs ls h1 h2 h3 h4
        have hsum := Nat.le_trans (mz_sz (G := G) S') hz
        refine va_mmax C.1 C.2.1 (by rw [C.2.2.1, h3.1]) C.2.2.2.2.2.1 (C.2.2.2.2.2.2.1 _ (mz_tb hw rfl)) (C.2.2.2.2.2.2.1 _ (mz_tb mz_prw.1 rfl)) (C.2.2.2.2.2.2.1 _ (mz_tb mz_prw.2.2.1 rfl)) (C.2.2.2.2.2.2.1 _ (mz_tb mz_cmax rfl)) (by omega) (by omega) C.2.2.2.2.2.2.2.2.2.1.1 C.2.2.2.2.2.2.2.2.2.1.2 hd ?_
        have hv := (mz_skh h4).2
        have hu := (mz_skh (mz_skt h4)).2
        have eq : (if Int32.ofInt u < Int32.ofInt v then Int32.ofInt v else Int32.ofInt u) = Int32.ofInt (mzMx u v) := by
          unfold mzMx
          by_cases q : u < v
          · rw [if_pos ((mz_lt hu hv).mpr q), if_pos q]
          · rw [if_neg (fun z => q ((mz_lt hu hv).mp z)), if_neg q]
        have hb : mzK (mzI (mzMx u v)) := by
          show -2147483648 ≤ mzMx u v ∧ mzMx u v < 2147483648
          unfold mzMx
          split
          · exact hv
          · exact hu
        rw [eq]
        exact kk _ _ _ h H locs ls h1 h2 h3 (mz_sk (by simp) hb (mz_skt (mz_skt h4)))
      · exact h.elim
    · exact h.elim
  · have hd := (hst.resolve_right (fun q => by omega)).2
    split at h
    · next v u S' =>
      split at h
      · next hz =>
        have hz := Nat.le_of_ble_eq_true hz
        intro H locs ls h1 h2 h3 h4
        have hsum := Nat.le_trans (mz_sz (G := G) S') hz
        refine va_mmin C.1 C.2.1 (by rw [C.2.2.1, h3.1]) C.2.2.2.2.2.1 (C.2.2.2.2.2.2.1 _ (mz_tb hw rfl)) (C.2.2.2.2.2.2.1 _ (mz_tb mz_prw.2.1 rfl)) (C.2.2.2.2.2.2.1 _ (mz_tb mz_prw.2.2.1 rfl)) (C.2.2.2.2.2.2.1 _ (mz_tb mz_cmin rfl)) (by omega) (by omega) C.2.2.2.2.2.2.2.2.2.1.1 C.2.2.2.2.2.2.2.2.2.1.2 hd ?_
        have hv := (mz_skh h4).2
        have hu := (mz_skh (mz_skt h4)).2
        have eq : (if Int32.ofInt v < Int32.ofInt u then Int32.ofInt v else Int32.ofInt u) = Int32.ofInt (mzMn u v) := by
          unfold mzMn
          by_cases q : v < u
          · rw [if_pos ((mz_lt hv hu).mpr q), if_pos q]
          · rw [if_neg (fun z => q ((mz_lt hv hu).mp z)), if_neg q]
        have hb : mzK (mzI (mzMn u v)) := by
          show -2147483648 ≤ mzMn u v ∧ mzMn u v < 2147483648
          unfold mzMn
          split
          · exact hv
          · exact hu
        rw [eq]
        exact kk _ _ _ h H locs ls h1 h2 h3 (mz_sk (by simp) hb (mz_skt (mz_skt h4)))
      · exact h.elim
    · exact h.elim
  · have hd := (hst.resolve_right (fun q => by omega)).2
    split at h
    · next n j w i u S' =>
      split at h
      · next hz =>
        have hz := Nat.le_of_ble_eq_true hz
        obtain ⟨ka, na, za, hka, h, hu⟩ := mz_arr (G := G) h
        obtain ⟨kb, nb, zb, hkb, h, hv⟩ := mz_arr (G := G) h
        exact mzr_copy C hw hka hkb hu hv h.1 hz hd (kk _ _ _ h.2)
      · exact h.elim
    · exact h.elim
  · have hd := (hst.resolve_left (fun q => by omega)).2
    split at h
    · split at h
      · next hz => exact mzr_strlen C hw h.1 (Nat.le_of_ble_eq_true hz) hd (kk _ _ _ h.2)
      · exact h.elim
    · exact h.elim
  · have hd := (hst.resolve_left (fun q => by omega)).2
    split at h
    · split at h
      · next hz => exact mzr_charAt C hw h.1.1 h.1.2 (Nat.le_of_ble_eq_true hz) hd (kk _ _ _ h.2)
      · exact h.elim
    · exact h.elim
  · exact h.elim
/-- a call of a method of ours -/
theorem mzr_callS (C : mzCx G p R s m args meth c y (d + 1) cells slots) {k b n : Nat} {K : mzV → mzM → Prop} (hin : (mzOw y, k, b, 2) ∈ mzML) (hn : n = mzNp b) (hlen : n ≤ S.length) (hsz : mzSz (S.drop n) ≤ 8) (hlay : (mzLay (S.take n).reverse).length ≤ mzNl b) (hd : decode (mzBy y) pc = .ok (.invokestatic k, 3))
    (h : mzCall d b (S.take n).reverse μ K) (kk : ∀ v μ', K v μ' → mzGo G p l e R s m args below meth c cells slots Z y (pc + 3) L (mzPu v (S.drop n)) μ') : mzGo G p l e R s m args below meth c cells slots Z y pc L S μ := by
  intro H locs ls h1 h2 h3 h4
  obtain ⟨g1, g2, g3, -, -, g6⟩ := mz_ML _ hin
  have g1 : b < 192 := g1
  have g2 : 0 < b := g2
  obtain ⟨Q, hQ, hK⟩ := mz_retk h
  have hal : (S.take n).reverse.length = n := by rw [List.length_reverse, List.length_take]; omega
  have hM := mz_met hQ g2 g1 (mz_take h4) hlay C.2.2.2.2.2.2.2.2.1 l
  have hpre := mz_pre C h1 h2 (as := (S.take n).reverse)
  have hown := mz_ow b g1
  have hnm := mz_names b g1 g2
  have hG := mz_goodws g1 g2
  have hT : GoodIn mzTb (va_wsS (mzNo (mzOw y)) k (mzYn b) (mzWs b)) := fun w hw => by
    unfold va_wsS at hw
    rcases List.mem_append.mp hw with h9 | h9
    · have : w ∈ mzTb := by
        simp only [List.mem_cons, List.not_mem_nil, or_false] at h9
        rcases h9 with rfl | rfl | rfl
        · exact mz_tb (g3 (show (2 : Nat) ≠ 1 by decide)) rfl
        · exact mz_tb (g6 rfl) rfl
        · rw [hnm]
          exact mz_tb (mz_ini _ hown) rfl
      exact ⟨this, mz_good this⟩
    · exact hG w h9
  rw [mz_stk n]
  refine mz_back (va_runS (As := (S.take n).reverse.map (mzC G)) (rest := (S.drop n).map (mzC G)) ⟨C.1, C.2.1, C.2.2.1, C.2.2.2.2.2.1, C.2.2.2.2.2.2.1⟩ hM (va_cwS n C.2.2.2.2.2.2.1 hT rfl rfl rfl ⟨by rw [hnm]; exact (mz_noMH _ hown).1, by rw [hnm]; exact (mz_noMH _ hown).2, by rw [hn]; exact mz_desc b g1 g2⟩ (mz_room C g1)) ⟨mz_blind, hpre⟩ rfl (by rw [List.length_map, hal]) h3.1 rfl (lv_room (Nat.le_trans (mz_sz _) hsz)) hd ⟨C.2.2.2.2.2.2.2.2.2.1.1, C.2.2.2.2.2.2.2.2.2.1.2⟩) h2 (fun v μ' H' locs' q1 q2 q3 q4 q5 => ?_)
  rw [mz_ovl v (S.drop n) _ rfl]
  refine kk v μ' (hK v μ' q1 q2) H' locs' ls q4 q5 h3 ?_
  cases v with
  | none => exact mz_drop h4
  | some w => exact mz_sk (by simp) q3 (mz_drop h4)
theorem mzr_callV (C : mzCx G p R s m args meth c y (d + 1) cells slots) {k b n t : Nat} {K : mzV → mzM → Prop} (hin : (mzOw y, k, b, 0) ∈ mzML ∨ (mzOw y, k, b, 1) ∈ mzML) (hn : n = mzNp b + 1) (hlen : n ≤ S.length) (hsz : mzSz (S.drop n) ≤ 8) (hlay : (mzLay (S.take n).reverse).length ≤ mzNl b) (hd : decode (mzBy y) pc = .ok (.invokevirtual k, 3))
    {u : mzV} {as : List mzV} (hu : (S.take n).reverse = u :: as) {z : Nat} (huk : mzC G u = .ref (mzAd G t)) (hsh : mzSh t = (1, mzOw b, z))
    (h : mzCall d b (S.take n).reverse μ K) (kk : ∀ v μ', K v μ' → mzGo G p l e R s m args below meth c cells slots Z y (pc + 3) L (mzPu v (S.drop n)) μ') : mzGo G p l e R s m args below meth c cells slots Z y pc L S μ := by
  intro H locs ls h1 h2 h3 h4
  have g0 : b < 192 ∧ 0 < b ∧ Jvm.Cond.instanceMethod (mzYn b) ∈ lw_tbl ∧ Jvm.Cond.selects (mzYn b).cls (mzYn b) (mzYn b) ∈ lw_tbl ∧ mzOw b < 6 := by
    rcases hin with q | q
    · exact ⟨(mz_ML _ q).1, (mz_ML _ q).2.1, (mz_ML _ q).2.2.2.2.1 (show (0 : Nat) ≤ 1 by decide)⟩
    · exact ⟨(mz_ML _ q).1, (mz_ML _ q).2.1, (mz_ML _ q).2.2.2.2.1 (show (1 : Nat) ≤ 1 by decide)⟩
  obtain ⟨g1, g2, g4, g5, g6⟩ := g0
  obtain ⟨Q, hQ, hK⟩ := mz_retk h
  have hal : (S.take n).reverse.length = n := by rw [List.length_reverse, List.length_take]; omega
  have hM := mz_met hQ g2 g1 (mz_take h4) hlay C.2.2.2.2.2.2.2.2.1 l
  have hpre := mz_pre C h1 h2 (as := (S.take n).reverse)
  have hown := mz_ow b g1
  have hnm := mz_names b g1 g2
  have hG := mz_goodws g1 g2
  have hstk := mz_stk (G := G) (S := S) n
  have hrc := mz_rcv C h1 hsh g6
  rw [hu] at hM hpre hal hstk
  rw [show (u :: as).map (mzC G) = .ref (mzAd G t) :: as.map (mzC G) by rw [List.map_cons, huk]] at hM hpre hstk
  have hstk2 : S.map (mzC G) = (as.map (mzC G)).reverse ++ .ref (mzAd G t) :: (S.drop n).map (mzC G) := by rw [hstk]; simp
  have hal2 : as.length = mzNp b := by simp at hal; omega
  have hd1 : (mzYn b).cls = mzNo (mzOw b) ∧ (mzYn b).cls ≠ "java/lang/invoke/MethodHandle" ∧ (mzYn b).cls ≠ "java/lang/invoke/VarHandle" ∧ (parseMethodDescriptor (mzYn b).desc).map (fun d => d.parameters.length) = some (mzNp b) := ⟨hnm, by rw [hnm]; exact (mz_noMH _ hown).1, by rw [hnm]; exact (mz_noMH _ hown).2, mz_desc b g1 g2⟩
  have fin : ∀ (v : mzV) (μ' : mzM) (H' : Heap) (locs' : List Loc), Q v μ' → mzTyp (mzRt b) v → mzK v → mzSt G H' μ' → va_S (mzA G) s.heap H' locs' → W p l e R s m args below meth c H' locs' cells slots Z (F0 m (pc + 3) ls ((mzOv G v).toList ++ (S.drop n).map (mzC G))) := by
    intro v μ' H' locs' q1 q2 q3 q4 q5
    rw [mz_ovl v (S.drop n) _ rfl]
    refine kk v μ' (hK v μ' q1 q2) H' locs' ls q4 q5 h3 ?_
    cases v with
    | none => exact mz_drop h4
    | some w => exact mz_sk (by simp) q3 (mz_drop h4)
  rw [hstk2]
  rcases hin with q | q
  · have g3 := (mz_ML _ q).2.2.1 (show (0 : Nat) ≠ 1 by decide)
    have hT : GoodIn mzTb (wsV (mzNo (mzOw y)) k (mzNo (mzOw b)) (mzYn b) (mzWs b)) := fun w hw => by
      unfold wsV at hw
      rcases List.mem_append.mp hw with h9 | h9
      · have : w ∈ mzTb := by
          simp only [List.mem_cons, List.not_mem_nil, or_false] at h9
          rcases h9 with rfl | rfl | rfl | rfl
          · exact mz_tb g3 rfl
          · exact mz_tb g4 rfl
          · rw [← hnm]
            exact mz_tb g5 rfl
          · exact mz_tb (mz_ini _ hown) rfl
        exact ⟨this, mz_good this⟩
      · exact hG w h9
    exact mz_back (va_runV (As := as.map (mzC G)) (rest := (S.drop n).map (mzC G)) ⟨C.1, C.2.1, C.2.2.1, C.2.2.2.2.2.1, C.2.2.2.2.2.2.1⟩ hM (cwV (mzNp b) C.2.2.2.2.2.2.1 hT rfl rfl rfl hd1 (mz_room C g1)) ⟨mz_blind, hrc, hpre⟩ rfl (by rw [List.length_map, hal2]) h3.1 rfl (lv_room (Nat.le_trans (mz_sz _) hsz)) hd ⟨C.2.2.2.2.2.2.2.2.2.1.1, C.2.2.2.2.2.2.2.2.2.1.2⟩) h2 fin
  · have g3 := (mz_ML _ q).2.2.2.1 rfl
    have hz : va_Nw (.methodLinkNest (mzNo (mzOw y)) k (mzYn b) "MeltPins") s := C.2.2.2.2.2.2.2.1.1 _ g3
    exact mz_back (va_runVN (As := as.map (mzC G)) (rest := (S.drop n).map (mzC G)) ⟨C.1, C.2.1, C.2.2.1, C.2.2.2.2.2.1, C.2.2.2.2.2.2.1⟩ hM ⟨va_cnB (mzNp b) C.2.2.2.2.2.2.1 hG rfl rfl rfl hz (by rw [hnm]; exact C.2.2.2.2.2.2.1 _ (mz_tb (mz_ini _ hown) rfl)) hd1.2 (mz_room C g1), C.2.2.2.2.2.2.1 _ (mz_tb g4 rfl), by rw [← hnm]; exact C.2.2.2.2.2.2.1 _ (mz_tb g5 rfl)⟩ ⟨mz_blind, hrc, hpre⟩ rfl (by rw [List.length_map, hal2]) h3.1 rfl (lv_room (Nat.le_trans (mz_sz _) hsz)) hd ⟨C.2.2.2.2.2.2.2.2.2.1.1, C.2.2.2.2.2.2.2.2.2.1.2⟩) h2 fin
end MZS
end
section
/-- where nothing is written at once, another's rows are taken -/
def mzSimple (i : Instr) : Bool := match i with
  | .goto _ => false
  | .ifCond _ _ => false
  | .if_icmp _ _ => false
  | .tableswitch _ _ _ _ => false
  | .lookupswitch _ _ => false
  | .ireturn => false
  | .lreturn => false
  | .areturn => false
  | .return_ => false
  | .invokevirtual _ => false
  | .invokestatic _ => false
  | _ => true
theorem mz_simple {i : Instr} (h : mzSimple i = true) {d y : Nat} {cd : List mzO} {Q : mzV → mzM → Prop} {V : List mzO → List mzV → List mzV → mzM → Prop} {pc : Nat} {a : Int} {b c : Nat} {r : List mzO} {L S : List mzV} {μ : mzM} :
    mzStp d y cd Q V pc i a b c r L S μ = mz1 i a b c y (fun L S μ => V r L S μ) L S μ ∧ mzO2 y pc i a b c = mzO1 y pc i a b c ∧ mzEd i = false ∧ mzSw i = false := by
  cases i <;> first | exact absurd h Bool.false_ne_true | exact ⟨rfl, rfl, rfl, rfl⟩
section MZU
variable {G : mzG} {p : Program} {l : Launch} {e : Env} {R : Room} {s : State} {m : MethodId} {args : Array Value} {below : List Frame} {meth : Method} {c : Code} {cells slots : Nat} {Z : State → Prop} {y d pc : Nat} {L S : List mzV} {μ : mzM}
theorem mzr_if (C : mzCx G p R s m args meth c y d cells slots) {q : Jvm.ClassFile.Cond} {off : Int} {b : Nat} {x : Int} {T F : Prop} (hd : decode (mzBy y) pc = .ok (.ifCond q off, 3)) (ht : (pc : Int) + off = (b : Int)) (h : mzIf q x 0 T F)
    (kt : T → mzGo G p l e R s m args below meth c cells slots Z y b L S μ) (kf : F → mzGo G p l e R s m args below meth c cells slots Z y (pc + 3) L S μ) : mzGo G p l e R s m args below meth c cells slots Z y pc L (mzI x :: S) μ := by
  intro H locs ls h1 h2 h3 h4
  have hx := (mz_skh h4).2
  have h0 : -2147483648 ≤ (0 : Int) ∧ (0 : Int) < 2147483648 := by omega
  have e0 : (0 : Int32) = Int32.ofInt 0 := rfl
  have gt : T → W p l e R s m args below meth c H locs cells slots Z (F0 m b ls (S.map (mzC G))) := fun z => kt z H locs ls h1 h2 h3 (mz_skt h4)
  have gf : F → W p l e R s m args below meth c H locs cells slots Z (F0 m (pc + 3) ls (S.map (mzC G))) := fun z => kf z H locs ls h1 h2 h3 (mz_skt h4)
  cases q with
  | eq => exact lv_if_eq C.1 C.2.1 hd ht (fun z => gt (h.1 ((mz_eq hx h0).mp z))) (fun z => gf (h.2 (fun w => z ((mz_eq hx h0).mpr w))))
  | ne => exact lv_if_ne C.1 C.2.1 hd ht (fun z => gt (h.1 (fun w => z ((mz_eq hx h0).mpr w)))) (fun z => gf (h.2 ((mz_eq hx h0).mp z)))
  | lt => exact lv_if_lt C.1 C.2.1 hd ht (fun z => gt (h.1 ((mz_lt hx h0).mp z))) (fun z => gf (h.2 (Int.not_lt.mp fun w => z ((mz_lt hx h0).mpr w))))
  | ge => exact lv_if_ge C.1 C.2.1 hd ht (fun z => gt (h.1 ((mz_le h0 hx).mp z))) (fun z => gf (h.2 (Int.not_le.mp fun w => z ((mz_le h0 hx).mpr w))))
  | gt => exact lv_if_gt C.1 C.2.1 hd ht (fun z => gt (h.1 ((mz_lt h0 hx).mp z))) (fun z => gf (h.2 (Int.not_lt.mp fun w => z ((mz_lt h0 hx).mpr w))))
  | le => exact lv_if_le C.1 C.2.1 hd ht (fun z => gt (h.1 ((mz_le hx h0).mp z))) (fun z => gf (h.2 (Int.not_le.mp fun w => z ((mz_le hx h0).mpr w))))
theorem mzr_icmp (C : mzCx G p R s m args meth c y d cells slots) {q : Jvm.ClassFile.Cond} {off : Int} {b : Nat} {x v : Int} {T F : Prop} (hd : decode (mzBy y) pc = .ok (.if_icmp q off, 3)) (ht : (pc : Int) + off = (b : Int)) (h : mzIf q x v T F)
    (kt : T → mzGo G p l e R s m args below meth c cells slots Z y b L S μ) (kf : F → mzGo G p l e R s m args below meth c cells slots Z y (pc + 3) L S μ) : mzGo G p l e R s m args below meth c cells slots Z y pc L (mzI v :: mzI x :: S) μ := by
  intro H locs ls h1 h2 h3 h4
  have hx := (mz_skh (mz_skt h4)).2
  have h0 := (mz_skh h4).2
  have gt : T → W p l e R s m args below meth c H locs cells slots Z (F0 m b ls (S.map (mzC G))) := fun z => kt z H locs ls h1 h2 h3 (mz_skt (mz_skt h4))
  have gf : F → W p l e R s m args below meth c H locs cells slots Z (F0 m (pc + 3) ls (S.map (mzC G))) := fun z => kf z H locs ls h1 h2 h3 (mz_skt (mz_skt h4))
  cases q with
  | eq => exact lv_icmp_eq C.1 C.2.1 hd ht (fun z => gt (h.1 ((mz_eq hx h0).mp z))) (fun z => gf (h.2 (fun w => z ((mz_eq hx h0).mpr w))))
  | ne => exact lv_icmp_ne C.1 C.2.1 hd ht (fun z => gt (h.1 (fun w => z ((mz_eq hx h0).mpr w)))) (fun z => gf (h.2 ((mz_eq hx h0).mp z)))
  | lt => exact lv_icmp_lt C.1 C.2.1 hd ht (fun z => gt (h.1 ((mz_lt hx h0).mp z))) (fun z => gf (h.2 (Int.not_lt.mp fun w => z ((mz_lt hx h0).mpr w))))
  | ge => exact lv_icmp_ge C.1 C.2.1 hd ht (fun z => gt (h.1 ((mz_le h0 hx).mp z))) (fun z => gf (h.2 (Int.not_le.mp fun w => z ((mz_le h0 hx).mpr w))))
  | gt => exact lv_icmp_gt C.1 C.2.1 hd ht (fun z => gt (h.1 ((mz_lt h0 hx).mp z))) (fun z => gf (h.2 (Int.not_lt.mp fun w => z ((mz_lt h0 hx).mpr w))))
  | le => exact lv_icmp_le C.1 C.2.1 hd ht (fun z => gt (h.1 ((mz_le hx h0).mp z))) (fun z => gf (h.2 (Int.not_le.mp fun w => z ((mz_le hx h0).mpr w))))
theorem mz_ts {pc : Nat} {k : Nat → Prop} {x : Int} : ∀ (offs : List Int) (lo : Int), mzTs pc offs lo x k → ∀ j : Nat, j < offs.length → x = lo + (j : Int) → ∃ o, offs[j]? = some o ∧ k ((pc : Int) + o).toNat := by
  intro offs
  induction offs with
  | nil => intro lo _ j hj; simp at hj
  | cons o r ih =>
    intro lo h j hj hx
    cases j with
    | zero => exact ⟨o, rfl, h.1 (by omega)⟩
    | succ j =>
      obtain ⟨o', h1, h2⟩ := ih (lo + 1) h.2 j (by simpa using hj) (by omega)
      exact ⟨o', h1, h2⟩
theorem mz_ls {pc : Nat} {k : Nat → Prop} {x dflt : Int} : ∀ (ps : List (Int × Int)), mzLs pc ps x k (k ((pc : Int) + dflt).toNat) → k ((pc : Int) + Op.lookupswitch.offset ps dflt x).toNat := by
  intro ps
  induction ps with
  | nil => intro h; exact h
  | cons q r ih =>
    obtain ⟨a, o⟩ := q
    intro h
    simp only [mzLs] at h
    show k ((pc : Int) + (if a = x then o else Op.lookupswitch.offset r dflt x)).toNat
    by_cases e : a = x
    · rw [if_pos e]
      exact h.1 e.symm
    · rw [if_neg e]
      exact ih (h.2 (fun z => e z.symm))
theorem mz_rc {ci : Nat} {v : mzV} {P : Prop} (h : mzRc ci v P) : P ∧ ∃ t z, mzC G v = .ref (mzAd G t) ∧ mzSh t = (1, ci, z) := by
  unfold mzRc at h
  split at h
  · next k =>
    split at h
    · next hO =>
      obtain ⟨z, hz⟩ := mz_isO hO
      exact ⟨h, k, z, rfl, hz⟩
    · exact h.elim
  · next q o =>
    split at h
    · next cnt c0 hp =>
      split at h
      · next hc =>
        obtain ⟨rfl, rfl, rfl⟩ := mz_pool1 hp
        have hcc : ci = 1 := (Nat.eq_of_beq_eq_true hc).symm
        subst hcc
        exact ⟨h.2, 44 + o, 0, rfl, mz_pools (44, 4, 1, 1) (by decide) (by decide) o h.1⟩
      · exact h.elim
    · exact h.elim
  · exact h.elim
set_option maxHeartbeats 2000000 in
theorem mzStp_ok (C : mzCx G p R s m args meth c y d cells slots) {Q : mzV → mzM → Prop} (hR : ∀ (v : mzV) (μ' : mzM) (H' : Heap) (locs' : List Loc) (ls' : Array Slot) (pc' : Nat), Q v μ' → mzTyp (mzRt y) v → mzK v → mzSt G H' μ' → va_S (mzA G) s.heap H' locs' → decode (mzBy y) pc' = .ok (mzRi (mzRt y), 1) → W p l e R s m args below meth c H' locs' cells slots Z (F0 m pc' ls' (mzRs G v)))
    {cd : List mzO} (hcd : mzGd y cd) {V : List mzO → List mzV → List mzV → mzM → Prop} (hV : ∀ r L S μ, mzGd y r → V r L S μ → ∃ e0 r', r = e0 :: r' ∧ mzGo G p l e R s m args below meth c cells slots Z y e0.1 L S μ)
    {i : Instr} {a : Int} {b c0 : Nat} {r : List mzO} (hr0 : mzGd y ((pc, i, a, b, c0) :: r)) (h : mzStp d y cd Q V pc i a b c0 r L S μ) : mzGo G p l e R s m args below meth c cells slots Z y pc L S μ := by
  have hr := hr0.1
  have hdg : decode (mzBy y) pc = .ok (i, mzLb (pc, i, a, b, c0)) := hr0.2 (pc, i, a, b, c0) List.mem_cons_self
  simp only [mzChk, Bool.and_eq_true] at hr
  obtain ⟨hok, hnx, hrr1⟩ := hr
  have hrr : mzGd y r := ⟨hrr1, fun e0 he => hr0.2 e0 (List.mem_cons_of_mem _ he)⟩
  have jmp : ∀ {t : Nat} {L S : List mzV} {μ : mzM}, V (mzDr cd t) L S μ → mzGo G p l e R s m args below meth c cells slots Z y t L S μ := by
    intro t L S μ hv
    obtain ⟨e0, r', h1, h2⟩ := hV _ _ _ _ (mz_drgd hcd) hv
    rw [mz_drpc h1] at h2
    exact h2
  have fall : mzEd i = false → ∀ {L S : List mzV} {μ : mzM}, V r L S μ → mzGo G p l e R s m args below meth c cells slots Z y (pc + mzLn i) L S μ := by
    intro hE L S μ hv
    obtain ⟨e0, r', h1, h2⟩ := hV _ _ _ _ hrr hv
    subst h1
    simp only [hE, Bool.false_or] at hnx
    rw [Nat.eq_of_beq_eq_true hnx] at h2
    exact h2
  by_cases hs : mzSimple i = true
  · obtain ⟨e1, e2, e3, e4⟩ := mz_simple hs (d := d) (y := y) (cd := cd) (Q := Q) (V := V) (pc := pc) (a := a) (b := b) (c := c0) (r := r) (L := L) (S := S) (μ := μ)
    rw [e1] at h
    rw [e2] at hok
    have hdg1 : decode (mzBy y) pc = .ok (i, mzLn i) := by rw [hdg]; unfold mzLb; rw [e4]
    exact mz1_ok C hdg1 hok h (fun L' S' μ' hv => fall e3 hv)
  · cases i <;> first | exact absurd rfl hs | skip
    · -- areturn
      have hok : mzRi (mzRt y) = .areturn := of_decide_eq_true hok
      simp only [mzStp] at h
      split at h
      · next q o =>
        intro H locs ls h1 h2 h3 h4
        have hty : mzTyp (mzRt y) (mzP q o) := by
          have h9 := hok
          cases hrt : mzRt y with
          | none => rw [hrt] at h9; cases h9
          | some ty =>
            rw [hrt] at h9
            cases ty with
            | int => cases h9
            | boolean => cases h9
            | long => cases h9
            | _ => exact ⟨q, o, rfl⟩
        exact hR _ μ H locs ls pc h hty trivial h1 h2 (by rw [hok]; exact hdg)
      · exact h.elim
    · -- goto
      simp only [mzO2, decide_eq_true_eq] at hok
      simp only [mzStp] at h
      exact fun H locs ls h1 h2 h3 h4 => lv_goto C.1 C.2.1 hdg hok (jmp h H locs ls h1 h2 h3 h4)
    · -- if_icmp
      simp only [mzO2, decide_eq_true_eq] at hok
      simp only [mzStp] at h
      split at h
      · exact mzr_icmp C hdg hok h (fun z => jmp z) (fun z => fall rfl z)
      · exact h.elim
    · -- ifCond
      simp only [mzO2, decide_eq_true_eq] at hok
      simp only [mzStp] at h
      split at h
      · exact mzr_if C hdg hok h (fun z => jmp z) (fun z => fall rfl z)
      · exact h.elim
    · -- invokestatic
      next k =>
      simp only [mzO2] at hok
      simp only [mzStp, mzInv] at h
      split at h
      · exact h.elim
      · next d1 =>
        split at h
        · have h9 := hok
          simp only [Bool.and_eq_true] at h9
          exact mzPr_ok C (st := true) h9.1 (Or.inl ⟨Nat.le_of_ble_eq_true h9.2, hdg⟩) h (fun L' S' μ' hv => fall rfl hv)
        · next hb0 =>
          split at h
          · next hz =>
            simp only [Bool.and_eq_true] at hz
            have h9 : decide ((mzOw y, k, b, 2) ∈ mzML) = true ∧ decide (c0 = mzNp b) = true := by
              have h8 := hok
              split at h8
              · exact absurd rfl hb0
              · simpa only [Bool.and_eq_true] using h8
            exact mzr_callS C (of_decide_eq_true h9.1) (of_decide_eq_true h9.2) (Nat.le_of_ble_eq_true hz.2.1) (Nat.le_of_ble_eq_true hz.1) (Nat.le_of_ble_eq_true hz.2.2) hdg h (fun v μ' hv => fall rfl hv)
          · exact h.elim
    · -- invokevirtual
      next k =>
      simp only [mzO2] at hok
      simp only [mzStp, mzInv] at h
      split at h
      · exact h.elim
      · next d1 =>
        split at h
        · have h9 := hok
          simp only [Bool.and_eq_true] at h9
          exact mzPr_ok C (st := false) h9.1 (Or.inr ⟨Nat.le_of_ble_eq_true h9.2, hdg⟩) h (fun L' S' μ' hv => fall rfl hv)
        · next hb0 =>
          split at h
          · next hz =>
            simp only [Bool.and_eq_true] at hz
            have h9 : decide ((mzOw y, k, b, 0) ∈ mzML ∨ (mzOw y, k, b, 1) ∈ mzML) = true ∧ decide (c0 = mzNp b + 1) = true := by
              have h8 := hok
              split at h8
              · exact absurd rfl hb0
              · simpa only [Bool.and_eq_true] using h8
            obtain ⟨hc, t, z, g1, g2⟩ := mz_rc (G := G) h
            have hlen := Nat.le_of_ble_eq_true hz.2.1
            have hc0 : c0 = mzNp b + 1 := of_decide_eq_true h9.2
            cases hu : (S.take c0).reverse with
            | nil =>
              have : (S.take c0).reverse.length = c0 := by rw [List.length_reverse, List.length_take]; omega
              rw [hu] at this
              simp at this
              omega
            | cons u as =>
              rw [hu] at g1
              exact mzr_callV C (of_decide_eq_true h9.1) hc0 hlen (Nat.le_of_ble_eq_true hz.1) (Nat.le_of_ble_eq_true hz.2.2) hdg hu g1 g2 hc (fun v μ' hv => fall rfl hv)
          · exact h.elim
    · -- ireturn
      simp only [mzO2] at hok
      simp only [mzStp] at h
      split at h
      · next x0 =>
        intro H locs ls h1 h2 h3 h4
        have hx := (mz_skh h4).2
        split at h
        · have h9 : mzRt y = some .int := of_decide_eq_true hok
          exact hR _ μ H locs ls pc h (by rw [h9]; exact ⟨x0, rfl⟩) hx h1 h2 (by rw [h9]; exact hdg)
        · next hc1 =>
          have h9 : mzRt y = some .boolean := by
            have h8 := hok
            split at h8
            · next hc2 => exact absurd rfl hc1
            · exact of_decide_eq_true h8
          refine hR _ μ H locs ls pc h.2 ?_ hx h1 h2 (by rw [h9]; exact hdg)
          rw [h9]
          rcases h.1 with rfl | rfl
          · exact Or.inl rfl
          · exact Or.inr rfl
      · exact h.elim
    · -- lookupswitch
      next dflt ps =>
      simp only [mzO2, Bool.and_eq_true, decide_eq_true_eq] at hok
      simp only [mzStp] at h
      split at h
      · next x0 S' =>
        have h5 := mz_ls (k := fun t => V (mzDr cd t) L S' μ) ps.toList h
        have hpos : 0 ≤ (pc : Int) + Op.lookupswitch.offset ps.toList dflt x0 := by
          have hall := List.all_eq_true.mp hok.2.1
          have h0 := hok.1
          clear h5 h hok
          have key : ∀ (l : List (Int × Int)), (∀ q ∈ l, decide (0 ≤ (pc : Int) + q.2) = true) → 0 ≤ (pc : Int) + Op.lookupswitch.offset l dflt x0 := by
            intro l
            induction l with
            | nil => intro _; exact h0
            | cons q r ihr =>
              intro hl
              obtain ⟨a9, o9⟩ := q
              show 0 ≤ (pc : Int) + (if a9 = x0 then o9 else Op.lookupswitch.offset r dflt x0)
              by_cases e9 : a9 = x0
              · rw [if_pos e9]
                exact of_decide_eq_true (hl _ List.mem_cons_self)
              · rw [if_neg e9]
                exact ihr (fun q hq => hl q (List.mem_cons_of_mem _ hq))
          exact key _ hall
        intro H locs ls h1 h2 h3 h4
        have hx := (mz_skh h4).2
        exact lv_lookup C.1 C.2.1 (off := Op.lookupswitch.offset ps.toList dflt x0) (tgt := ((pc : Int) + Op.lookupswitch.offset ps.toList dflt x0).toNat) hdg (by simpa using hok.2.2) (by rw [mz_id hx]) (by omega) (jmp h5 H locs ls h1 h2 h3 (mz_skt h4))
      · exact h.elim
    · -- lreturn
      simp only [mzO2, decide_eq_true_eq] at hok
      simp only [mzStp] at h
      split at h
      · next x0 =>
        intro H locs ls h1 h2 h3 h4
        exact hR _ μ H locs ls pc h (by rw [hok]; exact ⟨x0, rfl⟩) (mz_skh h4).2 h1 h2 (by rw [hok]; exact hdg)
      · exact h.elim
    · -- return_
      simp only [mzO2, decide_eq_true_eq] at hok
      simp only [mzStp] at h
      split at h
      · intro H locs ls h1 h2 h3 h4
        exact hR _ μ H locs ls pc h (by rw [hok]; rfl) trivial h1 h2 (by rw [hok]; exact hdg)
      · exact h.elim
    · -- tableswitch
      next dflt lo hi offs =>
      simp only [mzO2, Bool.and_eq_true, decide_eq_true_eq] at hok
      simp only [mzStp] at h
      split at h
      · next x0 S' =>
        intro H locs ls h1 h2 h3 h4
        have hx := (mz_skh h4).2
        by_cases hin : x0 < lo ∨ hi < x0
        · exact lv_tableOut C.1 C.2.1 (tgt := ((pc : Int) + dflt).toNat) hdg (by rw [mz_id hx]; exact hin) (by omega) (jmp (h.2 hin) H locs ls h1 h2 h3 (mz_skt h4))
        · obtain ⟨o, h5, h6⟩ := mz_ts (k := fun t => V (mzDr cd t) L S' μ) offs.toList lo h.1 (x0 - lo).toNat (by omega) (by omega)
          have hpos := of_decide_eq_true (List.all_eq_true.mp hok.2.1 o (List.mem_of_getElem? h5))
          exact lv_tableIn C.1 C.2.1 (off := o) (tgt := ((pc : Int) + o).toNat) hdg (by rw [mz_id hx]; omega) (by rw [mz_id hx]; omega) (by rw [mz_id hx, ← Array.getElem?_toList]; exact h5) (by omega) (jmp h6 H locs ls h1 h2 h3 (mz_skt h4))
      · exact h.elim
end MZU
theorem mz_maskl : ∀ (k : List Bool) (L : List mzV), (mzMask k L).length = L.length ∧ ∀ (i : Nat) (v : Int ⊕ (Int ⊕ (Nat ⊕ (Nat × Nat)))), (mzMask k L)[i]? = some (some v) → L[i]? = some (some v) := by
  intro k
  induction k with
  | nil =>
    intro L
    cases L with
    | nil => exact ⟨rfl, fun i v h => h⟩
    | cons a r => exact ⟨rfl, fun i v h => h⟩
  | cons b bs ih =>
    intro L
    cases L with
    | nil => cases b <;> exact ⟨rfl, fun i v h => h⟩
    | cons a r =>
      cases b with
      | true =>
        simp only [mzMask]
        refine ⟨by simp [(ih r).1], fun i v h => ?_⟩
        cases i with
        | zero => exact h
        | succ i => exact (ih r).2 i v h
      | false =>
        simp only [mzMask]
        refine ⟨by simp [(ih r).1], fun i v h => ?_⟩
        cases i with
        | zero => simp at h
        | succ i => exact (ih r).2 i v h
theorem mz_mask {G : mzG} {y : Nat} {ls : Array Slot} {L : List mzV} (k : List Bool) (h : mzFr G y ls L) : mzFr G y ls (mzMask k L) := ⟨h.1, h.2.1, by rw [(mz_maskl k L).1]; exact h.2.2.1, fun i v hv => h.2.2.2 i v ((mz_maskl k L).2 i v hv)⟩
/-- what is computed from a place on holds of the machine there -/
theorem mzVc_ok {d y : Nat} {cd : List mzO} {Q : mzV → mzM → Prop} {cuts : List (Nat × List Bool)} (hcd : mzGd y cd) {G : mzG} {p : Program} {l : Launch} {e : Env} {R : Room} {s : State} {m : MethodId} {args : Array Value} {below : List Frame} {meth : Method} {c : Code} {cells slots : Nat} {Z : State → Prop} (C : mzCx G p R s m args meth c y d cells slots)
    (hR : ∀ (v : mzV) (μ' : mzM) (H' : Heap) (locs' : List Loc) (ls' : Array Slot) (pc' : Nat), Q v μ' → mzTyp (mzRt y) v → mzK v → mzSt G H' μ' → va_S (mzA G) s.heap H' locs' → decode (mzBy y) pc' = .ok (mzRi (mzRt y), 1) → W p l e R s m args below meth c H' locs' cells slots Z (F0 m pc' ls' (mzRs G v))) :
    ∀ (n : Nat) (r : List mzO) (L S : List mzV) (μ : mzM), mzGd y r → mzVc d y cd Q cuts n r L S μ → ∃ e0 r', r = e0 :: r' ∧ mzGo G p l e R s m args below meth c cells slots Z y e0.1 L S μ := by
  intro n
  induction n with
  | zero => intro r L S μ _ h; exact h.elim
  | succ n ih =>
    intro r L S μ hr h
    cases r with
    | nil => exact h.elim
    | cons e0 r' =>
      obtain ⟨pc, i, a, b, c0⟩ := e0
      refine ⟨_, _, rfl, ?_⟩
      simp only [mzVc] at h
      split at h
      · exact fun H locs ls h1 h2 h3 h4 => h G p l e R s m args below meth c cells slots Z C hR H locs ls h1 h2 (mz_mask _ h3) h4
      · exact mzStp_ok C hR hcd ih hr h
theorem mzVg_ok {d y : Nat} {cd : List mzO} {Q : mzV → mzM → Prop} {cuts : List (Nat × List Bool)} {n pc : Nat} {L S : List mzV} {μ : mzM} (hcd : mzGd y cd) (h : mzVg d y cd Q cuts n pc L S μ) : mzWp d y pc L S μ Q := by
  intro G p l e R s m args below meth c cells slots Z C hR
  unfold mzVg at h
  split at h
  · exact h.elim
  · next pc1 i a b c0 r' he =>
    have h1 := mz_drpc he
    have h1 : pc1 = pc := h1
    subst h1
    have hr := mz_drgd (t := pc1) hcd
    rw [he] at hr
    exact mzStp_ok C hR hcd (mzVc_ok hcd C hR n) hr h
end
section
-- MeltPinsLaw.law([I)Z
def k_0 : List mzO := [(16, .iconst 0, 0, 0, 0), (17, .istore_n 3, 0, 0, 0), (18, .iload_n 3, 0, 0, 0), (19, .aload_n 0, 0, 0, 0), (20, .arraylength, 0, 0, 0), (21, .bipush 6, 0, 0, 0), (23, .isub, 0, 0, 0), (24, .if_icmp .gt 1434, 0, 1458, 0), (27, .aload_n 0, 0, 0, 0), (28, .iload_n 3, 0, 0, 0), (29, .iaload, 0, 0, 0), (30, .bipush 63, 0, 0, 0), (32, .iand, 0, 0, 0), (33, .tableswitch 1419 0 43 #[191, 224, 237, 250, 283, 326, 349, 392, 425, 458, 507, 540, 573, 586, 619, 662, 685, 698, 721, 744, 767, 790, 823, 836, 879, 912, 935, 948, 981, 994, 1017, 1040, 1073, 1096, 1119, 1152, 1185, 1228, 1271, 1334, 1347, 1360, 1373, 1396], 0, 191, 0), (224, .aload_n 1, 0, 0, 0), (225, .aload_n 0, 0, 0, 0), (226, .iload_n 3, 0, 0, 0), (227, .iconst 1, 0, 0, 0), (228, .iadd, 0, 0, 0), (229, .iaload, 0, 0, 0), (230, .aload_n 0, 0, 0, 0), (231, .iload_n 3, 0, 0, 0), (232, .iconst 2, 0, 0, 0), (233, .iadd, 0, 0, 0), (234, .iaload, 0, 0, 0), (235, .invokevirtual 13, 1, 129, 3), (238, .pop, 0, 0, 0), (239, .aload_n 2, 0, 0, 0), (240, .aload_n 0, 0, 0, 0), (241, .iload_n 3, 0, 0, 0), (242, .iconst 1, 0, 0, 0), (243, .iadd, 0, 0, 0), (244, .iaload, 0, 0, 0), (245, .aload_n 0, 0, 0, 0), (246, .iload_n 3, 0, 0, 0), (247, .iconst 2, 0, 0, 0), (248, .iadd, 0, 0, 0), (249, .iaload, 0, 0, 0), (250, .invokevirtual 17, 1, 9, 3), (253, .pop, 0, 0, 0), (254, .goto 1198, 0, 1452, 0), (257, .aload_n 1, 0, 0, 0), (258, .invokevirtual 18, 1, 130, 1), (261, .aload_n 2, 0, 0, 0), (262, .invokevirtual 22, 1, 10, 1), (265, .if_icmp .eq 1187, 0, 1452, 0), (268, .iconst 0, 0, 0, 0), (269, .ireturn, 0, 0, 1), (270, .aload_n 1, 0, 0, 0), (271, .invokevirtual 23, 1, 131, 1), (274, .pop, 0, 0, 0), (275, .aload_n 2, 0, 0, 0), (276, .invokevirtual 26, 1, 20, 1), (279, .pop, 0, 0, 0), (280, .goto 1172, 0, 1452, 0), (283, .aload_n 1, 0, 0, 0), (284, .aload_n 0, 0, 0, 0), (285, .iload_n 3, 0, 0, 0), (286, .iconst 1, 0, 0, 0), (287, .iadd, 0, 0, 0), (288, .iaload, 0, 0, 0), (289, .aload_n 0, 0, 0, 0), (290, .iload_n 3, 0, 0, 0), (291, .iconst 2, 0, 0, 0), (292, .iadd, 0, 0, 0), (293, .iaload, 0, 0, 0), (294, .invokevirtual 27, 1, 132, 3), (297, .pop, 0, 0, 0), (298, .aload_n 2, 0, 0, 0), (299, .aload_n 0, 0, 0, 0), (300, .iload_n 3, 0, 0, 0), (301, .iconst 1, 0, 0, 0), (302, .iadd, 0, 0, 0), (303, .iaload, 0, 0, 0), (304, .aload_n 0, 0, 0, 0), (305, .iload_n 3, 0, 0, 0), (306, .iconst 2, 0, 0, 0), (307, .iadd, 0, 0, 0), (308, .iaload, 0, 0, 0), (309, .invokevirtual 30, 1, 22, 3), (312, .pop, 0, 0, 0), (313, .goto 1139, 0, 1452, 0), (316, .aload_n 1, 0, 0, 0), (317, .aload_n 0, 0, 0, 0), (318, .iload_n 3, 0, 0, 0), (319, .iconst 1, 0, 0, 0), (320, .iadd, 0, 0, 0), (321, .iaload, 0, 0, 0), (322, .aload_n 0, 0, 0, 0), (323, .iload_n 3, 0, 0, 0), (324, .iconst 2, 0, 0, 0), (325, .iadd, 0, 0, 0), (326, .iaload, 0, 0, 0), (327, .aload_n 0, 0, 0, 0), (328, .iload_n 3, 0, 0, 0), (329, .iconst 3, 0, 0, 0), (330, .iadd, 0, 0, 0), (331, .iaload, 0, 0, 0), (332, .invokevirtual 31, 1, 133, 4), (335, .pop, 0, 0, 0), (336, .aload_n 2, 0, 0, 0), (337, .aload_n 0, 0, 0, 0), (338, .iload_n 3, 0, 0, 0), (339, .iconst 1, 0, 0, 0), (340, .iadd, 0, 0, 0), (341, .iaload, 0, 0, 0), (342, .aload_n 0, 0, 0, 0), (343, .iload_n 3, 0, 0, 0), (344, .iconst 2, 0, 0, 0), (345, .iadd, 0, 0, 0), (346, .iaload, 0, 0, 0), (347, .aload_n 0, 0, 0, 0), (348, .iload_n 3, 0, 0, 0), (349, .iconst 3, 0, 0, 0), (350, .iadd, 0, 0, 0), (351, .iaload, 0, 0, 0), (352, .invokevirtual 35, 1, 25, 4), (355, .pop, 0, 0, 0), (356, .goto 1096, 0, 1452, 0), (359, .aload_n 1, 0, 0, 0), (360, .aload_n 0, 0, 0, 0), (361, .iload_n 3, 0, 0, 0), (362, .iconst 1, 0, 0, 0), (363, .iadd, 0, 0, 0), (364, .iaload, 0, 0, 0), (365, .invokevirtual 36, 1, 134, 2), (368, .pop, 0, 0, 0), (369, .aload_n 2, 0, 0, 0), (370, .aload_n 0, 0, 0, 0), (371, .iload_n 3, 0, 0, 0), (372, .iconst 1, 0, 0, 0), (373, .iadd, 0, 0, 0), (374, .iaload, 0, 0, 0), (375, .invokevirtual 40, 1, 26, 2), (378, .pop, 0, 0, 0), (379, .goto 1073, 0, 1452, 0), (382, .aload_n 1, 0, 0, 0), (383, .aload_n 0, 0, 0, 0), (384, .iload_n 3, 0, 0, 0), (385, .iconst 1, 0, 0, 0), (386, .iadd, 0, 0, 0), (387, .iaload, 0, 0, 0), (388, .aload_n 0, 0, 0, 0), (389, .iload_n 3, 0, 0, 0), (390, .iconst 2, 0, 0, 0), (391, .iadd, 0, 0, 0), (392, .iaload, 0, 0, 0), (393, .aload_n 0, 0, 0, 0), (394, .iload_n 3, 0, 0, 0), (395, .iconst 3, 0, 0, 0), (396, .iadd, 0, 0, 0), (397, .iaload, 0, 0, 0), (398, .invokevirtual 41, 1, 135, 4), (401, .pop, 0, 0, 0), (402, .aload_n 2, 0, 0, 0), (403, .aload_n 0, 0, 0, 0), (404, .iload_n 3, 0, 0, 0), (405, .iconst 1, 0, 0, 0), (406, .iadd, 0, 0, 0), (407, .iaload, 0, 0, 0), (408, .aload_n 0, 0, 0, 0), (409, .iload_n 3, 0, 0, 0), (410, .iconst 2, 0, 0, 0), (411, .iadd, 0, 0, 0), (412, .iaload, 0, 0, 0), (413, .aload_n 0, 0, 0, 0), (414, .iload_n 3, 0, 0, 0), (415, .iconst 3, 0, 0, 0), (416, .iadd, 0, 0, 0), (417, .iaload, 0, 0, 0), (418, .invokevirtual 44, 1, 28, 4), (421, .pop, 0, 0, 0), (422, .goto 1030, 0, 1452, 0), (425, .aload_n 1, 0, 0, 0), (426, .aload_n 0, 0, 0, 0), (427, .iload_n 3, 0, 0, 0), (428, .iconst 1, 0, 0, 0), (429, .iadd, 0, 0, 0), (430, .iaload, 0, 0, 0), (431, .aload_n 0, 0, 0, 0), (432, .iload_n 3, 0, 0, 0), (433, .iconst 2, 0, 0, 0), (434, .iadd, 0, 0, 0), (435, .iaload, 0, 0, 0), (436, .invokevirtual 45, 1, 136, 3), (439, .pop, 0, 0, 0), (440, .aload_n 2, 0, 0, 0), (441, .aload_n 0, 0, 0, 0), (442, .iload_n 3, 0, 0, 0), (443, .iconst 1, 0, 0, 0), (444, .iadd, 0, 0, 0), (445, .iaload, 0, 0, 0), (446, .aload_n 0, 0, 0, 0), (447, .iload_n 3, 0, 0, 0), (448, .iconst 2, 0, 0, 0), (449, .iadd, 0, 0, 0), (450, .iaload, 0, 0, 0), (451, .invokevirtual 48, 1, 29, 3), (454, .pop, 0, 0, 0), (455, .goto 997, 0, 1452, 0), (458, .aload_n 1, 0, 0, 0), (459, .aload_n 0, 0, 0, 0), (460, .iload_n 3, 0, 0, 0), (461, .iconst 1, 0, 0, 0), (462, .iadd, 0, 0, 0), (463, .iaload, 0, 0, 0), (464, .aload_n 0, 0, 0, 0), (465, .iload_n 3, 0, 0, 0), (466, .iconst 2, 0, 0, 0), (467, .iadd, 0, 0, 0), (468, .iaload, 0, 0, 0), (469, .invokevirtual 49, 1, 137, 3), (472, .pop, 0, 0, 0), (473, .aload_n 2, 0, 0, 0), (474, .aload_n 0, 0, 0, 0), (475, .iload_n 3, 0, 0, 0), (476, .iconst 1, 0, 0, 0), (477, .iadd, 0, 0, 0), (478, .iaload, 0, 0, 0), (479, .aload_n 0, 0, 0, 0), (480, .iload_n 3, 0, 0, 0), (481, .iconst 2, 0, 0, 0), (482, .iadd, 0, 0, 0), (483, .iaload, 0, 0, 0), (484, .invokevirtual 52, 1, 30, 3), (487, .pop, 0, 0, 0), (488, .goto 964, 0, 1452, 0), (491, .aload_n 1, 0, 0, 0), (492, .aload_n 0, 0, 0, 0), (493, .iload_n 3, 0, 0, 0), (494, .iconst 1, 0, 0, 0), (495, .iadd, 0, 0, 0), (496, .iaload, 0, 0, 0), (497, .aload_n 0, 0, 0, 0), (498, .iload_n 3, 0, 0, 0), (499, .iconst 2, 0, 0, 0), (500, .iadd, 0, 0, 0), (501, .iaload, 0, 0, 0), (502, .ifCond .eq 7, 0, 509, 0), (505, .iconst 1, 0, 0, 0), (506, .goto 4, 0, 510, 0), (509, .iconst 0, 0, 0, 0), (510, .invokevirtual 53, 1, 138, 3), (513, .pop, 0, 0, 0), (514, .aload_n 2, 0, 0, 0), (515, .aload_n 0, 0, 0, 0), (516, .iload_n 3, 0, 0, 0), (517, .iconst 1, 0, 0, 0), (518, .iadd, 0, 0, 0), (519, .iaload, 0, 0, 0), (520, .aload_n 0, 0, 0, 0), (521, .iload_n 3, 0, 0, 0), (522, .iconst 2, 0, 0, 0), (523, .iadd, 0, 0, 0), (524, .iaload, 0, 0, 0), (525, .ifCond .eq 7, 0, 532, 0), (528, .iconst 1, 0, 0, 0), (529, .goto 4, 0, 533, 0), (532, .iconst 0, 0, 0, 0), (533, .invokevirtual 57, 1, 31, 3), (536, .pop, 0, 0, 0), (537, .goto 915, 0, 1452, 0), (540, .aload_n 1, 0, 0, 0), (541, .aload_n 0, 0, 0, 0), (542, .iload_n 3, 0, 0, 0), (543, .iconst 1, 0, 0, 0), (544, .iadd, 0, 0, 0), (545, .iaload, 0, 0, 0), (546, .aload_n 0, 0, 0, 0), (547, .iload_n 3, 0, 0, 0), (548, .iconst 2, 0, 0, 0), (549, .iadd, 0, 0, 0), (550, .iaload, 0, 0, 0), (551, .invokevirtual 58, 1, 139, 3), (554, .pop, 0, 0, 0), (555, .aload_n 2, 0, 0, 0), (556, .aload_n 0, 0, 0, 0), (557, .iload_n 3, 0, 0, 0), (558, .iconst 1, 0, 0, 0), (559, .iadd, 0, 0, 0), (560, .iaload, 0, 0, 0), (561, .aload_n 0, 0, 0, 0), (562, .iload_n 3, 0, 0, 0), (563, .iconst 2, 0, 0, 0), (564, .iadd, 0, 0, 0), (565, .iaload, 0, 0, 0), (566, .invokevirtual 61, 1, 41, 3), (569, .pop, 0, 0, 0), (570, .goto 882, 0, 1452, 0), (573, .aload_n 1, 0, 0, 0), (574, .aload_n 0, 0, 0, 0), (575, .iload_n 3, 0, 0, 0), (576, .iconst 1, 0, 0, 0), (577, .iadd, 0, 0, 0), (578, .iaload, 0, 0, 0), (579, .aload_n 0, 0, 0, 0), (580, .iload_n 3, 0, 0, 0), (581, .iconst 2, 0, 0, 0), (582, .iadd, 0, 0, 0), (583, .iaload, 0, 0, 0), (584, .invokevirtual 62, 1, 140, 3), (587, .pop, 0, 0, 0), (588, .aload_n 2, 0, 0, 0), (589, .aload_n 0, 0, 0, 0), (590, .iload_n 3, 0, 0, 0), (591, .iconst 1, 0, 0, 0), (592, .iadd, 0, 0, 0), (593, .iaload, 0, 0, 0), (594, .aload_n 0, 0, 0, 0), (595, .iload_n 3, 0, 0, 0), (596, .iconst 2, 0, 0, 0), (597, .iadd, 0, 0, 0), (598, .iaload, 0, 0, 0), (599, .invokevirtual 65, 1, 42, 3), (602, .pop, 0, 0, 0), (603, .goto 849, 0, 1452, 0), (606, .aload_n 1, 0, 0, 0), (607, .invokevirtual 66, 1, 141, 1), (610, .pop, 0, 0, 0), (611, .aload_n 2, 0, 0, 0), (612, .invokevirtual 69, 1, 43, 1), (615, .pop, 0, 0, 0), (616, .goto 836, 0, 1452, 0), (619, .aload_n 1, 0, 0, 0), (620, .aload_n 0, 0, 0, 0), (621, .iload_n 3, 0, 0, 0), (622, .iconst 1, 0, 0, 0), (623, .iadd, 0, 0, 0), (624, .iaload, 0, 0, 0), (625, .aload_n 0, 0, 0, 0), (626, .iload_n 3, 0, 0, 0), (627, .iconst 2, 0, 0, 0), (628, .iadd, 0, 0, 0), (629, .iaload, 0, 0, 0), (630, .invokevirtual 70, 1, 142, 3), (633, .pop, 0, 0, 0), (634, .aload_n 2, 0, 0, 0), (635, .aload_n 0, 0, 0, 0), (636, .iload_n 3, 0, 0, 0), (637, .iconst 1, 0, 0, 0), (638, .iadd, 0, 0, 0), (639, .iaload, 0, 0, 0), (640, .aload_n 0, 0, 0, 0), (641, .iload_n 3, 0, 0, 0), (642, .iconst 2, 0, 0, 0), (643, .iadd, 0, 0, 0), (644, .iaload, 0, 0, 0), (645, .invokevirtual 73, 1, 44, 3), (648, .pop, 0, 0, 0), (649, .goto 803, 0, 1452, 0), (652, .aload_n 1, 0, 0, 0), (653, .aload_n 0, 0, 0, 0), (654, .iload_n 3, 0, 0, 0), (655, .iconst 1, 0, 0, 0), (656, .iadd, 0, 0, 0), (657, .iaload, 0, 0, 0), (658, .aload_n 0, 0, 0, 0), (659, .iload_n 3, 0, 0, 0), (660, .iconst 2, 0, 0, 0), (661, .iadd, 0, 0, 0), (662, .iaload, 0, 0, 0), (663, .aload_n 0, 0, 0, 0), (664, .iload_n 3, 0, 0, 0), (665, .iconst 3, 0, 0, 0), (666, .iadd, 0, 0, 0), (667, .iaload, 0, 0, 0), (668, .invokevirtual 74, 1, 143, 4), (671, .pop, 0, 0, 0), (672, .aload_n 2, 0, 0, 0), (673, .aload_n 0, 0, 0, 0), (674, .iload_n 3, 0, 0, 0), (675, .iconst 1, 0, 0, 0), (676, .iadd, 0, 0, 0), (677, .iaload, 0, 0, 0), (678, .aload_n 0, 0, 0, 0), (679, .iload_n 3, 0, 0, 0), (680, .iconst 2, 0, 0, 0), (681, .iadd, 0, 0, 0), (682, .iaload, 0, 0, 0), (683, .aload_n 0, 0, 0, 0), (684, .iload_n 3, 0, 0, 0), (685, .iconst 3, 0, 0, 0), (686, .iadd, 0, 0, 0), (687, .iaload, 0, 0, 0), (688, .invokevirtual 77, 1, 45, 4), (691, .pop, 0, 0, 0), (692, .goto 760, 0, 1452, 0), (695, .aload_n 1, 0, 0, 0), (696, .aload_n 0, 0, 0, 0), (697, .iload_n 3, 0, 0, 0), (698, .iconst 1, 0, 0, 0), (699, .iadd, 0, 0, 0), (700, .iaload, 0, 0, 0), (701, .invokevirtual 78, 1, 144, 2), (704, .pop, 0, 0, 0), (705, .aload_n 2, 0, 0, 0), (706, .aload_n 0, 0, 0, 0), (707, .iload_n 3, 0, 0, 0), (708, .iconst 1, 0, 0, 0), (709, .iadd, 0, 0, 0), (710, .iaload, 0, 0, 0), (711, .invokevirtual 81, 1, 46, 2), (714, .pop, 0, 0, 0), (715, .goto 737, 0, 1452, 0), (718, .aload_n 1, 0, 0, 0), (719, .invokevirtual 82, 1, 145, 1), (722, .pop, 0, 0, 0), (723, .aload_n 2, 0, 0, 0), (724, .invokevirtual 85, 1, 47, 1), (727, .pop, 0, 0, 0), (728, .goto 724, 0, 1452, 0), (731, .aload_n 1, 0, 0, 0), (732, .aload_n 0, 0, 0, 0), (733, .iload_n 3, 0, 0, 0), (734, .iconst 1, 0, 0, 0), (735, .iadd, 0, 0, 0), (736, .iaload, 0, 0, 0), (737, .invokevirtual 86, 1, 146, 2), (740, .pop, 0, 0, 0), (741, .aload_n 2, 0, 0, 0), (742, .aload_n 0, 0, 0, 0), (743, .iload_n 3, 0, 0, 0), (744, .iconst 1, 0, 0, 0), (745, .iadd, 0, 0, 0), (746, .iaload, 0, 0, 0), (747, .invokevirtual 89, 1, 50, 2), (750, .pop, 0, 0, 0), (751, .goto 701, 0, 1452, 0), (754, .aload_n 1, 0, 0, 0), (755, .aload_n 0, 0, 0, 0), (756, .iload_n 3, 0, 0, 0), (757, .iconst 1, 0, 0, 0), (758, .iadd, 0, 0, 0), (759, .iaload, 0, 0, 0), (760, .invokevirtual 90, 1, 147, 2), (763, .pop, 0, 0, 0), (764, .aload_n 2, 0, 0, 0), (765, .aload_n 0, 0, 0, 0), (766, .iload_n 3, 0, 0, 0), (767, .iconst 1, 0, 0, 0), (768, .iadd, 0, 0, 0), (769, .iaload, 0, 0, 0), (770, .invokevirtual 93, 1, 53, 2), (773, .pop, 0, 0, 0), (774, .goto 678, 0, 1452, 0), (777, .aload_n 1, 0, 0, 0), (778, .aload_n 0, 0, 0, 0), (779, .iload_n 3, 0, 0, 0), (780, .iconst 1, 0, 0, 0), (781, .iadd, 0, 0, 0), (782, .iaload, 0, 0, 0), (783, .invokevirtual 94, 1, 148, 2), (786, .pop, 0, 0, 0), (787, .aload_n 2, 0, 0, 0), (788, .aload_n 0, 0, 0, 0), (789, .iload_n 3, 0, 0, 0), (790, .iconst 1, 0, 0, 0), (791, .iadd, 0, 0, 0), (792, .iaload, 0, 0, 0), (793, .invokevirtual 97, 1, 57, 2), (796, .pop, 0, 0, 0), (797, .goto 655, 0, 1452, 0), (800, .aload_n 1, 0, 0, 0), (801, .aload_n 0, 0, 0, 0), (802, .iload_n 3, 0, 0, 0), (803, .iconst 1, 0, 0, 0), (804, .iadd, 0, 0, 0), (805, .iaload, 0, 0, 0), (806, .invokevirtual 98, 1, 149, 2), (809, .pop, 0, 0, 0), (810, .aload_n 2, 0, 0, 0), (811, .aload_n 0, 0, 0, 0), (812, .iload_n 3, 0, 0, 0), (813, .iconst 1, 0, 0, 0), (814, .iadd, 0, 0, 0), (815, .iaload, 0, 0, 0), (816, .invokevirtual 101, 1, 58, 2), (819, .pop, 0, 0, 0), (820, .goto 632, 0, 1452, 0), (823, .aload_n 1, 0, 0, 0), (824, .aload_n 0, 0, 0, 0), (825, .iload_n 3, 0, 0, 0), (826, .iconst 1, 0, 0, 0), (827, .iadd, 0, 0, 0), (828, .iaload, 0, 0, 0), (829, .aload_n 0, 0, 0, 0), (830, .iload_n 3, 0, 0, 0), (831, .iconst 2, 0, 0, 0), (832, .iadd, 0, 0, 0), (833, .iaload, 0, 0, 0), (834, .invokevirtual 102, 1, 150, 3), (837, .pop, 0, 0, 0), (838, .aload_n 2, 0, 0, 0), (839, .aload_n 0, 0, 0, 0), (840, .iload_n 3, 0, 0, 0), (841, .iconst 1, 0, 0, 0), (842, .iadd, 0, 0, 0), (843, .iaload, 0, 0, 0), (844, .aload_n 0, 0, 0, 0), (845, .iload_n 3, 0, 0, 0), (846, .iconst 2, 0, 0, 0), (847, .iadd, 0, 0, 0), (848, .iaload, 0, 0, 0), (849, .invokevirtual 105, 1, 59, 3), (852, .pop, 0, 0, 0), (853, .goto 599, 0, 1452, 0), (856, .aload_n 1, 0, 0, 0), (857, .invokevirtual 106, 1, 151, 1), (860, .pop, 0, 0, 0), (861, .aload_n 2, 0, 0, 0), (862, .invokevirtual 109, 1, 60, 1), (865, .pop, 0, 0, 0), (866, .goto 586, 0, 1452, 0), (869, .aload_n 1, 0, 0, 0), (870, .aload_n 0, 0, 0, 0), (871, .iload_n 3, 0, 0, 0), (872, .iconst 1, 0, 0, 0), (873, .iadd, 0, 0, 0), (874, .iaload, 0, 0, 0), (875, .aload_n 0, 0, 0, 0), (876, .iload_n 3, 0, 0, 0), (877, .iconst 2, 0, 0, 0), (878, .iadd, 0, 0, 0), (879, .iaload, 0, 0, 0), (880, .aload_n 0, 0, 0, 0), (881, .iload_n 3, 0, 0, 0), (882, .iconst 3, 0, 0, 0), (883, .iadd, 0, 0, 0), (884, .iaload, 0, 0, 0), (885, .invokevirtual 110, 1, 152, 4), (888, .pop, 0, 0, 0), (889, .aload_n 2, 0, 0, 0), (890, .aload_n 0, 0, 0, 0), (891, .iload_n 3, 0, 0, 0), (892, .iconst 1, 0, 0, 0), (893, .iadd, 0, 0, 0), (894, .iaload, 0, 0, 0), (895, .aload_n 0, 0, 0, 0), (896, .iload_n 3, 0, 0, 0), (897, .iconst 2, 0, 0, 0), (898, .iadd, 0, 0, 0), (899, .iaload, 0, 0, 0), (900, .aload_n 0, 0, 0, 0), (901, .iload_n 3, 0, 0, 0), (902, .iconst 3, 0, 0, 0), (903, .iadd, 0, 0, 0), (904, .iaload, 0, 0, 0), (905, .invokevirtual 113, 1, 62, 4), (908, .pop, 0, 0, 0), (909, .goto 543, 0, 1452, 0), (912, .aload_n 1, 0, 0, 0), (913, .aload_n 0, 0, 0, 0), (914, .iload_n 3, 0, 0, 0), (915, .iconst 1, 0, 0, 0), (916, .iadd, 0, 0, 0), (917, .iaload, 0, 0, 0), (918, .aload_n 0, 0, 0, 0), (919, .iload_n 3, 0, 0, 0), (920, .iconst 2, 0, 0, 0), (921, .iadd, 0, 0, 0), (922, .iaload, 0, 0, 0), (923, .invokevirtual 114, 1, 153, 3), (926, .pop, 0, 0, 0), (927, .aload_n 2, 0, 0, 0), (928, .aload_n 0, 0, 0, 0), (929, .iload_n 3, 0, 0, 0), (930, .iconst 1, 0, 0, 0), (931, .iadd, 0, 0, 0), (932, .iaload, 0, 0, 0), (933, .aload_n 0, 0, 0, 0), (934, .iload_n 3, 0, 0, 0), (935, .iconst 2, 0, 0, 0), (936, .iadd, 0, 0, 0), (937, .iaload, 0, 0, 0), (938, .invokevirtual 117, 1, 63, 3), (941, .pop, 0, 0, 0), (942, .goto 510, 0, 1452, 0), (945, .aload_n 1, 0, 0, 0), (946, .aload_n 0, 0, 0, 0), (947, .iload_n 3, 0, 0, 0), (948, .iconst 1, 0, 0, 0), (949, .iadd, 0, 0, 0), (950, .iaload, 0, 0, 0), (951, .invokevirtual 118, 1, 154, 2), (954, .pop, 0, 0, 0), (955, .aload_n 2, 0, 0, 0), (956, .aload_n 0, 0, 0, 0), (957, .iload_n 3, 0, 0, 0), (958, .iconst 1, 0, 0, 0), (959, .iadd, 0, 0, 0), (960, .iaload, 0, 0, 0), (961, .invokevirtual 121, 1, 67, 2), (964, .pop, 0, 0, 0), (965, .goto 487, 0, 1452, 0), (968, .aload_n 1, 0, 0, 0), (969, .invokevirtual 122, 1, 155, 1), (972, .pop, 0, 0, 0), (973, .aload_n 2, 0, 0, 0), (974, .invokevirtual 125, 1, 69, 1), (977, .pop, 0, 0, 0), (978, .goto 474, 0, 1452, 0), (981, .aload_n 1, 0, 0, 0), (982, .aload_n 0, 0, 0, 0), (983, .iload_n 3, 0, 0, 0), (984, .iconst 1, 0, 0, 0), (985, .iadd, 0, 0, 0), (986, .iaload, 0, 0, 0), (987, .aload_n 0, 0, 0, 0), (988, .iload_n 3, 0, 0, 0), (989, .iconst 2, 0, 0, 0), (990, .iadd, 0, 0, 0), (991, .iaload, 0, 0, 0), (992, .invokevirtual 126, 1, 156, 3), (995, .pop, 0, 0, 0), (996, .aload_n 2, 0, 0, 0), (997, .aload_n 0, 0, 0, 0), (998, .iload_n 3, 0, 0, 0), (999, .iconst 1, 0, 0, 0)]
theorem gd_0 : mzGd 0 k_0 := mz_gd (k := 16) (by decide +kernel) (by decide +kernel) (by decide +kernel)
-- MeltPinsModel.finds(I)I
def k_1 : List mzO := [(0, .aload_n 0, 0, 0, 0), (1, .getfield 16, 0, 3, 5), (4, .ldc 49, (-1000001), 0, 0), (6, .iload_n 1, 0, 0, 0), (7, .isub, 0, 0, 0), (8, .dup2, 0, 0, 0), (9, .iaload, 0, 0, 0), (10, .iconst 1, 0, 0, 0), (11, .iadd, 0, 0, 0), (12, .iastore, 0, 0, 0), (13, .iload_n 1, 0, 0, 0), (14, .ireturn, 0, 0, 0)]
theorem gd_1 : mzGd 1 k_1 := mz_gd (k := 0) (by decide +kernel) (by decide +kernel) (by decide +kernel)
-- MeltPinsModel.in(JJJ)Z
def k_2 : List mzO := [(0, .lload_n 0, 0, 0, 0), (1, .lload_n 2, 0, 0, 0), (2, .lcmp, 0, 0, 0), (3, .ifCond .lt 14, 0, 17, 0), (6, .lload_n 0, 0, 0, 0), (7, .lload 4, 0, 0, 0), (9, .lcmp, 0, 0, 0), (10, .ifCond .gt 7, 0, 17, 0), (13, .iconst 1, 0, 0, 0), (14, .goto 4, 0, 18, 0), (17, .iconst 0, 0, 0, 0), (18, .ireturn, 0, 0, 1)]
theorem gd_2 : mzGd 2 k_2 := mz_gd (k := 0) (by decide +kernel) (by decide +kernel) (by decide +kernel)
-- MeltPinsModel.has(II)Z
def k_3 : List mzO := [(0, .iload_n 0, 0, 0, 0), (1, .iload_n 1, 0, 0, 0), (2, .ishr, 0, 0, 0), (3, .iconst 1, 0, 0, 0), (4, .iand, 0, 0, 0), (5, .iconst 1, 0, 0, 0), (6, .if_icmp .ne 7, 0, 13, 0), (9, .iconst 1, 0, 0, 0), (10, .goto 4, 0, 14, 0), (13, .iconst 0, 0, 0, 0), (14, .ireturn, 0, 0, 1)]
theorem gd_3 : mzGd 3 k_3 := mz_gd (k := 0) (by decide +kernel) (by decide +kernel) (by decide +kernel)
-- MeltPinsModel.many(I)I
def k_4 : List mzO := [(0, .iconst 0, 0, 0, 0), (1, .istore_n 1, 0, 0, 0), (2, .iconst 0, 0, 0, 0), (3, .istore_n 2, 0, 0, 0), (4, .iload_n 2, 0, 0, 0), (5, .bipush 12, 0, 0, 0), (7, .if_icmp .ge 17, 0, 24, 0), (10, .iload_n 1, 0, 0, 0), (11, .iload_n 0, 0, 0, 0), (12, .iload_n 2, 0, 0, 0), (13, .ishr, 0, 0, 0), (14, .iconst 1, 0, 0, 0), (15, .iand, 0, 0, 0), (16, .iadd, 0, 0, 0), (17, .istore_n 1, 0, 0, 0), (18, .iinc 2 1, 0, 0, 0), (21, .goto (-17), 0, 4, 0), (24, .iload_n 1, 0, 0, 0), (25, .ireturn, 0, 0, 0)]
theorem gd_4 : mzGd 4 k_4 := mz_gd (k := 0) (by decide +kernel) (by decide +kernel) (by decide +kernel)
-- MeltPinsModel.of(II)I
def k_5 : List mzO := [(0, .aload_n 0, 0, 0, 0), (1, .getfield 9, 0, 0, 5), (4, .iconst 4, 0, 0, 0), (5, .bipush 10, 0, 0, 0), (7, .iload_n 1, 0, 0, 0), (8, .imul, 0, 0, 0), (9, .iadd, 0, 0, 0), (10, .iload_n 2, 0, 0, 0), (11, .iadd, 0, 0, 0), (12, .iaload, 0, 0, 0), (13, .ireturn, 0, 0, 0)]
theorem gd_5 : mzGd 5 k_5 := mz_gd (k := 0) (by decide +kernel) (by decide +kernel) (by decide +kernel)
-- MeltPinsModel.isPlace(I)Z
def k_6 : List mzO := [(0, .iload_n 1, 0, 0, 0), (1, .i2l, 0, 0, 0), (2, .lconst 0, 0, 0, 0), (3, .aload_n 0, 0, 0, 0), (4, .getfield 9, 0, 0, 5), (7, .iconst 0, 0, 0, 0), (8, .iaload, 0, 0, 0), (9, .iconst 1, 0, 0, 0), (10, .isub, 0, 0, 0), (11, .i2l, 0, 0, 0), (12, .invokestatic 50, 1, 2, 3), (15, .ireturn, 0, 0, 1)]
theorem gd_6 : mzGd 6 k_6 := mz_gd (k := 0) (by decide +kernel) (by decide +kernel) (by decide +kernel)
-- MeltPinsModel.every()I
def k_7 : List mzO := [(0, .iconst 1, 0, 0, 0), (1, .aload_n 0, 0, 0, 0), (2, .getfield 9, 0, 0, 5), (5, .iconst 0, 0, 0, 0), (6, .iaload, 0, 0, 0), (7, .ishl, 0, 0, 0), (8, .iconst 1, 0, 0, 0), (9, .isub, 0, 0, 0), (10, .ireturn, 0, 0, 0)]
theorem gd_7 : mzGd 7 k_7 := mz_gd (k := 0) (by decide +kernel) (by decide +kernel) (by decide +kernel)
-- MeltPinsModel.isSet(I)Z
def k_8 : List mzO := [(0, .iload_n 1, 0, 0, 0), (1, .i2l, 0, 0, 0), (2, .lconst 0, 0, 0, 0), (3, .aload_n 0, 0, 0, 0), (4, .invokevirtual 54, 1, 7, 1), (7, .i2l, 0, 0, 0), (8, .invokestatic 50, 1, 2, 3), (11, .ireturn, 0, 0, 1)]
theorem gd_8 : mzGd 8 k_8 := mz_gd (k := 0) (by decide +kernel) (by decide +kernel) (by decide +kernel)
-- MeltPinsModel.feed(II)I
def k_9 : List mzO := [(0, .iload_n 2, 0, 0, 0), (1, .i2l, 0, 0, 0), (2, .lconst 1, 0, 0, 0), (3, .ldc2_w 58, 4, 0, 0), (6, .invokestatic 50, 1, 2, 3), (9, .ifCond .ne 10, 0, 19, 0), (12, .aload_n 0, 0, 0, 0), (13, .ldc 49, (-1000001), 0, 0), (15, .invokevirtual 60, 1, 1, 2), (18, .ireturn, 0, 0, 0), (19, .aload_n 0, 0, 0, 0), (20, .getfield 64, 0, 6, 5), (23, .iload_n 2, 0, 0, 0), (24, .iadd, 0, 0, 0), (25, .bipush 120, 0, 0, 0), (27, .if_icmp .le 10, 0, 37, 0), (30, .aload_n 0, 0, 0, 0), (31, .ldc 68, (-1000002), 0, 0), (33, .invokevirtual 60, 1, 1, 2), (36, .ireturn, 0, 0, 0), (37, .iload_n 2, 0, 0, 0), (38, .iconst 1, 0, 0, 0), (39, .isub, 0, 0, 0), (40, .istore_n 3, 0, 0, 0), (41, .iload_n 3, 0, 0, 0), (42, .ifCond .lt 38, 0, 80, 0), (45, .aload_n 0, 0, 0, 0), (46, .getfield 19, 0, 5, 5), (49, .aload_n 0, 0, 0, 0), (50, .getfield 64, 0, 6, 5), (53, .iload_n 1, 0, 0, 0), (54, .bipush 8, 0, 0, 0), (56, .iload_n 3, 0, 0, 0), (57, .imul, 0, 0, 0), (58, .ishr, 0, 0, 0), (59, .sipush 255, 0, 0, 0), (62, .iand, 0, 0, 0), (63, .iastore, 0, 0, 0), (64, .aload_n 0, 0, 0, 0), (65, .dup, 0, 0, 0), (66, .getfield 64, 0, 6, 5), (69, .iconst 1, 0, 0, 0), (70, .iadd, 0, 0, 0), (71, .putfield 64, 0, 6, 5), (74, .iinc 3 (-1), 0, 0, 0), (77, .goto (-36), 0, 41, 0), (80, .aload_n 0, 0, 0, 0), (81, .getfield 64, 0, 6, 5), (84, .ireturn, 0, 0, 0)]
theorem gd_9 : mzGd 9 k_9 := mz_gd (k := 0) (by decide +kernel) (by decide +kernel) (by decide +kernel)
-- MeltPinsModel.wipe()I
def k_10 : List mzO := [(0, .aload_n 0, 0, 0, 0), (1, .getfield 64, 0, 6, 5), (4, .istore_n 1, 0, 0, 0), (5, .aload_n 0, 0, 0, 0), (6, .iconst 0, 0, 0, 0), (7, .putfield 64, 0, 6, 5), (10, .iload_n 1, 0, 0, 0), (11, .ireturn, 0, 0, 0)]
theorem gd_10 : mzGd 10 k_10 := mz_gd (k := 0) (by decide +kernel) (by decide +kernel) (by decide +kernel)
-- MeltPinsModel.isDigit(I)Z
def k_11 : List mzO := [(0, .iload_n 0, 0, 0, 0), (1, .i2l, 0, 0, 0), (2, .ldc2_w 69, 48, 0, 0), (5, .ldc2_w 71, 57, 0, 0), (8, .invokestatic 50, 1, 2, 3), (11, .ireturn, 0, 0, 1)]
theorem gd_11 : mzGd 11 k_11 := mz_gd (k := 0) (by decide +kernel) (by decide +kernel) (by decide +kernel)
-- MeltPinsModel.isLetter(I)Z
def k_12 : List mzO := [(0, .iload_n 0, 0, 0, 0), (1, .i2l, 0, 0, 0), (2, .ldc2_w 73, 97, 0, 0), (5, .ldc2_w 75, 122, 0, 0), (8, .invokestatic 50, 1, 2, 3), (11, .ireturn, 0, 0, 1)]
theorem gd_12 : mzGd 12 k_12 := mz_gd (k := 0) (by decide +kernel) (by decide +kernel) (by decide +kernel)
-- MeltPinsModel.next()V
def k_13 : List mzO := [(0, .aload_n 0, 0, 0, 0), (1, .aload_n 0, 0, 0, 0), (2, .getfield 77, 0, 9, 5), (5, .putfield 80, 0, 8, 5), (8, .aload_n 0, 0, 0, 0), (9, .getfield 80, 0, 8, 5), (12, .aload_n 0, 0, 0, 0), (13, .getfield 64, 0, 6, 5), (16, .if_icmp .ge 30, 0, 46, 0), (19, .aload_n 0, 0, 0, 0), (20, .getfield 19, 0, 5, 5), (23, .aload_n 0, 0, 0, 0), (24, .getfield 80, 0, 8, 5), (27, .iaload, 0, 0, 0), (28, .bipush 32, 0, 0, 0), (30, .if_icmp .ne 16, 0, 46, 0), (33, .aload_n 0, 0, 0, 0), (34, .dup, 0, 0, 0), (35, .getfield 80, 0, 8, 5), (38, .iconst 1, 0, 0, 0), (39, .iadd, 0, 0, 0), (40, .putfield 80, 0, 8, 5), (43, .goto (-35), 0, 8, 0), (46, .aload_n 0, 0, 0, 0), (47, .aload_n 0, 0, 0, 0), (48, .getfield 80, 0, 8, 5), (51, .putfield 77, 0, 9, 5), (54, .aload_n 0, 0, 0, 0), (55, .iconst 0, 0, 0, 0), (56, .putfield 83, 0, 10, 5), (59, .aload_n 0, 0, 0, 0), (60, .getfield 80, 0, 8, 5), (63, .aload_n 0, 0, 0, 0), (64, .getfield 64, 0, 6, 5), (67, .if_icmp .ne 9, 0, 76, 0), (70, .aload_n 0, 0, 0, 0), (71, .iconst 0, 0, 0, 0), (72, .putfield 86, 0, 7, 5), (75, .return_, 0, 0, 0), (76, .aload_n 0, 0, 0, 0), (77, .getfield 19, 0, 5, 5), (80, .aload_n 0, 0, 0, 0), (81, .getfield 80, 0, 8, 5), (84, .iaload, 0, 0, 0), (85, .istore_n 1, 0, 0, 0), (86, .aload_n 0, 0, 0, 0), (87, .iload_n 1, 0, 0, 0), (88, .invokestatic 89, 1, 12, 1), (91, .ifCond .eq 7, 0, 98, 0), (94, .iconst 1, 0, 0, 0), (95, .goto 25, 0, 120, 0), (98, .iload_n 1, 0, 0, 0), (99, .invokestatic 93, 1, 11, 1), (102, .ifCond .eq 7, 0, 109, 0), (105, .iconst 2, 0, 0, 0), (106, .goto 14, 0, 120, 0), (109, .iload_n 1, 0, 0, 0), (110, .bipush 59, 0, 0, 0), (112, .if_icmp .ne 7, 0, 119, 0), (115, .iconst 3, 0, 0, 0), (116, .goto 4, 0, 120, 0), (119, .iconst 4, 0, 0, 0), (120, .putfield 86, 0, 7, 5), (123, .aload_n 0, 0, 0, 0), (124, .getfield 86, 0, 7, 5), (127, .iconst 2, 0, 0, 0), (128, .if_icmp .le 13, 0, 141, 0), (131, .aload_n 0, 0, 0, 0), (132, .dup, 0, 0, 0), (133, .getfield 77, 0, 9, 5), (136, .iconst 1, 0, 0, 0), (137, .iadd, 0, 0, 0), (138, .putfield 77, 0, 9, 5), (141, .aload_n 0, 0, 0, 0), (142, .getfield 86, 0, 7, 5), (145, .iconst 1, 0, 0, 0), (146, .if_icmp .ne 42, 0, 188, 0), (149, .aload_n 0, 0, 0, 0), (150, .getfield 77, 0, 9, 5), (153, .aload_n 0, 0, 0, 0), (154, .getfield 64, 0, 6, 5), (157, .if_icmp .ge 31, 0, 188, 0), (160, .aload_n 0, 0, 0, 0), (161, .getfield 19, 0, 5, 5), (164, .aload_n 0, 0, 0, 0), (165, .getfield 77, 0, 9, 5), (168, .iaload, 0, 0, 0), (169, .invokestatic 89, 1, 12, 1), (172, .ifCond .eq 16, 0, 188, 0), (175, .aload_n 0, 0, 0, 0), (176, .dup, 0, 0, 0), (177, .getfield 77, 0, 9, 5), (180, .iconst 1, 0, 0, 0), (181, .iadd, 0, 0, 0), (182, .putfield 77, 0, 9, 5), (185, .goto (-44), 0, 141, 0), (188, .aload_n 0, 0, 0, 0), (189, .getfield 86, 0, 7, 5), (192, .iconst 2, 0, 0, 0), (193, .if_icmp .ne 83, 0, 276, 0), (196, .aload_n 0, 0, 0, 0), (197, .getfield 77, 0, 9, 5), (200, .aload_n 0, 0, 0, 0), (201, .getfield 64, 0, 6, 5), (204, .if_icmp .ge 72, 0, 276, 0), (207, .aload_n 0, 0, 0, 0), (208, .getfield 19, 0, 5, 5), (211, .aload_n 0, 0, 0, 0), (212, .getfield 77, 0, 9, 5), (215, .iaload, 0, 0, 0), (216, .invokestatic 93, 1, 11, 1), (219, .ifCond .eq 57, 0, 276, 0), (222, .aload_n 0, 0, 0, 0), (223, .aload_n 0, 0, 0, 0), (224, .getfield 83, 0, 10, 5), (227, .sipush 9999, 0, 0, 0), (230, .if_icmp .le 10, 0, 240, 0), (233, .aload_n 0, 0, 0, 0), (234, .getfield 83, 0, 10, 5), (237, .goto 23, 0, 260, 0), (240, .bipush 10, 0, 0, 0), (242, .aload_n 0, 0, 0, 0), (243, .getfield 83, 0, 10, 5), (246, .imul, 0, 0, 0), (247, .aload_n 0, 0, 0, 0), (248, .getfield 19, 0, 5, 5), (251, .aload_n 0, 0, 0, 0), (252, .getfield 77, 0, 9, 5), (255, .iaload, 0, 0, 0), (256, .iadd, 0, 0, 0), (257, .bipush 48, 0, 0, 0), (259, .isub, 0, 0, 0), (260, .putfield 83, 0, 10, 5), (263, .aload_n 0, 0, 0, 0), (264, .dup, 0, 0, 0), (265, .getfield 77, 0, 9, 5), (268, .iconst 1, 0, 0, 0), (269, .iadd, 0, 0, 0), (270, .putfield 77, 0, 9, 5), (273, .goto (-85), 0, 188, 0), (276, .return_, 0, 0, 0)]
theorem gd_13 : mzGd 13 k_13 := mz_gd (k := 0) (by decide +kernel) (by decide +kernel) (by decide +kernel)
-- MeltPinsModel.isWord(Ljava/lang/String;)Z
def k_14 : List mzO := [(0, .aload_n 0, 0, 0, 0), (1, .getfield 96, 0, 11, 105), (4, .ifCond .ne 31, 0, 35, 0), (7, .aload_n 0, 0, 0, 0), (8, .getfield 86, 0, 7, 5), (11, .iconst 1, 0, 0, 0), (12, .if_icmp .ne 23, 0, 35, 0), (15, .aload_n 0, 0, 0, 0), (16, .getfield 77, 0, 9, 5), (19, .aload_n 0, 0, 0, 0), (20, .getfield 80, 0, 8, 5), (23, .isub, 0, 0, 0), (24, .aload_n 1, 0, 0, 0), (25, .invokevirtual 100, 0, 0, 4), (28, .if_icmp .ne 7, 0, 35, 0), (31, .iconst 1, 0, 0, 0), (32, .goto 4, 0, 36, 0), (35, .iconst 0, 0, 0, 0), (36, .istore_n 2, 0, 0, 0), (37, .iconst 0, 0, 0, 0), (38, .istore_n 3, 0, 0, 0), (39, .iload_n 2, 0, 0, 0), (40, .ifCond .eq 42, 0, 82, 0), (43, .iload_n 3, 0, 0, 0), (44, .aload_n 1, 0, 0, 0), (45, .invokevirtual 100, 0, 0, 4), (48, .if_icmp .ge 34, 0, 82, 0), (51, .aload_n 0, 0, 0, 0), (52, .getfield 19, 0, 5, 5), (55, .aload_n 0, 0, 0, 0), (56, .getfield 80, 0, 8, 5), (59, .iload_n 3, 0, 0, 0), (60, .iadd, 0, 0, 0), (61, .iaload, 0, 0, 0), (62, .aload_n 1, 0, 0, 0), (63, .iload_n 3, 0, 0, 0), (64, .invokevirtual 105, 0, 0, 5), (67, .if_icmp .ne 7, 0, 74, 0), (70, .iconst 1, 0, 0, 0), (71, .goto 4, 0, 75, 0), (74, .iconst 0, 0, 0, 0), (75, .istore_n 2, 0, 0, 0), (76, .iinc 3 1, 0, 0, 0), (79, .goto (-40), 0, 39, 0), (82, .iload_n 2, 0, 0, 0), (83, .ireturn, 0, 0, 1)]
theorem gd_14 : mzGd 14 k_14 := mz_gd (k := 0) (by decide +kernel) (by decide +kernel) (by decide +kernel)
-- MeltPinsModel.takes(Ljava/lang/String;)Z
def k_15 : List mzO := [(0, .aload_n 0, 0, 0, 0), (1, .aload_n 1, 0, 0, 0), (2, .invokevirtual 109, 1, 14, 2), (5, .ifCond .ne 5, 0, 10, 0), (8, .iconst 0, 0, 0, 0), (9, .ireturn, 0, 0, 1), (10, .aload_n 0, 0, 0, 0), (11, .invokevirtual 113, 0, 13, 1), (14, .iconst 1, 0, 0, 0), (15, .ireturn, 0, 0, 1)]
theorem gd_15 : mzGd 15 k_15 := mz_gd (k := 0) (by decide +kernel) (by decide +kernel) (by decide +kernel)
-- MeltPinsModel.number(II)I
def k_16 : List mzO := [(0, .aload_n 0, 0, 0, 0), (1, .aload_n 0, 0, 0, 0), (2, .getfield 96, 0, 11, 105), (5, .ifCond .ne 26, 0, 31, 0), (8, .aload_n 0, 0, 0, 0), (9, .getfield 86, 0, 7, 5), (12, .iconst 2, 0, 0, 0), (13, .if_icmp .ne 18, 0, 31, 0), (16, .aload_n 0, 0, 0, 0), (17, .getfield 83, 0, 10, 5), (20, .i2l, 0, 0, 0), (21, .iload_n 1, 0, 0, 0), (22, .i2l, 0, 0, 0), (23, .iload_n 2, 0, 0, 0), (24, .i2l, 0, 0, 0), (25, .invokestatic 50, 1, 2, 3), (28, .ifCond .ne 7, 0, 35, 0), (31, .iconst 1, 0, 0, 0), (32, .goto 4, 0, 36, 0), (35, .iconst 0, 0, 0, 0), (36, .putfield 96, 0, 11, 105), (39, .aload_n 0, 0, 0, 0), (40, .getfield 83, 0, 10, 5), (43, .istore_n 3, 0, 0, 0), (44, .aload_n 0, 0, 0, 0), (45, .getfield 96, 0, 11, 105), (48, .ifCond .ne 7, 0, 55, 0), (51, .aload_n 0, 0, 0, 0), (52, .invokevirtual 113, 0, 13, 1), (55, .iload_n 3, 0, 0, 0), (56, .ireturn, 0, 0, 0)]
theorem gd_16 : mzGd 16 k_16 := mz_gd (k := 0) (by decide +kernel) (by decide +kernel) (by decide +kernel)
-- MeltPinsModel.kindHere()I
def k_17 : List mzO := [(0, .aload_n 0, 0, 0, 0), (1, .ldc 116, 0, 2, 1), (3, .invokevirtual 109, 1, 14, 2), (6, .ifCond .eq 7, 0, 13, 0), (9, .iconst 0, 0, 0, 0), (10, .goto 83, 0, 93, 0), (13, .aload_n 0, 0, 0, 0), (14, .ldc 118, 0, 3, 1), (16, .invokevirtual 109, 1, 14, 2), (19, .ifCond .eq 7, 0, 26, 0), (22, .iconst 1, 0, 0, 0), (23, .goto 70, 0, 93, 0), (26, .aload_n 0, 0, 0, 0), (27, .ldc 120, 0, 4, 1), (29, .invokevirtual 109, 1, 14, 2), (32, .ifCond .eq 7, 0, 39, 0), (35, .iconst 2, 0, 0, 0), (36, .goto 57, 0, 93, 0), (39, .aload_n 0, 0, 0, 0), (40, .ldc 122, 0, 5, 1), (42, .invokevirtual 109, 1, 14, 2), (45, .ifCond .eq 7, 0, 52, 0), (48, .iconst 3, 0, 0, 0), (49, .goto 44, 0, 93, 0), (52, .aload_n 0, 0, 0, 0), (53, .ldc 124, 0, 6, 1), (55, .invokevirtual 109, 1, 14, 2), (58, .ifCond .eq 7, 0, 65, 0), (61, .iconst 4, 0, 0, 0), (62, .goto 31, 0, 93, 0), (65, .aload_n 0, 0, 0, 0), (66, .ldc 126, 0, 7, 1), (68, .invokevirtual 109, 1, 14, 2), (71, .ifCond .eq 7, 0, 78, 0), (74, .iconst 5, 0, 0, 0), (75, .goto 18, 0, 93, 0), (78, .aload_n 0, 0, 0, 0), (79, .ldc 128, 0, 8, 1), (81, .invokevirtual 109, 1, 14, 2), (84, .ifCond .eq 8, 0, 92, 0), (87, .bipush 6, 0, 0, 0), (89, .goto 4, 0, 93, 0), (92, .iconst (-1), 0, 0, 0), (93, .ireturn, 0, 0, 0)]
theorem gd_17 : mzGd 17 k_17 := mz_gd (k := 0) (by decide +kernel) (by decide +kernel) (by decide +kernel)
-- MeltPinsModel.placeItem()V
def k_18 : List mzO := [(0, .aload_n 0, 0, 0, 0), (1, .invokevirtual 130, 1, 17, 1), (4, .istore_n 1, 0, 0, 0), (5, .aload_n 0, 0, 0, 0), (6, .aload_n 0, 0, 0, 0), (7, .getfield 96, 0, 11, 105), (10, .ifCond .ne 18, 0, 28, 0), (13, .iload_n 1, 0, 0, 0), (14, .ifCond .lt 14, 0, 28, 0), (17, .aload_n 0, 0, 0, 0), (18, .getfield 9, 0, 0, 5), (21, .iconst 0, 0, 0, 0), (22, .iaload, 0, 0, 0), (23, .bipush 12, 0, 0, 0), (25, .if_icmp .ne 7, 0, 32, 0), (28, .iconst 1, 0, 0, 0), (29, .goto 4, 0, 33, 0), (32, .iconst 0, 0, 0, 0), (33, .putfield 96, 0, 11, 105), (36, .aload_n 0, 0, 0, 0), (37, .getfield 96, 0, 11, 105), (40, .ifCond .eq 4, 0, 44, 0), (43, .return_, 0, 0, 0), (44, .aload_n 0, 0, 0, 0), (45, .invokevirtual 113, 0, 13, 1), (48, .iconst 4, 0, 0, 0), (49, .bipush 10, 0, 0, 0), (51, .aload_n 0, 0, 0, 0), (52, .getfield 9, 0, 0, 5), (55, .iconst 0, 0, 0, 0), (56, .iaload, 0, 0, 0), (57, .imul, 0, 0, 0), (58, .iadd, 0, 0, 0), (59, .istore_n 2, 0, 0, 0), (60, .aload_n 0, 0, 0, 0), (61, .getfield 9, 0, 0, 5), (64, .iload_n 2, 0, 0, 0), (65, .iload_n 1, 0, 0, 0), (66, .iastore, 0, 0, 0), (67, .aload_n 0, 0, 0, 0), (68, .getfield 9, 0, 0, 5), (71, .iload_n 2, 0, 0, 0), (72, .iconst 1, 0, 0, 0), (73, .iadd, 0, 0, 0), (74, .aload_n 0, 0, 0, 0), (75, .iconst 1, 0, 0, 0), (76, .bipush 99, 0, 0, 0), (78, .invokevirtual 133, 1, 16, 3), (81, .iastore, 0, 0, 0), (82, .aload_n 0, 0, 0, 0), (83, .getfield 9, 0, 0, 5), (86, .iload_n 2, 0, 0, 0), (87, .iconst 2, 0, 0, 0), (88, .iadd, 0, 0, 0), (89, .iconst 0, 0, 0, 0), (90, .iastore, 0, 0, 0), (91, .aload_n 0, 0, 0, 0), (92, .getfield 9, 0, 0, 5), (95, .iload_n 2, 0, 0, 0), (96, .iconst 3, 0, 0, 0), (97, .iadd, 0, 0, 0), (98, .iconst 0, 0, 0, 0), (99, .iastore, 0, 0, 0), (100, .aload_n 0, 0, 0, 0), (101, .getfield 9, 0, 0, 5), (104, .iload_n 2, 0, 0, 0), (105, .iconst 4, 0, 0, 0), (106, .iadd, 0, 0, 0), (107, .iconst 1, 0, 0, 0), (108, .iastore, 0, 0, 0), (109, .aload_n 0, 0, 0, 0), (110, .getfield 9, 0, 0, 5), (113, .iload_n 2, 0, 0, 0), (114, .iconst 5, 0, 0, 0), (115, .iadd, 0, 0, 0), (116, .iconst 1, 0, 0, 0), (117, .iastore, 0, 0, 0), (118, .aload_n 0, 0, 0, 0), (119, .getfield 9, 0, 0, 5), (122, .iload_n 2, 0, 0, 0), (123, .bipush 6, 0, 0, 0), (125, .iadd, 0, 0, 0), (126, .iconst 0, 0, 0, 0), (127, .iastore, 0, 0, 0), (128, .aload_n 0, 0, 0, 0), (129, .getfield 9, 0, 0, 5), (132, .iload_n 2, 0, 0, 0), (133, .bipush 7, 0, 0, 0), (135, .iadd, 0, 0, 0), (136, .iconst (-1), 0, 0, 0), (137, .iastore, 0, 0, 0), (138, .aload_n 0, 0, 0, 0), (139, .getfield 9, 0, 0, 5), (142, .iload_n 2, 0, 0, 0), (143, .bipush 8, 0, 0, 0), (145, .iadd, 0, 0, 0), (146, .iconst 0, 0, 0, 0), (147, .iastore, 0, 0, 0), (148, .aload_n 0, 0, 0, 0), (149, .getfield 9, 0, 0, 5), (152, .iload_n 2, 0, 0, 0), (153, .bipush 9, 0, 0, 0), (155, .iadd, 0, 0, 0), (156, .iconst 0, 0, 0, 0), (157, .iastore, 0, 0, 0), (158, .iconst 1, 0, 0, 0), (159, .istore_n 3, 0, 0, 0), (160, .iload_n 3, 0, 0, 0), (161, .ifCond .eq 151, 0, 312, 0), (164, .aload_n 0, 0, 0, 0), (165, .getfield 96, 0, 11, 105), (168, .ifCond .ne 144, 0, 312, 0), (171, .aload_n 0, 0, 0, 0), (172, .ldc 136, 0, 9, 1), (174, .invokevirtual 138, 1, 15, 2), (177, .ifCond .eq 21, 0, 198, 0), (180, .aload_n 0, 0, 0, 0), (181, .getfield 9, 0, 0, 5), (184, .iload_n 2, 0, 0, 0), (185, .iconst 2, 0, 0, 0), (186, .iadd, 0, 0, 0), (187, .aload_n 0, 0, 0, 0), (188, .iconst 0, 0, 0, 0), (189, .bipush 99, 0, 0, 0), (191, .invokevirtual 133, 1, 16, 3), (194, .iastore, 0, 0, 0), (195, .goto (-35), 0, 160, 0), (198, .aload_n 0, 0, 0, 0), (199, .ldc 141, 0, 10, 1), (201, .invokevirtual 138, 1, 15, 2), (204, .ifCond .eq 21, 0, 225, 0), (207, .aload_n 0, 0, 0, 0), (208, .getfield 9, 0, 0, 5), (211, .iload_n 2, 0, 0, 0), (212, .iconst 3, 0, 0, 0), (213, .iadd, 0, 0, 0), (214, .aload_n 0, 0, 0, 0), (215, .iconst 0, 0, 0, 0), (216, .bipush 9, 0, 0, 0), (218, .invokevirtual 133, 1, 16, 3), (221, .iastore, 0, 0, 0), (222, .goto (-62), 0, 160, 0), (225, .aload_n 0, 0, 0, 0), (226, .ldc 142, 0, 11, 1), (228, .invokevirtual 138, 1, 15, 2), (231, .ifCond .eq 21, 0, 252, 0), (234, .aload_n 0, 0, 0, 0), (235, .getfield 9, 0, 0, 5), (238, .iload_n 2, 0, 0, 0), (239, .iconst 4, 0, 0, 0), (240, .iadd, 0, 0, 0), (241, .aload_n 0, 0, 0, 0), (242, .iconst 1, 0, 0, 0), (243, .bipush 99, 0, 0, 0), (245, .invokevirtual 133, 1, 16, 3), (248, .iastore, 0, 0, 0), (249, .goto (-89), 0, 160, 0), (252, .aload_n 0, 0, 0, 0), (253, .ldc 144, 0, 12, 1), (255, .invokevirtual 138, 1, 15, 2), (258, .ifCond .eq 21, 0, 279, 0), (261, .aload_n 0, 0, 0, 0), (262, .getfield 9, 0, 0, 5), (265, .iload_n 2, 0, 0, 0), (266, .iconst 5, 0, 0, 0), (267, .iadd, 0, 0, 0), (268, .aload_n 0, 0, 0, 0), (269, .iconst 1, 0, 0, 0), (270, .bipush 99, 0, 0, 0), (272, .invokevirtual 133, 1, 16, 3), (275, .iastore, 0, 0, 0), (276, .goto (-116), 0, 160, 0), (279, .aload_n 0, 0, 0, 0), (280, .ldc 146, 0, 13, 1), (282, .invokevirtual 138, 1, 15, 2), (285, .ifCond .eq 22, 0, 307, 0), (288, .aload_n 0, 0, 0, 0), (289, .getfield 9, 0, 0, 5), (292, .iload_n 2, 0, 0, 0), (293, .bipush 6, 0, 0, 0), (295, .iadd, 0, 0, 0), (296, .aload_n 0, 0, 0, 0), (297, .iconst 0, 0, 0, 0), (298, .bipush 10, 0, 0, 0), (300, .invokevirtual 133, 1, 16, 3), (303, .iastore, 0, 0, 0), (304, .goto (-144), 0, 160, 0), (307, .iconst 0, 0, 0, 0), (308, .istore_n 3, 0, 0, 0), (309, .goto (-149), 0, 160, 0), (312, .iconst 0, 0, 0, 0), (313, .istore 4, 0, 0, 0), (315, .iload 4, 0, 0, 0), (317, .bipush 12, 0, 0, 0), (319, .if_icmp .ge 51, 0, 370, 0), (322, .aload_n 0, 0, 0, 0), (323, .getfield 9, 0, 0, 5), (326, .bipush 124, 0, 0, 0), (328, .bipush 12, 0, 0, 0), (330, .aload_n 0, 0, 0, 0), (331, .getfield 9, 0, 0, 5), (334, .iconst 0, 0, 0, 0), (335, .iaload, 0, 0, 0), (336, .imul, 0, 0, 0), (337, .iadd, 0, 0, 0), (338, .iload 4, 0, 0, 0), (340, .iadd, 0, 0, 0), (341, .iconst 0, 0, 0, 0), (342, .iastore, 0, 0, 0), (343, .aload_n 0, 0, 0, 0), (344, .getfield 9, 0, 0, 5), (347, .bipush 124, 0, 0, 0), (349, .bipush 12, 0, 0, 0), (351, .iload 4, 0, 0, 0), (353, .imul, 0, 0, 0), (354, .iadd, 0, 0, 0), (355, .aload_n 0, 0, 0, 0), (356, .getfield 9, 0, 0, 5), (359, .iconst 0, 0, 0, 0), (360, .iaload, 0, 0, 0), (361, .iadd, 0, 0, 0), (362, .iconst 0, 0, 0, 0), (363, .iastore, 0, 0, 0), (364, .iinc 4 1, 0, 0, 0), (367, .goto (-52), 0, 315, 0), (370, .aload_n 0, 0, 0, 0), (371, .getfield 9, 0, 0, 5), (374, .iconst 0, 0, 0, 0), (375, .dup2, 0, 0, 0), (376, .iaload, 0, 0, 0), (377, .iconst 1, 0, 0, 0), (378, .iadd, 0, 0, 0), (379, .iastore, 0, 0, 0), (380, .return_, 0, 0, 0)]
theorem gd_18 : mzGd 18 k_18 := mz_gd (k := 0) (by decide +kernel) (by decide +kernel) (by decide +kernel)
-- MeltPinsModel.tieItem()V
def k_19 : List mzO := [(0, .aload_n 0, 0, 0, 0), (1, .aload_n 0, 0, 0, 0), (2, .getfield 96, 0, 11, 105), (5, .ifCond .ne 14, 0, 19, 0), (8, .aload_n 0, 0, 0, 0), (9, .getfield 9, 0, 0, 5), (12, .iconst 1, 0, 0, 0), (13, .iaload, 0, 0, 0), (14, .bipush 40, 0, 0, 0), (16, .if_icmp .ne 7, 0, 23, 0), (19, .iconst 1, 0, 0, 0), (20, .goto 4, 0, 24, 0), (23, .iconst 0, 0, 0, 0), (24, .putfield 96, 0, 11, 105), (27, .aload_n 0, 0, 0, 0), (28, .iconst 0, 0, 0, 0), (29, .aload_n 0, 0, 0, 0), (30, .getfield 9, 0, 0, 5), (33, .iconst 0, 0, 0, 0), (34, .iaload, 0, 0, 0), (35, .iconst 1, 0, 0, 0), (36, .isub, 0, 0, 0), (37, .invokevirtual 133, 1, 16, 3), (40, .istore_n 1, 0, 0, 0), (41, .aload_n 0, 0, 0, 0), (42, .aload_n 0, 0, 0, 0), (43, .getfield 96, 0, 11, 105), (46, .ifCond .ne 12, 0, 58, 0), (49, .aload_n 0, 0, 0, 0), (50, .ldc 148, 0, 0, 1), (52, .invokevirtual 109, 1, 14, 2), (55, .ifCond .ne 7, 0, 62, 0), (58, .iconst 1, 0, 0, 0), (59, .goto 4, 0, 63, 0), (62, .iconst 0, 0, 0, 0), (63, .putfield 96, 0, 11, 105), (66, .aload_n 0, 0, 0, 0), (67, .getfield 96, 0, 11, 105), (70, .ifCond .eq 4, 0, 74, 0), (73, .return_, 0, 0, 0), (74, .aload_n 0, 0, 0, 0), (75, .invokevirtual 113, 0, 13, 1), (78, .aload_n 0, 0, 0, 0), (79, .aload_n 0, 0, 0, 0), (80, .getfield 86, 0, 7, 5), (83, .iconst 2, 0, 0, 0), (84, .if_icmp .ne 42, 0, 126, 0), (87, .aload_n 0, 0, 0, 0), (88, .aload_n 0, 0, 0, 0), (89, .getfield 83, 0, 10, 5), (92, .invokevirtual 149, 1, 6, 2), (95, .ifCond .eq 31, 0, 126, 0), (98, .aload_n 0, 0, 0, 0), (99, .getfield 83, 0, 10, 5), (102, .iload_n 1, 0, 0, 0), (103, .if_icmp .eq 23, 0, 126, 0), (106, .aload_n 0, 0, 0, 0), (107, .getfield 9, 0, 0, 5), (110, .bipush 124, 0, 0, 0), (112, .bipush 12, 0, 0, 0), (114, .iload_n 1, 0, 0, 0), (115, .imul, 0, 0, 0), (116, .iadd, 0, 0, 0), (117, .aload_n 0, 0, 0, 0), (118, .getfield 83, 0, 10, 5), (121, .iadd, 0, 0, 0), (122, .iaload, 0, 0, 0), (123, .ifCond .eq 7, 0, 130, 0), (126, .iconst 1, 0, 0, 0), (127, .goto 4, 0, 131, 0), (130, .iconst 0, 0, 0, 0), (131, .putfield 96, 0, 11, 105), (134, .aload_n 0, 0, 0, 0), (135, .iconst 0, 0, 0, 0), (136, .aload_n 0, 0, 0, 0), (137, .getfield 9, 0, 0, 5), (140, .iconst 0, 0, 0, 0), (141, .iaload, 0, 0, 0), (142, .iconst 1, 0, 0, 0), (143, .isub, 0, 0, 0), (144, .invokevirtual 133, 1, 16, 3), (147, .istore_n 2, 0, 0, 0), (148, .aload_n 0, 0, 0, 0), (149, .aload_n 0, 0, 0, 0), (150, .getfield 96, 0, 11, 105), (153, .ifCond .ne 12, 0, 165, 0), (156, .aload_n 0, 0, 0, 0), (157, .ldc 152, 0, 1, 1), (159, .invokevirtual 109, 1, 14, 2), (162, .ifCond .ne 7, 0, 169, 0), (165, .iconst 1, 0, 0, 0), (166, .goto 4, 0, 170, 0), (169, .iconst 0, 0, 0, 0), (170, .putfield 96, 0, 11, 105), (173, .aload_n 0, 0, 0, 0), (174, .getfield 96, 0, 11, 105), (177, .ifCond .eq 4, 0, 181, 0), (180, .return_, 0, 0, 0), (181, .aload_n 0, 0, 0, 0), (182, .invokevirtual 113, 0, 13, 1), (185, .aload_n 0, 0, 0, 0), (186, .iconst 1, 0, 0, 0), (187, .bipush 99, 0, 0, 0), (189, .invokevirtual 133, 1, 16, 3), (192, .istore_n 3, 0, 0, 0), (193, .aload_n 0, 0, 0, 0), (194, .getfield 96, 0, 11, 105), (197, .ifCond .eq 4, 0, 201, 0), (200, .return_, 0, 0, 0), (201, .aload_n 0, 0, 0, 0), (202, .getfield 9, 0, 0, 5), (205, .bipush 124, 0, 0, 0), (207, .bipush 12, 0, 0, 0), (209, .iload_n 1, 0, 0, 0), (210, .imul, 0, 0, 0), (211, .iadd, 0, 0, 0), (212, .iload_n 2, 0, 0, 0), (213, .iadd, 0, 0, 0), (214, .iload_n 3, 0, 0, 0), (215, .iastore, 0, 0, 0), (216, .aload_n 0, 0, 0, 0), (217, .getfield 9, 0, 0, 5), (220, .iconst 1, 0, 0, 0), (221, .dup2, 0, 0, 0), (222, .iaload, 0, 0, 0), (223, .iconst 1, 0, 0, 0), (224, .iadd, 0, 0, 0), (225, .iastore, 0, 0, 0), (226, .return_, 0, 0, 0)]
theorem gd_19 : mzGd 19 k_19 := mz_gd (k := 0) (by decide +kernel) (by decide +kernel) (by decide +kernel)
-- MeltPinsModel.world()I
def k_20 : List mzO := [(0, .iconst 0, 0, 0, 0), (1, .istore_n 1, 0, 0, 0), (2, .iload_n 1, 0, 0, 0), (3, .sipush 318, 0, 0, 0), (6, .if_icmp .ge 21, 0, 27, 0), (9, .aload_n 0, 0, 0, 0), (10, .getfield 22, 0, 12, 5), (13, .iload_n 1, 0, 0, 0), (14, .aload_n 0, 0, 0, 0), (15, .getfield 9, 0, 0, 5), (18, .iload_n 1, 0, 0, 0), (19, .iaload, 0, 0, 0), (20, .iastore, 0, 0, 0), (21, .iinc 1 1, 0, 0, 0), (24, .goto (-22), 0, 2, 0), (27, .aload_n 0, 0, 0, 0), (28, .iconst 0, 0, 0, 0), (29, .putfield 77, 0, 9, 5), (32, .aload_n 0, 0, 0, 0), (33, .iconst 0, 0, 0, 0), (34, .putfield 96, 0, 11, 105), (37, .aload_n 0, 0, 0, 0), (38, .invokevirtual 113, 0, 13, 1), (41, .iconst 1, 0, 0, 0), (42, .istore_n 1, 0, 0, 0), (43, .iload_n 1, 0, 0, 0), (44, .ifCond .eq 61, 0, 105, 0), (47, .aload_n 0, 0, 0, 0), (48, .getfield 96, 0, 11, 105), (51, .ifCond .ne 54, 0, 105, 0), (54, .aload_n 0, 0, 0, 0), (55, .getfield 86, 0, 7, 5), (58, .iconst 2, 0, 0, 0), (59, .if_icmp .ne 10, 0, 69, 0), (62, .aload_n 0, 0, 0, 0), (63, .invokevirtual 154, 0, 19, 1), (66, .goto 7, 0, 73, 0), (69, .aload_n 0, 0, 0, 0), (70, .invokevirtual 157, 0, 18, 1), (73, .aload_n 0, 0, 0, 0), (74, .getfield 96, 0, 11, 105), (77, .ifCond .ne 15, 0, 92, 0), (80, .aload_n 0, 0, 0, 0), (81, .getfield 86, 0, 7, 5), (84, .iconst 3, 0, 0, 0), (85, .if_icmp .ne 7, 0, 92, 0), (88, .iconst 1, 0, 0, 0), (89, .goto 4, 0, 93, 0), (92, .iconst 0, 0, 0, 0), (93, .istore_n 1, 0, 0, 0), (94, .iload_n 1, 0, 0, 0), (95, .ifCond .eq (-52), 0, 43, 0), (98, .aload_n 0, 0, 0, 0), (99, .invokevirtual 113, 0, 13, 1), (102, .goto (-59), 0, 43, 0), (105, .aload_n 0, 0, 0, 0), (106, .aload_n 0, 0, 0, 0), (107, .getfield 96, 0, 11, 105), (110, .ifCond .ne 10, 0, 120, 0), (113, .aload_n 0, 0, 0, 0), (114, .getfield 86, 0, 7, 5), (117, .ifCond .eq 7, 0, 124, 0), (120, .iconst 1, 0, 0, 0), (121, .goto 4, 0, 125, 0), (124, .iconst 0, 0, 0, 0), (125, .putfield 96, 0, 11, 105), (128, .aload_n 0, 0, 0, 0), (129, .getfield 80, 0, 8, 5), (132, .istore_n 2, 0, 0, 0), (133, .aload_n 0, 0, 0, 0), (134, .iconst 0, 0, 0, 0), (135, .putfield 64, 0, 6, 5), (138, .aload_n 0, 0, 0, 0), (139, .getfield 96, 0, 11, 105), (142, .ifCond .eq 34, 0, 176, 0), (145, .iconst 0, 0, 0, 0), (146, .istore_n 3, 0, 0, 0), (147, .iload_n 3, 0, 0, 0), (148, .sipush 318, 0, 0, 0), (151, .if_icmp .ge 21, 0, 172, 0), (154, .aload_n 0, 0, 0, 0), (155, .getfield 9, 0, 0, 5), (158, .iload_n 3, 0, 0, 0), (159, .aload_n 0, 0, 0, 0), (160, .getfield 22, 0, 12, 5), (163, .iload_n 3, 0, 0, 0), (164, .iaload, 0, 0, 0), (165, .iastore, 0, 0, 0), (166, .iinc 3 1, 0, 0, 0), (169, .goto (-22), 0, 147, 0), (172, .iconst (-1), 0, 0, 0), (173, .iload_n 2, 0, 0, 0), (174, .isub, 0, 0, 0), (175, .ireturn, 0, 0, 0), (176, .aload_n 0, 0, 0, 0), (177, .iconst 0, 0, 0, 0), (178, .putfield 160, 0, 4, 105), (181, .aload_n 0, 0, 0, 0), (182, .getfield 9, 0, 0, 5), (185, .iconst 0, 0, 0, 0), (186, .iaload, 0, 0, 0), (187, .ireturn, 0, 0, 0)]
theorem gd_20 : mzGd 20 k_20 := mz_gd (k := 0) (by decide +kernel) (by decide +kernel) (by decide +kernel)
-- MeltPinsModel.height(I)I
def k_21 : List mzO := [(0, .aload_n 0, 0, 0, 0), (1, .iload_n 1, 0, 0, 0), (2, .iconst 1, 0, 0, 0), (3, .invokevirtual 163, 1, 5, 3), (6, .istore_n 2, 0, 0, 0), (7, .aload_n 0, 0, 0, 0), (8, .iload_n 1, 0, 0, 0), (9, .iconst 0, 0, 0, 0), (10, .invokevirtual 163, 1, 5, 3), (13, .bipush 6, 0, 0, 0), (15, .if_icmp .ne 9, 0, 24, 0), (18, .iload_n 2, 0, 0, 0), (19, .iconst 2, 0, 0, 0), (20, .idiv, 0, 0, 0), (21, .goto 29, 0, 50, 0), (24, .aload_n 0, 0, 0, 0), (25, .iload_n 1, 0, 0, 0), (26, .iconst 0, 0, 0, 0), (27, .invokevirtual 163, 1, 5, 3), (30, .iconst 5, 0, 0, 0), (31, .if_icmp .ne 18, 0, 49, 0), (34, .iload_n 2, 0, 0, 0), (35, .bipush 10, 0, 0, 0), (37, .aload_n 0, 0, 0, 0), (38, .iload_n 1, 0, 0, 0), (39, .bipush 8, 0, 0, 0), (41, .invokevirtual 163, 1, 5, 3), (44, .imul, 0, 0, 0), (45, .isub, 0, 0, 0), (46, .goto 4, 0, 50, 0), (49, .iload_n 2, 0, 0, 0), (50, .istore_n 3, 0, 0, 0), (51, .iload_n 3, 0, 0, 0), (52, .iconst 1, 0, 0, 0), (53, .if_icmp .ge 7, 0, 60, 0), (56, .iconst 1, 0, 0, 0), (57, .goto 4, 0, 61, 0), (60, .iload_n 3, 0, 0, 0), (61, .ireturn, 0, 0, 0)]
theorem gd_21 : mzGd 21 k_21 := mz_gd (k := 0) (by decide +kernel) (by decide +kernel) (by decide +kernel)
-- MeltPinsModel.placeOf(II)I
def k_22 : List mzO := [(0, .aload_n 0, 0, 0, 0), (1, .iload_n 1, 0, 0, 0), (2, .invokevirtual 149, 1, 6, 2), (5, .ifCond .eq 15, 0, 20, 0), (8, .iload_n 2, 0, 0, 0), (9, .i2l, 0, 0, 0), (10, .lconst 0, 0, 0, 0), (11, .ldc2_w 166, 10, 0, 0), (14, .invokestatic 50, 1, 2, 3), (17, .ifCond .ne 10, 0, 27, 0), (20, .aload_n 0, 0, 0, 0), (21, .ldc 49, (-1000001), 0, 0), (23, .invokevirtual 60, 1, 1, 2), (26, .ireturn, 0, 0, 0), (27, .iload_n 2, 0, 0, 0), (28, .bipush 9, 0, 0, 0), (30, .if_icmp .ge 12, 0, 42, 0), (33, .aload_n 0, 0, 0, 0), (34, .iload_n 1, 0, 0, 0), (35, .iload_n 2, 0, 0, 0), (36, .invokevirtual 163, 1, 5, 3), (39, .goto 24, 0, 63, 0), (42, .iload_n 2, 0, 0, 0), (43, .bipush 9, 0, 0, 0), (45, .if_icmp .ne 11, 0, 56, 0), (48, .aload_n 0, 0, 0, 0), (49, .iload_n 1, 0, 0, 0), (50, .invokevirtual 168, 1, 21, 2), (53, .goto 10, 0, 63, 0), (56, .aload_n 0, 0, 0, 0), (57, .iload_n 1, 0, 0, 0), (58, .bipush 9, 0, 0, 0), (60, .invokevirtual 163, 1, 5, 3), (63, .ireturn, 0, 0, 0)]
theorem gd_22 : mzGd 22 k_22 := mz_gd (k := 0) (by decide +kernel) (by decide +kernel) (by decide +kernel)
-- MeltPinsModel.may(III)Z
def k_23 : List mzO := [(0, .iload_n 2, 0, 0, 0), (1, .tableswitch 79 1 6 #[39, 49, 59, 39, 39, 69], 0, 39, 0), (40, .iload_n 3, 0, 0, 0), (41, .i2l, 0, 0, 0), (42, .lconst 1, 0, 0, 0), (43, .ldc2_w 171, 99, 0, 0), (46, .invokestatic 50, 1, 2, 3), (49, .ireturn, 0, 0, 1), (50, .iload_n 3, 0, 0, 0), (51, .i2l, 0, 0, 0), (52, .lconst 0, 0, 0, 0), (53, .ldc2_w 171, 99, 0, 0), (56, .invokestatic 50, 1, 2, 3), (59, .ireturn, 0, 0, 1), (60, .iload_n 3, 0, 0, 0), (61, .i2l, 0, 0, 0), (62, .lconst 0, 0, 0, 0), (63, .ldc2_w 173, 9, 0, 0), (66, .invokestatic 50, 1, 2, 3), (69, .ireturn, 0, 0, 1), (70, .iload_n 3, 0, 0, 0), (71, .i2l, 0, 0, 0), (72, .lconst 0, 0, 0, 0), (73, .ldc2_w 166, 10, 0, 0), (76, .invokestatic 50, 1, 2, 3), (79, .ireturn, 0, 0, 1), (80, .iload_n 2, 0, 0, 0), (81, .bipush 7, 0, 0, 0), (83, .if_icmp .ne 25, 0, 108, 0), (86, .iload_n 3, 0, 0, 0), (87, .iload_n 1, 0, 0, 0), (88, .if_icmp .eq 20, 0, 108, 0), (91, .iload_n 3, 0, 0, 0), (92, .iconst (-1), 0, 0, 0), (93, .if_icmp .eq 11, 0, 104, 0), (96, .aload_n 0, 0, 0, 0), (97, .iload_n 3, 0, 0, 0), (98, .invokevirtual 149, 1, 6, 2), (101, .ifCond .eq 7, 0, 108, 0), (104, .iconst 1, 0, 0, 0), (105, .goto 4, 0, 109, 0), (108, .iconst 0, 0, 0, 0), (109, .ireturn, 0, 0, 1)]
theorem gd_23 : mzGd 23 k_23 := mz_gd (k := 0) (by decide +kernel) (by decide +kernel) (by decide +kernel)
-- MeltPinsModel.becomes(II)I
def k_24 : List mzO := [(0, .aload_n 0, 0, 0, 0), (1, .getfield 9, 0, 0, 5), (4, .iload_n 1, 0, 0, 0), (5, .iaload, 0, 0, 0), (6, .istore_n 3, 0, 0, 0), (7, .aload_n 0, 0, 0, 0), (8, .getfield 9, 0, 0, 5), (11, .iload_n 1, 0, 0, 0), (12, .iload_n 2, 0, 0, 0), (13, .iastore, 0, 0, 0), (14, .aload_n 0, 0, 0, 0), (15, .iconst 0, 0, 0, 0), (16, .putfield 160, 0, 4, 105), (19, .iload_n 3, 0, 0, 0), (20, .ireturn, 0, 0, 0)]
theorem gd_24 : mzGd 24 k_24 := mz_gd (k := 0) (by decide +kernel) (by decide +kernel) (by decide +kernel)
-- MeltPinsModel.change(III)I
def k_25 : List mzO := [(0, .aload_n 0, 0, 0, 0), (1, .iload_n 1, 0, 0, 0), (2, .invokevirtual 149, 1, 6, 2), (5, .ifCond .eq 29, 0, 34, 0), (8, .aload_n 0, 0, 0, 0), (9, .iload_n 1, 0, 0, 0), (10, .iload_n 2, 0, 0, 0), (11, .iload_n 3, 0, 0, 0), (12, .invokevirtual 175, 1, 23, 4), (15, .ifCond .eq 19, 0, 34, 0), (18, .aload_n 0, 0, 0, 0), (19, .iconst 4, 0, 0, 0), (20, .bipush 10, 0, 0, 0), (22, .iload_n 1, 0, 0, 0), (23, .imul, 0, 0, 0), (24, .iadd, 0, 0, 0), (25, .iload_n 2, 0, 0, 0), (26, .iadd, 0, 0, 0), (27, .iload_n 3, 0, 0, 0), (28, .invokevirtual 179, 1, 24, 3), (31, .goto 9, 0, 40, 0), (34, .aload_n 0, 0, 0, 0), (35, .ldc 49, (-1000001), 0, 0), (37, .invokevirtual 60, 1, 1, 2), (40, .ireturn, 0, 0, 0)]
theorem gd_25 : mzGd 25 k_25 := mz_gd (k := 0) (by decide +kernel) (by decide +kernel) (by decide +kernel)
-- MeltPinsModel.step(I)I
def k_26 : List mzO := [(0, .aload_n 0, 0, 0, 0), (1, .iload_n 1, 0, 0, 0), (2, .invokevirtual 149, 1, 6, 2), (5, .ifCond .ne 10, 0, 15, 0), (8, .aload_n 0, 0, 0, 0), (9, .ldc 49, (-1000001), 0, 0), (11, .invokevirtual 60, 1, 1, 2), (14, .ireturn, 0, 0, 0), (15, .aload_n 0, 0, 0, 0), (16, .iload_n 1, 0, 0, 0), (17, .bipush 8, 0, 0, 0), (19, .invokevirtual 163, 1, 5, 3), (22, .bipush 9, 0, 0, 0), (24, .if_icmp .ne 10, 0, 34, 0), (27, .aload_n 0, 0, 0, 0), (28, .ldc 68, (-1000002), 0, 0), (30, .invokevirtual 60, 1, 1, 2), (33, .ireturn, 0, 0, 0), (34, .aload_n 0, 0, 0, 0), (35, .iconst 4, 0, 0, 0), (36, .bipush 10, 0, 0, 0), (38, .iload_n 1, 0, 0, 0), (39, .imul, 0, 0, 0), (40, .iadd, 0, 0, 0), (41, .bipush 8, 0, 0, 0), (43, .iadd, 0, 0, 0), (44, .aload_n 0, 0, 0, 0), (45, .iload_n 1, 0, 0, 0), (46, .bipush 8, 0, 0, 0), (48, .invokevirtual 163, 1, 5, 3), (51, .iconst 1, 0, 0, 0), (52, .iadd, 0, 0, 0), (53, .invokevirtual 179, 1, 24, 3), (56, .iconst 1, 0, 0, 0), (57, .iadd, 0, 0, 0), (58, .ireturn, 0, 0, 0)]
theorem gd_26 : mzGd 26 k_26 := mz_gd (k := 0) (by decide +kernel) (by decide +kernel) (by decide +kernel)
-- MeltPinsModel.isTie(II)Z
def k_27 : List mzO := [(0, .aload_n 0, 0, 0, 0), (1, .iload_n 1, 0, 0, 0), (2, .invokevirtual 149, 1, 6, 2), (5, .ifCond .eq 20, 0, 25, 0), (8, .aload_n 0, 0, 0, 0), (9, .iload_n 2, 0, 0, 0), (10, .invokevirtual 149, 1, 6, 2), (13, .ifCond .eq 12, 0, 25, 0), (16, .iload_n 1, 0, 0, 0), (17, .iload_n 2, 0, 0, 0), (18, .if_icmp .eq 7, 0, 25, 0), (21, .iconst 1, 0, 0, 0), (22, .goto 4, 0, 26, 0), (25, .iconst 0, 0, 0, 0), (26, .ireturn, 0, 0, 1)]
theorem gd_27 : mzGd 27 k_27 := mz_gd (k := 0) (by decide +kernel) (by decide +kernel) (by decide +kernel)
-- MeltPinsModel.tie(III)I
def k_28 : List mzO := [(0, .aload_n 0, 0, 0, 0), (1, .iload_n 1, 0, 0, 0), (2, .iload_n 2, 0, 0, 0), (3, .invokevirtual 182, 1, 27, 3), (6, .ifCond .eq 15, 0, 21, 0), (9, .iload_n 3, 0, 0, 0), (10, .i2l, 0, 0, 0), (11, .lconst 1, 0, 0, 0), (12, .ldc2_w 171, 99, 0, 0), (15, .invokestatic 50, 1, 2, 3), (18, .ifCond .ne 10, 0, 28, 0), (21, .aload_n 0, 0, 0, 0), (22, .ldc 49, (-1000001), 0, 0), (24, .invokevirtual 60, 1, 1, 2), (27, .ireturn, 0, 0, 0), (28, .bipush 124, 0, 0, 0), (30, .bipush 12, 0, 0, 0), (32, .iload_n 1, 0, 0, 0), (33, .imul, 0, 0, 0), (34, .iadd, 0, 0, 0), (35, .iload_n 2, 0, 0, 0), (36, .iadd, 0, 0, 0), (37, .istore 4, 0, 0, 0), (39, .aload_n 0, 0, 0, 0), (40, .getfield 9, 0, 0, 5), (43, .iload 4, 0, 0, 0), (45, .iaload, 0, 0, 0), (46, .ifCond .ne 21, 0, 67, 0), (49, .aload_n 0, 0, 0, 0), (50, .getfield 9, 0, 0, 5), (53, .iconst 1, 0, 0, 0), (54, .iaload, 0, 0, 0), (55, .bipush 40, 0, 0, 0), (57, .if_icmp .ne 10, 0, 67, 0), (60, .aload_n 0, 0, 0, 0), (61, .ldc 68, (-1000002), 0, 0), (63, .invokevirtual 60, 1, 1, 2), (66, .ireturn, 0, 0, 0), (67, .aload_n 0, 0, 0, 0), (68, .getfield 9, 0, 0, 5), (71, .iconst 1, 0, 0, 0), (72, .dup2, 0, 0, 0), (73, .iaload, 0, 0, 0), (74, .aload_n 0, 0, 0, 0), (75, .getfield 9, 0, 0, 5), (78, .iload 4, 0, 0, 0), (80, .iaload, 0, 0, 0), (81, .ifCond .ne 7, 0, 88, 0), (84, .iconst 1, 0, 0, 0), (85, .goto 4, 0, 89, 0), (88, .iconst 0, 0, 0, 0), (89, .iadd, 0, 0, 0), (90, .iastore, 0, 0, 0), (91, .aload_n 0, 0, 0, 0), (92, .iload 4, 0, 0, 0), (94, .iload_n 3, 0, 0, 0), (95, .invokevirtual 179, 1, 24, 3), (98, .ireturn, 0, 0, 0)]
theorem gd_28 : mzGd 28 k_28 := mz_gd (k := 0) (by decide +kernel) (by decide +kernel) (by decide +kernel)
-- MeltPinsModel.tieOf(II)I
def k_29 : List mzO := [(0, .aload_n 0, 0, 0, 0), (1, .iload_n 1, 0, 0, 0), (2, .invokevirtual 149, 1, 6, 2), (5, .ifCond .eq 28, 0, 33, 0), (8, .aload_n 0, 0, 0, 0), (9, .iload_n 2, 0, 0, 0), (10, .invokevirtual 149, 1, 6, 2), (13, .ifCond .eq 20, 0, 33, 0), (16, .aload_n 0, 0, 0, 0), (17, .getfield 9, 0, 0, 5), (20, .bipush 124, 0, 0, 0), (22, .bipush 12, 0, 0, 0), (24, .iload_n 1, 0, 0, 0), (25, .imul, 0, 0, 0), (26, .iadd, 0, 0, 0), (27, .iload_n 2, 0, 0, 0), (28, .iadd, 0, 0, 0), (29, .iaload, 0, 0, 0), (30, .goto 9, 0, 39, 0), (33, .aload_n 0, 0, 0, 0), (34, .ldc 49, (-1000001), 0, 0), (36, .invokevirtual 60, 1, 1, 2), (39, .ireturn, 0, 0, 0)]
theorem gd_29 : mzGd 29 k_29 := mz_gd (k := 0) (by decide +kernel) (by decide +kernel) (by decide +kernel)
-- MeltPinsModel.cut(II)I
def k_30 : List mzO := [(0, .aload_n 0, 0, 0, 0), (1, .iload_n 1, 0, 0, 0), (2, .invokevirtual 149, 1, 6, 2), (5, .ifCond .eq 11, 0, 16, 0), (8, .aload_n 0, 0, 0, 0), (9, .iload_n 2, 0, 0, 0), (10, .invokevirtual 149, 1, 6, 2), (13, .ifCond .ne 10, 0, 23, 0), (16, .aload_n 0, 0, 0, 0), (17, .ldc 49, (-1000001), 0, 0), (19, .invokevirtual 60, 1, 1, 2), (22, .ireturn, 0, 0, 0), (23, .bipush 124, 0, 0, 0), (25, .bipush 12, 0, 0, 0), (27, .iload_n 1, 0, 0, 0), (28, .imul, 0, 0, 0), (29, .iadd, 0, 0, 0), (30, .iload_n 2, 0, 0, 0), (31, .iadd, 0, 0, 0), (32, .istore_n 3, 0, 0, 0), (33, .aload_n 0, 0, 0, 0), (34, .getfield 9, 0, 0, 5), (37, .iload_n 3, 0, 0, 0), (38, .iaload, 0, 0, 0), (39, .ifCond .ne 10, 0, 49, 0), (42, .aload_n 0, 0, 0, 0), (43, .ldc 186, (-1000004), 0, 0), (45, .invokevirtual 60, 1, 1, 2), (48, .ireturn, 0, 0, 0), (49, .aload_n 0, 0, 0, 0), (50, .iload_n 3, 0, 0, 0), (51, .iconst 0, 0, 0, 0), (52, .invokevirtual 179, 1, 24, 3), (55, .pop, 0, 0, 0), (56, .aload_n 0, 0, 0, 0), (57, .getfield 9, 0, 0, 5), (60, .iconst 1, 0, 0, 0), (61, .dup2, 0, 0, 0), (62, .iaload, 0, 0, 0), (63, .iconst 1, 0, 0, 0), (64, .isub, 0, 0, 0), (65, .iastore, 0, 0, 0), (66, .aload_n 0, 0, 0, 0), (67, .getfield 9, 0, 0, 5), (70, .iconst 1, 0, 0, 0), (71, .iaload, 0, 0, 0), (72, .ireturn, 0, 0, 0)]
theorem gd_30 : mzGd 30 k_30 := mz_gd (k := 0) (by decide +kernel) (by decide +kernel) (by decide +kernel)
-- MeltPinsModel.hold(IZ)I
def k_31 : List mzO := [(0, .aload_n 0, 0, 0, 0), (1, .iload_n 1, 0, 0, 0), (2, .invokevirtual 149, 1, 6, 2), (5, .ifCond .eq 28, 0, 33, 0), (8, .aload_n 0, 0, 0, 0), (9, .iconst 4, 0, 0, 0), (10, .bipush 10, 0, 0, 0), (12, .iload_n 1, 0, 0, 0), (13, .imul, 0, 0, 0), (14, .iadd, 0, 0, 0), (15, .bipush 9, 0, 0, 0), (17, .iadd, 0, 0, 0), (18, .iload_n 2, 0, 0, 0), (19, .ifCond .eq 7, 0, 26, 0), (22, .iconst 1, 0, 0, 0), (23, .goto 4, 0, 27, 0), (26, .iconst 0, 0, 0, 0), (27, .invokevirtual 179, 1, 24, 3), (30, .goto 9, 0, 39, 0), (33, .aload_n 0, 0, 0, 0), (34, .ldc 49, (-1000001), 0, 0), (36, .invokevirtual 60, 1, 1, 2), (39, .ireturn, 0, 0, 0)]
theorem gd_31 : mzGd 31 k_31 := mz_gd (k := 0) (by decide +kernel) (by decide +kernel) (by decide +kernel)
-- MeltPinsModel.heldNow()I
def k_32 : List mzO := [(0, .iconst 0, 0, 0, 0), (1, .istore_n 1, 0, 0, 0), (2, .iconst 0, 0, 0, 0), (3, .istore_n 2, 0, 0, 0), (4, .iload_n 2, 0, 0, 0), (5, .aload_n 0, 0, 0, 0), (6, .getfield 9, 0, 0, 5), (9, .iconst 0, 0, 0, 0), (10, .iaload, 0, 0, 0), (11, .if_icmp .ge 21, 0, 32, 0), (14, .iload_n 1, 0, 0, 0), (15, .aload_n 0, 0, 0, 0), (16, .iload_n 2, 0, 0, 0), (17, .bipush 9, 0, 0, 0), (19, .invokevirtual 163, 1, 5, 3), (22, .iload_n 2, 0, 0, 0), (23, .ishl, 0, 0, 0), (24, .ior, 0, 0, 0), (25, .istore_n 1, 0, 0, 0), (26, .iinc 2 1, 0, 0, 0), (29, .goto (-25), 0, 4, 0), (32, .iload_n 1, 0, 0, 0), (33, .ireturn, 0, 0, 0)]
theorem gd_32 : mzGd 32 k_32 := mz_gd (k := 0) (by decide +kernel) (by decide +kernel) (by decide +kernel)
-- MeltPinsModel.begins(I)V
def k_33 : List mzO := [(0, .aload_n 0, 0, 0, 0), (1, .iconst 0, 0, 0, 0), (2, .putfield 187, 0, 13, 5), (5, .aload_n 0, 0, 0, 0), (6, .iconst 0, 0, 0, 0), (7, .putfield 190, 0, 14, 5), (10, .aload_n 0, 0, 0, 0), (11, .iload_n 1, 0, 0, 0), (12, .putfield 193, 0, 15, 5), (15, .iconst 0, 0, 0, 0), (16, .istore_n 2, 0, 0, 0), (17, .iload_n 2, 0, 0, 0), (18, .aload_n 0, 0, 0, 0), (19, .getfield 9, 0, 0, 5), (22, .iconst 0, 0, 0, 0), (23, .iaload, 0, 0, 0), (24, .if_icmp .ge 27, 0, 51, 0), (27, .aload_n 0, 0, 0, 0), (28, .getfield 25, 0, 16, 5), (31, .iload_n 2, 0, 0, 0), (32, .iconst 0, 0, 0, 0), (33, .iastore, 0, 0, 0), (34, .aload_n 0, 0, 0, 0), (35, .getfield 28, 0, 17, 5), (38, .iload_n 2, 0, 0, 0), (39, .aload_n 0, 0, 0, 0), (40, .iload_n 2, 0, 0, 0), (41, .invokevirtual 168, 1, 21, 2), (44, .iastore, 0, 0, 0), (45, .iinc 2 1, 0, 0, 0), (48, .goto (-31), 0, 17, 0), (51, .return_, 0, 0, 0)]
theorem gd_33 : mzGd 33 k_33 := mz_gd (k := 0) (by decide +kernel) (by decide +kernel) (by decide +kernel)
-- MeltPinsModel.gets(II)I
def k_34 : List mzO := [(0, .iconst 0, 0, 0, 0), (1, .istore_n 3, 0, 0, 0), (2, .iconst 0, 0, 0, 0), (3, .istore 4, 0, 0, 0), (5, .iload 4, 0, 0, 0), (7, .aload_n 0, 0, 0, 0), (8, .getfield 9, 0, 0, 5), (11, .iconst 0, 0, 0, 0), (12, .iaload, 0, 0, 0), (13, .if_icmp .ge 40, 0, 53, 0), (16, .iload_n 3, 0, 0, 0), (17, .iload_n 2, 0, 0, 0), (18, .iload 4, 0, 0, 0), (20, .invokestatic 196, 1, 3, 2), (23, .ifCond .eq 21, 0, 44, 0), (26, .aload_n 0, 0, 0, 0), (27, .getfield 9, 0, 0, 5), (30, .bipush 124, 0, 0, 0), (32, .bipush 12, 0, 0, 0), (34, .iload 4, 0, 0, 0), (36, .imul, 0, 0, 0), (37, .iadd, 0, 0, 0), (38, .iload_n 1, 0, 0, 0), (39, .iadd, 0, 0, 0), (40, .iaload, 0, 0, 0), (41, .goto 4, 0, 45, 0), (44, .iconst 0, 0, 0, 0), (45, .iadd, 0, 0, 0), (46, .istore_n 3, 0, 0, 0), (47, .iinc 4 1, 0, 0, 0), (50, .goto (-45), 0, 5, 0), (53, .iload_n 3, 0, 0, 0), (54, .ireturn, 0, 0, 0)]
theorem gd_34 : mzGd 34 k_34 := mz_gd (k := 0) (by decide +kernel) (by decide +kernel) (by decide +kernel)
-- MeltPinsModel.company(II)I
def k_35 : List mzO := [(0, .iconst 0, 0, 0, 0), (1, .istore_n 3, 0, 0, 0), (2, .iconst 0, 0, 0, 0), (3, .istore 4, 0, 0, 0), (5, .iload 4, 0, 0, 0), (7, .aload_n 0, 0, 0, 0), (8, .getfield 9, 0, 0, 5), (11, .iconst 0, 0, 0, 0), (12, .iaload, 0, 0, 0), (13, .if_icmp .ge 44, 0, 57, 0), (16, .iload_n 3, 0, 0, 0), (17, .iload_n 2, 0, 0, 0), (18, .iload 4, 0, 0, 0), (20, .invokestatic 196, 1, 3, 2), (23, .ifCond .eq 25, 0, 48, 0), (26, .aload_n 0, 0, 0, 0), (27, .getfield 9, 0, 0, 5), (30, .bipush 124, 0, 0, 0), (32, .bipush 12, 0, 0, 0), (34, .iload 4, 0, 0, 0), (36, .imul, 0, 0, 0), (37, .iadd, 0, 0, 0), (38, .iload_n 1, 0, 0, 0), (39, .iadd, 0, 0, 0), (40, .iaload, 0, 0, 0), (41, .ifCond .le 7, 0, 48, 0), (44, .iconst 1, 0, 0, 0), (45, .goto 4, 0, 49, 0), (48, .iconst 0, 0, 0, 0), (49, .iadd, 0, 0, 0), (50, .istore_n 3, 0, 0, 0), (51, .iinc 4 1, 0, 0, 0), (54, .goto (-49), 0, 5, 0), (57, .iload_n 3, 0, 0, 0), (58, .ireturn, 0, 0, 0)]
theorem gd_35 : mzGd 35 k_35 := mz_gd (k := 0) (by decide +kernel) (by decide +kernel) (by decide +kernel)
-- MeltPinsModel.goes(II)Z
def k_36 : List mzO := [(0, .aload_n 0, 0, 0, 0), (1, .iload_n 1, 0, 0, 0), (2, .iload_n 2, 0, 0, 0), (3, .invokevirtual 199, 1, 34, 3), (6, .aload_n 0, 0, 0, 0), (7, .getfield 28, 0, 17, 5), (10, .iload_n 1, 0, 0, 0), (11, .iaload, 0, 0, 0), (12, .if_icmp .lt 27, 0, 39, 0), (15, .aload_n 0, 0, 0, 0), (16, .iload_n 1, 0, 0, 0), (17, .iconst 0, 0, 0, 0), (18, .invokevirtual 163, 1, 5, 3), (21, .iconst 3, 0, 0, 0), (22, .if_icmp .ne 13, 0, 35, 0), (25, .aload_n 0, 0, 0, 0), (26, .iload_n 1, 0, 0, 0), (27, .iload_n 2, 0, 0, 0), (28, .invokevirtual 202, 1, 35, 3), (31, .iconst 1, 0, 0, 0), (32, .if_icmp .le 7, 0, 39, 0), (35, .iconst 1, 0, 0, 0), (36, .goto 4, 0, 40, 0), (39, .iconst 0, 0, 0, 0), (40, .ireturn, 0, 0, 1)]
theorem gd_36 : mzGd 36 k_36 := mz_gd (k := 0) (by decide +kernel) (by decide +kernel) (by decide +kernel)
-- MeltPinsModel.falls(II)Z
def k_37 : List mzO := [(0, .aload_n 0, 0, 0, 0), (1, .iload_n 1, 0, 0, 0), (2, .iconst 0, 0, 0, 0), (3, .invokevirtual 163, 1, 5, 3), (6, .istore_n 3, 0, 0, 0), (7, .iload_n 3, 0, 0, 0), (8, .iconst 2, 0, 0, 0), (9, .if_icmp .eq 18, 0, 27, 0), (12, .iload_n 3, 0, 0, 0), (13, .iconst 5, 0, 0, 0), (14, .if_icmp .ne 32, 0, 46, 0), (17, .aload_n 0, 0, 0, 0), (18, .iload_n 1, 0, 0, 0), (19, .bipush 8, 0, 0, 0), (21, .invokevirtual 163, 1, 5, 3), (24, .ifCond .ne 22, 0, 46, 0), (27, .aload_n 0, 0, 0, 0), (28, .iload_n 1, 0, 0, 0), (29, .iload_n 2, 0, 0, 0), (30, .invokevirtual 199, 1, 34, 3), (33, .aload_n 0, 0, 0, 0), (34, .iload_n 1, 0, 0, 0), (35, .iconst 2, 0, 0, 0), (36, .invokevirtual 163, 1, 5, 3), (39, .if_icmp .ge 7, 0, 46, 0), (42, .iconst 1, 0, 0, 0), (43, .goto 4, 0, 47, 0), (46, .iconst 0, 0, 0, 0), (47, .ireturn, 0, 0, 1)]
theorem gd_37 : mzGd 37 k_37 := mz_gd (k := 0) (by decide +kernel) (by decide +kernel) (by decide +kernel)
-- MeltPinsModel.year(I)Z
def k_38 : List mzO := [(0, .aload_n 0, 0, 0, 0), (1, .getfield 187, 0, 13, 5), (4, .istore_n 2, 0, 0, 0), (5, .aload_n 0, 0, 0, 0), (6, .getfield 190, 0, 14, 5), (9, .istore_n 3, 0, 0, 0), (10, .iconst 0, 0, 0, 0), (11, .istore 4, 0, 0, 0), (13, .iload_n 1, 0, 0, 0), (14, .aload_n 0, 0, 0, 0), (15, .getfield 193, 0, 15, 5), (18, .iconst (-1), 0, 0, 0), (19, .ixor, 0, 0, 0), (20, .iand, 0, 0, 0), (21, .aload_n 0, 0, 0, 0), (22, .getfield 190, 0, 14, 5), (25, .iconst (-1), 0, 0, 0), (26, .ixor, 0, 0, 0), (27, .iand, 0, 0, 0), (28, .istore 5, 0, 0, 0), (30, .aload_n 0, 0, 0, 0), (31, .getfield 187, 0, 13, 5), (34, .iload 5, 0, 0, 0), (36, .ior, 0, 0, 0), (37, .istore 6, 0, 0, 0), (39, .aload_n 0, 0, 0, 0), (40, .iload 6, 0, 0, 0), (42, .putfield 187, 0, 13, 5), (45, .iconst 0, 0, 0, 0), (46, .istore 7, 0, 0, 0), (48, .iload 7, 0, 0, 0), (50, .aload_n 0, 0, 0, 0), (51, .getfield 9, 0, 0, 5), (54, .iconst 0, 0, 0, 0), (55, .iaload, 0, 0, 0), (56, .if_icmp .ge 173, 0, 229, 0), (59, .iload 6, 0, 0, 0), (61, .iload 7, 0, 0, 0), (63, .invokestatic 196, 1, 3, 2), (66, .ifCond .eq 52, 0, 118, 0), (69, .iload_n 1, 0, 0, 0), (70, .iload 7, 0, 0, 0), (72, .invokestatic 196, 1, 3, 2), (75, .ifCond .ne 148, 0, 223, 0), (78, .aload_n 0, 0, 0, 0), (79, .iload 7, 0, 0, 0), (81, .iload 6, 0, 0, 0), (83, .invokevirtual 204, 1, 37, 3), (86, .ifCond .ne 6, 0, 92, 0), (89, .goto 134, 0, 223, 0), (92, .aload_n 0, 0, 0, 0), (93, .dup, 0, 0, 0), (94, .getfield 187, 0, 13, 5), (97, .iconst 1, 0, 0, 0), (98, .iload 7, 0, 0, 0), (100, .ishl, 0, 0, 0), (101, .iconst (-1), 0, 0, 0), (102, .ixor, 0, 0, 0), (103, .iand, 0, 0, 0), (104, .putfield 187, 0, 13, 5), (107, .aload_n 0, 0, 0, 0), (108, .getfield 25, 0, 16, 5), (111, .iload 7, 0, 0, 0), (113, .iconst 0, 0, 0, 0), (114, .iastore, 0, 0, 0), (115, .goto 108, 0, 223, 0), (118, .aload_n 0, 0, 0, 0), (119, .getfield 193, 0, 15, 5), (122, .aload_n 0, 0, 0, 0), (123, .getfield 190, 0, 14, 5), (126, .ior, 0, 0, 0), (127, .iload 7, 0, 0, 0), (129, .invokestatic 196, 1, 3, 2), (132, .ifCond .ne 91, 0, 223, 0), (135, .aload_n 0, 0, 0, 0), (136, .iload 7, 0, 0, 0), (138, .iload 6, 0, 0, 0), (140, .invokevirtual 207, 1, 36, 3), (143, .ifCond .eq 15, 0, 158, 0), (146, .aload_n 0, 0, 0, 0), (147, .getfield 25, 0, 16, 5), (150, .iload 7, 0, 0, 0), (152, .iaload, 0, 0, 0), (153, .iconst 1, 0, 0, 0), (154, .iadd, 0, 0, 0), (155, .goto 4, 0, 159, 0), (158, .iconst 0, 0, 0, 0), (159, .istore 8, 0, 0, 0), (161, .iload 4, 0, 0, 0), (163, .ifCond .ne 15, 0, 178, 0), (166, .iload 8, 0, 0, 0), (168, .aload_n 0, 0, 0, 0), (169, .getfield 25, 0, 16, 5), (172, .iload 7, 0, 0, 0), (174, .iaload, 0, 0, 0), (175, .if_icmp .eq 7, 0, 182, 0), (178, .iconst 1, 0, 0, 0), (179, .goto 4, 0, 183, 0), (182, .iconst 0, 0, 0, 0), (183, .istore 4, 0, 0, 0), (185, .aload_n 0, 0, 0, 0), (186, .getfield 25, 0, 16, 5), (189, .iload 7, 0, 0, 0), (191, .iload 8, 0, 0, 0), (193, .iastore, 0, 0, 0), (194, .aload_n 0, 0, 0, 0), (195, .dup, 0, 0, 0), (196, .getfield 187, 0, 13, 5), (199, .iload 8, 0, 0, 0), (201, .aload_n 0, 0, 0, 0), (202, .iload 7, 0, 0, 0), (204, .iconst 3, 0, 0, 0), (205, .invokevirtual 163, 1, 5, 3), (208, .if_icmp .le 10, 0, 218, 0), (211, .iconst 1, 0, 0, 0), (212, .iload 7, 0, 0, 0), (214, .ishl, 0, 0, 0), (215, .goto 4, 0, 219, 0), (218, .iconst 0, 0, 0, 0), (219, .ior, 0, 0, 0), (220, .putfield 187, 0, 13, 5), (223, .iinc 7 1, 0, 0, 0), (226, .goto (-178), 0, 48, 0), (229, .iconst 0, 0, 0, 0), (230, .istore 7, 0, 0, 0), (232, .iload 7, 0, 0, 0), (234, .aload_n 0, 0, 0, 0), (235, .getfield 9, 0, 0, 5), (238, .iconst 0, 0, 0, 0), (239, .iaload, 0, 0, 0), (240, .if_icmp .ge 66, 0, 306, 0), (243, .aload_n 0, 0, 0, 0), (244, .iload 7, 0, 0, 0), (246, .iconst 0, 0, 0, 0), (247, .invokevirtual 163, 1, 5, 3), (250, .iconst 4, 0, 0, 0), (251, .if_icmp .ne 49, 0, 300, 0), (254, .aload_n 0, 0, 0, 0), (255, .getfield 187, 0, 13, 5), (258, .iload_n 2, 0, 0, 0), (259, .iconst (-1), 0, 0, 0), (260, .ixor, 0, 0, 0), (261, .iand, 0, 0, 0), (262, .iload 7, 0, 0, 0), (264, .invokestatic 196, 1, 3, 2), (267, .ifCond .eq 33, 0, 300, 0), (270, .aload_n 0, 0, 0, 0), (271, .iload 7, 0, 0, 0), (273, .bipush 7, 0, 0, 0), (275, .invokevirtual 163, 1, 5, 3), (278, .ifCond .lt 22, 0, 300, 0), (281, .aload_n 0, 0, 0, 0), (282, .dup, 0, 0, 0), (283, .getfield 190, 0, 14, 5), (286, .iconst 1, 0, 0, 0), (287, .aload_n 0, 0, 0, 0), (288, .iload 7, 0, 0, 0), (290, .bipush 7, 0, 0, 0), (292, .invokevirtual 163, 1, 5, 3), (295, .ishl, 0, 0, 0), (296, .ior, 0, 0, 0), (297, .putfield 190, 0, 14, 5), (300, .iinc 7 1, 0, 0, 0), (303, .goto (-71), 0, 232, 0), (306, .iconst 0, 0, 0, 0), (307, .istore 7, 0, 0, 0), (309, .iload 7, 0, 0, 0), (311, .aload_n 0, 0, 0, 0), (312, .getfield 9, 0, 0, 5), (315, .iconst 0, 0, 0, 0), (316, .iaload, 0, 0, 0), (317, .if_icmp .ge 29, 0, 346, 0), (320, .aload_n 0, 0, 0, 0), (321, .getfield 190, 0, 14, 5), (324, .iload 7, 0, 0, 0), (326, .invokestatic 196, 1, 3, 2), (329, .ifCond .eq 11, 0, 340, 0), (332, .aload_n 0, 0, 0, 0), (333, .getfield 25, 0, 16, 5), (336, .iload 7, 0, 0, 0), (338, .iconst 0, 0, 0, 0), (339, .iastore, 0, 0, 0), (340, .iinc 7 1, 0, 0, 0), (343, .goto (-34), 0, 309, 0), (346, .aload_n 0, 0, 0, 0), (347, .dup, 0, 0, 0), (348, .getfield 187, 0, 13, 5), (351, .aload_n 0, 0, 0, 0), (352, .getfield 190, 0, 14, 5), (355, .iconst (-1), 0, 0, 0), (356, .ixor, 0, 0, 0), (357, .iand, 0, 0, 0), (358, .putfield 187, 0, 13, 5), (361, .iload 4, 0, 0, 0), (363, .ifCond .ne 19, 0, 382, 0), (366, .aload_n 0, 0, 0, 0), (367, .getfield 187, 0, 13, 5), (370, .iload_n 2, 0, 0, 0), (371, .if_icmp .ne 11, 0, 382, 0), (374, .aload_n 0, 0, 0, 0), (375, .getfield 190, 0, 14, 5), (378, .iload_n 3, 0, 0, 0), (379, .if_icmp .eq 7, 0, 386, 0), (382, .iconst 1, 0, 0, 0), (383, .goto 4, 0, 387, 0), (386, .iconst 0, 0, 0, 0), (387, .ireturn, 0, 0, 1)]
theorem gd_38 : mzGd 38 k_38 := mz_gd (k := 0) (by decide +kernel) (by decide +kernel) (by decide +kernel)
-- MeltPinsModel.pushesOf(I)I
def k_39 : List mzO := [(0, .iconst 0, 0, 0, 0), (1, .istore_n 2, 0, 0, 0), (2, .iconst 0, 0, 0, 0), (3, .istore_n 3, 0, 0, 0), (4, .iload_n 3, 0, 0, 0), (5, .aload_n 0, 0, 0, 0), (6, .getfield 9, 0, 0, 5), (9, .iconst 2, 0, 0, 0), (10, .iaload, 0, 0, 0), (11, .if_icmp .ge 48, 0, 59, 0), (14, .iload_n 2, 0, 0, 0), (15, .aload_n 0, 0, 0, 0), (16, .getfield 9, 0, 0, 5), (19, .sipush 268, 0, 0, 0), (22, .iconst 2, 0, 0, 0), (23, .iload_n 3, 0, 0, 0), (24, .imul, 0, 0, 0), (25, .iadd, 0, 0, 0), (26, .iaload, 0, 0, 0), (27, .iload_n 1, 0, 0, 0), (28, .if_icmp .ne 22, 0, 50, 0), (31, .iconst 1, 0, 0, 0), (32, .aload_n 0, 0, 0, 0), (33, .getfield 9, 0, 0, 5), (36, .sipush 268, 0, 0, 0), (39, .iconst 2, 0, 0, 0), (40, .iload_n 3, 0, 0, 0), (41, .imul, 0, 0, 0), (42, .iadd, 0, 0, 0), (43, .iconst 1, 0, 0, 0), (44, .iadd, 0, 0, 0), (45, .iaload, 0, 0, 0), (46, .ishl, 0, 0, 0), (47, .goto 4, 0, 51, 0), (50, .iconst 0, 0, 0, 0), (51, .ior, 0, 0, 0), (52, .istore_n 2, 0, 0, 0), (53, .iinc 3 1, 0, 0, 0), (56, .goto (-52), 0, 4, 0), (59, .iload_n 2, 0, 0, 0), (60, .ireturn, 0, 0, 0)]
theorem gd_39 : mzGd 39 k_39 := mz_gd (k := 0) (by decide +kernel) (by decide +kernel) (by decide +kernel)
-- MeltPinsModel.plan(I)V
def k_40 : List mzO := [(0, .aload_n 0, 0, 0, 0), (1, .aload_n 0, 0, 0, 0), (2, .invokevirtual 210, 1, 32, 1), (5, .invokevirtual 213, 0, 33, 2), (8, .iconst 0, 0, 0, 0), (9, .istore_n 2, 0, 0, 0), (10, .iload_n 2, 0, 0, 0), (11, .iload_n 1, 0, 0, 0), (12, .if_icmp .ge 19, 0, 31, 0), (15, .aload_n 0, 0, 0, 0), (16, .aload_n 0, 0, 0, 0), (17, .iload_n 2, 0, 0, 0), (18, .invokevirtual 217, 1, 39, 2), (21, .invokevirtual 220, 1, 38, 2), (24, .pop, 0, 0, 0), (25, .iinc 2 1, 0, 0, 0), (28, .goto (-18), 0, 10, 0), (31, .return_, 0, 0, 0)]
theorem gd_40 : mzGd 40 k_40 := mz_gd (k := 0) (by decide +kernel) (by decide +kernel) (by decide +kernel)
-- MeltPinsModel.push(II)I
def k_41 : List mzO := [(0, .iload_n 1, 0, 0, 0), (1, .i2l, 0, 0, 0), (2, .lconst 0, 0, 0, 0), (3, .ldc2_w 223, 49, 0, 0), (6, .invokestatic 50, 1, 2, 3), (9, .ifCond .eq 11, 0, 20, 0), (12, .aload_n 0, 0, 0, 0), (13, .iload_n 2, 0, 0, 0), (14, .invokevirtual 149, 1, 6, 2), (17, .ifCond .ne 10, 0, 27, 0), (20, .aload_n 0, 0, 0, 0), (21, .ldc 49, (-1000001), 0, 0), (23, .invokevirtual 60, 1, 1, 2), (26, .ireturn, 0, 0, 0), (27, .aload_n 0, 0, 0, 0), (28, .iload_n 1, 0, 0, 0), (29, .invokevirtual 217, 1, 39, 2), (32, .iload_n 2, 0, 0, 0), (33, .invokestatic 196, 1, 3, 2), (36, .ifCond .eq 10, 0, 46, 0), (39, .aload_n 0, 0, 0, 0), (40, .ldc 225, (-1000005), 0, 0), (42, .invokevirtual 60, 1, 1, 2), (45, .ireturn, 0, 0, 0), (46, .aload_n 0, 0, 0, 0), (47, .getfield 9, 0, 0, 5), (50, .iconst 2, 0, 0, 0), (51, .iaload, 0, 0, 0), (52, .istore_n 3, 0, 0, 0), (53, .iload_n 3, 0, 0, 0), (54, .bipush 20, 0, 0, 0), (56, .if_icmp .ne 10, 0, 66, 0), (59, .aload_n 0, 0, 0, 0), (60, .ldc 68, (-1000002), 0, 0), (62, .invokevirtual 60, 1, 1, 2), (65, .ireturn, 0, 0, 0), (66, .aload_n 0, 0, 0, 0), (67, .getfield 9, 0, 0, 5), (70, .sipush 268, 0, 0, 0), (73, .iconst 2, 0, 0, 0), (74, .iload_n 3, 0, 0, 0), (75, .imul, 0, 0, 0), (76, .iadd, 0, 0, 0), (77, .iload_n 1, 0, 0, 0), (78, .iastore, 0, 0, 0), (79, .aload_n 0, 0, 0, 0), (80, .getfield 9, 0, 0, 5), (83, .sipush 268, 0, 0, 0), (86, .iconst 2, 0, 0, 0), (87, .iload_n 3, 0, 0, 0), (88, .imul, 0, 0, 0), (89, .iadd, 0, 0, 0), (90, .iconst 1, 0, 0, 0), (91, .iadd, 0, 0, 0), (92, .iload_n 2, 0, 0, 0), (93, .iastore, 0, 0, 0), (94, .aload_n 0, 0, 0, 0), (95, .getfield 9, 0, 0, 5), (98, .iconst 2, 0, 0, 0), (99, .dup2, 0, 0, 0), (100, .iaload, 0, 0, 0), (101, .iconst 1, 0, 0, 0), (102, .iadd, 0, 0, 0), (103, .iastore, 0, 0, 0), (104, .aload_n 0, 0, 0, 0), (105, .getfield 9, 0, 0, 5), (108, .iconst 2, 0, 0, 0), (109, .iaload, 0, 0, 0), (110, .ireturn, 0, 0, 0)]
theorem gd_41 : mzGd 41 k_41 := mz_gd (k := 0) (by decide +kernel) (by decide +kernel) (by decide +kernel)
-- MeltPinsModel.pushOf(II)I
def k_42 : List mzO := [(0, .iload_n 1, 0, 0, 0), (1, .i2l, 0, 0, 0), (2, .lconst 0, 0, 0, 0), (3, .aload_n 0, 0, 0, 0), (4, .getfield 9, 0, 0, 5), (7, .iconst 2, 0, 0, 0), (8, .iaload, 0, 0, 0), (9, .iconst 1, 0, 0, 0), (10, .isub, 0, 0, 0), (11, .i2l, 0, 0, 0), (12, .invokestatic 50, 1, 2, 3), (15, .ifCond .eq 30, 0, 45, 0), (18, .iload_n 2, 0, 0, 0), (19, .i2l, 0, 0, 0), (20, .lconst 0, 0, 0, 0), (21, .lconst 1, 0, 0, 0), (22, .invokestatic 50, 1, 2, 3), (25, .ifCond .eq 20, 0, 45, 0), (28, .aload_n 0, 0, 0, 0), (29, .getfield 9, 0, 0, 5), (32, .sipush 268, 0, 0, 0), (35, .iconst 2, 0, 0, 0), (36, .iload_n 1, 0, 0, 0), (37, .imul, 0, 0, 0), (38, .iadd, 0, 0, 0), (39, .iload_n 2, 0, 0, 0), (40, .iadd, 0, 0, 0), (41, .iaload, 0, 0, 0), (42, .goto 9, 0, 51, 0), (45, .aload_n 0, 0, 0, 0), (46, .ldc 49, (-1000001), 0, 0), (48, .invokevirtual 60, 1, 1, 2), (51, .ireturn, 0, 0, 0)]
theorem gd_42 : mzGd 42 k_42 := mz_gd (k := 0) (by decide +kernel) (by decide +kernel) (by decide +kernel)
-- MeltPinsModel.clear()I
def k_43 : List mzO := [(0, .aload_n 0, 0, 0, 0), (1, .getfield 9, 0, 0, 5), (4, .iconst 2, 0, 0, 0), (5, .iaload, 0, 0, 0), (6, .istore_n 1, 0, 0, 0), (7, .aload_n 0, 0, 0, 0), (8, .getfield 9, 0, 0, 5), (11, .iconst 2, 0, 0, 0), (12, .iconst 0, 0, 0, 0), (13, .iastore, 0, 0, 0), (14, .iload_n 1, 0, 0, 0), (15, .ireturn, 0, 0, 0)]
theorem gd_43 : mzGd 43 k_43 := mz_gd (k := 0) (by decide +kernel) (by decide +kernel) (by decide +kernel)
-- MeltPinsModel.run(II)I
def k_44 : List mzO := [(0, .iload_n 1, 0, 0, 0), (1, .i2l, 0, 0, 0), (2, .lconst 0, 0, 0, 0), (3, .ldc2_w 171, 99, 0, 0), (6, .invokestatic 50, 1, 2, 3), (9, .ifCond .eq 13, 0, 22, 0), (12, .iload_n 2, 0, 0, 0), (13, .i2l, 0, 0, 0), (14, .lconst 0, 0, 0, 0), (15, .lconst 1, 0, 0, 0), (16, .invokestatic 50, 1, 2, 3), (19, .ifCond .ne 10, 0, 29, 0), (22, .aload_n 0, 0, 0, 0), (23, .ldc 49, (-1000001), 0, 0), (25, .invokevirtual 60, 1, 1, 2), (28, .ireturn, 0, 0, 0), (29, .aload_n 0, 0, 0, 0), (30, .iload_n 1, 0, 0, 0), (31, .invokevirtual 226, 0, 40, 2), (34, .iload_n 2, 0, 0, 0), (35, .ifCond .ne 10, 0, 45, 0), (38, .aload_n 0, 0, 0, 0), (39, .getfield 187, 0, 13, 5), (42, .goto 7, 0, 49, 0), (45, .aload_n 0, 0, 0, 0), (46, .getfield 190, 0, 14, 5), (49, .ireturn, 0, 0, 0)]
theorem gd_44 : mzGd 44 k_44 := mz_gd (k := 0) (by decide +kernel) (by decide +kernel) (by decide +kernel)
-- MeltPinsModel.runOf(III)I
def k_45 : List mzO := [(0, .iload_n 1, 0, 0, 0), (1, .i2l, 0, 0, 0), (2, .lconst 0, 0, 0, 0), (3, .ldc2_w 171, 99, 0, 0), (6, .invokestatic 50, 1, 2, 3), (9, .ifCond .eq 21, 0, 30, 0), (12, .aload_n 0, 0, 0, 0), (13, .iload_n 2, 0, 0, 0), (14, .invokevirtual 149, 1, 6, 2), (17, .ifCond .eq 13, 0, 30, 0), (20, .iload_n 3, 0, 0, 0), (21, .i2l, 0, 0, 0), (22, .lconst 0, 0, 0, 0), (23, .lconst 1, 0, 0, 0), (24, .invokestatic 50, 1, 2, 3), (27, .ifCond .ne 10, 0, 37, 0), (30, .aload_n 0, 0, 0, 0), (31, .ldc 49, (-1000001), 0, 0), (33, .invokevirtual 60, 1, 1, 2), (36, .ireturn, 0, 0, 0), (37, .aload_n 0, 0, 0, 0), (38, .iload_n 1, 0, 0, 0), (39, .invokevirtual 226, 0, 40, 2), (42, .iload_n 3, 0, 0, 0), (43, .ifCond .ne 12, 0, 55, 0), (46, .aload_n 0, 0, 0, 0), (47, .getfield 25, 0, 16, 5), (50, .iload_n 2, 0, 0, 0), (51, .iaload, 0, 0, 0), (52, .goto 12, 0, 64, 0), (55, .aload_n 0, 0, 0, 0), (56, .iload_n 2, 0, 0, 0), (57, .aload_n 0, 0, 0, 0), (58, .getfield 187, 0, 13, 5), (61, .invokevirtual 199, 1, 34, 3), (64, .ireturn, 0, 0, 0)]
theorem gd_45 : mzGd 45 k_45 := mz_gd (k := 0) (by decide +kernel) (by decide +kernel) (by decide +kernel)
-- MeltPinsModel.when(I)I
def k_46 : List mzO := [(0, .aload_n 0, 0, 0, 0), (1, .iload_n 1, 0, 0, 0), (2, .invokevirtual 149, 1, 6, 2), (5, .ifCond .ne 10, 0, 15, 0), (8, .aload_n 0, 0, 0, 0), (9, .ldc 49, (-1000001), 0, 0), (11, .invokevirtual 60, 1, 1, 2), (14, .ireturn, 0, 0, 0), (15, .aload_n 0, 0, 0, 0), (16, .aload_n 0, 0, 0, 0), (17, .invokevirtual 210, 1, 32, 1), (20, .invokevirtual 213, 0, 33, 2), (23, .iconst 1, 0, 0, 0), (24, .istore_n 2, 0, 0, 0), (25, .iload_n 2, 0, 0, 0), (26, .bipush 100, 0, 0, 0), (28, .if_icmp .ge 34, 0, 62, 0), (31, .aload_n 0, 0, 0, 0), (32, .aload_n 0, 0, 0, 0), (33, .iload_n 2, 0, 0, 0), (34, .iconst 1, 0, 0, 0), (35, .isub, 0, 0, 0), (36, .invokevirtual 217, 1, 39, 2), (39, .invokevirtual 220, 1, 38, 2), (42, .pop, 0, 0, 0), (43, .aload_n 0, 0, 0, 0), (44, .getfield 187, 0, 13, 5), (47, .iload_n 1, 0, 0, 0), (48, .invokestatic 196, 1, 3, 2), (51, .ifCond .eq 5, 0, 56, 0), (54, .iload_n 2, 0, 0, 0), (55, .ireturn, 0, 0, 0), (56, .iinc 2 1, 0, 0, 0), (59, .goto (-34), 0, 25, 0), (62, .aload_n 0, 0, 0, 0), (63, .ldc 186, (-1000004), 0, 0), (65, .invokevirtual 60, 1, 1, 2), (68, .ireturn, 0, 0, 0)]
theorem gd_46 : mzGd 46 k_46 := mz_gd (k := 0) (by decide +kernel) (by decide +kernel) (by decide +kernel)
-- MeltPinsModel.settles()I
def k_47 : List mzO := [(0, .aload_n 0, 0, 0, 0), (1, .aload_n 0, 0, 0, 0), (2, .invokevirtual 210, 1, 32, 1), (5, .invokevirtual 213, 0, 33, 2), (8, .iconst 0, 0, 0, 0), (9, .istore_n 1, 0, 0, 0), (10, .iconst 1, 0, 0, 0), (11, .istore_n 2, 0, 0, 0), (12, .iload_n 2, 0, 0, 0), (13, .bipush 100, 0, 0, 0), (15, .if_icmp .ge 55, 0, 70, 0), (18, .aload_n 0, 0, 0, 0), (19, .getfield 187, 0, 13, 5), (22, .istore_n 3, 0, 0, 0), (23, .aload_n 0, 0, 0, 0), (24, .getfield 190, 0, 14, 5), (27, .istore 4, 0, 0, 0), (29, .aload_n 0, 0, 0, 0), (30, .aload_n 0, 0, 0, 0), (31, .iload_n 2, 0, 0, 0), (32, .iconst 1, 0, 0, 0), (33, .isub, 0, 0, 0), (34, .invokevirtual 217, 1, 39, 2), (37, .invokevirtual 220, 1, 38, 2), (40, .pop, 0, 0, 0), (41, .iload_n 3, 0, 0, 0), (42, .aload_n 0, 0, 0, 0), (43, .getfield 187, 0, 13, 5), (46, .if_icmp .ne 12, 0, 58, 0), (49, .iload 4, 0, 0, 0), (51, .aload_n 0, 0, 0, 0), (52, .getfield 190, 0, 14, 5), (55, .if_icmp .eq 7, 0, 62, 0), (58, .iload_n 2, 0, 0, 0), (59, .goto 4, 0, 63, 0), (62, .iload_n 1, 0, 0, 0), (63, .istore_n 1, 0, 0, 0), (64, .iinc 2 1, 0, 0, 0), (67, .goto (-55), 0, 12, 0), (70, .iload_n 1, 0, 0, 0), (71, .ireturn, 0, 0, 0)]
theorem gd_47 : mzGd 47 k_47 := mz_gd (k := 0) (by decide +kernel) (by decide +kernel) (by decide +kernel)
-- MeltPinsModel.standOf(II)I
def k_48 : List mzO := [(0, .aload_n 0, 0, 0, 0), (1, .iload_n 2, 0, 0, 0), (2, .invokevirtual 213, 0, 33, 2), (5, .iconst 1, 0, 0, 0), (6, .istore_n 3, 0, 0, 0), (7, .iconst 0, 0, 0, 0), (8, .istore 4, 0, 0, 0), (10, .iload 4, 0, 0, 0), (12, .bipush 24, 0, 0, 0), (14, .if_icmp .ge 41, 0, 55, 0), (17, .iload_n 3, 0, 0, 0), (18, .ifCond .eq 37, 0, 55, 0), (21, .aload_n 0, 0, 0, 0), (22, .iload 4, 0, 0, 0), (24, .ifCond .ne 7, 0, 31, 0), (27, .iload_n 1, 0, 0, 0), (28, .goto 4, 0, 32, 0), (31, .iconst 0, 0, 0, 0), (32, .invokevirtual 220, 1, 38, 2), (35, .ifCond .ne 8, 0, 43, 0), (38, .iload 4, 0, 0, 0), (40, .ifCond .ne 7, 0, 47, 0), (43, .iconst 1, 0, 0, 0), (44, .goto 4, 0, 48, 0), (47, .iconst 0, 0, 0, 0), (48, .istore_n 3, 0, 0, 0), (49, .iinc 4 1, 0, 0, 0), (52, .goto (-42), 0, 10, 0), (55, .aload_n 0, 0, 0, 0), (56, .getfield 187, 0, 13, 5), (59, .ireturn, 0, 0, 0)]
theorem gd_48 : mzGd 48 k_48 := mz_gd (k := 0) (by decide +kernel) (by decide +kernel) (by decide +kernel)
-- MeltPinsModel.findStands()V
def k_49 : List mzO := [(0, .aload_n 0, 0, 0, 0), (1, .getfield 160, 0, 4, 105), (4, .ifCond .eq 4, 0, 8, 0), (7, .return_, 0, 0, 0), (8, .iconst 0, 0, 0, 0), (9, .istore_n 1, 0, 0, 0), (10, .iload_n 1, 0, 0, 0), (11, .aload_n 0, 0, 0, 0), (12, .invokevirtual 54, 1, 7, 1), (15, .if_icmp .gt 24, 0, 39, 0), (18, .aload_n 0, 0, 0, 0), (19, .getfield 31, 0, 18, 5), (22, .iload_n 1, 0, 0, 0), (23, .aload_n 0, 0, 0, 0), (24, .iload_n 1, 0, 0, 0), (25, .aload_n 0, 0, 0, 0), (26, .invokevirtual 210, 1, 32, 1), (29, .invokevirtual 229, 1, 48, 3), (32, .iastore, 0, 0, 0), (33, .iinc 1 1, 0, 0, 0), (36, .goto (-26), 0, 10, 0), (39, .aload_n 0, 0, 0, 0), (40, .iconst 1, 0, 0, 0), (41, .putfield 160, 0, 4, 105), (44, .return_, 0, 0, 0)]
theorem gd_49 : mzGd 49 k_49 := mz_gd (k := 0) (by decide +kernel) (by decide +kernel) (by decide +kernel)
-- MeltPinsModel.stand(I)I
def k_50 : List mzO := [(0, .aload_n 0, 0, 0, 0), (1, .iload_n 1, 0, 0, 0), (2, .invokevirtual 232, 1, 8, 2), (5, .ifCond .eq 15, 0, 20, 0), (8, .aload_n 0, 0, 0, 0), (9, .iload_n 1, 0, 0, 0), (10, .aload_n 0, 0, 0, 0), (11, .invokevirtual 210, 1, 32, 1), (14, .invokevirtual 229, 1, 48, 3), (17, .goto 9, 0, 26, 0), (20, .aload_n 0, 0, 0, 0), (21, .ldc 49, (-1000001), 0, 0), (23, .invokevirtual 60, 1, 1, 2), (26, .ireturn, 0, 0, 0)]
theorem gd_50 : mzGd 50 k_50 := mz_gd (k := 0) (by decide +kernel) (by decide +kernel) (by decide +kernel)
-- MeltPinsModel.allIn(I)I
def k_51 : List mzO := [(0, .iconst 1, 0, 0, 0), (1, .istore_n 2, 0, 0, 0), (2, .iload_n 2, 0, 0, 0), (3, .iload_n 1, 0, 0, 0), (4, .if_icmp .gt 35, 0, 39, 0), (7, .aload_n 0, 0, 0, 0), (8, .aload_n 0, 0, 0, 0), (9, .getfield 34, 0, 19, 5), (12, .iload_n 2, 0, 0, 0), (13, .iconst 1, 0, 0, 0), (14, .isub, 0, 0, 0), (15, .iaload, 0, 0, 0), (16, .invokevirtual 220, 1, 38, 2), (19, .pop, 0, 0, 0), (20, .aload_n 0, 0, 0, 0), (21, .getfield 187, 0, 13, 5), (24, .aload_n 0, 0, 0, 0), (25, .invokevirtual 54, 1, 7, 1), (28, .if_icmp .ne 5, 0, 33, 0), (31, .iload_n 2, 0, 0, 0), (32, .ireturn, 0, 0, 0), (33, .iinc 2 1, 0, 0, 0), (36, .goto (-34), 0, 2, 0), (39, .iconst (-1), 0, 0, 0), (40, .ireturn, 0, 0, 0)]
theorem gd_51 : mzGd 51 k_51 := mz_gd (k := 0) (by decide +kernel) (by decide +kernel) (by decide +kernel)
-- MeltPinsModel.asksNothing()V
def k_52 : List mzO := [(0, .iconst 0, 0, 0, 0), (1, .istore_n 1, 0, 0, 0), (2, .iload_n 1, 0, 0, 0), (3, .bipush 50, 0, 0, 0), (5, .if_icmp .ge 16, 0, 21, 0), (8, .aload_n 0, 0, 0, 0), (9, .getfield 34, 0, 19, 5), (12, .iload_n 1, 0, 0, 0), (13, .iconst 0, 0, 0, 0), (14, .iastore, 0, 0, 0), (15, .iinc 1 1, 0, 0, 0), (18, .goto (-16), 0, 2, 0), (21, .return_, 0, 0, 0)]
theorem gd_52 : mzGd 52 k_52 := mz_gd (k := 0) (by decide +kernel) (by decide +kernel) (by decide +kernel)
-- MeltPinsModel.late(I)I
def k_53 : List mzO := [(0, .aload_n 0, 0, 0, 0), (1, .iload_n 1, 0, 0, 0), (2, .invokevirtual 232, 1, 8, 2), (5, .ifCond .ne 10, 0, 15, 0), (8, .aload_n 0, 0, 0, 0), (9, .ldc 49, (-1000001), 0, 0), (11, .invokevirtual 60, 1, 1, 2), (14, .ireturn, 0, 0, 0), (15, .aload_n 0, 0, 0, 0), (16, .invokevirtual 235, 0, 52, 1), (19, .aload_n 0, 0, 0, 0), (20, .getfield 34, 0, 19, 5), (23, .iconst 0, 0, 0, 0), (24, .iload_n 1, 0, 0, 0), (25, .iastore, 0, 0, 0), (26, .aload_n 0, 0, 0, 0), (27, .aload_n 0, 0, 0, 0), (28, .invokevirtual 210, 1, 32, 1), (31, .invokevirtual 213, 0, 33, 2), (34, .aload_n 0, 0, 0, 0), (35, .bipush 24, 0, 0, 0), (37, .invokevirtual 238, 1, 51, 2), (40, .istore_n 2, 0, 0, 0), (41, .iload_n 2, 0, 0, 0), (42, .ifCond .ge 12, 0, 54, 0), (45, .aload_n 0, 0, 0, 0), (46, .ldc 186, (-1000004), 0, 0), (48, .invokevirtual 60, 1, 1, 2), (51, .goto 4, 0, 55, 0), (54, .iload_n 2, 0, 0, 0), (55, .ireturn, 0, 0, 0)]
theorem gd_53 : mzGd 53 k_53 := mz_gd (k := 0) (by decide +kernel) (by decide +kernel) (by decide +kernel)
-- MeltPinsModel.sumOf(II)I
def k_54 : List mzO := [(0, .iconst 0, 0, 0, 0), (1, .istore_n 3, 0, 0, 0), (2, .iconst 0, 0, 0, 0), (3, .istore 4, 0, 0, 0), (5, .iload 4, 0, 0, 0), (7, .aload_n 0, 0, 0, 0), (8, .getfield 9, 0, 0, 5), (11, .iconst 0, 0, 0, 0), (12, .iaload, 0, 0, 0), (13, .if_icmp .ge 32, 0, 45, 0), (16, .iload_n 3, 0, 0, 0), (17, .iload_n 1, 0, 0, 0), (18, .iload 4, 0, 0, 0), (20, .invokestatic 196, 1, 3, 2), (23, .ifCond .eq 13, 0, 36, 0), (26, .aload_n 0, 0, 0, 0), (27, .iload 4, 0, 0, 0), (29, .iload_n 2, 0, 0, 0), (30, .invokevirtual 163, 1, 5, 3), (33, .goto 4, 0, 37, 0), (36, .iconst 0, 0, 0, 0), (37, .iadd, 0, 0, 0), (38, .istore_n 3, 0, 0, 0), (39, .iinc 4 1, 0, 0, 0), (42, .goto (-37), 0, 5, 0), (45, .iload_n 3, 0, 0, 0), (46, .ireturn, 0, 0, 0)]
theorem gd_54 : mzGd 54 k_54 := mz_gd (k := 0) (by decide +kernel) (by decide +kernel) (by decide +kernel)
-- MeltPinsModel.leastAll(II)I
def k_55 : List mzO := [(0, .aload_n 0, 0, 0, 0), (1, .invokevirtual 241, 0, 49, 1), (4, .iconst (-1), 0, 0, 0), (5, .istore_n 3, 0, 0, 0), (6, .iconst 0, 0, 0, 0), (7, .istore 4, 0, 0, 0), (9, .iconst 0, 0, 0, 0), (10, .istore 5, 0, 0, 0), (12, .iload 5, 0, 0, 0), (14, .aload_n 0, 0, 0, 0), (15, .invokevirtual 54, 1, 7, 1), (18, .if_icmp .gt 66, 0, 84, 0), (21, .aload_n 0, 0, 0, 0), (22, .getfield 31, 0, 18, 5), (25, .iload 5, 0, 0, 0), (27, .iaload, 0, 0, 0), (28, .aload_n 0, 0, 0, 0), (29, .invokevirtual 54, 1, 7, 1), (32, .if_icmp .eq 6, 0, 38, 0), (35, .goto 43, 0, 78, 0), (38, .iload_n 1, 0, 0, 0), (39, .iload 5, 0, 0, 0), (41, .invokestatic 244, 1, 4, 1), (44, .imul, 0, 0, 0), (45, .iload_n 2, 0, 0, 0), (46, .aload_n 0, 0, 0, 0), (47, .iload 5, 0, 0, 0), (49, .iconst 4, 0, 0, 0), (50, .invokevirtual 247, 1, 54, 3), (53, .imul, 0, 0, 0), (54, .iadd, 0, 0, 0), (55, .istore 6, 0, 0, 0), (57, .iload_n 3, 0, 0, 0), (58, .ifCond .lt 13, 0, 71, 0), (61, .iload 6, 0, 0, 0), (63, .iload 4, 0, 0, 0), (65, .if_icmp .lt 6, 0, 71, 0), (68, .goto 10, 0, 78, 0), (71, .iload 5, 0, 0, 0), (73, .istore_n 3, 0, 0, 0), (74, .iload 6, 0, 0, 0), (76, .istore 4, 0, 0, 0), (78, .iinc 5 1, 0, 0, 0), (81, .goto (-69), 0, 12, 0), (84, .iload_n 3, 0, 0, 0), (85, .ireturn, 0, 0, 0)]
theorem gd_55 : mzGd 55 k_55 := mz_gd (k := 0) (by decide +kernel) (by decide +kernel) (by decide +kernel)
-- MeltPinsModel.told(II)I
def k_56 : List mzO := [(0, .iload_n 1, 0, 0, 0), (1, .ifCond .ge 10, 0, 11, 0), (4, .aload_n 0, 0, 0, 0), (5, .ldc 186, (-1000004), 0, 0), (7, .invokevirtual 60, 1, 1, 2), (10, .ireturn, 0, 0, 0), (11, .iload_n 2, 0, 0, 0), (12, .ifCond .ne 7, 0, 19, 0), (15, .iload_n 1, 0, 0, 0), (16, .goto 21, 0, 37, 0), (19, .iload_n 2, 0, 0, 0), (20, .iconst 1, 0, 0, 0), (21, .if_icmp .ne 10, 0, 31, 0), (24, .iload_n 1, 0, 0, 0), (25, .invokestatic 244, 1, 4, 1), (28, .goto 9, 0, 37, 0), (31, .aload_n 0, 0, 0, 0), (32, .iload_n 1, 0, 0, 0), (33, .iconst 4, 0, 0, 0), (34, .invokevirtual 247, 1, 54, 3), (37, .ireturn, 0, 0, 0)]
theorem gd_56 : mzGd 56 k_56 := mz_gd (k := 0) (by decide +kernel) (by decide +kernel) (by decide +kernel)
-- MeltPinsModel.fewest(I)I
def k_57 : List mzO := [(0, .iload_n 1, 0, 0, 0), (1, .i2l, 0, 0, 0), (2, .lconst 0, 0, 0, 0), (3, .ldc2_w 250, 2, 0, 0), (6, .invokestatic 50, 1, 2, 3), (9, .ifCond .eq 19, 0, 28, 0), (12, .aload_n 0, 0, 0, 0), (13, .aload_n 0, 0, 0, 0), (14, .sipush 10000, 0, 0, 0), (17, .iconst 1, 0, 0, 0), (18, .invokevirtual 252, 1, 55, 3), (21, .iload_n 1, 0, 0, 0), (22, .invokevirtual 255, 1, 56, 3), (25, .goto 9, 0, 34, 0), (28, .aload_n 0, 0, 0, 0), (29, .ldc 49, (-1000001), 0, 0), (31, .invokevirtual 60, 1, 1, 2), (34, .ireturn, 0, 0, 0)]
theorem gd_57 : mzGd 57 k_57 := mz_gd (k := 0) (by decide +kernel) (by decide +kernel) (by decide +kernel)
-- MeltPinsModel.cheapest(I)I
def k_58 : List mzO := [(0, .iload_n 1, 0, 0, 0), (1, .i2l, 0, 0, 0), (2, .lconst 0, 0, 0, 0), (3, .ldc2_w 250, 2, 0, 0), (6, .invokestatic 50, 1, 2, 3), (9, .ifCond .eq 18, 0, 27, 0), (12, .aload_n 0, 0, 0, 0), (13, .aload_n 0, 0, 0, 0), (14, .iconst 1, 0, 0, 0), (15, .bipush 100, 0, 0, 0), (17, .invokevirtual 252, 1, 55, 3), (20, .iload_n 1, 0, 0, 0), (21, .invokevirtual 255, 1, 56, 3), (24, .goto 9, 0, 33, 0), (27, .aload_n 0, 0, 0, 0), (28, .ldc 49, (-1000001), 0, 0), (30, .invokevirtual 60, 1, 1, 2), (33, .ireturn, 0, 0, 0)]
theorem gd_58 : mzGd 58 k_58 := mz_gd (k := 0) (by decide +kernel) (by decide +kernel) (by decide +kernel)
-- MeltPinsModel.most(II)I
def k_59 : List mzO := [(0, .iload_n 1, 0, 0, 0), (1, .i2l, 0, 0, 0), (2, .lconst 0, 0, 0, 0), (3, .ldc2_w 257, 12, 0, 0), (6, .invokestatic 50, 1, 2, 3), (9, .ifCond .eq 13, 0, 22, 0), (12, .iload_n 2, 0, 0, 0), (13, .i2l, 0, 0, 0), (14, .lconst 0, 0, 0, 0), (15, .lconst 1, 0, 0, 0), (16, .invokestatic 50, 1, 2, 3), (19, .ifCond .ne 10, 0, 29, 0), (22, .aload_n 0, 0, 0, 0), (23, .ldc 49, (-1000001), 0, 0), (25, .invokevirtual 60, 1, 1, 2), (28, .ireturn, 0, 0, 0), (29, .iload_n 1, 0, 0, 0), (30, .aload_n 0, 0, 0, 0), (31, .getfield 9, 0, 0, 5), (34, .iconst 0, 0, 0, 0), (35, .iaload, 0, 0, 0), (36, .if_icmp .le 10, 0, 46, 0), (39, .aload_n 0, 0, 0, 0), (40, .ldc 186, (-1000004), 0, 0), (42, .invokevirtual 60, 1, 1, 2), (45, .ireturn, 0, 0, 0), (46, .aload_n 0, 0, 0, 0), (47, .invokevirtual 241, 0, 49, 1), (50, .iconst (-1), 0, 0, 0), (51, .istore_n 3, 0, 0, 0), (52, .iconst 0, 0, 0, 0), (53, .istore 4, 0, 0, 0), (55, .iload 4, 0, 0, 0), (57, .aload_n 0, 0, 0, 0), (58, .invokevirtual 54, 1, 7, 1), (61, .if_icmp .gt 47, 0, 108, 0), (64, .iload 4, 0, 0, 0), (66, .invokestatic 244, 1, 4, 1), (69, .iload_n 1, 0, 0, 0), (70, .if_icmp .ne 32, 0, 102, 0), (73, .iload_n 3, 0, 0, 0), (74, .ifCond .lt 25, 0, 99, 0), (77, .aload_n 0, 0, 0, 0), (78, .getfield 31, 0, 18, 5), (81, .iload 4, 0, 0, 0), (83, .iaload, 0, 0, 0), (84, .invokestatic 244, 1, 4, 1), (87, .aload_n 0, 0, 0, 0), (88, .getfield 31, 0, 18, 5), (91, .iload_n 3, 0, 0, 0), (92, .iaload, 0, 0, 0), (93, .invokestatic 244, 1, 4, 1), (96, .if_icmp .le 6, 0, 102, 0), (99, .iload 4, 0, 0, 0), (101, .istore_n 3, 0, 0, 0), (102, .iinc 4 1, 0, 0, 0), (105, .goto (-50), 0, 55, 0), (108, .iload_n 2, 0, 0, 0), (109, .ifCond .ne 7, 0, 116, 0), (112, .iload_n 3, 0, 0, 0), (113, .goto 12, 0, 125, 0), (116, .aload_n 0, 0, 0, 0), (117, .getfield 31, 0, 18, 5), (120, .iload_n 3, 0, 0, 0), (121, .iaload, 0, 0, 0), (122, .invokestatic 244, 1, 4, 1), (125, .ireturn, 0, 0, 0)]
theorem gd_59 : mzGd 59 k_59 := mz_gd (k := 0) (by decide +kernel) (by decide +kernel) (by decide +kernel)
-- MeltPinsModel.must()I
def k_60 : List mzO := [(0, .iconst 0, 0, 0, 0), (1, .istore_n 1, 0, 0, 0), (2, .iconst 0, 0, 0, 0), (3, .istore_n 2, 0, 0, 0), (4, .iload_n 2, 0, 0, 0), (5, .aload_n 0, 0, 0, 0), (6, .getfield 9, 0, 0, 5), (9, .iconst 0, 0, 0, 0), (10, .iaload, 0, 0, 0), (11, .if_icmp .ge 36, 0, 47, 0), (14, .iload_n 1, 0, 0, 0), (15, .aload_n 0, 0, 0, 0), (16, .iload_n 2, 0, 0, 0), (17, .aload_n 0, 0, 0, 0), (18, .invokevirtual 54, 1, 7, 1), (21, .invokevirtual 199, 1, 34, 3), (24, .aload_n 0, 0, 0, 0), (25, .iload_n 2, 0, 0, 0), (26, .invokevirtual 168, 1, 21, 2), (29, .if_icmp .ge 9, 0, 38, 0), (32, .iconst 1, 0, 0, 0), (33, .iload_n 2, 0, 0, 0), (34, .ishl, 0, 0, 0), (35, .goto 4, 0, 39, 0), (38, .iconst 0, 0, 0, 0), (39, .ior, 0, 0, 0), (40, .istore_n 1, 0, 0, 0), (41, .iinc 2 1, 0, 0, 0), (44, .goto (-40), 0, 4, 0), (47, .iload_n 1, 0, 0, 0), (48, .ireturn, 0, 0, 0)]
theorem gd_60 : mzGd 60 k_60 := mz_gd (k := 0) (by decide +kernel) (by decide +kernel) (by decide +kernel)
-- MeltPinsModel.tries(IIII)V
def k_61 : List mzO := [(0, .iload_n 1, 0, 0, 0), (1, .ifCond .ne 54, 0, 55, 0), (4, .aload_n 0, 0, 0, 0), (5, .aload_n 0, 0, 0, 0), (6, .invokevirtual 210, 1, 32, 1), (9, .invokevirtual 213, 0, 33, 2), (12, .aload_n 0, 0, 0, 0), (13, .bipush 49, 0, 0, 0), (15, .invokevirtual 238, 1, 51, 2), (18, .istore 5, 0, 0, 0), (20, .iload 5, 0, 0, 0), (22, .ifCond .lt 19, 0, 41, 0), (25, .aload_n 0, 0, 0, 0), (26, .getfield 259, 0, 20, 5), (29, .ifCond .le 13, 0, 42, 0), (32, .iload 5, 0, 0, 0), (34, .aload_n 0, 0, 0, 0), (35, .getfield 259, 0, 20, 5), (38, .if_icmp .lt 4, 0, 42, 0), (41, .return_, 0, 0, 0), (42, .aload_n 0, 0, 0, 0), (43, .iload 5, 0, 0, 0), (45, .putfield 259, 0, 20, 5), (48, .aload_n 0, 0, 0, 0), (49, .iload 4, 0, 0, 0), (51, .putfield 262, 0, 21, 5), (54, .return_, 0, 0, 0), (55, .iconst 0, 0, 0, 0), (56, .istore 5, 0, 0, 0), (58, .iload 5, 0, 0, 0), (60, .aload_n 0, 0, 0, 0), (61, .getfield 9, 0, 0, 5), (64, .iconst 0, 0, 0, 0), (65, .iaload, 0, 0, 0), (66, .if_icmp .ge 77, 0, 143, 0), (69, .iload_n 1, 0, 0, 0), (70, .iload 5, 0, 0, 0), (72, .invokestatic 196, 1, 3, 2), (75, .ifCond .ne 6, 0, 81, 0), (78, .goto 59, 0, 137, 0), (81, .aload_n 0, 0, 0, 0), (82, .getfield 34, 0, 19, 5), (85, .iload_n 2, 0, 0, 0), (86, .iload_n 3, 0, 0, 0), (87, .imul, 0, 0, 0), (88, .dup2, 0, 0, 0), (89, .iaload, 0, 0, 0), (90, .iconst 1, 0, 0, 0), (91, .iload 5, 0, 0, 0), (93, .ishl, 0, 0, 0), (94, .ior, 0, 0, 0), (95, .iastore, 0, 0, 0), (96, .aload_n 0, 0, 0, 0), (97, .iload_n 1, 0, 0, 0), (98, .iconst 1, 0, 0, 0), (99, .iload 5, 0, 0, 0), (101, .ishl, 0, 0, 0), (102, .iconst (-1), 0, 0, 0), (103, .ixor, 0, 0, 0), (104, .iand, 0, 0, 0), (105, .iload_n 2, 0, 0, 0), (106, .iload_n 3, 0, 0, 0), (107, .iconst 1, 0, 0, 0), (108, .iadd, 0, 0, 0), (109, .bipush 12, 0, 0, 0), (111, .iload 4, 0, 0, 0), (113, .imul, 0, 0, 0), (114, .iload 5, 0, 0, 0), (116, .iadd, 0, 0, 0), (117, .invokevirtual 265, 0, 61, 5), (120, .aload_n 0, 0, 0, 0), (121, .getfield 34, 0, 19, 5), (124, .iload_n 2, 0, 0, 0), (125, .iload_n 3, 0, 0, 0), (126, .imul, 0, 0, 0), (127, .dup2, 0, 0, 0), (128, .iaload, 0, 0, 0), (129, .iconst 1, 0, 0, 0), (130, .iload 5, 0, 0, 0), (132, .ishl, 0, 0, 0), (133, .iconst (-1), 0, 0, 0), (134, .ixor, 0, 0, 0), (135, .iand, 0, 0, 0), (136, .iastore, 0, 0, 0), (137, .iinc 5 1, 0, 0, 0), (140, .goto (-82), 0, 58, 0), (143, .return_, 0, 0, 0)]
theorem gd_61 : mzGd 61 k_61 := mz_gd (k := 0) (by decide +kernel) (by decide +kernel) (by decide +kernel)
-- MeltPinsModel.order(III)I
def k_62 : List mzO := [(0, .aload_n 0, 0, 0, 0), (1, .iload_n 1, 0, 0, 0), (2, .invokevirtual 232, 1, 8, 2), (5, .ifCond .eq 40, 0, 45, 0), (8, .iload_n 1, 0, 0, 0), (9, .invokestatic 244, 1, 4, 1), (12, .i2l, 0, 0, 0), (13, .lconst 1, 0, 0, 0), (14, .ldc2_w 58, 4, 0, 0), (17, .invokestatic 50, 1, 2, 3), (20, .ifCond .eq 25, 0, 45, 0), (23, .iload_n 2, 0, 0, 0), (24, .i2l, 0, 0, 0), (25, .lconst 0, 0, 0, 0), (26, .ldc2_w 269, 5, 0, 0), (29, .invokestatic 50, 1, 2, 3), (32, .ifCond .eq 13, 0, 45, 0), (35, .iload_n 3, 0, 0, 0), (36, .i2l, 0, 0, 0), (37, .lconst 0, 0, 0, 0), (38, .lconst 1, 0, 0, 0), (39, .invokestatic 50, 1, 2, 3), (42, .ifCond .ne 10, 0, 52, 0), (45, .aload_n 0, 0, 0, 0), (46, .ldc 49, (-1000001), 0, 0), (48, .invokevirtual 60, 1, 1, 2), (51, .ireturn, 0, 0, 0), (52, .aload_n 0, 0, 0, 0), (53, .invokevirtual 235, 0, 52, 1), (56, .aload_n 0, 0, 0, 0), (57, .iconst 0, 0, 0, 0), (58, .putfield 259, 0, 20, 5), (61, .aload_n 0, 0, 0, 0), (62, .iconst 0, 0, 0, 0), (63, .putfield 262, 0, 21, 5), (66, .aload_n 0, 0, 0, 0), (67, .iload_n 1, 0, 0, 0), (68, .iload_n 2, 0, 0, 0), (69, .iconst 0, 0, 0, 0), (70, .iconst 0, 0, 0, 0), (71, .invokevirtual 265, 0, 61, 5), (74, .aload_n 0, 0, 0, 0), (75, .getfield 259, 0, 20, 5), (78, .ifCond .ne 10, 0, 88, 0), (81, .aload_n 0, 0, 0, 0), (82, .ldc 186, (-1000004), 0, 0), (84, .invokevirtual 60, 1, 1, 2), (87, .ireturn, 0, 0, 0), (88, .iload_n 3, 0, 0, 0), (89, .ifCond .ne 10, 0, 99, 0), (92, .aload_n 0, 0, 0, 0), (93, .getfield 259, 0, 20, 5), (96, .goto 7, 0, 103, 0), (99, .aload_n 0, 0, 0, 0), (100, .getfield 262, 0, 21, 5), (103, .ireturn, 0, 0, 0)]
theorem gd_62 : mzGd 62 k_62 := mz_gd (k := 0) (by decide +kernel) (by decide +kernel) (by decide +kernel)
-- MeltPinsModel.stop(II)I
def k_63 : List mzO := [(0, .aload_n 0, 0, 0, 0), (1, .iload_n 1, 0, 0, 0), (2, .invokevirtual 232, 1, 8, 2), (5, .ifCond .eq 13, 0, 18, 0), (8, .iload_n 2, 0, 0, 0), (9, .i2l, 0, 0, 0), (10, .lconst 0, 0, 0, 0), (11, .lconst 1, 0, 0, 0), (12, .invokestatic 50, 1, 2, 3), (15, .ifCond .ne 10, 0, 25, 0), (18, .aload_n 0, 0, 0, 0), (19, .ldc 49, (-1000001), 0, 0), (21, .invokevirtual 60, 1, 1, 2), (24, .ireturn, 0, 0, 0), (25, .aload_n 0, 0, 0, 0), (26, .invokevirtual 54, 1, 7, 1), (29, .iload_n 1, 0, 0, 0), (30, .iconst (-1), 0, 0, 0), (31, .ixor, 0, 0, 0), (32, .iand, 0, 0, 0), (33, .aload_n 0, 0, 0, 0), (34, .invokevirtual 210, 1, 32, 1), (37, .iconst (-1), 0, 0, 0), (38, .ixor, 0, 0, 0), (39, .iand, 0, 0, 0), (40, .istore_n 3, 0, 0, 0), (41, .iconst (-1), 0, 0, 0), (42, .istore 4, 0, 0, 0), (44, .iconst 0, 0, 0, 0), (45, .istore 5, 0, 0, 0), (47, .iconst 0, 0, 0, 0), (48, .istore 6, 0, 0, 0), (50, .iload 6, 0, 0, 0), (52, .aload_n 0, 0, 0, 0), (53, .invokevirtual 54, 1, 7, 1), (56, .if_icmp .gt 82, 0, 138, 0), (59, .iload 6, 0, 0, 0), (61, .iload_n 3, 0, 0, 0), (62, .iconst (-1), 0, 0, 0), (63, .ixor, 0, 0, 0), (64, .iand, 0, 0, 0), (65, .ifCond .eq 6, 0, 71, 0), (68, .goto 64, 0, 132, 0), (71, .sipush 10000, 0, 0, 0), (74, .iload 6, 0, 0, 0), (76, .invokestatic 244, 1, 4, 1), (79, .imul, 0, 0, 0), (80, .aload_n 0, 0, 0, 0), (81, .iload 6, 0, 0, 0), (83, .iconst 5, 0, 0, 0), (84, .invokevirtual 247, 1, 54, 3), (87, .iadd, 0, 0, 0), (88, .istore 7, 0, 0, 0), (90, .iload 4, 0, 0, 0), (92, .ifCond .lt 10, 0, 102, 0), (95, .iload 7, 0, 0, 0), (97, .iload 5, 0, 0, 0), (99, .if_icmp .ge 33, 0, 132, 0), (102, .aload_n 0, 0, 0, 0), (103, .iload_n 1, 0, 0, 0), (104, .aload_n 0, 0, 0, 0), (105, .invokevirtual 210, 1, 32, 1), (108, .iload 6, 0, 0, 0), (110, .ior, 0, 0, 0), (111, .invokevirtual 229, 1, 48, 3), (114, .iload_n 1, 0, 0, 0), (115, .iconst (-1), 0, 0, 0), (116, .ixor, 0, 0, 0), (117, .iand, 0, 0, 0), (118, .ifCond .eq 6, 0, 124, 0), (121, .goto 11, 0, 132, 0), (124, .iload 6, 0, 0, 0), (126, .istore 4, 0, 0, 0), (128, .iload 7, 0, 0, 0), (130, .istore 5, 0, 0, 0), (132, .iinc 6 1, 0, 0, 0), (135, .goto (-85), 0, 50, 0), (138, .iload_n 2, 0, 0, 0), (139, .ifCond .ne 8, 0, 147, 0), (142, .iload 4, 0, 0, 0), (144, .goto 10, 0, 154, 0), (147, .aload_n 0, 0, 0, 0), (148, .iload 4, 0, 0, 0), (150, .iconst 5, 0, 0, 0), (151, .invokevirtual 247, 1, 54, 3), (154, .ireturn, 0, 0, 0)]
theorem gd_63 : mzGd 63 k_63 := mz_gd (k := 0) (by decide +kernel) (by decide +kernel) (by decide +kernel)
-- MeltPinsModel.brings(I)Z
def k_64 : List mzO := [(0, .aload_n 0, 0, 0, 0), (1, .iload_n 1, 0, 0, 0), (2, .aload_n 0, 0, 0, 0), (3, .invokevirtual 210, 1, 32, 1), (6, .invokevirtual 229, 1, 48, 3), (9, .aload_n 0, 0, 0, 0), (10, .invokevirtual 54, 1, 7, 1), (13, .if_icmp .ne 7, 0, 20, 0), (16, .iconst 1, 0, 0, 0), (17, .goto 4, 0, 21, 0), (20, .iconst 0, 0, 0, 0), (21, .ireturn, 0, 0, 1)]
theorem gd_64 : mzGd 64 k_64 := mz_gd (k := 0) (by decide +kernel) (by decide +kernel) (by decide +kernel)
-- MeltPinsModel.keepBars()V
def k_65 : List mzO := [(0, .iconst 0, 0, 0, 0), (1, .istore_n 1, 0, 0, 0), (2, .iload_n 1, 0, 0, 0), (3, .aload_n 0, 0, 0, 0), (4, .getfield 9, 0, 0, 5), (7, .iconst 0, 0, 0, 0), (8, .iaload, 0, 0, 0), (9, .if_icmp .ge 21, 0, 30, 0), (12, .aload_n 0, 0, 0, 0), (13, .getfield 37, 0, 22, 5), (16, .iload_n 1, 0, 0, 0), (17, .aload_n 0, 0, 0, 0), (18, .iload_n 1, 0, 0, 0), (19, .iconst 1, 0, 0, 0), (20, .invokevirtual 163, 1, 5, 3), (23, .iastore, 0, 0, 0), (24, .iinc 1 1, 0, 0, 0), (27, .goto (-25), 0, 2, 0), (30, .return_, 0, 0, 0)]
theorem gd_65 : mzGd 65 k_65 := mz_gd (k := 0) (by decide +kernel) (by decide +kernel) (by decide +kernel)
-- MeltPinsModel.giveBars(I)V
def k_66 : List mzO := [(0, .iconst 0, 0, 0, 0), (1, .istore_n 2, 0, 0, 0), (2, .iload_n 2, 0, 0, 0), (3, .aload_n 0, 0, 0, 0), (4, .getfield 9, 0, 0, 5), (7, .iconst 0, 0, 0, 0), (8, .iaload, 0, 0, 0), (9, .if_icmp .ge 46, 0, 55, 0), (12, .aload_n 0, 0, 0, 0), (13, .getfield 9, 0, 0, 5), (16, .iconst 4, 0, 0, 0), (17, .bipush 10, 0, 0, 0), (19, .iload_n 2, 0, 0, 0), (20, .imul, 0, 0, 0), (21, .iadd, 0, 0, 0), (22, .iconst 1, 0, 0, 0), (23, .iadd, 0, 0, 0), (24, .aload_n 0, 0, 0, 0), (25, .getfield 37, 0, 22, 5), (28, .iload_n 2, 0, 0, 0), (29, .iaload, 0, 0, 0), (30, .iload_n 1, 0, 0, 0), (31, .isub, 0, 0, 0), (32, .iconst 1, 0, 0, 0), (33, .if_icmp .ge 7, 0, 40, 0), (36, .iconst 1, 0, 0, 0), (37, .goto 11, 0, 48, 0), (40, .aload_n 0, 0, 0, 0), (41, .getfield 37, 0, 22, 5), (44, .iload_n 2, 0, 0, 0), (45, .iaload, 0, 0, 0), (46, .iload_n 1, 0, 0, 0), (47, .isub, 0, 0, 0), (48, .iastore, 0, 0, 0), (49, .iinc 2 1, 0, 0, 0), (52, .goto (-50), 0, 2, 0), (55, .return_, 0, 0, 0)]
theorem gd_66 : mzGd 66 k_66 := mz_gd (k := 0) (by decide +kernel) (by decide +kernel) (by decide +kernel)
-- MeltPinsModel.near(I)I
def k_67 : List mzO := [(0, .aload_n 0, 0, 0, 0), (1, .iload_n 1, 0, 0, 0), (2, .invokevirtual 232, 1, 8, 2), (5, .ifCond .ne 10, 0, 15, 0), (8, .aload_n 0, 0, 0, 0), (9, .ldc 49, (-1000001), 0, 0), (11, .invokevirtual 60, 1, 1, 2), (14, .ireturn, 0, 0, 0), (15, .aload_n 0, 0, 0, 0), (16, .invokevirtual 271, 0, 65, 1), (19, .iconst (-1), 0, 0, 0), (20, .istore_n 2, 0, 0, 0), (21, .iconst 0, 0, 0, 0), (22, .istore_n 3, 0, 0, 0), (23, .iload_n 3, 0, 0, 0), (24, .bipush 99, 0, 0, 0), (26, .if_icmp .ge 32, 0, 58, 0), (29, .iload_n 2, 0, 0, 0), (30, .ifCond .ge 28, 0, 58, 0), (33, .aload_n 0, 0, 0, 0), (34, .iload_n 3, 0, 0, 0), (35, .invokevirtual 274, 0, 66, 2), (38, .aload_n 0, 0, 0, 0), (39, .iload_n 1, 0, 0, 0), (40, .invokevirtual 277, 1, 64, 2), (43, .ifCond .eq 7, 0, 50, 0), (46, .iload_n 3, 0, 0, 0), (47, .goto 4, 0, 51, 0), (50, .iconst (-1), 0, 0, 0), (51, .istore_n 2, 0, 0, 0), (52, .iinc 3 1, 0, 0, 0), (55, .goto (-32), 0, 23, 0), (58, .aload_n 0, 0, 0, 0), (59, .iconst 0, 0, 0, 0), (60, .invokevirtual 274, 0, 66, 2), (63, .iload_n 2, 0, 0, 0), (64, .ifCond .ge 12, 0, 76, 0), (67, .aload_n 0, 0, 0, 0), (68, .ldc 186, (-1000004), 0, 0), (70, .invokevirtual 60, 1, 1, 2), (73, .goto 4, 0, 77, 0), (76, .iload_n 2, 0, 0, 0), (77, .ireturn, 0, 0, 0)]
theorem gd_67 : mzGd 67 k_67 := mz_gd (k := 0) (by decide +kernel) (by decide +kernel) (by decide +kernel)
-- MeltPinsModel.edge(II)I
def k_68 : List mzO := [(0, .aload_n 0, 0, 0, 0), (1, .iload_n 1, 0, 0, 0), (2, .invokevirtual 232, 1, 8, 2), (5, .ifCond .eq 11, 0, 16, 0), (8, .aload_n 0, 0, 0, 0), (9, .iload_n 2, 0, 0, 0), (10, .invokevirtual 149, 1, 6, 2), (13, .ifCond .ne 10, 0, 23, 0), (16, .aload_n 0, 0, 0, 0), (17, .ldc 49, (-1000001), 0, 0), (19, .invokevirtual 60, 1, 1, 2), (22, .ireturn, 0, 0, 0), (23, .iconst 4, 0, 0, 0), (24, .bipush 10, 0, 0, 0), (26, .iload_n 2, 0, 0, 0), (27, .imul, 0, 0, 0), (28, .iadd, 0, 0, 0), (29, .iconst 1, 0, 0, 0), (30, .iadd, 0, 0, 0), (31, .istore_n 3, 0, 0, 0), (32, .aload_n 0, 0, 0, 0), (33, .getfield 9, 0, 0, 5), (36, .iload_n 3, 0, 0, 0), (37, .iaload, 0, 0, 0), (38, .istore 4, 0, 0, 0), (40, .iconst (-1), 0, 0, 0), (41, .istore 5, 0, 0, 0), (43, .bipush 99, 0, 0, 0), (45, .istore 6, 0, 0, 0), (47, .iload 6, 0, 0, 0), (49, .ifCond .le 38, 0, 87, 0), (52, .iload 5, 0, 0, 0), (54, .ifCond .ge 33, 0, 87, 0), (57, .aload_n 0, 0, 0, 0), (58, .getfield 9, 0, 0, 5), (61, .iload_n 3, 0, 0, 0), (62, .iload 6, 0, 0, 0), (64, .iastore, 0, 0, 0), (65, .aload_n 0, 0, 0, 0), (66, .iload_n 1, 0, 0, 0), (67, .invokevirtual 277, 1, 64, 2), (70, .ifCond .eq 8, 0, 78, 0), (73, .iload 6, 0, 0, 0), (75, .goto 4, 0, 79, 0), (78, .iconst (-1), 0, 0, 0), (79, .istore 5, 0, 0, 0), (81, .iinc 6 (-1), 0, 0, 0), (84, .goto (-37), 0, 47, 0), (87, .aload_n 0, 0, 0, 0), (88, .getfield 9, 0, 0, 5), (91, .iload_n 3, 0, 0, 0), (92, .iload 4, 0, 0, 0), (94, .iastore, 0, 0, 0), (95, .iload 5, 0, 0, 0), (97, .ifCond .ge 12, 0, 109, 0), (100, .aload_n 0, 0, 0, 0), (101, .ldc 186, (-1000004), 0, 0), (103, .invokevirtual 60, 1, 1, 2), (106, .goto 5, 0, 111, 0), (109, .iload 5, 0, 0, 0), (111, .ireturn, 0, 0, 0)]
theorem gd_68 : mzGd 68 k_68 := mz_gd (k := 0) (by decide +kernel) (by decide +kernel) (by decide +kernel)
-- MeltPinsModel.look()I
def k_69 : List mzO := [(0, .iconst (-1), 0, 0, 0), (1, .istore_n 1, 0, 0, 0), (2, .iconst 0, 0, 0, 0), (3, .istore_n 2, 0, 0, 0), (4, .iconst 0, 0, 0, 0), (5, .istore_n 3, 0, 0, 0), (6, .iload_n 3, 0, 0, 0), (7, .aload_n 0, 0, 0, 0), (8, .getfield 9, 0, 0, 5), (11, .iconst 0, 0, 0, 0), (12, .iaload, 0, 0, 0), (13, .if_icmp .ge 43, 0, 56, 0), (16, .aload_n 0, 0, 0, 0), (17, .iconst 1, 0, 0, 0), (18, .iload_n 3, 0, 0, 0), (19, .ishl, 0, 0, 0), (20, .aload_n 0, 0, 0, 0), (21, .invokevirtual 210, 1, 32, 1), (24, .invokevirtual 229, 1, 48, 3), (27, .invokestatic 244, 1, 4, 1), (30, .istore 4, 0, 0, 0), (32, .iload_n 1, 0, 0, 0), (33, .ifCond .lt 12, 0, 45, 0), (36, .iload 4, 0, 0, 0), (38, .iload_n 2, 0, 0, 0), (39, .if_icmp .gt 6, 0, 45, 0), (42, .goto 8, 0, 50, 0), (45, .iload_n 3, 0, 0, 0), (46, .istore_n 1, 0, 0, 0), (47, .iload 4, 0, 0, 0), (49, .istore_n 2, 0, 0, 0), (50, .iinc 3 1, 0, 0, 0), (53, .goto (-47), 0, 6, 0), (56, .iload_n 1, 0, 0, 0), (57, .ifCond .ge 12, 0, 69, 0), (60, .aload_n 0, 0, 0, 0), (61, .ldc 186, (-1000004), 0, 0), (63, .invokevirtual 60, 1, 1, 2), (66, .goto 4, 0, 70, 0), (69, .iload_n 1, 0, 0, 0), (70, .ireturn, 0, 0, 0)]
theorem gd_69 : mzGd 69 k_69 := mz_gd (k := 0) (by decide +kernel) (by decide +kernel) (by decide +kernel)
-- MeltPinsModel.likely()J
def k_70 : List mzO := [(0, .aload_n 0, 0, 0, 0), (1, .invokevirtual 241, 0, 49, 1), (4, .lconst 0, 0, 0, 0), (5, .lstore_n 1, 0, 0, 0), (6, .iconst 0, 0, 0, 0), (7, .istore_n 3, 0, 0, 0), (8, .iload_n 3, 0, 0, 0), (9, .aload_n 0, 0, 0, 0), (10, .invokevirtual 54, 1, 7, 1), (13, .if_icmp .gt 91, 0, 104, 0), (16, .aload_n 0, 0, 0, 0), (17, .getfield 31, 0, 18, 5), (20, .iload_n 3, 0, 0, 0), (21, .iaload, 0, 0, 0), (22, .aload_n 0, 0, 0, 0), (23, .invokevirtual 54, 1, 7, 1), (26, .if_icmp .eq 6, 0, 32, 0), (29, .goto 69, 0, 98, 0), (32, .lconst 1, 0, 0, 0), (33, .lstore 4, 0, 0, 0), (35, .iconst 0, 0, 0, 0), (36, .istore 6, 0, 0, 0), (38, .iload 6, 0, 0, 0), (40, .aload_n 0, 0, 0, 0), (41, .getfield 9, 0, 0, 5), (44, .iconst 0, 0, 0, 0), (45, .iaload, 0, 0, 0), (46, .if_icmp .ge 47, 0, 93, 0), (49, .lload 4, 0, 0, 0), (51, .iload_n 3, 0, 0, 0), (52, .iload 6, 0, 0, 0), (54, .invokestatic 196, 1, 3, 2), (57, .ifCond .eq 15, 0, 72, 0), (60, .aload_n 0, 0, 0, 0), (61, .iload 6, 0, 0, 0), (63, .bipush 6, 0, 0, 0), (65, .invokevirtual 163, 1, 5, 3), (68, .i2l, 0, 0, 0), (69, .goto 15, 0, 84, 0), (72, .bipush 10, 0, 0, 0), (74, .aload_n 0, 0, 0, 0), (75, .iload 6, 0, 0, 0), (77, .bipush 6, 0, 0, 0), (79, .invokevirtual 163, 1, 5, 3), (82, .isub, 0, 0, 0), (83, .i2l, 0, 0, 0), (84, .lmul, 0, 0, 0), (85, .lstore 4, 0, 0, 0), (87, .iinc 6 1, 0, 0, 0), (90, .goto (-52), 0, 38, 0), (93, .lload_n 1, 0, 0, 0), (94, .lload 4, 0, 0, 0), (96, .ladd, 0, 0, 0), (97, .lstore_n 1, 0, 0, 0), (98, .iinc 3 1, 0, 0, 0), (101, .goto (-93), 0, 8, 0), (104, .lload_n 1, 0, 0, 0), (105, .lreturn, 0, 0, 0)]
theorem gd_70 : mzGd 70 k_70 := mz_gd (k := 0) (by decide +kernel) (by decide +kernel) (by decide +kernel)
-- MeltPinsModel.century(I)I
def k_71 : List mzO := [(0, .iload_n 1, 0, 0, 0), (1, .i2l, 0, 0, 0), (2, .lconst 1, 0, 0, 0), (3, .ldc2_w 280, 50, 0, 0), (6, .invokestatic 50, 1, 2, 3), (9, .ifCond .ne 10, 0, 19, 0), (12, .aload_n 0, 0, 0, 0), (13, .ldc 49, (-1000001), 0, 0), (15, .invokevirtual 60, 1, 1, 2), (18, .ireturn, 0, 0, 0), (19, .iconst 0, 0, 0, 0), (20, .istore_n 2, 0, 0, 0), (21, .iconst 0, 0, 0, 0), (22, .istore_n 3, 0, 0, 0), (23, .iload_n 3, 0, 0, 0), (24, .iload_n 1, 0, 0, 0), (25, .if_icmp .ge 105, 0, 130, 0), (28, .iconst 0, 0, 0, 0), (29, .istore 4, 0, 0, 0), (31, .iconst 0, 0, 0, 0), (32, .istore 5, 0, 0, 0), (34, .iload 5, 0, 0, 0), (36, .aload_n 0, 0, 0, 0), (37, .getfield 9, 0, 0, 5), (40, .iconst 0, 0, 0, 0), (41, .iaload, 0, 0, 0), (42, .if_icmp .ge 65, 0, 107, 0), (45, .aload_n 0, 0, 0, 0), (46, .getfield 9, 0, 0, 5), (49, .iconst 3, 0, 0, 0), (50, .aload_n 0, 0, 0, 0), (51, .getfield 9, 0, 0, 5), (54, .iconst 3, 0, 0, 0), (55, .iaload, 0, 0, 0), (56, .ldc_w 282, 1103515245, 0, 0), (59, .imul, 0, 0, 0), (60, .sipush 12345, 0, 0, 0), (63, .iadd, 0, 0, 0), (64, .iastore, 0, 0, 0), (65, .iload 4, 0, 0, 0), (67, .aload_n 0, 0, 0, 0), (68, .getfield 9, 0, 0, 5), (71, .iconst 3, 0, 0, 0), (72, .iaload, 0, 0, 0), (73, .bipush 8, 0, 0, 0), (75, .iushr, 0, 0, 0), (76, .bipush 10, 0, 0, 0), (78, .irem, 0, 0, 0), (79, .aload_n 0, 0, 0, 0), (80, .iload 5, 0, 0, 0), (82, .bipush 6, 0, 0, 0), (84, .invokevirtual 163, 1, 5, 3), (87, .if_icmp .ge 10, 0, 97, 0), (90, .iconst 1, 0, 0, 0), (91, .iload 5, 0, 0, 0), (93, .ishl, 0, 0, 0), (94, .goto 4, 0, 98, 0), (97, .iconst 0, 0, 0, 0), (98, .ior, 0, 0, 0), (99, .istore 4, 0, 0, 0), (101, .iinc 5 1, 0, 0, 0), (104, .goto (-70), 0, 34, 0), (107, .iload_n 2, 0, 0, 0), (108, .aload_n 0, 0, 0, 0), (109, .iload 4, 0, 0, 0), (111, .invokevirtual 277, 1, 64, 2), (114, .ifCond .eq 7, 0, 121, 0), (117, .iconst 1, 0, 0, 0), (118, .goto 4, 0, 122, 0), (121, .iconst 0, 0, 0, 0), (122, .iadd, 0, 0, 0), (123, .istore_n 2, 0, 0, 0), (124, .iinc 3 1, 0, 0, 0), (127, .goto (-104), 0, 23, 0), (130, .iload_n 2, 0, 0, 0), (131, .ireturn, 0, 0, 0)]
theorem gd_71 : mzGd 71 k_71 := mz_gd (k := 0) (by decide +kernel) (by decide +kernel) (by decide +kernel)
-- MeltPinsModel.seed(I)I
def k_72 : List mzO := [(0, .aload_n 0, 0, 0, 0), (1, .getfield 9, 0, 0, 5), (4, .iconst 3, 0, 0, 0), (5, .iaload, 0, 0, 0), (6, .istore_n 2, 0, 0, 0), (7, .aload_n 0, 0, 0, 0), (8, .getfield 9, 0, 0, 5), (11, .iconst 3, 0, 0, 0), (12, .iload_n 1, 0, 0, 0), (13, .iastore, 0, 0, 0), (14, .iload_n 2, 0, 0, 0), (15, .ireturn, 0, 0, 0)]
theorem gd_72 : mzGd 72 k_72 := mz_gd (k := 0) (by decide +kernel) (by decide +kernel) (by decide +kernel)
-- MeltPinsModel.ones(III)I
def k_73 : List mzO := [(0, .iload_n 1, 0, 0, 0), (1, .ifCond .ne 13, 0, 14, 0), (4, .aload_n 0, 0, 0, 0), (5, .iload_n 2, 0, 0, 0), (6, .iload_n 3, 0, 0, 0), (7, .invokevirtual 229, 1, 48, 3), (10, .invokestatic 244, 1, 4, 1), (13, .ireturn, 0, 0, 0), (14, .aload_n 0, 0, 0, 0), (15, .invokevirtual 54, 1, 7, 1), (18, .iload_n 2, 0, 0, 0), (19, .iconst (-1), 0, 0, 0), (20, .ixor, 0, 0, 0), (21, .iand, 0, 0, 0), (22, .iload_n 3, 0, 0, 0), (23, .iconst (-1), 0, 0, 0), (24, .ixor, 0, 0, 0), (25, .iand, 0, 0, 0), (26, .istore 4, 0, 0, 0), (28, .iload 4, 0, 0, 0), (30, .ifCond .ne 11, 0, 41, 0), (33, .aload_n 0, 0, 0, 0), (34, .iload_n 1, 0, 0, 0), (35, .iload_n 2, 0, 0, 0), (36, .iload_n 3, 0, 0, 0), (37, .invokevirtual 283, 1, 74, 4), (40, .ireturn, 0, 0, 0), (41, .iconst (-1), 0, 0, 0), (42, .istore 5, 0, 0, 0), (44, .iconst 0, 0, 0, 0), (45, .istore 6, 0, 0, 0), (47, .iload 6, 0, 0, 0), (49, .aload_n 0, 0, 0, 0), (50, .getfield 9, 0, 0, 5), (53, .iconst 0, 0, 0, 0), (54, .iaload, 0, 0, 0), (55, .if_icmp .ge 53, 0, 108, 0), (58, .iload 4, 0, 0, 0), (60, .iload 6, 0, 0, 0), (62, .invokestatic 196, 1, 3, 2), (65, .ifCond .eq 18, 0, 83, 0), (68, .aload_n 0, 0, 0, 0), (69, .iload_n 1, 0, 0, 0), (70, .iload_n 2, 0, 0, 0), (71, .iconst 1, 0, 0, 0), (72, .iload 6, 0, 0, 0), (74, .ishl, 0, 0, 0), (75, .ior, 0, 0, 0), (76, .iload_n 3, 0, 0, 0), (77, .invokevirtual 283, 1, 74, 4), (80, .goto 4, 0, 84, 0), (83, .iconst (-1), 0, 0, 0), (84, .istore 7, 0, 0, 0), (86, .iload 7, 0, 0, 0), (88, .iload 5, 0, 0, 0), (90, .if_icmp .le 8, 0, 98, 0), (93, .iload 7, 0, 0, 0), (95, .goto 5, 0, 100, 0), (98, .iload 5, 0, 0, 0), (100, .istore 5, 0, 0, 0), (102, .iinc 6 1, 0, 0, 0), (105, .goto (-58), 0, 47, 0), (108, .iload 5, 0, 0, 0), (110, .ireturn, 0, 0, 0)]
theorem gd_73 : mzGd 73 k_73 := mz_gd (k := 0) (by decide +kernel) (by decide +kernel) (by decide +kernel)
-- MeltPinsModel.others(III)I
def k_74 : List mzO := [(0, .aload_n 0, 0, 0, 0), (1, .invokevirtual 54, 1, 7, 1), (4, .iload_n 2, 0, 0, 0), (5, .iconst (-1), 0, 0, 0), (6, .ixor, 0, 0, 0), (7, .iand, 0, 0, 0), (8, .iload_n 3, 0, 0, 0), (9, .iconst (-1), 0, 0, 0), (10, .ixor, 0, 0, 0), (11, .iand, 0, 0, 0), (12, .istore 4, 0, 0, 0), (14, .iload 4, 0, 0, 0), (16, .ifCond .ne 13, 0, 29, 0), (19, .aload_n 0, 0, 0, 0), (20, .iload_n 1, 0, 0, 0), (21, .iconst 1, 0, 0, 0), (22, .isub, 0, 0, 0), (23, .iload_n 2, 0, 0, 0), (24, .iload_n 3, 0, 0, 0), (25, .invokevirtual 287, 1, 73, 4), (28, .ireturn, 0, 0, 0), (29, .bipush 13, 0, 0, 0), (31, .istore 5, 0, 0, 0), (33, .iconst 0, 0, 0, 0), (34, .istore 6, 0, 0, 0), (36, .iload 6, 0, 0, 0), (38, .aload_n 0, 0, 0, 0), (39, .getfield 9, 0, 0, 5), (42, .iconst 0, 0, 0, 0), (43, .iaload, 0, 0, 0), (44, .if_icmp .ge 56, 0, 100, 0), (47, .iload 4, 0, 0, 0), (49, .iload 6, 0, 0, 0), (51, .invokestatic 196, 1, 3, 2), (54, .ifCond .eq 20, 0, 74, 0), (57, .aload_n 0, 0, 0, 0), (58, .iload_n 1, 0, 0, 0), (59, .iconst 1, 0, 0, 0), (60, .isub, 0, 0, 0), (61, .iload_n 2, 0, 0, 0), (62, .iload_n 3, 0, 0, 0), (63, .iconst 1, 0, 0, 0), (64, .iload 6, 0, 0, 0), (66, .ishl, 0, 0, 0), (67, .ior, 0, 0, 0), (68, .invokevirtual 287, 1, 73, 4), (71, .goto 5, 0, 76, 0), (74, .bipush 13, 0, 0, 0), (76, .istore 7, 0, 0, 0), (78, .iload 7, 0, 0, 0), (80, .iload 5, 0, 0, 0), (82, .if_icmp .ge 8, 0, 90, 0), (85, .iload 7, 0, 0, 0), (87, .goto 5, 0, 92, 0), (90, .iload 5, 0, 0, 0), (92, .istore 5, 0, 0, 0), (94, .iinc 6 1, 0, 0, 0), (97, .goto (-61), 0, 36, 0), (100, .iload 5, 0, 0, 0), (102, .ireturn, 0, 0, 0)]
theorem gd_74 : mzGd 74 k_74 := mz_gd (k := 0) (by decide +kernel) (by decide +kernel) (by decide +kernel)
-- MeltPinsModel.game(II)I
def k_75 : List mzO := [(0, .iload_n 1, 0, 0, 0), (1, .i2l, 0, 0, 0), (2, .lconst 1, 0, 0, 0), (3, .ldc2_w 250, 2, 0, 0), (6, .invokestatic 50, 1, 2, 3), (9, .ifCond .eq 13, 0, 22, 0), (12, .iload_n 2, 0, 0, 0), (13, .i2l, 0, 0, 0), (14, .lconst 0, 0, 0, 0), (15, .lconst 1, 0, 0, 0), (16, .invokestatic 50, 1, 2, 3), (19, .ifCond .ne 10, 0, 29, 0), (22, .aload_n 0, 0, 0, 0), (23, .ldc 49, (-1000001), 0, 0), (25, .invokevirtual 60, 1, 1, 2), (28, .ireturn, 0, 0, 0), (29, .aload_n 0, 0, 0, 0), (30, .invokevirtual 210, 1, 32, 1), (33, .istore_n 3, 0, 0, 0), (34, .aload_n 0, 0, 0, 0), (35, .iload_n 1, 0, 0, 0), (36, .iconst 0, 0, 0, 0), (37, .iload_n 3, 0, 0, 0), (38, .invokevirtual 287, 1, 73, 4), (41, .istore 4, 0, 0, 0), (43, .iload_n 2, 0, 0, 0), (44, .ifCond .ne 6, 0, 50, 0), (47, .iload 4, 0, 0, 0), (49, .ireturn, 0, 0, 0), (50, .iconst 0, 0, 0, 0), (51, .istore 5, 0, 0, 0), (53, .iload 5, 0, 0, 0), (55, .aload_n 0, 0, 0, 0), (56, .getfield 9, 0, 0, 5), (59, .iconst 0, 0, 0, 0), (60, .iaload, 0, 0, 0), (61, .if_icmp .ge 36, 0, 97, 0), (64, .iload_n 3, 0, 0, 0), (65, .iload 5, 0, 0, 0), (67, .invokestatic 196, 1, 3, 2), (70, .ifCond .ne 21, 0, 91, 0), (73, .aload_n 0, 0, 0, 0), (74, .iload_n 1, 0, 0, 0), (75, .iconst 1, 0, 0, 0), (76, .iload 5, 0, 0, 0), (78, .ishl, 0, 0, 0), (79, .iload_n 3, 0, 0, 0), (80, .invokevirtual 283, 1, 74, 4), (83, .iload 4, 0, 0, 0), (85, .if_icmp .ne 6, 0, 91, 0), (88, .iload 5, 0, 0, 0), (90, .ireturn, 0, 0, 0), (91, .iinc 5 1, 0, 0, 0), (94, .goto (-41), 0, 53, 0), (97, .iconst (-1), 0, 0, 0), (98, .ireturn, 0, 0, 0)]
theorem gd_75 : mzGd 75 k_75 := mz_gd (k := 0) (by decide +kernel) (by decide +kernel) (by decide +kernel)
-- MeltPinsModel.isSheet(I)Z
def k_76 : List mzO := [(0, .iload_n 0, 0, 0, 0), (1, .i2l, 0, 0, 0), (2, .lconst 0, 0, 0, 0), (3, .ldc2_w 290, 3, 0, 0), (6, .invokestatic 50, 1, 2, 3), (9, .ireturn, 0, 0, 1)]
theorem gd_76 : mzGd 76 k_76 := mz_gd (k := 0) (by decide +kernel) (by decide +kernel) (by decide +kernel)
-- MeltPinsModel.isFirst(II)Z
def k_77 : List mzO := [(0, .aload_n 0, 0, 0, 0), (1, .aload_n 0, 0, 0, 0), (2, .invokevirtual 210, 1, 32, 1), (5, .invokevirtual 213, 0, 33, 2), (8, .iconst 0, 0, 0, 0), (9, .istore_n 3, 0, 0, 0), (10, .iconst 1, 0, 0, 0), (11, .istore 4, 0, 0, 0), (13, .iload 4, 0, 0, 0), (15, .bipush 24, 0, 0, 0), (17, .if_icmp .gt 87, 0, 104, 0), (20, .aload_n 0, 0, 0, 0), (21, .iload 4, 0, 0, 0), (23, .iconst 1, 0, 0, 0), (24, .if_icmp .ne 7, 0, 31, 0), (27, .iload_n 1, 0, 0, 0), (28, .goto 4, 0, 32, 0), (31, .iconst 0, 0, 0, 0), (32, .invokevirtual 220, 1, 38, 2), (35, .pop, 0, 0, 0), (36, .iconst 0, 0, 0, 0), (37, .istore 5, 0, 0, 0), (39, .iload 5, 0, 0, 0), (41, .aload_n 0, 0, 0, 0), (42, .getfield 9, 0, 0, 5), (45, .iconst 0, 0, 0, 0), (46, .iaload, 0, 0, 0), (47, .if_icmp .ge 44, 0, 91, 0), (50, .aload_n 0, 0, 0, 0), (51, .getfield 187, 0, 13, 5), (54, .iload_n 3, 0, 0, 0), (55, .iconst (-1), 0, 0, 0), (56, .ixor, 0, 0, 0), (57, .iand, 0, 0, 0), (58, .iload 5, 0, 0, 0), (60, .invokestatic 196, 1, 3, 2), (63, .ifCond .eq 22, 0, 85, 0), (66, .aload_n 0, 0, 0, 0), (67, .getfield 46, 0, 25, 5), (70, .bipush 40, 0, 0, 0), (72, .iload_n 2, 0, 0, 0), (73, .imul, 0, 0, 0), (74, .iload 5, 0, 0, 0), (76, .iadd, 0, 0, 0), (77, .iaload, 0, 0, 0), (78, .iload 4, 0, 0, 0), (80, .if_icmp .eq 5, 0, 85, 0), (83, .iconst 0, 0, 0, 0), (84, .ireturn, 0, 0, 1), (85, .iinc 5 1, 0, 0, 0), (88, .goto (-49), 0, 39, 0), (91, .iload_n 3, 0, 0, 0), (92, .aload_n 0, 0, 0, 0), (93, .getfield 187, 0, 13, 5), (96, .ior, 0, 0, 0), (97, .istore_n 3, 0, 0, 0), (98, .iinc 4 1, 0, 0, 0), (101, .goto (-88), 0, 13, 0), (104, .iconst 0, 0, 0, 0), (105, .istore 4, 0, 0, 0), (107, .iload 4, 0, 0, 0), (109, .aload_n 0, 0, 0, 0), (110, .getfield 9, 0, 0, 5), (113, .iconst 0, 0, 0, 0), (114, .iaload, 0, 0, 0), (115, .if_icmp .ge 35, 0, 150, 0), (118, .iload_n 3, 0, 0, 0), (119, .iload 4, 0, 0, 0), (121, .invokestatic 196, 1, 3, 2), (124, .ifCond .ne 20, 0, 144, 0), (127, .aload_n 0, 0, 0, 0), (128, .getfield 46, 0, 25, 5), (131, .bipush 40, 0, 0, 0), (133, .iload_n 2, 0, 0, 0), (134, .imul, 0, 0, 0), (135, .iload 4, 0, 0, 0), (137, .iadd, 0, 0, 0), (138, .iaload, 0, 0, 0), (139, .ifCond .eq 5, 0, 144, 0), (142, .iconst 0, 0, 0, 0), (143, .ireturn, 0, 0, 1), (144, .iinc 4 1, 0, 0, 0), (147, .goto (-40), 0, 107, 0), (150, .iconst 1, 0, 0, 0), (151, .ireturn, 0, 0, 1)]
theorem gd_77 : mzGd 77 k_77 := mz_gd (k := 0) (by decide +kernel) (by decide +kernel) (by decide +kernel)
-- MeltPinsModel.first(I)I
def k_78 : List mzO := [(0, .iload_n 1, 0, 0, 0), (1, .invokestatic 292, 1, 76, 1), (4, .ifCond .ne 10, 0, 14, 0), (7, .aload_n 0, 0, 0, 0), (8, .ldc 49, (-1000001), 0, 0), (10, .invokevirtual 60, 1, 1, 2), (13, .ireturn, 0, 0, 0), (14, .aload_n 0, 0, 0, 0), (15, .getfield 40, 0, 23, 5), (18, .iload_n 1, 0, 0, 0), (19, .iaload, 0, 0, 0), (20, .ifCond .ne 11, 0, 31, 0), (23, .aload_n 0, 0, 0, 0), (24, .ldc_w 295, (-1000006), 0, 0), (27, .invokevirtual 60, 1, 1, 2), (30, .ireturn, 0, 0, 0), (31, .iconst (-1), 0, 0, 0), (32, .istore_n 2, 0, 0, 0), (33, .iconst 0, 0, 0, 0), (34, .istore_n 3, 0, 0, 0), (35, .iload_n 3, 0, 0, 0), (36, .aload_n 0, 0, 0, 0), (37, .invokevirtual 54, 1, 7, 1), (40, .if_icmp .gt 50, 0, 90, 0), (43, .aload_n 0, 0, 0, 0), (44, .getfield 43, 0, 24, 5), (47, .iload_n 1, 0, 0, 0), (48, .iaload, 0, 0, 0), (49, .aload_n 0, 0, 0, 0), (50, .getfield 9, 0, 0, 5), (53, .iconst 0, 0, 0, 0), (54, .iaload, 0, 0, 0), (55, .if_icmp .ne 35, 0, 90, 0), (58, .iload_n 2, 0, 0, 0), (59, .ifCond .lt 14, 0, 73, 0), (62, .iload_n 3, 0, 0, 0), (63, .invokestatic 244, 1, 4, 1), (66, .iload_n 2, 0, 0, 0), (67, .invokestatic 244, 1, 4, 1), (70, .if_icmp .ge 14, 0, 84, 0), (73, .aload_n 0, 0, 0, 0), (74, .iload_n 3, 0, 0, 0), (75, .iload_n 1, 0, 0, 0), (76, .invokevirtual 296, 1, 77, 3), (79, .ifCond .eq 5, 0, 84, 0), (82, .iload_n 3, 0, 0, 0), (83, .istore_n 2, 0, 0, 0), (84, .iinc 3 1, 0, 0, 0), (87, .goto (-52), 0, 35, 0), (90, .iload_n 2, 0, 0, 0), (91, .ifCond .ge 12, 0, 103, 0), (94, .aload_n 0, 0, 0, 0), (95, .ldc 186, (-1000004), 0, 0), (97, .invokevirtual 60, 1, 1, 2), (100, .goto 4, 0, 104, 0), (103, .iload_n 2, 0, 0, 0), (104, .ireturn, 0, 0, 0)]
theorem gd_78 : mzGd 78 k_78 := mz_gd (k := 0) (by decide +kernel) (by decide +kernel) (by decide +kernel)
-- MeltPinsModel.judge(I)I
def k_79 : List mzO := [(0, .iload_n 1, 0, 0, 0), (1, .invokestatic 292, 1, 76, 1), (4, .ifCond .ne 10, 0, 14, 0), (7, .aload_n 0, 0, 0, 0), (8, .ldc 49, (-1000001), 0, 0), (10, .invokevirtual 60, 1, 1, 2), (13, .ireturn, 0, 0, 0), (14, .aload_n 0, 0, 0, 0), (15, .getfield 40, 0, 23, 5), (18, .iload_n 1, 0, 0, 0), (19, .iaload, 0, 0, 0), (20, .ifCond .ne 11, 0, 31, 0), (23, .aload_n 0, 0, 0, 0), (24, .ldc_w 295, (-1000006), 0, 0), (27, .invokevirtual 60, 1, 1, 2), (30, .ireturn, 0, 0, 0), (31, .aload_n 0, 0, 0, 0), (32, .aload_n 0, 0, 0, 0), (33, .invokevirtual 210, 1, 32, 1), (36, .invokevirtual 213, 0, 33, 2), (39, .iconst 0, 0, 0, 0), (40, .istore_n 2, 0, 0, 0), (41, .iload_n 2, 0, 0, 0), (42, .aload_n 0, 0, 0, 0), (43, .getfield 43, 0, 24, 5), (46, .iload_n 1, 0, 0, 0), (47, .iaload, 0, 0, 0), (48, .if_icmp .ge 44, 0, 92, 0), (51, .aload_n 0, 0, 0, 0), (52, .aload_n 0, 0, 0, 0), (53, .iload_n 2, 0, 0, 0), (54, .invokevirtual 217, 1, 39, 2), (57, .invokevirtual 220, 1, 38, 2), (60, .pop, 0, 0, 0), (61, .aload_n 0, 0, 0, 0), (62, .getfield 46, 0, 25, 5), (65, .bipush 40, 0, 0, 0), (67, .iload_n 1, 0, 0, 0), (68, .imul, 0, 0, 0), (69, .iload_n 2, 0, 0, 0), (70, .iadd, 0, 0, 0), (71, .iaload, 0, 0, 0), (72, .aload_n 0, 0, 0, 0), (73, .getfield 187, 0, 13, 5), (76, .invokestatic 244, 1, 4, 1), (79, .if_icmp .eq 7, 0, 86, 0), (82, .iconst 1, 0, 0, 0), (83, .iload_n 2, 0, 0, 0), (84, .iadd, 0, 0, 0), (85, .ireturn, 0, 0, 0), (86, .iinc 2 1, 0, 0, 0), (89, .goto (-48), 0, 41, 0), (92, .iconst 0, 0, 0, 0), (93, .ireturn, 0, 0, 0)]
theorem gd_79 : mzGd 79 k_79 := mz_gd (k := 0) (by decide +kernel) (by decide +kernel) (by decide +kernel)
-- MeltPinsModel.spot(II)I
def k_80 : List mzO := [(0, .iload_n 1, 0, 0, 0), (1, .i2l, 0, 0, 0), (2, .lconst 0, 0, 0, 0), (3, .ldc2_w 173, 9, 0, 0), (6, .invokestatic 50, 1, 2, 3), (9, .ifCond .eq 16, 0, 25, 0), (12, .iload_n 2, 0, 0, 0), (13, .iconst (-1), 0, 0, 0), (14, .if_icmp .eq 18, 0, 32, 0), (17, .aload_n 0, 0, 0, 0), (18, .iload_n 2, 0, 0, 0), (19, .invokevirtual 149, 1, 6, 2), (22, .ifCond .ne 10, 0, 32, 0), (25, .aload_n 0, 0, 0, 0), (26, .ldc 49, (-1000001), 0, 0), (28, .invokevirtual 60, 1, 1, 2), (31, .ireturn, 0, 0, 0), (32, .aload_n 0, 0, 0, 0), (33, .getfield 9, 0, 0, 5), (36, .sipush 308, 0, 0, 0), (39, .iload_n 1, 0, 0, 0), (40, .iadd, 0, 0, 0), (41, .iload_n 2, 0, 0, 0), (42, .iastore, 0, 0, 0), (43, .iconst 1, 0, 0, 0), (44, .ireturn, 0, 0, 0)]
theorem gd_80 : mzGd 80 k_80 := mz_gd (k := 0) (by decide +kernel) (by decide +kernel) (by decide +kernel)
-- MeltPinsModel.above(I)I
def k_81 : List mzO := [(0, .iload_n 0, 0, 0, 0), (1, .tableswitch 47 0 5 #[39, 41, 41, 43, 43, 45], 0, 39, 0), (40, .iconst (-1), 0, 0, 0), (41, .ireturn, 0, 0, 0), (42, .iconst 0, 0, 0, 0), (43, .ireturn, 0, 0, 0), (44, .iconst 1, 0, 0, 0), (45, .ireturn, 0, 0, 0), (46, .iconst 2, 0, 0, 0), (47, .ireturn, 0, 0, 0), (48, .iconst 3, 0, 0, 0), (49, .ireturn, 0, 0, 0)]
theorem gd_81 : mzGd 81 k_81 := mz_gd (k := 0) (by decide +kernel) (by decide +kernel) (by decide +kernel)
-- MeltPinsModel.as(II)I
def k_82 : List mzO := [(0, .iload_n 1, 0, 0, 0), (1, .i2l, 0, 0, 0), (2, .lconst 0, 0, 0, 0), (3, .ldc2_w 173, 9, 0, 0), (6, .invokestatic 50, 1, 2, 3), (9, .ifCond .eq 15, 0, 24, 0), (12, .iload_n 2, 0, 0, 0), (13, .i2l, 0, 0, 0), (14, .lconst 0, 0, 0, 0), (15, .ldc2_w 299, 6, 0, 0), (18, .invokestatic 50, 1, 2, 3), (21, .ifCond .ne 10, 0, 31, 0), (24, .aload_n 0, 0, 0, 0), (25, .ldc 49, (-1000001), 0, 0), (27, .invokevirtual 60, 1, 1, 2), (30, .ireturn, 0, 0, 0), (31, .aload_n 0, 0, 0, 0), (32, .getfield 9, 0, 0, 5), (35, .sipush 308, 0, 0, 0), (38, .iload_n 1, 0, 0, 0), (39, .iadd, 0, 0, 0), (40, .iaload, 0, 0, 0), (41, .istore_n 3, 0, 0, 0), (42, .iload_n 3, 0, 0, 0), (43, .ifCond .ge 11, 0, 54, 0), (46, .aload_n 0, 0, 0, 0), (47, .ldc_w 295, (-1000006), 0, 0), (50, .invokevirtual 60, 1, 1, 2), (53, .ireturn, 0, 0, 0), (54, .aload_n 0, 0, 0, 0), (55, .iload_n 3, 0, 0, 0), (56, .iconst 0, 0, 0, 0), (57, .invokevirtual 163, 1, 5, 3), (60, .istore 4, 0, 0, 0), (62, .iload 4, 0, 0, 0), (64, .ifCond .lt 21, 0, 85, 0), (67, .iload 4, 0, 0, 0), (69, .iload_n 2, 0, 0, 0), (70, .if_icmp .ne 5, 0, 75, 0), (73, .iload_n 3, 0, 0, 0), (74, .ireturn, 0, 0, 0), (75, .iload 4, 0, 0, 0), (77, .invokestatic 301, 1, 81, 1), (80, .istore 4, 0, 0, 0), (82, .goto (-20), 0, 62, 0), (85, .aload_n 0, 0, 0, 0), (86, .ldc_w 304, (-1000003), 0, 0), (89, .invokevirtual 60, 1, 1, 2), (92, .ireturn, 0, 0, 0)]
theorem gd_82 : mzGd 82 k_82 := mz_gd (k := 0) (by decide +kernel) (by decide +kernel) (by decide +kernel)
-- MeltPinsModel.sheet(III)I
def k_83 : List mzO := [(0, .iload_n 1, 0, 0, 0), (1, .invokestatic 292, 1, 76, 1), (4, .ifCond .eq 25, 0, 29, 0), (7, .iload_n 2, 0, 0, 0), (8, .ifCond .eq 28, 0, 36, 0), (11, .iload_n 2, 0, 0, 0), (12, .bipush 8, 0, 0, 0), (14, .if_icmp .eq 22, 0, 36, 0), (17, .iload_n 2, 0, 0, 0), (18, .bipush 16, 0, 0, 0), (20, .if_icmp .eq 16, 0, 36, 0), (23, .iload_n 2, 0, 0, 0), (24, .bipush 32, 0, 0, 0), (26, .if_icmp .eq 10, 0, 36, 0), (29, .aload_n 0, 0, 0, 0), (30, .ldc 49, (-1000001), 0, 0), (32, .invokevirtual 60, 1, 1, 2), (35, .ireturn, 0, 0, 0), (36, .iload_n 3, 0, 0, 0), (37, .ifCond .ge 11, 0, 48, 0), (40, .aload_n 0, 0, 0, 0), (41, .ldc_w 305, (-1000007), 0, 0), (44, .invokevirtual 60, 1, 1, 2), (47, .ireturn, 0, 0, 0), (48, .iload_n 3, 0, 0, 0), (49, .bipush 40, 0, 0, 0), (51, .if_icmp .le 10, 0, 61, 0), (54, .aload_n 0, 0, 0, 0), (55, .ldc 49, (-1000001), 0, 0), (57, .invokevirtual 60, 1, 1, 2), (60, .ireturn, 0, 0, 0), (61, .aload_n 0, 0, 0, 0), (62, .getfield 40, 0, 23, 5), (65, .iload_n 1, 0, 0, 0), (66, .iload_n 2, 0, 0, 0), (67, .iastore, 0, 0, 0), (68, .aload_n 0, 0, 0, 0), (69, .getfield 43, 0, 24, 5), (72, .iload_n 1, 0, 0, 0), (73, .iload_n 2, 0, 0, 0), (74, .ifCond .ne 7, 0, 81, 0), (77, .iconst 0, 0, 0, 0), (78, .goto 4, 0, 82, 0), (81, .iload_n 3, 0, 0, 0), (82, .iastore, 0, 0, 0), (83, .iconst 0, 0, 0, 0), (84, .istore 4, 0, 0, 0), (86, .iload 4, 0, 0, 0), (88, .bipush 40, 0, 0, 0), (90, .if_icmp .ge 22, 0, 112, 0), (93, .aload_n 0, 0, 0, 0), (94, .getfield 46, 0, 25, 5), (97, .bipush 40, 0, 0, 0), (99, .iload_n 1, 0, 0, 0), (100, .imul, 0, 0, 0), (101, .iload 4, 0, 0, 0), (103, .iadd, 0, 0, 0), (104, .iconst 0, 0, 0, 0), (105, .iastore, 0, 0, 0), (106, .iinc 4 1, 0, 0, 0), (109, .goto (-23), 0, 86, 0), (112, .aload_n 0, 0, 0, 0), (113, .getfield 43, 0, 24, 5), (116, .iload_n 1, 0, 0, 0), (117, .iaload, 0, 0, 0), (118, .ireturn, 0, 0, 0)]
theorem gd_83 : mzGd 83 k_83 := mz_gd (k := 0) (by decide +kernel) (by decide +kernel) (by decide +kernel)
-- MeltPinsModel.write(III)I
def k_84 : List mzO := [(0, .iload_n 1, 0, 0, 0), (1, .invokestatic 292, 1, 76, 1), (4, .ifCond .ne 10, 0, 14, 0), (7, .aload_n 0, 0, 0, 0), (8, .ldc 49, (-1000001), 0, 0), (10, .invokevirtual 60, 1, 1, 2), (13, .ireturn, 0, 0, 0), (14, .aload_n 0, 0, 0, 0), (15, .getfield 40, 0, 23, 5), (18, .iload_n 1, 0, 0, 0), (19, .iaload, 0, 0, 0), (20, .ifCond .ne 11, 0, 31, 0), (23, .aload_n 0, 0, 0, 0), (24, .ldc_w 295, (-1000006), 0, 0), (27, .invokevirtual 60, 1, 1, 2), (30, .ireturn, 0, 0, 0), (31, .iload_n 2, 0, 0, 0), (32, .i2l, 0, 0, 0), (33, .lconst 0, 0, 0, 0), (34, .aload_n 0, 0, 0, 0), (35, .getfield 43, 0, 24, 5), (38, .iload_n 1, 0, 0, 0), (39, .iaload, 0, 0, 0), (40, .iconst 1, 0, 0, 0), (41, .isub, 0, 0, 0), (42, .i2l, 0, 0, 0), (43, .invokestatic 50, 1, 2, 3), (46, .ifCond .ne 10, 0, 56, 0), (49, .aload_n 0, 0, 0, 0), (50, .ldc 49, (-1000001), 0, 0), (52, .invokevirtual 60, 1, 1, 2), (55, .ireturn, 0, 0, 0), (56, .aload_n 0, 0, 0, 0), (57, .getfield 46, 0, 25, 5), (60, .bipush 40, 0, 0, 0), (62, .iload_n 1, 0, 0, 0), (63, .imul, 0, 0, 0), (64, .iload_n 2, 0, 0, 0), (65, .iadd, 0, 0, 0), (66, .aload_n 0, 0, 0, 0), (67, .getfield 40, 0, 23, 5), (70, .iload_n 1, 0, 0, 0), (71, .iaload, 0, 0, 0), (72, .bipush 8, 0, 0, 0), (74, .if_icmp .ne 8, 0, 82, 0), (77, .iload_n 3, 0, 0, 0), (78, .i2b, 0, 0, 0), (79, .goto 20, 0, 99, 0), (82, .aload_n 0, 0, 0, 0), (83, .getfield 40, 0, 23, 5), (86, .iload_n 1, 0, 0, 0), (87, .iaload, 0, 0, 0), (88, .bipush 16, 0, 0, 0), (90, .if_icmp .ne 8, 0, 98, 0), (93, .iload_n 3, 0, 0, 0), (94, .i2s, 0, 0, 0), (95, .goto 4, 0, 99, 0), (98, .iload_n 3, 0, 0, 0), (99, .iastore, 0, 0, 0), (100, .iconst 1, 0, 0, 0), (101, .ireturn, 0, 0, 0)]
theorem gd_84 : mzGd 84 k_84 := mz_gd (k := 0) (by decide +kernel) (by decide +kernel) (by decide +kernel)
-- MeltPinsModel.copy(IIIII)I
def k_85 : List mzO := [(0, .iload_n 1, 0, 0, 0), (1, .invokestatic 292, 1, 76, 1), (4, .ifCond .eq 10, 0, 14, 0), (7, .iload_n 3, 0, 0, 0), (8, .invokestatic 292, 1, 76, 1), (11, .ifCond .ne 10, 0, 21, 0), (14, .aload_n 0, 0, 0, 0), (15, .ldc 49, (-1000001), 0, 0), (17, .invokevirtual 60, 1, 1, 2), (20, .ireturn, 0, 0, 0), (21, .aload_n 0, 0, 0, 0), (22, .getfield 40, 0, 23, 5), (25, .iload_n 1, 0, 0, 0), (26, .iaload, 0, 0, 0), (27, .ifCond .eq 12, 0, 39, 0), (30, .aload_n 0, 0, 0, 0), (31, .getfield 40, 0, 23, 5), (34, .iload_n 3, 0, 0, 0), (35, .iaload, 0, 0, 0), (36, .ifCond .ne 11, 0, 47, 0), (39, .aload_n 0, 0, 0, 0), (40, .ldc_w 295, (-1000006), 0, 0), (43, .invokevirtual 60, 1, 1, 2), (46, .ireturn, 0, 0, 0), (47, .aload_n 0, 0, 0, 0), (48, .getfield 40, 0, 23, 5), (51, .iload_n 1, 0, 0, 0), (52, .iaload, 0, 0, 0), (53, .aload_n 0, 0, 0, 0), (54, .getfield 40, 0, 23, 5), (57, .iload_n 3, 0, 0, 0), (58, .iaload, 0, 0, 0), (59, .if_icmp .eq 11, 0, 70, 0), (62, .aload_n 0, 0, 0, 0), (63, .ldc_w 304, (-1000003), 0, 0), (66, .invokevirtual 60, 1, 1, 2), (69, .ireturn, 0, 0, 0), (70, .iload 5, 0, 0, 0), (72, .ifCond .lt 39, 0, 111, 0), (75, .iload_n 2, 0, 0, 0), (76, .ifCond .lt 35, 0, 111, 0), (79, .iload 4, 0, 0, 0), (81, .ifCond .lt 30, 0, 111, 0), (84, .iload 5, 0, 0, 0), (86, .aload_n 0, 0, 0, 0), (87, .getfield 43, 0, 24, 5), (90, .iload_n 1, 0, 0, 0), (91, .iaload, 0, 0, 0), (92, .iload_n 2, 0, 0, 0), (93, .isub, 0, 0, 0), (94, .if_icmp .gt 17, 0, 111, 0), (97, .iload 5, 0, 0, 0), (99, .aload_n 0, 0, 0, 0), (100, .getfield 43, 0, 24, 5), (103, .iload_n 3, 0, 0, 0), (104, .iaload, 0, 0, 0), (105, .iload 4, 0, 0, 0), (107, .isub, 0, 0, 0), (108, .if_icmp .le 10, 0, 118, 0), (111, .aload_n 0, 0, 0, 0), (112, .ldc 49, (-1000001), 0, 0), (114, .invokevirtual 60, 1, 1, 2), (117, .ireturn, 0, 0, 0), (118, .iload_n 1, 0, 0, 0), (119, .iload_n 3, 0, 0, 0), (120, .if_icmp .ne 13, 0, 133, 0), (123, .iload_n 2, 0, 0, 0), (124, .iload 4, 0, 0, 0), (126, .if_icmp .ge 7, 0, 133, 0), (129, .iconst 1, 0, 0, 0), (130, .goto 4, 0, 134, 0), (133, .iconst 0, 0, 0, 0), (134, .istore 6, 0, 0, 0), (136, .iconst 0, 0, 0, 0), (137, .istore 7, 0, 0, 0), (139, .iload 7, 0, 0, 0), (141, .iload 5, 0, 0, 0), (143, .if_icmp .ge 57, 0, 200, 0), (146, .iload 6, 0, 0, 0), (148, .ifCond .eq 13, 0, 161, 0), (151, .iload 5, 0, 0, 0), (153, .iconst 1, 0, 0, 0), (154, .isub, 0, 0, 0), (155, .iload 7, 0, 0, 0), (157, .isub, 0, 0, 0), (158, .goto 5, 0, 163, 0), (161, .iload 7, 0, 0, 0), (163, .istore 8, 0, 0, 0), (165, .aload_n 0, 0, 0, 0), (166, .getfield 46, 0, 25, 5), (169, .bipush 40, 0, 0, 0), (171, .iload_n 3, 0, 0, 0), (172, .imul, 0, 0, 0), (173, .iload 4, 0, 0, 0), (175, .iadd, 0, 0, 0), (176, .iload 8, 0, 0, 0), (178, .iadd, 0, 0, 0), (179, .aload_n 0, 0, 0, 0), (180, .getfield 46, 0, 25, 5), (183, .bipush 40, 0, 0, 0), (185, .iload_n 1, 0, 0, 0), (186, .imul, 0, 0, 0), (187, .iload_n 2, 0, 0, 0), (188, .iadd, 0, 0, 0), (189, .iload 8, 0, 0, 0), (191, .iadd, 0, 0, 0), (192, .iaload, 0, 0, 0), (193, .iastore, 0, 0, 0), (194, .iinc 7 1, 0, 0, 0), (197, .goto (-58), 0, 139, 0), (200, .iload 5, 0, 0, 0), (202, .ireturn, 0, 0, 0)]
theorem gd_85 : mzGd 85 k_85 := mz_gd (k := 0) (by decide +kernel) (by decide +kernel) (by decide +kernel)
-- MeltPinsModel.image()I
def k_86 : List mzO := [(0, .iconst 0, 0, 0, 0), (1, .istore_n 1, 0, 0, 0), (2, .iload_n 1, 0, 0, 0), (3, .sipush 318, 0, 0, 0), (6, .if_icmp .ge 21, 0, 27, 0), (9, .aload_n 0, 0, 0, 0), (10, .getfield 13, 0, 1, 5), (13, .iload_n 1, 0, 0, 0), (14, .aload_n 0, 0, 0, 0), (15, .getfield 9, 0, 0, 5), (18, .iload_n 1, 0, 0, 0), (19, .iaload, 0, 0, 0), (20, .iastore, 0, 0, 0), (21, .iinc 1 1, 0, 0, 0), (24, .goto (-22), 0, 2, 0), (27, .aload_n 0, 0, 0, 0), (28, .iconst 1, 0, 0, 0), (29, .putfield 306, 0, 2, 105), (32, .iconst 1, 0, 0, 0), (33, .ireturn, 0, 0, 0)]
theorem gd_86 : mzGd 86 k_86 := mz_gd (k := 0) (by decide +kernel) (by decide +kernel) (by decide +kernel)
-- MeltPinsModel.undo()I
def k_87 : List mzO := [(0, .aload_n 0, 0, 0, 0), (1, .getfield 306, 0, 2, 105), (4, .ifCond .ne 10, 0, 14, 0), (7, .aload_n 0, 0, 0, 0), (8, .ldc 186, (-1000004), 0, 0), (10, .invokevirtual 60, 1, 1, 2), (13, .ireturn, 0, 0, 0), (14, .iconst 0, 0, 0, 0), (15, .istore_n 1, 0, 0, 0), (16, .iload_n 1, 0, 0, 0), (17, .sipush 318, 0, 0, 0), (20, .if_icmp .ge 21, 0, 41, 0), (23, .aload_n 0, 0, 0, 0), (24, .getfield 9, 0, 0, 5), (27, .iload_n 1, 0, 0, 0), (28, .aload_n 0, 0, 0, 0), (29, .getfield 13, 0, 1, 5), (32, .iload_n 1, 0, 0, 0), (33, .iaload, 0, 0, 0), (34, .iastore, 0, 0, 0), (35, .iinc 1 1, 0, 0, 0), (38, .goto (-22), 0, 16, 0), (41, .aload_n 0, 0, 0, 0), (42, .iconst 0, 0, 0, 0), (43, .putfield 160, 0, 4, 105), (46, .aload_n 0, 0, 0, 0), (47, .getfield 9, 0, 0, 5), (50, .iconst 0, 0, 0, 0), (51, .iaload, 0, 0, 0), (52, .ireturn, 0, 0, 0)]
theorem gd_87 : mzGd 87 k_87 := mz_gd (k := 0) (by decide +kernel) (by decide +kernel) (by decide +kernel)
-- MeltPinsModel.tear()I
def k_88 : List mzO := [(0, .aload_n 0, 0, 0, 0), (1, .getfield 306, 0, 2, 105), (4, .ifCond .eq 7, 0, 11, 0), (7, .iconst 1, 0, 0, 0), (8, .goto 4, 0, 12, 0), (11, .iconst 0, 0, 0, 0), (12, .istore_n 1, 0, 0, 0), (13, .aload_n 0, 0, 0, 0), (14, .iconst 0, 0, 0, 0), (15, .putfield 306, 0, 2, 105), (18, .iload_n 1, 0, 0, 0), (19, .ireturn, 0, 0, 0)]
theorem gd_88 : mzGd 88 k_88 := mz_gd (k := 0) (by decide +kernel) (by decide +kernel) (by decide +kernel)
-- MeltPinsModel.count(I)I
def k_89 : List mzO := [(0, .iconst 0, 0, 0, 0), (1, .istore_n 2, 0, 0, 0), (2, .iload_n 1, 0, 0, 0), (3, .tableswitch 105 0 6 #[41, 41, 41, 48, 56, 61, 68], 0, 41, 0), (44, .aload_n 0, 0, 0, 0), (45, .getfield 9, 0, 0, 5), (48, .iload_n 1, 0, 0, 0), (49, .iaload, 0, 0, 0), (50, .ireturn, 0, 0, 0), (51, .aload_n 0, 0, 0, 0), (52, .invokevirtual 210, 1, 32, 1), (55, .invokestatic 244, 1, 4, 1), (58, .ireturn, 0, 0, 0), (59, .aload_n 0, 0, 0, 0), (60, .getfield 64, 0, 6, 5), (63, .ireturn, 0, 0, 0), (64, .aload_n 0, 0, 0, 0), (65, .getfield 9, 0, 0, 5), (68, .iconst 3, 0, 0, 0), (69, .iaload, 0, 0, 0), (70, .ireturn, 0, 0, 0), (71, .iconst 0, 0, 0, 0), (72, .istore_n 3, 0, 0, 0), (73, .iload_n 3, 0, 0, 0), (74, .bipush 10, 0, 0, 0), (76, .if_icmp .ge 30, 0, 106, 0), (79, .iload_n 2, 0, 0, 0), (80, .aload_n 0, 0, 0, 0), (81, .getfield 9, 0, 0, 5), (84, .sipush 308, 0, 0, 0), (87, .iload_n 3, 0, 0, 0), (88, .iadd, 0, 0, 0), (89, .iaload, 0, 0, 0), (90, .ifCond .lt 7, 0, 97, 0), (93, .iconst 1, 0, 0, 0), (94, .goto 4, 0, 98, 0), (97, .iconst 0, 0, 0, 0), (98, .iadd, 0, 0, 0), (99, .istore_n 2, 0, 0, 0), (100, .iinc 3 1, 0, 0, 0), (103, .goto (-30), 0, 73, 0), (106, .iload_n 2, 0, 0, 0), (107, .ireturn, 0, 0, 0), (108, .aload_n 0, 0, 0, 0), (109, .ldc 49, (-1000001), 0, 0), (111, .invokevirtual 60, 1, 1, 2), (114, .ireturn, 0, 0, 0)]
theorem gd_89 : mzGd 89 k_89 := mz_gd (k := 0) (by decide +kernel) (by decide +kernel) (by decide +kernel)
-- MeltPinsModel.status(I)I
def k_90 : List mzO := [(0, .iload_n 1, 0, 0, 0), (1, .i2l, 0, 0, 0), (2, .ldc2_w 309, (-1), 0, 0), (5, .ldc2_w 299, 6, 0, 0), (8, .invokestatic 50, 1, 2, 3), (11, .ifCond .ne 10, 0, 21, 0), (14, .aload_n 0, 0, 0, 0), (15, .ldc 49, (-1000001), 0, 0), (17, .invokevirtual 60, 1, 1, 2), (20, .ireturn, 0, 0, 0), (21, .iconst 0, 0, 0, 0), (22, .istore_n 2, 0, 0, 0), (23, .iconst 0, 0, 0, 0), (24, .istore_n 3, 0, 0, 0), (25, .iload_n 3, 0, 0, 0), (26, .bipush 7, 0, 0, 0), (28, .if_icmp .ge 31, 0, 59, 0), (31, .iload_n 2, 0, 0, 0), (32, .iload_n 1, 0, 0, 0), (33, .ifCond .lt 8, 0, 41, 0), (36, .iload_n 1, 0, 0, 0), (37, .iload_n 3, 0, 0, 0), (38, .if_icmp .ne 12, 0, 50, 0), (41, .aload_n 0, 0, 0, 0), (42, .getfield 16, 0, 3, 5), (45, .iload_n 3, 0, 0, 0), (46, .iaload, 0, 0, 0), (47, .goto 4, 0, 51, 0), (50, .iconst 0, 0, 0, 0), (51, .iadd, 0, 0, 0), (52, .istore_n 2, 0, 0, 0), (53, .iinc 3 1, 0, 0, 0), (56, .goto (-31), 0, 25, 0), (59, .iload_n 2, 0, 0, 0), (60, .ireturn, 0, 0, 0)]
theorem gd_90 : mzGd 90 k_90 := mz_gd (k := 0) (by decide +kernel) (by decide +kernel) (by decide +kernel)
-- MeltPins$Sheet.lowestBits(I)I
def k_91 : List mzO := [(0, .aload_n 0, 0, 0, 0), (1, .getfield 15, 0, 0, 1), (4, .lookupswitch 34 #[(8, 28), (16, 31)], 0, 28, 0), (32, .iload_n 1, 0, 0, 0), (33, .i2b, 0, 0, 0), (34, .ireturn, 0, 0, 0), (35, .iload_n 1, 0, 0, 0), (36, .i2s, 0, 0, 0), (37, .ireturn, 0, 0, 0), (38, .iload_n 1, 0, 0, 0), (39, .ireturn, 0, 0, 0)]
theorem gd_91 : mzGd 91 k_91 := mz_gd (k := 0) (by decide +kernel) (by decide +kernel) (by decide +kernel)
-- MeltPins$Sheet.hasRow(II)Z
def k_92 : List mzO := [(0, .iload_n 1, 0, 0, 0), (1, .ifCond .lt 29, 0, 30, 0), (4, .iload_n 2, 0, 0, 0), (5, .ifCond .lt 25, 0, 30, 0), (8, .iload_n 1, 0, 0, 0), (9, .aload_n 0, 0, 0, 0), (10, .getfield 19, 0, 1, 1), (13, .if_icmp .gt 17, 0, 30, 0), (16, .iload_n 2, 0, 0, 0), (17, .aload_n 0, 0, 0, 0), (18, .getfield 19, 0, 1, 1), (21, .iload_n 1, 0, 0, 0), (22, .isub, 0, 0, 0), (23, .if_icmp .gt 7, 0, 30, 0), (26, .iconst 1, 0, 0, 0), (27, .goto 4, 0, 31, 0), (30, .iconst 0, 0, 0, 0), (31, .ireturn, 0, 0, 1)]
theorem gd_92 : mzGd 92 k_92 := mz_gd (k := 0) (by decide +kernel) (by decide +kernel) (by decide +kernel)
-- MeltPins$World.become(LMeltPins$World;)V
def k_93 : List mzO := [(0, .aload_n 0, 0, 0, 0), (1, .aload_n 1, 0, 0, 0), (2, .getfield 39, 0, 0, 3), (5, .putfield 39, 0, 0, 3), (8, .aload_n 0, 0, 0, 0), (9, .aload_n 1, 0, 0, 0), (10, .getfield 42, 0, 1, 3), (13, .putfield 42, 0, 1, 3), (16, .aload_n 0, 0, 0, 0), (17, .aload_n 1, 0, 0, 0), (18, .getfield 45, 0, 2, 3), (21, .putfield 45, 0, 2, 3), (24, .aload_n 0, 0, 0, 0), (25, .aload_n 1, 0, 0, 0), (26, .getfield 48, 0, 3, 3), (29, .putfield 48, 0, 3, 3), (32, .aload_n 0, 0, 0, 0), (33, .aload_n 1, 0, 0, 0), (34, .getfield 9, 0, 4, 3), (37, .putfield 9, 0, 4, 3), (40, .iconst 0, 0, 0, 0), (41, .istore_n 2, 0, 0, 0), (42, .iload_n 2, 0, 0, 0), (43, .bipush 12, 0, 0, 0), (45, .if_icmp .ge 47, 0, 92, 0), (48, .aload_n 1, 0, 0, 0), (49, .getfield 17, 0, 5, 3), (52, .iload_n 2, 0, 0, 0), (53, .aaload, 0, 0, 0), (54, .iconst 0, 0, 0, 0), (55, .aload_n 0, 0, 0, 0), (56, .getfield 17, 0, 5, 3), (59, .iload_n 2, 0, 0, 0), (60, .aaload, 0, 0, 0), (61, .iconst 0, 0, 0, 0), (62, .bipush 9, 0, 0, 0), (64, .invokestatic 51, 0, 0, 3), (67, .aload_n 1, 0, 0, 0), (68, .getfield 20, 0, 6, 3), (71, .iload_n 2, 0, 0, 0), (72, .aaload, 0, 0, 0), (73, .iconst 0, 0, 0, 0), (74, .aload_n 0, 0, 0, 0), (75, .getfield 20, 0, 6, 3), (78, .iload_n 2, 0, 0, 0), (79, .aaload, 0, 0, 0), (80, .iconst 0, 0, 0, 0), (81, .bipush 12, 0, 0, 0), (83, .invokestatic 51, 0, 0, 3), (86, .iinc 2 1, 0, 0, 0), (89, .goto (-47), 0, 42, 0), (92, .aload_n 1, 0, 0, 0), (93, .getfield 23, 0, 7, 3), (96, .iconst 0, 0, 0, 0), (97, .aload_n 0, 0, 0, 0), (98, .getfield 23, 0, 7, 3), (101, .iconst 0, 0, 0, 0), (102, .bipush 20, 0, 0, 0), (104, .invokestatic 51, 0, 0, 3), (107, .aload_n 1, 0, 0, 0), (108, .getfield 27, 0, 8, 3), (111, .iconst 0, 0, 0, 0), (112, .aload_n 0, 0, 0, 0), (113, .getfield 27, 0, 8, 3), (116, .iconst 0, 0, 0, 0), (117, .bipush 20, 0, 0, 0), (119, .invokestatic 51, 0, 0, 3), (122, .aload_n 1, 0, 0, 0), (123, .getfield 30, 0, 9, 3), (126, .iconst 0, 0, 0, 0), (127, .aload_n 0, 0, 0, 0), (128, .getfield 30, 0, 9, 3), (131, .iconst 0, 0, 0, 0), (132, .bipush 10, 0, 0, 0), (134, .invokestatic 51, 0, 0, 3), (137, .return_, 0, 0, 0)]
theorem gd_93 : mzGd 93 k_93 := mz_gd (k := 0) (by decide +kernel) (by decide +kernel) (by decide +kernel)
-- MeltPins$World.all()I
def k_94 : List mzO := [(0, .iconst 1, 0, 0, 0), (1, .aload_n 0, 0, 0, 0), (2, .getfield 39, 0, 0, 3), (5, .ishl, 0, 0, 0), (6, .iconst 1, 0, 0, 0), (7, .isub, 0, 0, 0), (8, .ireturn, 0, 0, 0)]
theorem gd_94 : mzGd 94 k_94 := mz_gd (k := 0) (by decide +kernel) (by decide +kernel) (by decide +kernel)
-- MeltPins$World.addPlace(II)[I
def k_95 : List mzO := [(0, .aload_n 0, 0, 0, 0), (1, .getfield 17, 0, 5, 3), (4, .aload_n 0, 0, 0, 0), (5, .getfield 39, 0, 0, 3), (8, .aaload, 0, 0, 0), (9, .astore_n 3, 0, 0, 0), (10, .aload_n 0, 0, 0, 0), (11, .dup, 0, 0, 0), (12, .getfield 39, 0, 0, 3), (15, .iconst 1, 0, 0, 0), (16, .iadd, 0, 0, 0), (17, .putfield 39, 0, 0, 3), (20, .aload_n 3, 0, 0, 0), (21, .iconst 0, 0, 0, 0), (22, .invokestatic 33, 0, 191, 2), (25, .aload_n 3, 0, 0, 0), (26, .iconst 0, 0, 0, 0), (27, .iload_n 1, 0, 0, 0), (28, .iastore, 0, 0, 0), (29, .aload_n 3, 0, 0, 0), (30, .iconst 1, 0, 0, 0), (31, .iload_n 2, 0, 0, 0), (32, .iastore, 0, 0, 0), (33, .aload_n 3, 0, 0, 0), (34, .iconst 4, 0, 0, 0), (35, .iconst 1, 0, 0, 0), (36, .iastore, 0, 0, 0), (37, .aload_n 3, 0, 0, 0), (38, .iconst 5, 0, 0, 0), (39, .iconst 1, 0, 0, 0), (40, .iastore, 0, 0, 0), (41, .aload_n 3, 0, 0, 0), (42, .bipush 7, 0, 0, 0), (44, .iconst (-1), 0, 0, 0), (45, .iastore, 0, 0, 0), (46, .aload_n 3, 0, 0, 0), (47, .areturn, 0, 0, 0)]
theorem gd_95 : mzGd 95 k_95 := mz_gd (k := 0) (by decide +kernel) (by decide +kernel) (by decide +kernel)
-- MeltPins$World.putTie(III)V
def k_96 : List mzO := [(0, .aload_n 0, 0, 0, 0), (1, .getfield 20, 0, 6, 3), (4, .iload_n 1, 0, 0, 0), (5, .aaload, 0, 0, 0), (6, .iload_n 2, 0, 0, 0), (7, .iaload, 0, 0, 0), (8, .ifCond .ne 13, 0, 21, 0), (11, .aload_n 0, 0, 0, 0), (12, .dup, 0, 0, 0), (13, .getfield 42, 0, 1, 3), (16, .iconst 1, 0, 0, 0), (17, .iadd, 0, 0, 0), (18, .putfield 42, 0, 1, 3), (21, .aload_n 0, 0, 0, 0), (22, .getfield 20, 0, 6, 3), (25, .iload_n 1, 0, 0, 0), (26, .aaload, 0, 0, 0), (27, .iload_n 2, 0, 0, 0), (28, .iload_n 3, 0, 0, 0), (29, .iastore, 0, 0, 0), (30, .return_, 0, 0, 0)]
theorem gd_96 : mzGd 96 k_96 := mz_gd (k := 0) (by decide +kernel) (by decide +kernel) (by decide +kernel)
-- MeltPins$World.heightOf(II)I
def k_97 : List mzO := [(0, .aload_n 0, 0, 0, 0), (1, .getfield 17, 0, 5, 3), (4, .iload_n 1, 0, 0, 0), (5, .aaload, 0, 0, 0), (6, .iconst 0, 0, 0, 0), (7, .iaload, 0, 0, 0), (8, .lookupswitch 55 #[(5, 36), (6, 28)], 0, 28, 0), (36, .iconst 1, 0, 0, 0), (37, .iload_n 2, 0, 0, 0), (38, .iconst 2, 0, 0, 0), (39, .idiv, 0, 0, 0), (40, .invokestatic 57, 0, 0, 1), (43, .ireturn, 0, 0, 0), (44, .iconst 1, 0, 0, 0), (45, .iload_n 2, 0, 0, 0), (46, .bipush 10, 0, 0, 0), (48, .aload_n 0, 0, 0, 0), (49, .getfield 17, 0, 5, 3), (52, .iload_n 1, 0, 0, 0), (53, .aaload, 0, 0, 0), (54, .bipush 8, 0, 0, 0), (56, .iaload, 0, 0, 0), (57, .imul, 0, 0, 0), (58, .isub, 0, 0, 0), (59, .invokestatic 57, 0, 0, 1), (62, .ireturn, 0, 0, 0), (63, .iload_n 2, 0, 0, 0), (64, .ireturn, 0, 0, 0)]
theorem gd_97 : mzGd 97 k_97 := mz_gd (k := 0) (by decide +kernel) (by decide +kernel) (by decide +kernel)
-- MeltPins$World.pushedIn(I)I
def k_98 : List mzO := [(0, .iconst 0, 0, 0, 0), (1, .istore_n 2, 0, 0, 0), (2, .iconst 0, 0, 0, 0), (3, .istore_n 3, 0, 0, 0), (4, .iload_n 3, 0, 0, 0), (5, .aload_n 0, 0, 0, 0), (6, .getfield 45, 0, 2, 3), (9, .if_icmp .ge 30, 0, 39, 0), (12, .aload_n 0, 0, 0, 0), (13, .getfield 23, 0, 7, 3), (16, .iload_n 3, 0, 0, 0), (17, .iaload, 0, 0, 0), (18, .iload_n 1, 0, 0, 0), (19, .if_icmp .ne 14, 0, 33, 0), (22, .iload_n 2, 0, 0, 0), (23, .iconst 1, 0, 0, 0), (24, .aload_n 0, 0, 0, 0), (25, .getfield 27, 0, 8, 3), (28, .iload_n 3, 0, 0, 0), (29, .iaload, 0, 0, 0), (30, .ishl, 0, 0, 0), (31, .ior, 0, 0, 0), (32, .istore_n 2, 0, 0, 0), (33, .iinc 3 1, 0, 0, 0), (36, .goto (-32), 0, 4, 0), (39, .iload_n 2, 0, 0, 0), (40, .ireturn, 0, 0, 0)]
theorem gd_98 : mzGd 98 k_98 := mz_gd (k := 0) (by decide +kernel) (by decide +kernel) (by decide +kernel)
-- MeltPins$World.sumOf(II)I
def k_99 : List mzO := [(0, .iconst 0, 0, 0, 0), (1, .istore_n 3, 0, 0, 0), (2, .iconst 0, 0, 0, 0), (3, .istore 4, 0, 0, 0), (5, .iload 4, 0, 0, 0), (7, .aload_n 0, 0, 0, 0), (8, .getfield 39, 0, 0, 3), (11, .if_icmp .ge 30, 0, 41, 0), (14, .iload_n 1, 0, 0, 0), (15, .iload 4, 0, 0, 0), (17, .ishr, 0, 0, 0), (18, .iconst 1, 0, 0, 0), (19, .iand, 0, 0, 0), (20, .ifCond .eq 15, 0, 35, 0), (23, .iload_n 3, 0, 0, 0), (24, .aload_n 0, 0, 0, 0), (25, .getfield 17, 0, 5, 3), (28, .iload 4, 0, 0, 0), (30, .aaload, 0, 0, 0), (31, .iload_n 2, 0, 0, 0), (32, .iaload, 0, 0, 0), (33, .iadd, 0, 0, 0), (34, .istore_n 3, 0, 0, 0), (35, .iinc 4 1, 0, 0, 0), (38, .goto (-33), 0, 5, 0), (41, .iload_n 3, 0, 0, 0), (42, .ireturn, 0, 0, 0)]
theorem gd_99 : mzGd 99 k_99 := mz_gd (k := 0) (by decide +kernel) (by decide +kernel) (by decide +kernel)
-- MeltPins$World.fullSpots()I
def k_100 : List mzO := [(0, .iconst 0, 0, 0, 0), (1, .istore_n 1, 0, 0, 0), (2, .iconst 0, 0, 0, 0), (3, .istore_n 2, 0, 0, 0), (4, .iload_n 2, 0, 0, 0), (5, .bipush 10, 0, 0, 0), (7, .if_icmp .ge 22, 0, 29, 0), (10, .aload_n 0, 0, 0, 0), (11, .getfield 30, 0, 9, 3), (14, .iload_n 2, 0, 0, 0), (15, .iaload, 0, 0, 0), (16, .iconst (-1), 0, 0, 0), (17, .if_icmp .eq 6, 0, 23, 0), (20, .iinc 1 1, 0, 0, 0), (23, .iinc 2 1, 0, 0, 0), (26, .goto (-22), 0, 4, 0), (29, .iload_n 1, 0, 0, 0), (30, .ireturn, 0, 0, 0)]
theorem gd_100 : mzGd 100 k_100 := mz_gd (k := 0) (by decide +kernel) (by decide +kernel) (by decide +kernel)
-- MeltPins$World.draw()I
def k_101 : List mzO := [(0, .aload_n 0, 0, 0, 0), (1, .aload_n 0, 0, 0, 0), (2, .getfield 9, 0, 4, 3), (5, .ldc 63, 1103515245, 0, 0), (7, .imul, 0, 0, 0), (8, .sipush 12345, 0, 0, 0), (11, .iadd, 0, 0, 0), (12, .putfield 9, 0, 4, 3), (15, .aload_n 0, 0, 0, 0), (16, .getfield 9, 0, 4, 3), (19, .bipush 8, 0, 0, 0), (21, .iushr, 0, 0, 0), (22, .ireturn, 0, 0, 0)]
theorem gd_101 : mzGd 101 k_101 := mz_gd (k := 0) (by decide +kernel) (by decide +kernel) (by decide +kernel)
-- MeltPins$Melt.survey()V
def k_102 : List mzO := [(0, .aload_n 0, 0, 0, 0), (1, .iconst 0, 0, 0, 0), (2, .invokevirtual 36, 0, 103, 2), (5, .iconst 0, 0, 0, 0), (6, .istore_n 1, 0, 0, 0), (7, .iload_n 1, 0, 0, 0), (8, .aload_n 0, 0, 0, 0), (9, .getfield 32, 0, 0, 0), (12, .getfield 40, 0, 0, 3), (15, .if_icmp .ge 97, 0, 112, 0), (18, .iconst 0, 0, 0, 0), (19, .istore_n 2, 0, 0, 0), (20, .iconst 0, 0, 0, 0), (21, .istore_n 3, 0, 0, 0), (22, .iconst 0, 0, 0, 0), (23, .istore 4, 0, 0, 0), (25, .iload 4, 0, 0, 0), (27, .aload_n 0, 0, 0, 0), (28, .getfield 32, 0, 0, 0), (31, .getfield 40, 0, 0, 3), (34, .if_icmp .ge 58, 0, 92, 0), (37, .aload_n 0, 0, 0, 0), (38, .getfield 32, 0, 0, 0), (41, .getfield 46, 0, 6, 3), (44, .iload 4, 0, 0, 0), (46, .aaload, 0, 0, 0), (47, .iload_n 1, 0, 0, 0), (48, .iaload, 0, 0, 0), (49, .istore 5, 0, 0, 0), (51, .iload 5, 0, 0, 0), (53, .ifCond .le 33, 0, 86, 0), (56, .aload_n 0, 0, 0, 0), (57, .getfield 23, 0, 4, 0), (60, .iload_n 1, 0, 0, 0), (61, .aaload, 0, 0, 0), (62, .iload_n 2, 0, 0, 0), (63, .iload 4, 0, 0, 0), (65, .iastore, 0, 0, 0), (66, .aload_n 0, 0, 0, 0), (67, .getfield 26, 0, 5, 0), (70, .iload_n 1, 0, 0, 0), (71, .aaload, 0, 0, 0), (72, .iload_n 2, 0, 0, 0), (73, .iload 5, 0, 0, 0), (75, .iastore, 0, 0, 0), (76, .iload_n 3, 0, 0, 0), (77, .iconst 1, 0, 0, 0), (78, .iload 4, 0, 0, 0), (80, .ishl, 0, 0, 0), (81, .ior, 0, 0, 0), (82, .istore_n 3, 0, 0, 0), (83, .iinc 2 1, 0, 0, 0), (86, .iinc 4 1, 0, 0, 0), (89, .goto (-64), 0, 25, 0), (92, .aload_n 0, 0, 0, 0), (93, .getfield 18, 0, 3, 0), (96, .iload_n 1, 0, 0, 0), (97, .iload_n 2, 0, 0, 0), (98, .iastore, 0, 0, 0), (99, .aload_n 0, 0, 0, 0), (100, .getfield 15, 0, 2, 0), (103, .iload_n 1, 0, 0, 0), (104, .iload_n 3, 0, 0, 0), (105, .iastore, 0, 0, 0), (106, .iinc 1 1, 0, 0, 0), (109, .goto (-102), 0, 7, 0), (112, .return_, 0, 0, 0)]
theorem gd_102 : mzGd 102 k_102 := mz_gd (k := 0) (by decide +kernel) (by decide +kernel) (by decide +kernel)
-- MeltPins$Melt.lowerBars(I)V
def k_103 : List mzO := [(0, .iconst 0, 0, 0, 0), (1, .istore_n 2, 0, 0, 0), (2, .iload_n 2, 0, 0, 0), (3, .aload_n 0, 0, 0, 0), (4, .getfield 32, 0, 0, 0), (7, .getfield 40, 0, 0, 3), (10, .if_icmp .ge 31, 0, 41, 0), (13, .aload_n 0, 0, 0, 0), (14, .iload_n 2, 0, 0, 0), (15, .iconst 1, 0, 0, 0), (16, .aload_n 0, 0, 0, 0), (17, .getfield 32, 0, 0, 0), (20, .getfield 49, 0, 5, 3), (23, .iload_n 2, 0, 0, 0), (24, .aaload, 0, 0, 0), (25, .iconst 1, 0, 0, 0), (26, .iaload, 0, 0, 0), (27, .iload_n 1, 0, 0, 0), (28, .isub, 0, 0, 0), (29, .invokestatic 52, 0, 0, 1), (32, .invokevirtual 58, 0, 104, 3), (35, .iinc 2 1, 0, 0, 0), (38, .goto (-36), 0, 2, 0), (41, .return_, 0, 0, 0)]
theorem gd_103 : mzGd 103 k_103 := mz_gd (k := 0) (by decide +kernel) (by decide +kernel) (by decide +kernel)
-- MeltPins$Melt.takeBar(II)V
def k_104 : List mzO := [(0, .aload_n 0, 0, 0, 0), (1, .getfield 9, 0, 1, 0), (4, .iload_n 1, 0, 0, 0), (5, .aload_n 0, 0, 0, 0), (6, .getfield 32, 0, 0, 0), (9, .iload_n 1, 0, 0, 0), (10, .iload_n 2, 0, 0, 0), (11, .invokevirtual 62, 1, 97, 3), (14, .iastore, 0, 0, 0), (15, .return_, 0, 0, 0)]
theorem gd_104 : mzGd 104 k_104 := mz_gd (k := 0) (by decide +kernel) (by decide +kernel) (by decide +kernel)
-- MeltPins$Melt.mustBePushed()I
def k_105 : List mzO := [(0, .iconst 0, 0, 0, 0), (1, .istore_n 1, 0, 0, 0), (2, .iconst 0, 0, 0, 0), (3, .istore_n 2, 0, 0, 0), (4, .iload_n 2, 0, 0, 0), (5, .aload_n 0, 0, 0, 0), (6, .getfield 32, 0, 0, 0), (9, .getfield 40, 0, 0, 3), (12, .if_icmp .ge 36, 0, 48, 0), (15, .aload_n 0, 0, 0, 0), (16, .iload_n 2, 0, 0, 0), (17, .aload_n 0, 0, 0, 0), (18, .getfield 32, 0, 0, 0), (21, .invokevirtual 65, 1, 94, 1), (24, .invokevirtual 69, 1, 112, 3), (27, .aload_n 0, 0, 0, 0), (28, .getfield 9, 0, 1, 0), (31, .iload_n 2, 0, 0, 0), (32, .iaload, 0, 0, 0), (33, .if_icmp .ge 9, 0, 42, 0), (36, .iload_n 1, 0, 0, 0), (37, .iconst 1, 0, 0, 0), (38, .iload_n 2, 0, 0, 0), (39, .ishl, 0, 0, 0), (40, .ior, 0, 0, 0), (41, .istore_n 1, 0, 0, 0), (42, .iinc 2 1, 0, 0, 0), (45, .goto (-41), 0, 4, 0), (48, .iload_n 1, 0, 0, 0), (49, .ireturn, 0, 0, 0)]
theorem gd_105 : mzGd 105 k_105 := mz_gd (k := 0) (by decide +kernel) (by decide +kernel) (by decide +kernel)
-- MeltPins$Melt.standsAll(I)Z
def k_106 : List mzO := [(0, .aload_n 0, 0, 0, 0), (1, .iload_n 1, 0, 0, 0), (2, .aload_n 0, 0, 0, 0), (3, .getfield 32, 0, 0, 0), (6, .getfield 72, 0, 3, 3), (9, .invokevirtual 75, 1, 107, 3), (12, .aload_n 0, 0, 0, 0), (13, .getfield 32, 0, 0, 0), (16, .invokevirtual 65, 1, 94, 1), (19, .if_icmp .ne 7, 0, 26, 0), (22, .iconst 1, 0, 0, 0), (23, .goto 4, 0, 27, 0), (26, .iconst 0, 0, 0, 0), (27, .ireturn, 0, 0, 1)]
theorem gd_106 : mzGd 106 k_106 := mz_gd (k := 0) (by decide +kernel) (by decide +kernel) (by decide +kernel)
-- MeltPins$Melt.standOf(II)I
def k_107 : List mzO := [(0, .aload_n 0, 0, 0, 0), (1, .iload_n 2, 0, 0, 0), (2, .invokevirtual 78, 0, 108, 2), (5, .aload_n 0, 0, 0, 0), (6, .iload_n 1, 0, 0, 0), (7, .invokevirtual 81, 1, 109, 2), (10, .istore_n 3, 0, 0, 0), (11, .iconst 1, 0, 0, 0), (12, .istore 4, 0, 0, 0), (14, .iload 4, 0, 0, 0), (16, .bipush 24, 0, 0, 0), (18, .if_icmp .ge 19, 0, 37, 0), (21, .iload_n 3, 0, 0, 0), (22, .ifCond .eq 15, 0, 37, 0), (25, .aload_n 0, 0, 0, 0), (26, .iconst 0, 0, 0, 0), (27, .invokevirtual 81, 1, 109, 2), (30, .istore_n 3, 0, 0, 0), (31, .iinc 4 1, 0, 0, 0), (34, .goto (-20), 0, 14, 0), (37, .aload_n 0, 0, 0, 0), (38, .getfield 85, 0, 7, 0), (41, .ireturn, 0, 0, 0)]
theorem gd_107 : mzGd 107 k_107 := mz_gd (k := 0) (by decide +kernel) (by decide +kernel) (by decide +kernel)
-- MeltPins$Melt.begin(I)V
def k_108 : List mzO := [(0, .aload_n 0, 0, 0, 0), (1, .iconst 0, 0, 0, 0), (2, .putfield 85, 0, 7, 0), (5, .aload_n 0, 0, 0, 0), (6, .iconst 0, 0, 0, 0), (7, .putfield 88, 0, 8, 0), (10, .aload_n 0, 0, 0, 0), (11, .iload_n 1, 0, 0, 0), (12, .putfield 91, 0, 9, 0), (15, .aload_n 0, 0, 0, 0), (16, .getfield 29, 0, 6, 0), (19, .iconst 0, 0, 0, 0), (20, .invokestatic 92, 0, 191, 2), (23, .return_, 0, 0, 0)]
theorem gd_108 : mzGd 108 k_108 := mz_gd (k := 0) (by decide +kernel) (by decide +kernel) (by decide +kernel)
-- MeltPins$Melt.passYear(I)Z
def k_109 : List mzO := [(0, .aload_n 0, 0, 0, 0), (1, .getfield 85, 0, 7, 0), (4, .istore_n 2, 0, 0, 0), (5, .aload_n 0, 0, 0, 0), (6, .dup, 0, 0, 0), (7, .getfield 85, 0, 7, 0), (10, .iload_n 1, 0, 0, 0), (11, .aload_n 0, 0, 0, 0), (12, .getfield 91, 0, 9, 0), (15, .iconst (-1), 0, 0, 0), (16, .ixor, 0, 0, 0), (17, .iand, 0, 0, 0), (18, .aload_n 0, 0, 0, 0), (19, .getfield 88, 0, 8, 0), (22, .iconst (-1), 0, 0, 0), (23, .ixor, 0, 0, 0), (24, .iand, 0, 0, 0), (25, .ior, 0, 0, 0), (26, .putfield 85, 0, 7, 0), (29, .aload_n 0, 0, 0, 0), (30, .getfield 85, 0, 7, 0), (33, .istore_n 3, 0, 0, 0), (34, .iload_n 1, 0, 0, 0), (35, .ifCond .eq 7, 0, 42, 0), (38, .iconst 1, 0, 0, 0), (39, .goto 4, 0, 43, 0), (42, .iconst 0, 0, 0, 0), (43, .istore 4, 0, 0, 0), (45, .iconst 0, 0, 0, 0), (46, .istore 5, 0, 0, 0), (48, .iload 5, 0, 0, 0), (50, .aload_n 0, 0, 0, 0), (51, .getfield 32, 0, 0, 0), (54, .getfield 40, 0, 0, 3), (57, .if_icmp .ge 100, 0, 157, 0), (60, .iconst 1, 0, 0, 0), (61, .iload 5, 0, 0, 0), (63, .ishl, 0, 0, 0), (64, .istore 6, 0, 0, 0), (66, .iload_n 3, 0, 0, 0), (67, .iload 6, 0, 0, 0), (69, .iand, 0, 0, 0), (70, .ifCond .eq 47, 0, 117, 0), (73, .iload_n 1, 0, 0, 0), (74, .iload 6, 0, 0, 0), (76, .iand, 0, 0, 0), (77, .ifCond .ne 74, 0, 151, 0), (80, .aload_n 0, 0, 0, 0), (81, .iload 5, 0, 0, 0), (83, .iload_n 3, 0, 0, 0), (84, .invokevirtual 98, 1, 114, 3), (87, .ifCond .eq 64, 0, 151, 0), (90, .aload_n 0, 0, 0, 0), (91, .dup, 0, 0, 0), (92, .getfield 85, 0, 7, 0), (95, .iload 6, 0, 0, 0), (97, .iconst (-1), 0, 0, 0), (98, .ixor, 0, 0, 0), (99, .iand, 0, 0, 0), (100, .putfield 85, 0, 7, 0), (103, .aload_n 0, 0, 0, 0), (104, .getfield 29, 0, 6, 0), (107, .iload 5, 0, 0, 0), (109, .iconst 0, 0, 0, 0), (110, .iastore, 0, 0, 0), (111, .iconst 1, 0, 0, 0), (112, .istore 4, 0, 0, 0), (114, .goto 37, 0, 151, 0), (117, .aload_n 0, 0, 0, 0), (118, .getfield 91, 0, 9, 0), (121, .aload_n 0, 0, 0, 0), (122, .getfield 88, 0, 8, 0), (125, .ior, 0, 0, 0), (126, .iload 6, 0, 0, 0), (128, .iand, 0, 0, 0), (129, .ifCond .ne 22, 0, 151, 0), (132, .aload_n 0, 0, 0, 0), (133, .iload 5, 0, 0, 0), (135, .aload_n 0, 0, 0, 0), (136, .iload 5, 0, 0, 0), (138, .iload_n 3, 0, 0, 0), (139, .invokevirtual 102, 1, 113, 3), (142, .invokevirtual 105, 1, 110, 3), (145, .ifCond .eq 6, 0, 151, 0), (148, .iconst 1, 0, 0, 0), (149, .istore 4, 0, 0, 0), (151, .iinc 5 1, 0, 0, 0), (154, .goto (-106), 0, 48, 0), (157, .aload_n 0, 0, 0, 0), (158, .aload_n 0, 0, 0, 0), (159, .getfield 85, 0, 7, 0), (162, .iload_n 2, 0, 0, 0), (163, .iconst (-1), 0, 0, 0), (164, .ixor, 0, 0, 0), (165, .iand, 0, 0, 0), (166, .invokevirtual 109, 0, 111, 2), (169, .iload 4, 0, 0, 0), (171, .ireturn, 0, 0, 1)]
theorem gd_109 : mzGd 109 k_109 := mz_gd (k := 0) (by decide +kernel) (by decide +kernel) (by decide +kernel)
-- MeltPins$Melt.walk(IZ)Z
def k_110 : List mzO := [(0, .aload_n 0, 0, 0, 0), (1, .getfield 29, 0, 6, 0), (4, .iload_n 1, 0, 0, 0), (5, .iaload, 0, 0, 0), (6, .istore_n 3, 0, 0, 0), (7, .iload_n 2, 0, 0, 0), (8, .ifCond .ne 20, 0, 28, 0), (11, .aload_n 0, 0, 0, 0), (12, .getfield 29, 0, 6, 0), (15, .iload_n 1, 0, 0, 0), (16, .iconst 0, 0, 0, 0), (17, .iastore, 0, 0, 0), (18, .iload_n 3, 0, 0, 0), (19, .ifCond .eq 7, 0, 26, 0), (22, .iconst 1, 0, 0, 0), (23, .goto 4, 0, 27, 0), (26, .iconst 0, 0, 0, 0), (27, .ireturn, 0, 0, 1), (28, .aload_n 0, 0, 0, 0), (29, .getfield 29, 0, 6, 0), (32, .iload_n 1, 0, 0, 0), (33, .dup2, 0, 0, 0), (34, .iaload, 0, 0, 0), (35, .iconst 1, 0, 0, 0), (36, .iadd, 0, 0, 0), (37, .iastore, 0, 0, 0), (38, .aload_n 0, 0, 0, 0), (39, .getfield 29, 0, 6, 0), (42, .iload_n 1, 0, 0, 0), (43, .iaload, 0, 0, 0), (44, .aload_n 0, 0, 0, 0), (45, .getfield 32, 0, 0, 0), (48, .getfield 49, 0, 5, 3), (51, .iload_n 1, 0, 0, 0), (52, .aaload, 0, 0, 0), (53, .iconst 3, 0, 0, 0), (54, .iaload, 0, 0, 0), (55, .if_icmp .le 15, 0, 70, 0), (58, .aload_n 0, 0, 0, 0), (59, .dup, 0, 0, 0), (60, .getfield 85, 0, 7, 0), (63, .iconst 1, 0, 0, 0), (64, .iload_n 1, 0, 0, 0), (65, .ishl, 0, 0, 0), (66, .ior, 0, 0, 0), (67, .putfield 85, 0, 7, 0), (70, .iconst 1, 0, 0, 0), (71, .ireturn, 0, 0, 1)]
theorem gd_110 : mzGd 110 k_110 := mz_gd (k := 0) (by decide +kernel) (by decide +kernel) (by decide +kernel)
-- MeltPins$Melt.drownSpoilt(I)V
def k_111 : List mzO := [(0, .iconst 0, 0, 0, 0), (1, .istore_n 2, 0, 0, 0), (2, .iconst 0, 0, 0, 0), (3, .istore_n 3, 0, 0, 0), (4, .iload_n 3, 0, 0, 0), (5, .aload_n 0, 0, 0, 0), (6, .getfield 32, 0, 0, 0), (9, .getfield 40, 0, 0, 3), (12, .if_icmp .ge 58, 0, 70, 0), (15, .aload_n 0, 0, 0, 0), (16, .getfield 32, 0, 0, 0), (19, .getfield 49, 0, 5, 3), (22, .iload_n 3, 0, 0, 0), (23, .aaload, 0, 0, 0), (24, .bipush 7, 0, 0, 0), (26, .iaload, 0, 0, 0), (27, .istore 4, 0, 0, 0), (29, .iload_n 1, 0, 0, 0), (30, .iload_n 3, 0, 0, 0), (31, .ishr, 0, 0, 0), (32, .iconst 1, 0, 0, 0), (33, .iand, 0, 0, 0), (34, .ifCond .eq 30, 0, 64, 0), (37, .aload_n 0, 0, 0, 0), (38, .getfield 32, 0, 0, 0), (41, .getfield 49, 0, 5, 3), (44, .iload_n 3, 0, 0, 0), (45, .aaload, 0, 0, 0), (46, .iconst 0, 0, 0, 0), (47, .iaload, 0, 0, 0), (48, .iconst 4, 0, 0, 0), (49, .if_icmp .ne 15, 0, 64, 0), (52, .iload 4, 0, 0, 0), (54, .ifCond .lt 10, 0, 64, 0), (57, .iload_n 2, 0, 0, 0), (58, .iconst 1, 0, 0, 0), (59, .iload 4, 0, 0, 0), (61, .ishl, 0, 0, 0), (62, .ior, 0, 0, 0), (63, .istore_n 2, 0, 0, 0), (64, .iinc 3 1, 0, 0, 0), (67, .goto (-63), 0, 4, 0), (70, .aload_n 0, 0, 0, 0), (71, .dup, 0, 0, 0), (72, .getfield 88, 0, 8, 0), (75, .iload_n 2, 0, 0, 0), (76, .ior, 0, 0, 0), (77, .putfield 88, 0, 8, 0), (80, .aload_n 0, 0, 0, 0), (81, .dup, 0, 0, 0), (82, .getfield 85, 0, 7, 0), (85, .iload_n 2, 0, 0, 0), (86, .iconst (-1), 0, 0, 0), (87, .ixor, 0, 0, 0), (88, .iand, 0, 0, 0), (89, .putfield 85, 0, 7, 0), (92, .iconst 0, 0, 0, 0), (93, .istore_n 3, 0, 0, 0), (94, .iload_n 3, 0, 0, 0), (95, .aload_n 0, 0, 0, 0), (96, .getfield 32, 0, 0, 0), (99, .getfield 40, 0, 0, 3), (102, .if_icmp .ge 24, 0, 126, 0), (105, .iload_n 2, 0, 0, 0), (106, .iload_n 3, 0, 0, 0), (107, .ishr, 0, 0, 0), (108, .iconst 1, 0, 0, 0), (109, .iand, 0, 0, 0), (110, .ifCond .eq 10, 0, 120, 0), (113, .aload_n 0, 0, 0, 0), (114, .getfield 29, 0, 6, 0), (117, .iload_n 3, 0, 0, 0), (118, .iconst 0, 0, 0, 0), (119, .iastore, 0, 0, 0), (120, .iinc 3 1, 0, 0, 0), (123, .goto (-29), 0, 94, 0), (126, .return_, 0, 0, 0)]
theorem gd_111 : mzGd 111 k_111 := mz_gd (k := 0) (by decide +kernel) (by decide +kernel) (by decide +kernel)
-- MeltPins$Melt.gets(II)I
def k_112 : List mzO := [(0, .iconst 0, 0, 0, 0), (1, .istore_n 3, 0, 0, 0), (2, .iconst 0, 0, 0, 0), (3, .istore 4, 0, 0, 0), (5, .iload 4, 0, 0, 0), (7, .aload_n 0, 0, 0, 0), (8, .getfield 18, 0, 3, 0), (11, .iload_n 1, 0, 0, 0), (12, .iaload, 0, 0, 0), (13, .if_icmp .ge 37, 0, 50, 0), (16, .iload_n 2, 0, 0, 0), (17, .aload_n 0, 0, 0, 0), (18, .getfield 23, 0, 4, 0), (21, .iload_n 1, 0, 0, 0), (22, .aaload, 0, 0, 0), (23, .iload 4, 0, 0, 0), (25, .iaload, 0, 0, 0), (26, .ishr, 0, 0, 0), (27, .iconst 1, 0, 0, 0), (28, .iand, 0, 0, 0), (29, .ifCond .eq 15, 0, 44, 0), (32, .iload_n 3, 0, 0, 0), (33, .aload_n 0, 0, 0, 0), (34, .getfield 26, 0, 5, 0), (37, .iload_n 1, 0, 0, 0), (38, .aaload, 0, 0, 0), (39, .iload 4, 0, 0, 0), (41, .iaload, 0, 0, 0), (42, .iadd, 0, 0, 0), (43, .istore_n 3, 0, 0, 0), (44, .iinc 4 1, 0, 0, 0), (47, .goto (-42), 0, 5, 0), (50, .iload_n 3, 0, 0, 0), (51, .ireturn, 0, 0, 0)]
theorem gd_112 : mzGd 112 k_112 := mz_gd (k := 0) (by decide +kernel) (by decide +kernel) (by decide +kernel)
-- MeltPins$Melt.goes(II)Z
def k_113 : List mzO := [(0, .aload_n 0, 0, 0, 0), (1, .iload_n 1, 0, 0, 0), (2, .iload_n 2, 0, 0, 0), (3, .invokevirtual 69, 1, 112, 3), (6, .aload_n 0, 0, 0, 0), (7, .getfield 9, 0, 1, 0), (10, .iload_n 1, 0, 0, 0), (11, .iaload, 0, 0, 0), (12, .if_icmp .ge 5, 0, 17, 0), (15, .iconst 0, 0, 0, 0), (16, .ireturn, 0, 0, 1), (17, .aload_n 0, 0, 0, 0), (18, .getfield 32, 0, 0, 0), (21, .getfield 49, 0, 5, 3), (24, .iload_n 1, 0, 0, 0), (25, .aaload, 0, 0, 0), (26, .iconst 0, 0, 0, 0), (27, .iaload, 0, 0, 0), (28, .iconst 3, 0, 0, 0), (29, .if_icmp .ne 18, 0, 47, 0), (32, .iload_n 2, 0, 0, 0), (33, .aload_n 0, 0, 0, 0), (34, .getfield 15, 0, 2, 0), (37, .iload_n 1, 0, 0, 0), (38, .iaload, 0, 0, 0), (39, .iand, 0, 0, 0), (40, .invokestatic 112, 1, 190, 1), (43, .iconst 2, 0, 0, 0), (44, .if_icmp .lt 7, 0, 51, 0), (47, .iconst 1, 0, 0, 0), (48, .goto 4, 0, 52, 0), (51, .iconst 0, 0, 0, 0), (52, .ireturn, 0, 0, 1)]
theorem gd_113 : mzGd 113 k_113 := mz_gd (k := 0) (by decide +kernel) (by decide +kernel) (by decide +kernel)
-- MeltPins$Melt.falls(II)Z
def k_114 : List mzO := [(0, .aload_n 0, 0, 0, 0), (1, .getfield 32, 0, 0, 0), (4, .getfield 49, 0, 5, 3), (7, .iload_n 1, 0, 0, 0), (8, .aaload, 0, 0, 0), (9, .astore_n 3, 0, 0, 0), (10, .aload_n 3, 0, 0, 0), (11, .iconst 0, 0, 0, 0), (12, .iaload, 0, 0, 0), (13, .lookupswitch 70 #[(2, 27), (5, 45)], 0, 27, 0), (40, .aload_n 0, 0, 0, 0), (41, .iload_n 1, 0, 0, 0), (42, .iload_n 2, 0, 0, 0), (43, .invokevirtual 69, 1, 112, 3), (46, .aload_n 3, 0, 0, 0), (47, .iconst 2, 0, 0, 0), (48, .iaload, 0, 0, 0), (49, .if_icmp .ge 7, 0, 56, 0), (52, .iconst 1, 0, 0, 0), (53, .goto 4, 0, 57, 0), (56, .iconst 0, 0, 0, 0), (57, .ireturn, 0, 0, 1), (58, .aload_n 3, 0, 0, 0), (59, .bipush 8, 0, 0, 0), (61, .iaload, 0, 0, 0), (62, .ifCond .ne 19, 0, 81, 0), (65, .aload_n 0, 0, 0, 0), (66, .iload_n 1, 0, 0, 0), (67, .iload_n 2, 0, 0, 0), (68, .invokevirtual 69, 1, 112, 3), (71, .aload_n 3, 0, 0, 0), (72, .iconst 2, 0, 0, 0), (73, .iaload, 0, 0, 0), (74, .if_icmp .ge 7, 0, 81, 0), (77, .iconst 1, 0, 0, 0), (78, .goto 4, 0, 82, 0), (81, .iconst 0, 0, 0, 0), (82, .ireturn, 0, 0, 1), (83, .iconst 0, 0, 0, 0), (84, .ireturn, 0, 0, 1)]
theorem gd_114 : mzGd 114 k_114 := mz_gd (k := 0) (by decide +kernel) (by decide +kernel) (by decide +kernel)
-- MeltPins$Tape.append(I)V
def k_115 : List mzO := [(0, .aload_n 0, 0, 0, 0), (1, .getfield 15, 0, 1, 2), (4, .bipush 120, 0, 0, 0), (6, .if_icmp .ge 27, 0, 33, 0), (9, .aload_n 0, 0, 0, 0), (10, .getfield 9, 0, 0, 2), (13, .aload_n 0, 0, 0, 0), (14, .getfield 15, 0, 1, 2), (17, .iload_n 1, 0, 0, 0), (18, .sipush 255, 0, 0, 0), (21, .iand, 0, 0, 0), (22, .iastore, 0, 0, 0), (23, .aload_n 0, 0, 0, 0), (24, .dup, 0, 0, 0), (25, .getfield 15, 0, 1, 2), (28, .iconst 1, 0, 0, 0), (29, .iadd, 0, 0, 0), (30, .putfield 15, 0, 1, 2), (33, .return_, 0, 0, 0)]
theorem gd_115 : mzGd 115 k_115 := mz_gd (k := 0) (by decide +kernel) (by decide +kernel) (by decide +kernel)
-- MeltPins$Tape.readText(LMeltPins$World;)I
def k_116 : List mzO := [(0, .aload_n 0, 0, 0, 0), (1, .iconst 0, 0, 0, 0), (2, .putfield 19, 0, 4, 2), (5, .aload_n 0, 0, 0, 0), (6, .invokevirtual 22, 0, 119, 1), (9, .iconst 0, 0, 0, 0), (10, .istore_n 2, 0, 0, 0), (11, .iload_n 2, 0, 0, 0), (12, .bipush 120, 0, 0, 0), (14, .if_icmp .gt 66, 0, 80, 0), (17, .aload_n 0, 0, 0, 0), (18, .getfield 25, 0, 2, 2), (21, .iconst 2, 0, 0, 0), (22, .if_icmp .ne 11, 0, 33, 0), (25, .aload_n 0, 0, 0, 0), (26, .aload_n 1, 0, 0, 0), (27, .invokevirtual 28, 1, 118, 2), (30, .goto 8, 0, 38, 0), (33, .aload_n 0, 0, 0, 0), (34, .aload_n 1, 0, 0, 0), (35, .invokevirtual 32, 1, 117, 2), (38, .istore_n 3, 0, 0, 0), (39, .iload_n 3, 0, 0, 0), (40, .ifCond .ne 8, 0, 48, 0), (43, .aload_n 0, 0, 0, 0), (44, .getfield 35, 0, 3, 2), (47, .ireturn, 0, 0, 0), (48, .aload_n 0, 0, 0, 0), (49, .getfield 25, 0, 2, 2), (52, .ifCond .ne 5, 0, 57, 0), (55, .iconst (-1), 0, 0, 0), (56, .ireturn, 0, 0, 0), (57, .aload_n 0, 0, 0, 0), (58, .getfield 25, 0, 2, 2), (61, .iconst 3, 0, 0, 0), (62, .if_icmp .eq 8, 0, 70, 0), (65, .aload_n 0, 0, 0, 0), (66, .getfield 35, 0, 3, 2), (69, .ireturn, 0, 0, 0), (70, .aload_n 0, 0, 0, 0), (71, .invokevirtual 22, 0, 119, 1), (74, .iinc 2 1, 0, 0, 0), (77, .goto (-66), 0, 11, 0), (80, .aload_n 0, 0, 0, 0), (81, .getfield 35, 0, 3, 2), (84, .ireturn, 0, 0, 0)]
theorem gd_116 : mzGd 116 k_116 := mz_gd (k := 0) (by decide +kernel) (by decide +kernel) (by decide +kernel)
-- MeltPins$Tape.readPlace(LMeltPins$World;)Z
def k_117 : List mzO := [(0, .aload_n 0, 0, 0, 0), (1, .invokevirtual 38, 1, 125, 1), (4, .istore_n 2, 0, 0, 0), (5, .iload_n 2, 0, 0, 0), (6, .ifCond .lt 12, 0, 18, 0), (9, .aload_n 1, 0, 0, 0), (10, .getfield 42, 0, 0, 3), (13, .bipush 12, 0, 0, 0), (15, .if_icmp .lt 5, 0, 20, 0), (18, .iconst 0, 0, 0, 0), (19, .ireturn, 0, 0, 1), (20, .aload_n 0, 0, 0, 0), (21, .invokevirtual 22, 0, 119, 1), (24, .aload_n 0, 0, 0, 0), (25, .iconst 1, 0, 0, 0), (26, .bipush 99, 0, 0, 0), (28, .invokevirtual 47, 1, 123, 3), (31, .ifCond .ne 5, 0, 36, 0), (34, .iconst 0, 0, 0, 0), (35, .ireturn, 0, 0, 1), (36, .aload_n 1, 0, 0, 0), (37, .iload_n 2, 0, 0, 0), (38, .aload_n 0, 0, 0, 0), (39, .getfield 51, 0, 5, 2), (42, .invokevirtual 54, 3, 95, 3), (45, .astore_n 3, 0, 0, 0), (46, .aload_n 0, 0, 0, 0), (47, .invokevirtual 22, 0, 119, 1), (50, .iconst 0, 0, 0, 0), (51, .istore 4, 0, 0, 0), (53, .iload 4, 0, 0, 0), (55, .bipush 120, 0, 0, 0), (57, .if_icmp .gt 67, 0, 124, 0), (60, .aload_n 0, 0, 0, 0), (61, .getfield 25, 0, 2, 2), (64, .iconst 1, 0, 0, 0), (65, .if_icmp .ne 59, 0, 124, 0), (68, .aload_n 0, 0, 0, 0), (69, .invokevirtual 58, 1, 126, 1), (72, .istore 5, 0, 0, 0), (74, .iload 5, 0, 0, 0), (76, .ifCond .ge 5, 0, 81, 0), (79, .iconst 0, 0, 0, 0), (80, .ireturn, 0, 0, 1), (81, .aload_n 0, 0, 0, 0), (82, .invokevirtual 22, 0, 119, 1), (85, .aload_n 0, 0, 0, 0), (86, .getstatic 61, 0, 1, 0), (89, .iload 5, 0, 0, 0), (91, .iaload, 0, 0, 0), (92, .getstatic 64, 0, 2, 0), (95, .iload 5, 0, 0, 0), (97, .iaload, 0, 0, 0), (98, .invokevirtual 47, 1, 123, 3), (101, .ifCond .ne 5, 0, 106, 0), (104, .iconst 0, 0, 0, 0), (105, .ireturn, 0, 0, 1), (106, .aload_n 3, 0, 0, 0), (107, .iload 5, 0, 0, 0), (109, .aload_n 0, 0, 0, 0), (110, .getfield 51, 0, 5, 2), (113, .iastore, 0, 0, 0), (114, .aload_n 0, 0, 0, 0), (115, .invokevirtual 22, 0, 119, 1), (118, .iinc 4 1, 0, 0, 0), (121, .goto (-68), 0, 53, 0), (124, .iconst 1, 0, 0, 0), (125, .ireturn, 0, 0, 1)]
theorem gd_117 : mzGd 117 k_117 := mz_gd (k := 0) (by decide +kernel) (by decide +kernel) (by decide +kernel)
-- MeltPins$Tape.readTie(LMeltPins$World;)Z
def k_118 : List mzO := [(0, .aload_n 0, 0, 0, 0), (1, .iconst 0, 0, 0, 0), (2, .aload_n 1, 0, 0, 0), (3, .getfield 42, 0, 0, 3), (6, .iconst 1, 0, 0, 0), (7, .isub, 0, 0, 0), (8, .invokevirtual 47, 1, 123, 3), (11, .ifCond .eq 12, 0, 23, 0), (14, .aload_n 1, 0, 0, 0), (15, .getfield 67, 0, 1, 3), (18, .bipush 40, 0, 0, 0), (20, .if_icmp .lt 5, 0, 25, 0), (23, .iconst 0, 0, 0, 0), (24, .ireturn, 0, 0, 1), (25, .aload_n 0, 0, 0, 0), (26, .getfield 51, 0, 5, 2), (29, .istore_n 2, 0, 0, 0), (30, .aload_n 0, 0, 0, 0), (31, .invokevirtual 22, 0, 119, 1), (34, .aload_n 0, 0, 0, 0), (35, .ldc 70, 0, 0, 1), (37, .invokevirtual 72, 1, 124, 2), (40, .ifCond .ne 5, 0, 45, 0), (43, .iconst 0, 0, 0, 0), (44, .ireturn, 0, 0, 1), (45, .aload_n 0, 0, 0, 0), (46, .invokevirtual 22, 0, 119, 1), (49, .aload_n 0, 0, 0, 0), (50, .iconst 0, 0, 0, 0), (51, .aload_n 1, 0, 0, 0), (52, .getfield 42, 0, 0, 3), (55, .iconst 1, 0, 0, 0), (56, .isub, 0, 0, 0), (57, .invokevirtual 47, 1, 123, 3), (60, .ifCond .eq 25, 0, 85, 0), (63, .aload_n 0, 0, 0, 0), (64, .getfield 51, 0, 5, 2), (67, .iload_n 2, 0, 0, 0), (68, .if_icmp .eq 17, 0, 85, 0), (71, .aload_n 1, 0, 0, 0), (72, .getfield 76, 0, 6, 3), (75, .iload_n 2, 0, 0, 0), (76, .aaload, 0, 0, 0), (77, .aload_n 0, 0, 0, 0), (78, .getfield 51, 0, 5, 2), (81, .iaload, 0, 0, 0), (82, .ifCond .eq 5, 0, 87, 0), (85, .iconst 0, 0, 0, 0), (86, .ireturn, 0, 0, 1), (87, .aload_n 0, 0, 0, 0), (88, .getfield 51, 0, 5, 2), (91, .istore_n 3, 0, 0, 0), (92, .aload_n 0, 0, 0, 0), (93, .invokevirtual 22, 0, 119, 1), (96, .aload_n 0, 0, 0, 0), (97, .ldc 80, 0, 1, 1), (99, .invokevirtual 72, 1, 124, 2), (102, .ifCond .ne 5, 0, 107, 0), (105, .iconst 0, 0, 0, 0), (106, .ireturn, 0, 0, 1), (107, .aload_n 0, 0, 0, 0), (108, .invokevirtual 22, 0, 119, 1), (111, .aload_n 0, 0, 0, 0), (112, .iconst 1, 0, 0, 0), (113, .bipush 99, 0, 0, 0), (115, .invokevirtual 47, 1, 123, 3), (118, .ifCond .ne 5, 0, 123, 0), (121, .iconst 0, 0, 0, 0), (122, .ireturn, 0, 0, 1), (123, .aload_n 1, 0, 0, 0), (124, .iload_n 2, 0, 0, 0), (125, .iload_n 3, 0, 0, 0), (126, .aload_n 0, 0, 0, 0), (127, .getfield 51, 0, 5, 2), (130, .invokevirtual 82, 0, 96, 4), (133, .aload_n 0, 0, 0, 0), (134, .invokevirtual 22, 0, 119, 1), (137, .iconst 1, 0, 0, 0), (138, .ireturn, 0, 0, 1)]
theorem gd_118 : mzGd 118 k_118 := mz_gd (k := 0) (by decide +kernel) (by decide +kernel) (by decide +kernel)
-- MeltPins$Tape.nextToken()V
def k_119 : List mzO := [(0, .aload_n 0, 0, 0, 0), (1, .aload_n 0, 0, 0, 0), (2, .getfield 19, 0, 4, 2), (5, .putfield 35, 0, 3, 2), (8, .aload_n 0, 0, 0, 0), (9, .getfield 35, 0, 3, 2), (12, .aload_n 0, 0, 0, 0), (13, .getfield 15, 0, 1, 2), (16, .if_icmp .ge 30, 0, 46, 0), (19, .aload_n 0, 0, 0, 0), (20, .getfield 9, 0, 0, 2), (23, .aload_n 0, 0, 0, 0), (24, .getfield 35, 0, 3, 2), (27, .iaload, 0, 0, 0), (28, .bipush 32, 0, 0, 0), (30, .if_icmp .ne 16, 0, 46, 0), (33, .aload_n 0, 0, 0, 0), (34, .dup, 0, 0, 0), (35, .getfield 35, 0, 3, 2), (38, .iconst 1, 0, 0, 0), (39, .iadd, 0, 0, 0), (40, .putfield 35, 0, 3, 2), (43, .goto (-35), 0, 8, 0), (46, .aload_n 0, 0, 0, 0), (47, .aload_n 0, 0, 0, 0), (48, .getfield 35, 0, 3, 2), (51, .putfield 19, 0, 4, 2), (54, .aload_n 0, 0, 0, 0), (55, .getfield 35, 0, 3, 2), (58, .aload_n 0, 0, 0, 0), (59, .getfield 15, 0, 1, 2), (62, .if_icmp .lt 11, 0, 73, 0), (65, .aload_n 0, 0, 0, 0), (66, .iconst 0, 0, 0, 0), (67, .putfield 25, 0, 2, 2), (70, .goto 122, 0, 192, 0), (73, .aload_n 0, 0, 0, 0), (74, .getfield 9, 0, 0, 2), (77, .aload_n 0, 0, 0, 0), (78, .getfield 35, 0, 3, 2), (81, .iaload, 0, 0, 0), (82, .invokestatic 86, 1, 121, 1), (85, .ifCond .eq 47, 0, 132, 0), (88, .aload_n 0, 0, 0, 0), (89, .iconst 1, 0, 0, 0), (90, .putfield 25, 0, 2, 2), (93, .aload_n 0, 0, 0, 0), (94, .getfield 19, 0, 4, 2), (97, .aload_n 0, 0, 0, 0), (98, .getfield 15, 0, 1, 2), (101, .if_icmp .ge 91, 0, 192, 0), (104, .aload_n 0, 0, 0, 0), (105, .getfield 9, 0, 0, 2), (108, .aload_n 0, 0, 0, 0), (109, .getfield 19, 0, 4, 2), (112, .iaload, 0, 0, 0), (113, .invokestatic 86, 1, 121, 1), (116, .ifCond .eq 76, 0, 192, 0), (119, .aload_n 0, 0, 0, 0), (120, .dup, 0, 0, 0), (121, .getfield 19, 0, 4, 2), (124, .iconst 1, 0, 0, 0), (125, .iadd, 0, 0, 0), (126, .putfield 19, 0, 4, 2), (129, .goto (-36), 0, 93, 0), (132, .aload_n 0, 0, 0, 0), (133, .getfield 9, 0, 0, 2), (136, .aload_n 0, 0, 0, 0), (137, .getfield 35, 0, 3, 2), (140, .iaload, 0, 0, 0), (141, .invokestatic 90, 1, 122, 1), (144, .ifCond .eq 15, 0, 159, 0), (147, .aload_n 0, 0, 0, 0), (148, .iconst 2, 0, 0, 0), (149, .putfield 25, 0, 2, 2), (152, .aload_n 0, 0, 0, 0), (153, .invokevirtual 93, 0, 120, 1), (156, .goto 36, 0, 192, 0), (159, .aload_n 0, 0, 0, 0), (160, .aload_n 0, 0, 0, 0), (161, .getfield 9, 0, 0, 2), (164, .aload_n 0, 0, 0, 0), (165, .getfield 35, 0, 3, 2), (168, .iaload, 0, 0, 0), (169, .bipush 59, 0, 0, 0), (171, .if_icmp .ne 7, 0, 178, 0), (174, .iconst 3, 0, 0, 0), (175, .goto 4, 0, 179, 0), (178, .iconst 4, 0, 0, 0), (179, .putfield 25, 0, 2, 2), (182, .aload_n 0, 0, 0, 0), (183, .dup, 0, 0, 0), (184, .getfield 19, 0, 4, 2), (187, .iconst 1, 0, 0, 0), (188, .iadd, 0, 0, 0), (189, .putfield 19, 0, 4, 2), (192, .return_, 0, 0, 0)]
theorem gd_119 : mzGd 119 k_119 := mz_gd (k := 0) (by decide +kernel) (by decide +kernel) (by decide +kernel)
-- MeltPins$Tape.takeNumber()V
def k_120 : List mzO := [(0, .aload_n 0, 0, 0, 0), (1, .iconst 0, 0, 0, 0), (2, .putfield 51, 0, 5, 2), (5, .aload_n 0, 0, 0, 0), (6, .getfield 19, 0, 4, 2), (9, .aload_n 0, 0, 0, 0), (10, .getfield 15, 0, 1, 2), (13, .if_icmp .ge 61, 0, 74, 0), (16, .aload_n 0, 0, 0, 0), (17, .getfield 9, 0, 0, 2), (20, .aload_n 0, 0, 0, 0), (21, .getfield 19, 0, 4, 2), (24, .iaload, 0, 0, 0), (25, .invokestatic 90, 1, 122, 1), (28, .ifCond .eq 46, 0, 74, 0), (31, .aload_n 0, 0, 0, 0), (32, .sipush 10000, 0, 0, 0), (35, .aload_n 0, 0, 0, 0), (36, .getfield 51, 0, 5, 2), (39, .bipush 10, 0, 0, 0), (41, .imul, 0, 0, 0), (42, .aload_n 0, 0, 0, 0), (43, .getfield 9, 0, 0, 2), (46, .aload_n 0, 0, 0, 0), (47, .getfield 19, 0, 4, 2), (50, .iaload, 0, 0, 0), (51, .iadd, 0, 0, 0), (52, .bipush 48, 0, 0, 0), (54, .isub, 0, 0, 0), (55, .invokestatic 96, 0, 0, 2), (58, .putfield 51, 0, 5, 2), (61, .aload_n 0, 0, 0, 0), (62, .dup, 0, 0, 0), (63, .getfield 19, 0, 4, 2), (66, .iconst 1, 0, 0, 0), (67, .iadd, 0, 0, 0), (68, .putfield 19, 0, 4, 2), (71, .goto (-66), 0, 5, 0), (74, .return_, 0, 0, 0)]
theorem gd_120 : mzGd 120 k_120 := mz_gd (k := 0) (by decide +kernel) (by decide +kernel) (by decide +kernel)
-- MeltPins$Tape.isLetter(I)Z
def k_121 : List mzO := [(0, .iload_n 0, 0, 0, 0), (1, .bipush 97, 0, 0, 0), (3, .if_icmp .lt 13, 0, 16, 0), (6, .iload_n 0, 0, 0, 0), (7, .bipush 122, 0, 0, 0), (9, .if_icmp .gt 7, 0, 16, 0), (12, .iconst 1, 0, 0, 0), (13, .goto 4, 0, 17, 0), (16, .iconst 0, 0, 0, 0), (17, .ireturn, 0, 0, 1)]
theorem gd_121 : mzGd 121 k_121 := mz_gd (k := 0) (by decide +kernel) (by decide +kernel) (by decide +kernel)
-- MeltPins$Tape.isDigit(I)Z
def k_122 : List mzO := [(0, .iload_n 0, 0, 0, 0), (1, .bipush 48, 0, 0, 0), (3, .if_icmp .lt 13, 0, 16, 0), (6, .iload_n 0, 0, 0, 0), (7, .bipush 57, 0, 0, 0), (9, .if_icmp .gt 7, 0, 16, 0), (12, .iconst 1, 0, 0, 0), (13, .goto 4, 0, 17, 0), (16, .iconst 0, 0, 0, 0), (17, .ireturn, 0, 0, 1)]
theorem gd_122 : mzGd 122 k_122 := mz_gd (k := 0) (by decide +kernel) (by decide +kernel) (by decide +kernel)
-- MeltPins$Tape.isNumber(II)Z
def k_123 : List mzO := [(0, .aload_n 0, 0, 0, 0), (1, .getfield 25, 0, 2, 2), (4, .iconst 2, 0, 0, 0), (5, .if_icmp .ne 23, 0, 28, 0), (8, .aload_n 0, 0, 0, 0), (9, .getfield 51, 0, 5, 2), (12, .iload_n 1, 0, 0, 0), (13, .if_icmp .lt 15, 0, 28, 0), (16, .aload_n 0, 0, 0, 0), (17, .getfield 51, 0, 5, 2), (20, .iload_n 2, 0, 0, 0), (21, .if_icmp .gt 7, 0, 28, 0), (24, .iconst 1, 0, 0, 0), (25, .goto 4, 0, 29, 0), (28, .iconst 0, 0, 0, 0), (29, .ireturn, 0, 0, 1)]
theorem gd_123 : mzGd 123 k_123 := mz_gd (k := 0) (by decide +kernel) (by decide +kernel) (by decide +kernel)
-- MeltPins$Tape.isWord(Ljava/lang/String;)Z
def k_124 : List mzO := [(0, .aload_n 0, 0, 0, 0), (1, .getfield 25, 0, 2, 2), (4, .iconst 1, 0, 0, 0), (5, .if_icmp .ne 19, 0, 24, 0), (8, .aload_n 0, 0, 0, 0), (9, .getfield 19, 0, 4, 2), (12, .aload_n 0, 0, 0, 0), (13, .getfield 35, 0, 3, 2), (16, .isub, 0, 0, 0), (17, .aload_n 1, 0, 0, 0), (18, .invokevirtual 102, 0, 0, 4), (21, .if_icmp .eq 5, 0, 26, 0), (24, .iconst 0, 0, 0, 0), (25, .ireturn, 0, 0, 1), (26, .iconst 0, 0, 0, 0), (27, .istore_n 2, 0, 0, 0), (28, .iload_n 2, 0, 0, 0), (29, .aload_n 1, 0, 0, 0), (30, .invokevirtual 102, 0, 0, 4), (33, .if_icmp .ge 30, 0, 63, 0), (36, .aload_n 0, 0, 0, 0), (37, .getfield 9, 0, 0, 2), (40, .aload_n 0, 0, 0, 0), (41, .getfield 35, 0, 3, 2), (44, .iload_n 2, 0, 0, 0), (45, .iadd, 0, 0, 0), (46, .iaload, 0, 0, 0), (47, .aload_n 1, 0, 0, 0), (48, .iload_n 2, 0, 0, 0), (49, .invokevirtual 106, 0, 0, 5), (52, .if_icmp .eq 5, 0, 57, 0), (55, .iconst 0, 0, 0, 0), (56, .ireturn, 0, 0, 1), (57, .iinc 2 1, 0, 0, 0), (60, .goto (-32), 0, 28, 0), (63, .iconst 1, 0, 0, 0), (64, .ireturn, 0, 0, 1)]
theorem gd_124 : mzGd 124 k_124 := mz_gd (k := 0) (by decide +kernel) (by decide +kernel) (by decide +kernel)
-- MeltPins$Tape.kindHere()I
def k_125 : List mzO := [(0, .iconst 0, 0, 0, 0), (1, .istore_n 1, 0, 0, 0), (2, .iload_n 1, 0, 0, 0), (3, .bipush 7, 0, 0, 0), (5, .if_icmp .ge 22, 0, 27, 0), (8, .aload_n 0, 0, 0, 0), (9, .iload_n 1, 0, 0, 0), (10, .invokestatic 110, 3, 127, 1), (13, .invokevirtual 72, 1, 124, 2), (16, .ifCond .eq 5, 0, 21, 0), (19, .iload_n 1, 0, 0, 0), (20, .ireturn, 0, 0, 0), (21, .iinc 1 1, 0, 0, 0), (24, .goto (-22), 0, 2, 0), (27, .iconst (-1), 0, 0, 0), (28, .ireturn, 0, 0, 0)]
theorem gd_125 : mzGd 125 k_125 := mz_gd (k := 0) (by decide +kernel) (by decide +kernel) (by decide +kernel)
-- MeltPins$Tape.traitHere()I
def k_126 : List mzO := [(0, .iconst 2, 0, 0, 0), (1, .istore_n 1, 0, 0, 0), (2, .iload_n 1, 0, 0, 0), (3, .bipush 6, 0, 0, 0), (5, .if_icmp .gt 22, 0, 27, 0), (8, .aload_n 0, 0, 0, 0), (9, .iload_n 1, 0, 0, 0), (10, .invokestatic 114, 3, 128, 1), (13, .invokevirtual 72, 1, 124, 2), (16, .ifCond .eq 5, 0, 21, 0), (19, .iload_n 1, 0, 0, 0), (20, .ireturn, 0, 0, 0), (21, .iinc 1 1, 0, 0, 0), (24, .goto (-22), 0, 2, 0), (27, .iconst (-1), 0, 0, 0), (28, .ireturn, 0, 0, 0)]
theorem gd_126 : mzGd 126 k_126 := mz_gd (k := 0) (by decide +kernel) (by decide +kernel) (by decide +kernel)
-- MeltPins$Tape.kindName(I)Ljava/lang/String;
def k_127 : List mzO := [(0, .iload_n 0, 0, 0, 0), (1, .tableswitch 57 0 5 #[39, 42, 45, 48, 51, 54], 0, 39, 0), (40, .ldc 117, 0, 2, 1), (42, .areturn, 0, 0, 0), (43, .ldc 119, 0, 3, 1), (45, .areturn, 0, 0, 0), (46, .ldc 121, 0, 4, 1), (48, .areturn, 0, 0, 0), (49, .ldc 123, 0, 5, 1), (51, .areturn, 0, 0, 0), (52, .ldc 125, 0, 6, 1), (54, .areturn, 0, 0, 0), (55, .ldc 127, 0, 7, 1), (57, .areturn, 0, 0, 0), (58, .ldc 129, 0, 8, 1), (60, .areturn, 0, 0, 0)]
theorem gd_127 : mzGd 127 k_127 := mz_gd (k := 0) (by decide +kernel) (by decide +kernel) (by decide +kernel)
-- MeltPins$Tape.traitName(I)Ljava/lang/String;
def k_128 : List mzO := [(0, .iload_n 0, 0, 0, 0), (1, .tableswitch 43 2 5 #[31, 34, 37, 40], 0, 31, 0), (32, .ldc 131, 0, 9, 1), (34, .areturn, 0, 0, 0), (35, .ldc 133, 0, 10, 1), (37, .areturn, 0, 0, 0), (38, .ldc 135, 0, 11, 1), (40, .areturn, 0, 0, 0), (41, .ldc 137, 0, 12, 1), (43, .areturn, 0, 0, 0), (44, .ldc 139, 0, 13, 1), (46, .areturn, 0, 0, 0)]
theorem gd_128 : mzGd 128 k_128 := mz_gd (k := 0) (by decide +kernel) (by decide +kernel) (by decide +kernel)
-- MeltPins.feed(II)I
def k_129 : List mzO := [(0, .iload_n 2, 0, 0, 0), (1, .iconst 1, 0, 0, 0), (2, .if_icmp .lt 8, 0, 10, 0), (5, .iload_n 2, 0, 0, 0), (6, .iconst 4, 0, 0, 0), (7, .if_icmp .le 10, 0, 17, 0), (10, .aload_n 0, 0, 0, 0), (11, .ldc 49, (-1000001), 0, 0), (13, .invokevirtual 50, 1, 173, 2), (16, .ireturn, 0, 0, 0), (17, .aload_n 0, 0, 0, 0), (18, .getfield 34, 0, 4, 4), (21, .getfield 54, 0, 1, 2), (24, .iload_n 2, 0, 0, 0), (25, .iadd, 0, 0, 0), (26, .bipush 120, 0, 0, 0), (28, .if_icmp .le 10, 0, 38, 0), (31, .aload_n 0, 0, 0, 0), (32, .ldc 58, (-1000002), 0, 0), (34, .invokevirtual 50, 1, 173, 2), (37, .ireturn, 0, 0, 0), (38, .iload_n 2, 0, 0, 0), (39, .iconst 1, 0, 0, 0), (40, .isub, 0, 0, 0), (41, .istore_n 3, 0, 0, 0), (42, .iload_n 3, 0, 0, 0), (43, .ifCond .lt 22, 0, 65, 0), (46, .aload_n 0, 0, 0, 0), (47, .getfield 34, 0, 4, 4), (50, .iload_n 1, 0, 0, 0), (51, .bipush 8, 0, 0, 0), (53, .iload_n 3, 0, 0, 0), (54, .imul, 0, 0, 0), (55, .ishr, 0, 0, 0), (56, .invokevirtual 59, 0, 115, 2), (59, .iinc 3 (-1), 0, 0, 0), (62, .goto (-20), 0, 42, 0), (65, .aload_n 0, 0, 0, 0), (66, .getfield 34, 0, 4, 4), (69, .getfield 54, 0, 1, 2), (72, .ireturn, 0, 0, 0)]
theorem gd_129 : mzGd 129 k_129 := mz_gd (k := 0) (by decide +kernel) (by decide +kernel) (by decide +kernel)
-- MeltPins.wipe()I
def k_130 : List mzO := [(0, .aload_n 0, 0, 0, 0), (1, .getfield 34, 0, 4, 4), (4, .getfield 54, 0, 1, 2), (7, .istore_n 1, 0, 0, 0), (8, .aload_n 0, 0, 0, 0), (9, .getfield 34, 0, 4, 4), (12, .iconst 0, 0, 0, 0), (13, .putfield 54, 0, 1, 2), (16, .iload_n 1, 0, 0, 0), (17, .ireturn, 0, 0, 0)]
theorem gd_130 : mzGd 130 k_130 := mz_gd (k := 0) (by decide +kernel) (by decide +kernel) (by decide +kernel)
-- MeltPins.world()I
def k_131 : List mzO := [(0, .aload_n 0, 0, 0, 0), (1, .getfield 19, 0, 2, 4), (4, .aload_n 0, 0, 0, 0), (5, .getfield 12, 0, 0, 4), (8, .invokevirtual 63, 0, 93, 2), (11, .aload_n 0, 0, 0, 0), (12, .getfield 34, 0, 4, 4), (15, .aload_n 0, 0, 0, 0), (16, .getfield 19, 0, 2, 4), (19, .invokevirtual 66, 1, 116, 2), (22, .istore_n 1, 0, 0, 0), (23, .aload_n 0, 0, 0, 0), (24, .getfield 34, 0, 4, 4), (27, .iconst 0, 0, 0, 0), (28, .putfield 54, 0, 1, 2), (31, .iload_n 1, 0, 0, 0), (32, .ifCond .lt 7, 0, 39, 0), (35, .iconst (-1), 0, 0, 0), (36, .iload_n 1, 0, 0, 0), (37, .isub, 0, 0, 0), (38, .ireturn, 0, 0, 0), (39, .aload_n 0, 0, 0, 0), (40, .getfield 12, 0, 0, 4), (43, .aload_n 0, 0, 0, 0), (44, .getfield 19, 0, 2, 4), (47, .invokevirtual 63, 0, 93, 2), (50, .aload_n 0, 0, 0, 0), (51, .getfield 12, 0, 0, 4), (54, .getfield 70, 0, 0, 3), (57, .ireturn, 0, 0, 0)]
theorem gd_131 : mzGd 131 k_131 := mz_gd (k := 0) (by decide +kernel) (by decide +kernel) (by decide +kernel)
-- MeltPins.placeOf(II)I
def k_132 : List mzO := [(0, .aload_n 0, 0, 0, 0), (1, .iload_n 1, 0, 0, 0), (2, .invokevirtual 73, 1, 174, 2), (5, .ifCond .eq 13, 0, 18, 0), (8, .iload_n 2, 0, 0, 0), (9, .ifCond .lt 9, 0, 18, 0), (12, .iload_n 2, 0, 0, 0), (13, .bipush 10, 0, 0, 0), (15, .if_icmp .le 10, 0, 25, 0), (18, .aload_n 0, 0, 0, 0), (19, .ldc 49, (-1000001), 0, 0), (21, .invokevirtual 50, 1, 173, 2), (24, .ireturn, 0, 0, 0), (25, .iload_n 2, 0, 0, 0), (26, .bipush 9, 0, 0, 0), (28, .if_icmp .ne 23, 0, 51, 0), (31, .aload_n 0, 0, 0, 0), (32, .getfield 12, 0, 0, 4), (35, .iload_n 1, 0, 0, 0), (36, .aload_n 0, 0, 0, 0), (37, .getfield 12, 0, 0, 4), (40, .getfield 77, 0, 5, 3), (43, .iload_n 1, 0, 0, 0), (44, .aaload, 0, 0, 0), (45, .iconst 1, 0, 0, 0), (46, .iaload, 0, 0, 0), (47, .invokevirtual 81, 1, 97, 3), (50, .ireturn, 0, 0, 0), (51, .iload_n 2, 0, 0, 0), (52, .bipush 10, 0, 0, 0), (54, .if_icmp .ne 15, 0, 69, 0), (57, .aload_n 0, 0, 0, 0), (58, .getfield 12, 0, 0, 4), (61, .getfield 85, 0, 3, 3), (64, .iload_n 1, 0, 0, 0), (65, .ishr, 0, 0, 0), (66, .iconst 1, 0, 0, 0), (67, .iand, 0, 0, 0), (68, .ireturn, 0, 0, 0), (69, .aload_n 0, 0, 0, 0), (70, .getfield 12, 0, 0, 4), (73, .getfield 77, 0, 5, 3), (76, .iload_n 1, 0, 0, 0), (77, .aaload, 0, 0, 0), (78, .iload_n 2, 0, 0, 0), (79, .iaload, 0, 0, 0), (80, .ireturn, 0, 0, 0)]
theorem gd_132 : mzGd 132 k_132 := mz_gd (k := 0) (by decide +kernel) (by decide +kernel) (by decide +kernel)
-- MeltPins.change(III)I
def k_133 : List mzO := [(0, .aload_n 0, 0, 0, 0), (1, .iload_n 1, 0, 0, 0), (2, .invokevirtual 73, 1, 174, 2), (5, .ifCond .eq 32, 0, 37, 0), (8, .iload_n 2, 0, 0, 0), (9, .iconst 1, 0, 0, 0), (10, .if_icmp .lt 27, 0, 37, 0), (13, .iload_n 2, 0, 0, 0), (14, .bipush 7, 0, 0, 0), (16, .if_icmp .gt 21, 0, 37, 0), (19, .iload_n 3, 0, 0, 0), (20, .getstatic 88, 0, 1, 0), (23, .iload_n 2, 0, 0, 0), (24, .iaload, 0, 0, 0), (25, .if_icmp .lt 12, 0, 37, 0), (28, .iload_n 3, 0, 0, 0), (29, .getstatic 91, 0, 2, 0), (32, .iload_n 2, 0, 0, 0), (33, .iaload, 0, 0, 0), (34, .if_icmp .le 10, 0, 44, 0), (37, .aload_n 0, 0, 0, 0), (38, .ldc 49, (-1000001), 0, 0), (40, .invokevirtual 50, 1, 173, 2), (43, .ireturn, 0, 0, 0), (44, .iload_n 2, 0, 0, 0), (45, .bipush 7, 0, 0, 0), (47, .if_icmp .ne 26, 0, 73, 0), (50, .iload_n 3, 0, 0, 0), (51, .iload_n 1, 0, 0, 0), (52, .if_icmp .eq 14, 0, 66, 0), (55, .iload_n 3, 0, 0, 0), (56, .aload_n 0, 0, 0, 0), (57, .getfield 12, 0, 0, 4), (60, .getfield 70, 0, 0, 3), (63, .if_icmp .lt 10, 0, 73, 0), (66, .aload_n 0, 0, 0, 0), (67, .ldc 49, (-1000001), 0, 0), (69, .invokevirtual 50, 1, 173, 2), (72, .ireturn, 0, 0, 0), (73, .aload_n 0, 0, 0, 0), (74, .getfield 12, 0, 0, 4), (77, .getfield 77, 0, 5, 3), (80, .iload_n 1, 0, 0, 0), (81, .aaload, 0, 0, 0), (82, .iload_n 2, 0, 0, 0), (83, .iaload, 0, 0, 0), (84, .istore 4, 0, 0, 0), (86, .aload_n 0, 0, 0, 0), (87, .getfield 12, 0, 0, 4), (90, .getfield 77, 0, 5, 3), (93, .iload_n 1, 0, 0, 0), (94, .aaload, 0, 0, 0), (95, .iload_n 2, 0, 0, 0), (96, .iload_n 3, 0, 0, 0), (97, .iastore, 0, 0, 0), (98, .iload 4, 0, 0, 0), (100, .ireturn, 0, 0, 0)]
theorem gd_133 : mzGd 133 k_133 := mz_gd (k := 0) (by decide +kernel) (by decide +kernel) (by decide +kernel)
-- MeltPins.step(I)I
def k_134 : List mzO := [(0, .aload_n 0, 0, 0, 0), (1, .iload_n 1, 0, 0, 0), (2, .invokevirtual 73, 1, 174, 2), (5, .ifCond .ne 10, 0, 15, 0), (8, .aload_n 0, 0, 0, 0), (9, .ldc 49, (-1000001), 0, 0), (11, .invokevirtual 50, 1, 173, 2), (14, .ireturn, 0, 0, 0), (15, .aload_n 0, 0, 0, 0), (16, .getfield 12, 0, 0, 4), (19, .getfield 77, 0, 5, 3), (22, .iload_n 1, 0, 0, 0), (23, .aaload, 0, 0, 0), (24, .bipush 8, 0, 0, 0), (26, .iaload, 0, 0, 0), (27, .bipush 9, 0, 0, 0), (29, .if_icmp .lt 10, 0, 39, 0), (32, .aload_n 0, 0, 0, 0), (33, .ldc 58, (-1000002), 0, 0), (35, .invokevirtual 50, 1, 173, 2), (38, .ireturn, 0, 0, 0), (39, .aload_n 0, 0, 0, 0), (40, .getfield 12, 0, 0, 4), (43, .getfield 77, 0, 5, 3), (46, .iload_n 1, 0, 0, 0), (47, .aaload, 0, 0, 0), (48, .bipush 8, 0, 0, 0), (50, .dup2, 0, 0, 0), (51, .iaload, 0, 0, 0), (52, .iconst 1, 0, 0, 0), (53, .iadd, 0, 0, 0), (54, .iastore, 0, 0, 0), (55, .aload_n 0, 0, 0, 0), (56, .getfield 12, 0, 0, 4), (59, .getfield 77, 0, 5, 3), (62, .iload_n 1, 0, 0, 0), (63, .aaload, 0, 0, 0), (64, .bipush 8, 0, 0, 0), (66, .iaload, 0, 0, 0), (67, .ireturn, 0, 0, 0)]
theorem gd_134 : mzGd 134 k_134 := mz_gd (k := 0) (by decide +kernel) (by decide +kernel) (by decide +kernel)
-- MeltPins.tie(III)I
def k_135 : List mzO := [(0, .aload_n 0, 0, 0, 0), (1, .iload_n 1, 0, 0, 0), (2, .invokevirtual 73, 1, 174, 2), (5, .ifCond .eq 27, 0, 32, 0), (8, .aload_n 0, 0, 0, 0), (9, .iload_n 2, 0, 0, 0), (10, .invokevirtual 73, 1, 174, 2), (13, .ifCond .eq 19, 0, 32, 0), (16, .iload_n 1, 0, 0, 0), (17, .iload_n 2, 0, 0, 0), (18, .if_icmp .eq 14, 0, 32, 0), (21, .iload_n 3, 0, 0, 0), (22, .iconst 1, 0, 0, 0), (23, .if_icmp .lt 9, 0, 32, 0), (26, .iload_n 3, 0, 0, 0), (27, .bipush 99, 0, 0, 0), (29, .if_icmp .le 10, 0, 39, 0), (32, .aload_n 0, 0, 0, 0), (33, .ldc 49, (-1000001), 0, 0), (35, .invokevirtual 50, 1, 173, 2), (38, .ireturn, 0, 0, 0), (39, .aload_n 0, 0, 0, 0), (40, .getfield 12, 0, 0, 4), (43, .getfield 94, 0, 6, 3), (46, .iload_n 1, 0, 0, 0), (47, .aaload, 0, 0, 0), (48, .iload_n 2, 0, 0, 0), (49, .iaload, 0, 0, 0), (50, .istore 4, 0, 0, 0), (52, .iload 4, 0, 0, 0), (54, .ifCond .ne 22, 0, 76, 0), (57, .aload_n 0, 0, 0, 0), (58, .getfield 12, 0, 0, 4), (61, .getfield 97, 0, 1, 3), (64, .bipush 40, 0, 0, 0), (66, .if_icmp .lt 10, 0, 76, 0), (69, .aload_n 0, 0, 0, 0), (70, .ldc 58, (-1000002), 0, 0), (72, .invokevirtual 50, 1, 173, 2), (75, .ireturn, 0, 0, 0), (76, .aload_n 0, 0, 0, 0), (77, .getfield 12, 0, 0, 4), (80, .iload_n 1, 0, 0, 0), (81, .iload_n 2, 0, 0, 0), (82, .iload_n 3, 0, 0, 0), (83, .invokevirtual 100, 0, 96, 4), (86, .iload 4, 0, 0, 0), (88, .ireturn, 0, 0, 0)]
theorem gd_135 : mzGd 135 k_135 := mz_gd (k := 0) (by decide +kernel) (by decide +kernel) (by decide +kernel)
-- MeltPins.tieOf(II)I
def k_136 : List mzO := [(0, .aload_n 0, 0, 0, 0), (1, .iload_n 1, 0, 0, 0), (2, .invokevirtual 73, 1, 174, 2), (5, .ifCond .eq 11, 0, 16, 0), (8, .aload_n 0, 0, 0, 0), (9, .iload_n 2, 0, 0, 0), (10, .invokevirtual 73, 1, 174, 2), (13, .ifCond .ne 10, 0, 23, 0), (16, .aload_n 0, 0, 0, 0), (17, .ldc 49, (-1000001), 0, 0), (19, .invokevirtual 50, 1, 173, 2), (22, .ireturn, 0, 0, 0), (23, .aload_n 0, 0, 0, 0), (24, .getfield 12, 0, 0, 4), (27, .getfield 94, 0, 6, 3), (30, .iload_n 1, 0, 0, 0), (31, .aaload, 0, 0, 0), (32, .iload_n 2, 0, 0, 0), (33, .iaload, 0, 0, 0), (34, .ireturn, 0, 0, 0)]
theorem gd_136 : mzGd 136 k_136 := mz_gd (k := 0) (by decide +kernel) (by decide +kernel) (by decide +kernel)
-- MeltPins.cut(II)I
def k_137 : List mzO := [(0, .aload_n 0, 0, 0, 0), (1, .iload_n 1, 0, 0, 0), (2, .invokevirtual 73, 1, 174, 2), (5, .ifCond .eq 11, 0, 16, 0), (8, .aload_n 0, 0, 0, 0), (9, .iload_n 2, 0, 0, 0), (10, .invokevirtual 73, 1, 174, 2), (13, .ifCond .ne 10, 0, 23, 0), (16, .aload_n 0, 0, 0, 0), (17, .ldc 49, (-1000001), 0, 0), (19, .invokevirtual 50, 1, 173, 2), (22, .ireturn, 0, 0, 0), (23, .aload_n 0, 0, 0, 0), (24, .getfield 12, 0, 0, 4), (27, .getfield 94, 0, 6, 3), (30, .iload_n 1, 0, 0, 0), (31, .aaload, 0, 0, 0), (32, .iload_n 2, 0, 0, 0), (33, .iaload, 0, 0, 0), (34, .ifCond .ne 10, 0, 44, 0), (37, .aload_n 0, 0, 0, 0), (38, .ldc 104, (-1000004), 0, 0), (40, .invokevirtual 50, 1, 173, 2), (43, .ireturn, 0, 0, 0), (44, .aload_n 0, 0, 0, 0), (45, .getfield 12, 0, 0, 4), (48, .getfield 94, 0, 6, 3), (51, .iload_n 1, 0, 0, 0), (52, .aaload, 0, 0, 0), (53, .iload_n 2, 0, 0, 0), (54, .iconst 0, 0, 0, 0), (55, .iastore, 0, 0, 0), (56, .aload_n 0, 0, 0, 0), (57, .getfield 12, 0, 0, 4), (60, .dup, 0, 0, 0), (61, .getfield 97, 0, 1, 3), (64, .iconst 1, 0, 0, 0), (65, .isub, 0, 0, 0), (66, .putfield 97, 0, 1, 3), (69, .aload_n 0, 0, 0, 0), (70, .getfield 12, 0, 0, 4), (73, .getfield 97, 0, 1, 3), (76, .ireturn, 0, 0, 0)]
theorem gd_137 : mzGd 137 k_137 := mz_gd (k := 0) (by decide +kernel) (by decide +kernel) (by decide +kernel)
-- MeltPins.hold(IZ)I
def k_138 : List mzO := [(0, .aload_n 0, 0, 0, 0), (1, .iload_n 1, 0, 0, 0), (2, .invokevirtual 73, 1, 174, 2), (5, .ifCond .ne 10, 0, 15, 0), (8, .aload_n 0, 0, 0, 0), (9, .ldc 49, (-1000001), 0, 0), (11, .invokevirtual 50, 1, 173, 2), (14, .ireturn, 0, 0, 0), (15, .aload_n 0, 0, 0, 0), (16, .getfield 12, 0, 0, 4), (19, .getfield 85, 0, 3, 3), (22, .iload_n 1, 0, 0, 0), (23, .ishr, 0, 0, 0), (24, .iconst 1, 0, 0, 0), (25, .iand, 0, 0, 0), (26, .istore_n 3, 0, 0, 0), (27, .aload_n 0, 0, 0, 0), (28, .getfield 12, 0, 0, 4), (31, .iload_n 2, 0, 0, 0), (32, .ifCond .eq 17, 0, 49, 0), (35, .aload_n 0, 0, 0, 0), (36, .getfield 12, 0, 0, 4), (39, .getfield 85, 0, 3, 3), (42, .iconst 1, 0, 0, 0), (43, .iload_n 1, 0, 0, 0), (44, .ishl, 0, 0, 0), (45, .ior, 0, 0, 0), (46, .goto 16, 0, 62, 0), (49, .aload_n 0, 0, 0, 0), (50, .getfield 12, 0, 0, 4), (53, .getfield 85, 0, 3, 3), (56, .iconst 1, 0, 0, 0), (57, .iload_n 1, 0, 0, 0), (58, .ishl, 0, 0, 0), (59, .iconst (-1), 0, 0, 0), (60, .ixor, 0, 0, 0), (61, .iand, 0, 0, 0), (62, .putfield 85, 0, 3, 3), (65, .iload_n 3, 0, 0, 0), (66, .ireturn, 0, 0, 0)]
theorem gd_138 : mzGd 138 k_138 := mz_gd (k := 0) (by decide +kernel) (by decide +kernel) (by decide +kernel)
-- MeltPins.push(II)I
def k_139 : List mzO := [(0, .iload_n 1, 0, 0, 0), (1, .ifCond .lt 17, 0, 18, 0), (4, .iload_n 1, 0, 0, 0), (5, .bipush 49, 0, 0, 0), (7, .if_icmp .gt 11, 0, 18, 0), (10, .aload_n 0, 0, 0, 0), (11, .iload_n 2, 0, 0, 0), (12, .invokevirtual 73, 1, 174, 2), (15, .ifCond .ne 10, 0, 25, 0), (18, .aload_n 0, 0, 0, 0), (19, .ldc 49, (-1000001), 0, 0), (21, .invokevirtual 50, 1, 173, 2), (24, .ireturn, 0, 0, 0), (25, .aload_n 0, 0, 0, 0), (26, .getfield 12, 0, 0, 4), (29, .iload_n 1, 0, 0, 0), (30, .invokevirtual 105, 1, 98, 2), (33, .iload_n 2, 0, 0, 0), (34, .ishr, 0, 0, 0), (35, .iconst 1, 0, 0, 0), (36, .iand, 0, 0, 0), (37, .ifCond .eq 10, 0, 47, 0), (40, .aload_n 0, 0, 0, 0), (41, .ldc 108, (-1000005), 0, 0), (43, .invokevirtual 50, 1, 173, 2), (46, .ireturn, 0, 0, 0), (47, .aload_n 0, 0, 0, 0), (48, .getfield 12, 0, 0, 4), (51, .getfield 109, 0, 2, 3), (54, .bipush 20, 0, 0, 0), (56, .if_icmp .lt 10, 0, 66, 0), (59, .aload_n 0, 0, 0, 0), (60, .ldc 58, (-1000002), 0, 0), (62, .invokevirtual 50, 1, 173, 2), (65, .ireturn, 0, 0, 0), (66, .aload_n 0, 0, 0, 0), (67, .getfield 12, 0, 0, 4), (70, .getfield 112, 0, 7, 3), (73, .aload_n 0, 0, 0, 0), (74, .getfield 12, 0, 0, 4), (77, .getfield 109, 0, 2, 3), (80, .iload_n 1, 0, 0, 0), (81, .iastore, 0, 0, 0), (82, .aload_n 0, 0, 0, 0), (83, .getfield 12, 0, 0, 4), (86, .getfield 115, 0, 8, 3), (89, .aload_n 0, 0, 0, 0), (90, .getfield 12, 0, 0, 4), (93, .getfield 109, 0, 2, 3), (96, .iload_n 2, 0, 0, 0), (97, .iastore, 0, 0, 0), (98, .aload_n 0, 0, 0, 0), (99, .getfield 12, 0, 0, 4), (102, .dup, 0, 0, 0), (103, .getfield 109, 0, 2, 3), (106, .iconst 1, 0, 0, 0), (107, .iadd, 0, 0, 0), (108, .putfield 109, 0, 2, 3), (111, .aload_n 0, 0, 0, 0), (112, .getfield 12, 0, 0, 4), (115, .getfield 109, 0, 2, 3), (118, .ireturn, 0, 0, 0)]
theorem gd_139 : mzGd 139 k_139 := mz_gd (k := 0) (by decide +kernel) (by decide +kernel) (by decide +kernel)
-- MeltPins.pushOf(II)I
def k_140 : List mzO := [(0, .iload_n 1, 0, 0, 0), (1, .ifCond .lt 23, 0, 24, 0), (4, .iload_n 1, 0, 0, 0), (5, .aload_n 0, 0, 0, 0), (6, .getfield 12, 0, 0, 4), (9, .getfield 109, 0, 2, 3), (12, .if_icmp .ge 12, 0, 24, 0), (15, .iload_n 2, 0, 0, 0), (16, .ifCond .lt 8, 0, 24, 0), (19, .iload_n 2, 0, 0, 0), (20, .iconst 1, 0, 0, 0), (21, .if_icmp .le 10, 0, 31, 0), (24, .aload_n 0, 0, 0, 0), (25, .ldc 49, (-1000001), 0, 0), (27, .invokevirtual 50, 1, 173, 2), (30, .ireturn, 0, 0, 0), (31, .iload_n 2, 0, 0, 0), (32, .ifCond .ne 15, 0, 47, 0), (35, .aload_n 0, 0, 0, 0), (36, .getfield 12, 0, 0, 4), (39, .getfield 112, 0, 7, 3), (42, .iload_n 1, 0, 0, 0), (43, .iaload, 0, 0, 0), (44, .goto 12, 0, 56, 0), (47, .aload_n 0, 0, 0, 0), (48, .getfield 12, 0, 0, 4), (51, .getfield 115, 0, 8, 3), (54, .iload_n 1, 0, 0, 0), (55, .iaload, 0, 0, 0), (56, .ireturn, 0, 0, 0)]
theorem gd_140 : mzGd 140 k_140 := mz_gd (k := 0) (by decide +kernel) (by decide +kernel) (by decide +kernel)
-- MeltPins.clear()I
def k_141 : List mzO := [(0, .aload_n 0, 0, 0, 0), (1, .getfield 12, 0, 0, 4), (4, .getfield 109, 0, 2, 3), (7, .istore_n 1, 0, 0, 0), (8, .aload_n 0, 0, 0, 0), (9, .getfield 12, 0, 0, 4), (12, .iconst 0, 0, 0, 0), (13, .putfield 109, 0, 2, 3), (16, .iload_n 1, 0, 0, 0), (17, .ireturn, 0, 0, 0)]
theorem gd_141 : mzGd 141 k_141 := mz_gd (k := 0) (by decide +kernel) (by decide +kernel) (by decide +kernel)
-- MeltPins.run(II)I
def k_142 : List mzO := [(0, .iload_n 1, 0, 0, 0), (1, .ifCond .lt 18, 0, 19, 0), (4, .iload_n 1, 0, 0, 0), (5, .bipush 99, 0, 0, 0), (7, .if_icmp .gt 12, 0, 19, 0), (10, .iload_n 2, 0, 0, 0), (11, .ifCond .lt 8, 0, 19, 0), (14, .iload_n 2, 0, 0, 0), (15, .iconst 1, 0, 0, 0), (16, .if_icmp .le 10, 0, 26, 0), (19, .aload_n 0, 0, 0, 0), (20, .ldc 49, (-1000001), 0, 0), (22, .invokevirtual 50, 1, 173, 2), (25, .ireturn, 0, 0, 0), (26, .aload_n 0, 0, 0, 0), (27, .iload_n 1, 0, 0, 0), (28, .invokevirtual 118, 0, 178, 2), (31, .iload_n 2, 0, 0, 0), (32, .ifCond .ne 13, 0, 45, 0), (35, .aload_n 0, 0, 0, 0), (36, .getfield 27, 0, 3, 4), (39, .getfield 121, 0, 7, 0), (42, .goto 10, 0, 52, 0), (45, .aload_n 0, 0, 0, 0), (46, .getfield 27, 0, 3, 4), (49, .getfield 124, 0, 8, 0), (52, .ireturn, 0, 0, 0)]
theorem gd_142 : mzGd 142 k_142 := mz_gd (k := 0) (by decide +kernel) (by decide +kernel) (by decide +kernel)
-- MeltPins.runOf(III)I
def k_143 : List mzO := [(0, .iload_n 1, 0, 0, 0), (1, .ifCond .lt 26, 0, 27, 0), (4, .iload_n 1, 0, 0, 0), (5, .bipush 99, 0, 0, 0), (7, .if_icmp .gt 20, 0, 27, 0), (10, .aload_n 0, 0, 0, 0), (11, .iload_n 2, 0, 0, 0), (12, .invokevirtual 73, 1, 174, 2), (15, .ifCond .eq 12, 0, 27, 0), (18, .iload_n 3, 0, 0, 0), (19, .ifCond .lt 8, 0, 27, 0), (22, .iload_n 3, 0, 0, 0), (23, .iconst 1, 0, 0, 0), (24, .if_icmp .le 10, 0, 34, 0), (27, .aload_n 0, 0, 0, 0), (28, .ldc 49, (-1000001), 0, 0), (30, .invokevirtual 50, 1, 173, 2), (33, .ireturn, 0, 0, 0), (34, .aload_n 0, 0, 0, 0), (35, .iload_n 1, 0, 0, 0), (36, .invokevirtual 118, 0, 178, 2), (39, .iload_n 3, 0, 0, 0), (40, .ifCond .ne 15, 0, 55, 0), (43, .aload_n 0, 0, 0, 0), (44, .getfield 27, 0, 3, 4), (47, .getfield 127, 0, 6, 0), (50, .iload_n 2, 0, 0, 0), (51, .iaload, 0, 0, 0), (52, .goto 18, 0, 70, 0), (55, .aload_n 0, 0, 0, 0), (56, .getfield 27, 0, 3, 4), (59, .iload_n 2, 0, 0, 0), (60, .aload_n 0, 0, 0, 0), (61, .getfield 27, 0, 3, 4), (64, .getfield 121, 0, 7, 0), (67, .invokevirtual 130, 1, 112, 3), (70, .ireturn, 0, 0, 0)]
theorem gd_143 : mzGd 143 k_143 := mz_gd (k := 0) (by decide +kernel) (by decide +kernel) (by decide +kernel)
-- MeltPins.when(I)I
def k_144 : List mzO := [(0, .aload_n 0, 0, 0, 0), (1, .iload_n 1, 0, 0, 0), (2, .invokevirtual 73, 1, 174, 2), (5, .ifCond .ne 10, 0, 15, 0), (8, .aload_n 0, 0, 0, 0), (9, .ldc 49, (-1000001), 0, 0), (11, .invokevirtual 50, 1, 173, 2), (14, .ireturn, 0, 0, 0), (15, .aload_n 0, 0, 0, 0), (16, .iconst 0, 0, 0, 0), (17, .invokevirtual 118, 0, 178, 2), (20, .iconst 1, 0, 0, 0), (21, .istore_n 2, 0, 0, 0), (22, .iload_n 2, 0, 0, 0), (23, .bipush 99, 0, 0, 0), (25, .if_icmp .gt 43, 0, 68, 0), (28, .aload_n 0, 0, 0, 0), (29, .getfield 27, 0, 3, 4), (32, .aload_n 0, 0, 0, 0), (33, .getfield 12, 0, 0, 4), (36, .iload_n 2, 0, 0, 0), (37, .iconst 1, 0, 0, 0), (38, .isub, 0, 0, 0), (39, .invokevirtual 105, 1, 98, 2), (42, .invokevirtual 133, 1, 109, 2), (45, .pop, 0, 0, 0), (46, .aload_n 0, 0, 0, 0), (47, .getfield 27, 0, 3, 4), (50, .getfield 121, 0, 7, 0), (53, .iload_n 1, 0, 0, 0), (54, .ishr, 0, 0, 0), (55, .iconst 1, 0, 0, 0), (56, .iand, 0, 0, 0), (57, .ifCond .eq 5, 0, 62, 0), (60, .iload_n 2, 0, 0, 0), (61, .ireturn, 0, 0, 0), (62, .iinc 2 1, 0, 0, 0), (65, .goto (-43), 0, 22, 0), (68, .aload_n 0, 0, 0, 0), (69, .ldc 104, (-1000004), 0, 0), (71, .invokevirtual 50, 1, 173, 2), (74, .ireturn, 0, 0, 0)]
theorem gd_144 : mzGd 144 k_144 := mz_gd (k := 0) (by decide +kernel) (by decide +kernel) (by decide +kernel)
-- MeltPins.settles()I
def k_145 : List mzO := [(0, .aload_n 0, 0, 0, 0), (1, .iconst 0, 0, 0, 0), (2, .invokevirtual 118, 0, 178, 2), (5, .iconst 0, 0, 0, 0), (6, .istore_n 1, 0, 0, 0), (7, .iconst 1, 0, 0, 0), (8, .istore_n 2, 0, 0, 0), (9, .iload_n 2, 0, 0, 0), (10, .bipush 99, 0, 0, 0), (12, .if_icmp .gt 69, 0, 81, 0), (15, .aload_n 0, 0, 0, 0), (16, .getfield 27, 0, 3, 4), (19, .getfield 121, 0, 7, 0), (22, .istore_n 3, 0, 0, 0), (23, .aload_n 0, 0, 0, 0), (24, .getfield 27, 0, 3, 4), (27, .getfield 124, 0, 8, 0), (30, .istore 4, 0, 0, 0), (32, .aload_n 0, 0, 0, 0), (33, .getfield 27, 0, 3, 4), (36, .aload_n 0, 0, 0, 0), (37, .getfield 12, 0, 0, 4), (40, .iload_n 2, 0, 0, 0), (41, .iconst 1, 0, 0, 0), (42, .isub, 0, 0, 0), (43, .invokevirtual 105, 1, 98, 2), (46, .invokevirtual 133, 1, 109, 2), (49, .pop, 0, 0, 0), (50, .aload_n 0, 0, 0, 0), (51, .getfield 27, 0, 3, 4), (54, .getfield 121, 0, 7, 0), (57, .iload_n 3, 0, 0, 0), (58, .if_icmp .ne 15, 0, 73, 0), (61, .aload_n 0, 0, 0, 0), (62, .getfield 27, 0, 3, 4), (65, .getfield 124, 0, 8, 0), (68, .iload 4, 0, 0, 0), (70, .if_icmp .eq 5, 0, 75, 0), (73, .iload_n 2, 0, 0, 0), (74, .istore_n 1, 0, 0, 0), (75, .iinc 2 1, 0, 0, 0), (78, .goto (-69), 0, 9, 0), (81, .iload_n 1, 0, 0, 0), (82, .ireturn, 0, 0, 0)]
theorem gd_145 : mzGd 145 k_145 := mz_gd (k := 0) (by decide +kernel) (by decide +kernel) (by decide +kernel)
-- MeltPins.stand(I)I
def k_146 : List mzO := [(0, .aload_n 0, 0, 0, 0), (1, .iload_n 1, 0, 0, 0), (2, .invokevirtual 136, 1, 175, 2), (5, .ifCond .ne 10, 0, 15, 0), (8, .aload_n 0, 0, 0, 0), (9, .ldc 49, (-1000001), 0, 0), (11, .invokevirtual 50, 1, 173, 2), (14, .ireturn, 0, 0, 0), (15, .aload_n 0, 0, 0, 0), (16, .getfield 27, 0, 3, 4), (19, .invokevirtual 139, 0, 102, 1), (22, .aload_n 0, 0, 0, 0), (23, .getfield 27, 0, 3, 4), (26, .iload_n 1, 0, 0, 0), (27, .aload_n 0, 0, 0, 0), (28, .getfield 12, 0, 0, 4), (31, .getfield 85, 0, 3, 3), (34, .invokevirtual 142, 1, 107, 3), (37, .ireturn, 0, 0, 0)]
theorem gd_146 : mzGd 146 k_146 := mz_gd (k := 0) (by decide +kernel) (by decide +kernel) (by decide +kernel)
-- MeltPins.late(I)I
def k_147 : List mzO := [(0, .aload_n 0, 0, 0, 0), (1, .iload_n 1, 0, 0, 0), (2, .invokevirtual 136, 1, 175, 2), (5, .ifCond .ne 10, 0, 15, 0), (8, .aload_n 0, 0, 0, 0), (9, .ldc 49, (-1000001), 0, 0), (11, .invokevirtual 50, 1, 173, 2), (14, .ireturn, 0, 0, 0), (15, .aload_n 0, 0, 0, 0), (16, .getfield 27, 0, 3, 4), (19, .invokevirtual 139, 0, 102, 1), (22, .aload_n 0, 0, 0, 0), (23, .getfield 27, 0, 3, 4), (26, .aload_n 0, 0, 0, 0), (27, .getfield 12, 0, 0, 4), (30, .getfield 85, 0, 3, 3), (33, .invokevirtual 145, 0, 108, 2), (36, .iconst 1, 0, 0, 0), (37, .istore_n 2, 0, 0, 0), (38, .iload_n 2, 0, 0, 0), (39, .bipush 24, 0, 0, 0), (41, .if_icmp .gt 46, 0, 87, 0), (44, .aload_n 0, 0, 0, 0), (45, .getfield 27, 0, 3, 4), (48, .iload_n 2, 0, 0, 0), (49, .iconst 1, 0, 0, 0), (50, .if_icmp .ne 7, 0, 57, 0), (53, .iload_n 1, 0, 0, 0), (54, .goto 4, 0, 58, 0), (57, .iconst 0, 0, 0, 0), (58, .invokevirtual 133, 1, 109, 2), (61, .pop, 0, 0, 0), (62, .aload_n 0, 0, 0, 0), (63, .getfield 27, 0, 3, 4), (66, .getfield 121, 0, 7, 0), (69, .aload_n 0, 0, 0, 0), (70, .getfield 12, 0, 0, 4), (73, .invokevirtual 148, 1, 94, 1), (76, .if_icmp .ne 5, 0, 81, 0), (79, .iload_n 2, 0, 0, 0), (80, .ireturn, 0, 0, 0), (81, .iinc 2 1, 0, 0, 0), (84, .goto (-46), 0, 38, 0), (87, .aload_n 0, 0, 0, 0), (88, .ldc 104, (-1000004), 0, 0), (90, .invokevirtual 50, 1, 173, 2), (93, .ireturn, 0, 0, 0)]
theorem gd_147 : mzGd 147 k_147 := mz_gd (k := 0) (by decide +kernel) (by decide +kernel) (by decide +kernel)
-- MeltPins.fewest(I)I
def k_148 : List mzO := [(0, .iload_n 1, 0, 0, 0), (1, .ifCond .lt 8, 0, 9, 0), (4, .iload_n 1, 0, 0, 0), (5, .iconst 2, 0, 0, 0), (6, .if_icmp .le 10, 0, 16, 0), (9, .aload_n 0, 0, 0, 0), (10, .ldc 49, (-1000001), 0, 0), (12, .invokevirtual 50, 1, 173, 2), (15, .ireturn, 0, 0, 0), (16, .aload_n 0, 0, 0, 0), (17, .aload_n 0, 0, 0, 0), (18, .iconst 1, 0, 0, 0), (19, .invokevirtual 152, 1, 179, 2), (22, .iload_n 1, 0, 0, 0), (23, .invokevirtual 156, 1, 180, 3), (26, .ireturn, 0, 0, 0)]
theorem gd_148 : mzGd 148 k_148 := mz_gd (k := 0) (by decide +kernel) (by decide +kernel) (by decide +kernel)
-- MeltPins.cheapest(I)I
def k_149 : List mzO := [(0, .iload_n 1, 0, 0, 0), (1, .ifCond .lt 8, 0, 9, 0), (4, .iload_n 1, 0, 0, 0), (5, .iconst 2, 0, 0, 0), (6, .if_icmp .le 10, 0, 16, 0), (9, .aload_n 0, 0, 0, 0), (10, .ldc 49, (-1000001), 0, 0), (12, .invokevirtual 50, 1, 173, 2), (15, .ireturn, 0, 0, 0), (16, .aload_n 0, 0, 0, 0), (17, .aload_n 0, 0, 0, 0), (18, .iconst 0, 0, 0, 0), (19, .invokevirtual 152, 1, 179, 2), (22, .iload_n 1, 0, 0, 0), (23, .invokevirtual 156, 1, 180, 3), (26, .ireturn, 0, 0, 0)]
theorem gd_149 : mzGd 149 k_149 := mz_gd (k := 0) (by decide +kernel) (by decide +kernel) (by decide +kernel)
-- MeltPins.most(II)I
def k_150 : List mzO := [(0, .iload_n 1, 0, 0, 0), (1, .ifCond .lt 12, 0, 13, 0), (4, .iload_n 2, 0, 0, 0), (5, .ifCond .lt 8, 0, 13, 0), (8, .iload_n 2, 0, 0, 0), (9, .iconst 1, 0, 0, 0), (10, .if_icmp .le 10, 0, 20, 0), (13, .aload_n 0, 0, 0, 0), (14, .ldc 49, (-1000001), 0, 0), (16, .invokevirtual 50, 1, 173, 2), (19, .ireturn, 0, 0, 0), (20, .iload_n 1, 0, 0, 0), (21, .aload_n 0, 0, 0, 0), (22, .getfield 12, 0, 0, 4), (25, .getfield 70, 0, 0, 3), (28, .if_icmp .le 10, 0, 38, 0), (31, .aload_n 0, 0, 0, 0), (32, .ldc 104, (-1000004), 0, 0), (34, .invokevirtual 50, 1, 173, 2), (37, .ireturn, 0, 0, 0), (38, .aload_n 0, 0, 0, 0), (39, .getfield 27, 0, 3, 4), (42, .invokevirtual 139, 0, 102, 1), (45, .iconst 0, 0, 0, 0), (46, .istore_n 3, 0, 0, 0), (47, .iconst (-1), 0, 0, 0), (48, .istore 4, 0, 0, 0), (50, .iconst 0, 0, 0, 0), (51, .istore 5, 0, 0, 0), (53, .iload 5, 0, 0, 0), (55, .aload_n 0, 0, 0, 0), (56, .getfield 12, 0, 0, 4), (59, .invokevirtual 148, 1, 94, 1), (62, .if_icmp .gt 53, 0, 115, 0), (65, .iload 5, 0, 0, 0), (67, .invokestatic 159, 1, 190, 1), (70, .iload_n 1, 0, 0, 0), (71, .if_icmp .ne 38, 0, 109, 0), (74, .aload_n 0, 0, 0, 0), (75, .getfield 27, 0, 3, 4), (78, .iload 5, 0, 0, 0), (80, .aload_n 0, 0, 0, 0), (81, .getfield 12, 0, 0, 4), (84, .getfield 85, 0, 3, 3), (87, .invokevirtual 142, 1, 107, 3), (90, .invokestatic 159, 1, 190, 1), (93, .istore 6, 0, 0, 0), (95, .iload 6, 0, 0, 0), (97, .iload 4, 0, 0, 0), (99, .if_icmp .le 10, 0, 109, 0), (102, .iload 5, 0, 0, 0), (104, .istore_n 3, 0, 0, 0), (105, .iload 6, 0, 0, 0), (107, .istore 4, 0, 0, 0), (109, .iinc 5 1, 0, 0, 0), (112, .goto (-59), 0, 53, 0), (115, .iload_n 2, 0, 0, 0), (116, .ifCond .ne 7, 0, 123, 0), (119, .iload_n 3, 0, 0, 0), (120, .goto 5, 0, 125, 0), (123, .iload 4, 0, 0, 0), (125, .ireturn, 0, 0, 0)]
theorem gd_150 : mzGd 150 k_150 := mz_gd (k := 0) (by decide +kernel) (by decide +kernel) (by decide +kernel)
-- MeltPins.must()I
def k_151 : List mzO := [(0, .aload_n 0, 0, 0, 0), (1, .getfield 27, 0, 3, 4), (4, .invokevirtual 139, 0, 102, 1), (7, .aload_n 0, 0, 0, 0), (8, .getfield 27, 0, 3, 4), (11, .invokevirtual 164, 1, 105, 1), (14, .ireturn, 0, 0, 0)]
theorem gd_151 : mzGd 151 k_151 := mz_gd (k := 0) (by decide +kernel) (by decide +kernel) (by decide +kernel)
-- MeltPins.order(III)I
def k_152 : List mzO := [(0, .aload_n 0, 0, 0, 0), (1, .iload_n 1, 0, 0, 0), (2, .invokevirtual 136, 1, 175, 2), (5, .ifCond .eq 10, 0, 15, 0), (8, .iload_n 1, 0, 0, 0), (9, .invokestatic 159, 1, 190, 1), (12, .goto 4, 0, 16, 0), (15, .iconst 0, 0, 0, 0), (16, .istore 4, 0, 0, 0), (18, .iload 4, 0, 0, 0), (20, .iconst 1, 0, 0, 0), (21, .if_icmp .lt 27, 0, 48, 0), (24, .iload 4, 0, 0, 0), (26, .iconst 4, 0, 0, 0), (27, .if_icmp .gt 21, 0, 48, 0), (30, .iload_n 2, 0, 0, 0), (31, .ifCond .lt 17, 0, 48, 0), (34, .iload_n 2, 0, 0, 0), (35, .iconst 5, 0, 0, 0), (36, .if_icmp .gt 12, 0, 48, 0), (39, .iload_n 3, 0, 0, 0), (40, .ifCond .lt 8, 0, 48, 0), (43, .iload_n 3, 0, 0, 0), (44, .iconst 1, 0, 0, 0), (45, .if_icmp .le 10, 0, 55, 0), (48, .aload_n 0, 0, 0, 0), (49, .ldc 49, (-1000001), 0, 0), (51, .invokevirtual 50, 1, 173, 2), (54, .ireturn, 0, 0, 0), (55, .aload_n 0, 0, 0, 0), (56, .getfield 27, 0, 3, 4), (59, .invokevirtual 139, 0, 102, 1), (62, .iconst 1, 0, 0, 0), (63, .istore 5, 0, 0, 0), (65, .iconst 0, 0, 0, 0), (66, .istore 6, 0, 0, 0), (68, .iload 6, 0, 0, 0), (70, .iload 4, 0, 0, 0), (72, .if_icmp .ge 16, 0, 88, 0), (75, .iload 5, 0, 0, 0), (77, .bipush 12, 0, 0, 0), (79, .imul, 0, 0, 0), (80, .istore 5, 0, 0, 0), (82, .iinc 6 1, 0, 0, 0), (85, .goto (-17), 0, 68, 0), (88, .iconst (-1), 0, 0, 0), (89, .istore 6, 0, 0, 0), (91, .bipush 50, 0, 0, 0), (93, .istore 7, 0, 0, 0), (95, .iconst 0, 0, 0, 0), (96, .istore 8, 0, 0, 0), (98, .iload 8, 0, 0, 0), (100, .iload 5, 0, 0, 0), (102, .if_icmp .ge 46, 0, 148, 0), (105, .iload 8, 0, 0, 0), (107, .iload 4, 0, 0, 0), (109, .invokestatic 167, 1, 181, 2), (112, .iload_n 1, 0, 0, 0), (113, .if_icmp .ne 29, 0, 142, 0), (116, .aload_n 0, 0, 0, 0), (117, .iload 8, 0, 0, 0), (119, .iload 4, 0, 0, 0), (121, .iload_n 2, 0, 0, 0), (122, .invokevirtual 170, 1, 182, 4), (125, .istore 9, 0, 0, 0), (127, .iload 9, 0, 0, 0), (129, .iload 7, 0, 0, 0), (131, .if_icmp .ge 11, 0, 142, 0), (134, .iload 8, 0, 0, 0), (136, .istore 6, 0, 0, 0), (138, .iload 9, 0, 0, 0), (140, .istore 7, 0, 0, 0), (142, .iinc 8 1, 0, 0, 0), (145, .goto (-47), 0, 98, 0), (148, .iload 6, 0, 0, 0), (150, .ifCond .ge 10, 0, 160, 0), (153, .aload_n 0, 0, 0, 0), (154, .ldc 104, (-1000004), 0, 0), (156, .invokevirtual 50, 1, 173, 2), (159, .ireturn, 0, 0, 0), (160, .iload_n 3, 0, 0, 0), (161, .ifCond .ne 8, 0, 169, 0), (164, .iload 7, 0, 0, 0), (166, .goto 5, 0, 171, 0), (169, .iload 6, 0, 0, 0), (171, .ireturn, 0, 0, 0)]
theorem gd_152 : mzGd 152 k_152 := mz_gd (k := 0) (by decide +kernel) (by decide +kernel) (by decide +kernel)
-- MeltPins.stop(II)I
def k_153 : List mzO := [(0, .aload_n 0, 0, 0, 0), (1, .iload_n 1, 0, 0, 0), (2, .invokevirtual 136, 1, 175, 2), (5, .ifCond .eq 12, 0, 17, 0), (8, .iload_n 2, 0, 0, 0), (9, .ifCond .lt 8, 0, 17, 0), (12, .iload_n 2, 0, 0, 0), (13, .iconst 1, 0, 0, 0), (14, .if_icmp .le 10, 0, 24, 0), (17, .aload_n 0, 0, 0, 0), (18, .ldc 49, (-1000001), 0, 0), (20, .invokevirtual 50, 1, 173, 2), (23, .ireturn, 0, 0, 0), (24, .aload_n 0, 0, 0, 0), (25, .getfield 27, 0, 3, 4), (28, .invokevirtual 139, 0, 102, 1), (31, .aload_n 0, 0, 0, 0), (32, .getfield 12, 0, 0, 4), (35, .invokevirtual 148, 1, 94, 1), (38, .iload_n 1, 0, 0, 0), (39, .iconst (-1), 0, 0, 0), (40, .ixor, 0, 0, 0), (41, .iand, 0, 0, 0), (42, .aload_n 0, 0, 0, 0), (43, .getfield 12, 0, 0, 4), (46, .getfield 85, 0, 3, 3), (49, .iconst (-1), 0, 0, 0), (50, .ixor, 0, 0, 0), (51, .iand, 0, 0, 0), (52, .istore_n 3, 0, 0, 0), (53, .iload_n 3, 0, 0, 0), (54, .istore 4, 0, 0, 0), (56, .ldc 174, 100000000, 0, 0), (58, .istore 5, 0, 0, 0), (60, .iconst 0, 0, 0, 0), (61, .istore 6, 0, 0, 0), (63, .iload 6, 0, 0, 0), (65, .iload_n 3, 0, 0, 0), (66, .if_icmp .gt 80, 0, 146, 0), (69, .iload 6, 0, 0, 0), (71, .iload_n 3, 0, 0, 0), (72, .iconst (-1), 0, 0, 0), (73, .ixor, 0, 0, 0), (74, .iand, 0, 0, 0), (75, .ifCond .ne 65, 0, 140, 0), (78, .iload 6, 0, 0, 0), (80, .invokestatic 159, 1, 190, 1), (83, .sipush 10000, 0, 0, 0), (86, .imul, 0, 0, 0), (87, .aload_n 0, 0, 0, 0), (88, .getfield 12, 0, 0, 4), (91, .iload 6, 0, 0, 0), (93, .iconst 5, 0, 0, 0), (94, .invokevirtual 175, 1, 99, 3), (97, .iadd, 0, 0, 0), (98, .istore 7, 0, 0, 0), (100, .iload 7, 0, 0, 0), (102, .iload 5, 0, 0, 0), (104, .if_icmp .ge 36, 0, 140, 0), (107, .aload_n 0, 0, 0, 0), (108, .getfield 27, 0, 3, 4), (111, .iload_n 1, 0, 0, 0), (112, .aload_n 0, 0, 0, 0), (113, .getfield 12, 0, 0, 4), (116, .getfield 85, 0, 3, 3), (119, .iload 6, 0, 0, 0), (121, .ior, 0, 0, 0), (122, .invokevirtual 142, 1, 107, 3), (125, .iload_n 1, 0, 0, 0), (126, .iconst (-1), 0, 0, 0), (127, .ixor, 0, 0, 0), (128, .iand, 0, 0, 0), (129, .ifCond .ne 11, 0, 140, 0), (132, .iload 6, 0, 0, 0), (134, .istore 4, 0, 0, 0), (136, .iload 7, 0, 0, 0), (138, .istore 5, 0, 0, 0), (140, .iinc 6 1, 0, 0, 0), (143, .goto (-80), 0, 63, 0), (146, .iload_n 2, 0, 0, 0), (147, .ifCond .ne 8, 0, 155, 0), (150, .iload 4, 0, 0, 0), (152, .goto 13, 0, 165, 0), (155, .aload_n 0, 0, 0, 0), (156, .getfield 12, 0, 0, 4), (159, .iload 4, 0, 0, 0), (161, .iconst 5, 0, 0, 0), (162, .invokevirtual 175, 1, 99, 3), (165, .ireturn, 0, 0, 0)]
theorem gd_153 : mzGd 153 k_153 := mz_gd (k := 0) (by decide +kernel) (by decide +kernel) (by decide +kernel)
-- MeltPins.near(I)I
def k_154 : List mzO := [(0, .aload_n 0, 0, 0, 0), (1, .iload_n 1, 0, 0, 0), (2, .invokevirtual 136, 1, 175, 2), (5, .ifCond .ne 10, 0, 15, 0), (8, .aload_n 0, 0, 0, 0), (9, .ldc 49, (-1000001), 0, 0), (11, .invokevirtual 50, 1, 173, 2), (14, .ireturn, 0, 0, 0), (15, .aload_n 0, 0, 0, 0), (16, .getfield 27, 0, 3, 4), (19, .invokevirtual 139, 0, 102, 1), (22, .iconst 0, 0, 0, 0), (23, .istore_n 2, 0, 0, 0), (24, .iload_n 2, 0, 0, 0), (25, .bipush 98, 0, 0, 0), (27, .if_icmp .gt 30, 0, 57, 0), (30, .aload_n 0, 0, 0, 0), (31, .getfield 27, 0, 3, 4), (34, .iload_n 2, 0, 0, 0), (35, .invokevirtual 178, 0, 103, 2), (38, .aload_n 0, 0, 0, 0), (39, .getfield 27, 0, 3, 4), (42, .iload_n 1, 0, 0, 0), (43, .invokevirtual 181, 1, 106, 2), (46, .ifCond .eq 5, 0, 51, 0), (49, .iload_n 2, 0, 0, 0), (50, .ireturn, 0, 0, 0), (51, .iinc 2 1, 0, 0, 0), (54, .goto (-30), 0, 24, 0), (57, .aload_n 0, 0, 0, 0), (58, .ldc 104, (-1000004), 0, 0), (60, .invokevirtual 50, 1, 173, 2), (63, .ireturn, 0, 0, 0)]
theorem gd_154 : mzGd 154 k_154 := mz_gd (k := 0) (by decide +kernel) (by decide +kernel) (by decide +kernel)
-- MeltPins.look()I
def k_155 : List mzO := [(0, .aload_n 0, 0, 0, 0), (1, .getfield 12, 0, 0, 4), (4, .getfield 70, 0, 0, 3), (7, .ifCond .ne 10, 0, 17, 0), (10, .aload_n 0, 0, 0, 0), (11, .ldc 104, (-1000004), 0, 0), (13, .invokevirtual 50, 1, 173, 2), (16, .ireturn, 0, 0, 0), (17, .aload_n 0, 0, 0, 0), (18, .getfield 27, 0, 3, 4), (21, .invokevirtual 139, 0, 102, 1), (24, .iconst 0, 0, 0, 0), (25, .istore_n 1, 0, 0, 0), (26, .iconst (-1), 0, 0, 0), (27, .istore_n 2, 0, 0, 0), (28, .iconst 0, 0, 0, 0), (29, .istore_n 3, 0, 0, 0), (30, .iload_n 3, 0, 0, 0), (31, .aload_n 0, 0, 0, 0), (32, .getfield 12, 0, 0, 4), (35, .getfield 70, 0, 0, 3), (38, .if_icmp .ge 42, 0, 80, 0), (41, .aload_n 0, 0, 0, 0), (42, .getfield 27, 0, 3, 4), (45, .iconst 1, 0, 0, 0), (46, .iload_n 3, 0, 0, 0), (47, .ishl, 0, 0, 0), (48, .aload_n 0, 0, 0, 0), (49, .getfield 12, 0, 0, 4), (52, .getfield 85, 0, 3, 3), (55, .invokevirtual 142, 1, 107, 3), (58, .invokestatic 159, 1, 190, 1), (61, .istore 4, 0, 0, 0), (63, .iload 4, 0, 0, 0), (65, .iload_n 2, 0, 0, 0), (66, .if_icmp .le 8, 0, 74, 0), (69, .iload_n 3, 0, 0, 0), (70, .istore_n 1, 0, 0, 0), (71, .iload 4, 0, 0, 0), (73, .istore_n 2, 0, 0, 0), (74, .iinc 3 1, 0, 0, 0), (77, .goto (-47), 0, 30, 0), (80, .iload_n 1, 0, 0, 0), (81, .ireturn, 0, 0, 0)]
theorem gd_155 : mzGd 155 k_155 := mz_gd (k := 0) (by decide +kernel) (by decide +kernel) (by decide +kernel)
-- MeltPins.edge(II)I
def k_156 : List mzO := [(0, .aload_n 0, 0, 0, 0), (1, .iload_n 1, 0, 0, 0), (2, .invokevirtual 136, 1, 175, 2), (5, .ifCond .eq 11, 0, 16, 0), (8, .aload_n 0, 0, 0, 0), (9, .iload_n 2, 0, 0, 0), (10, .invokevirtual 73, 1, 174, 2), (13, .ifCond .ne 10, 0, 23, 0), (16, .aload_n 0, 0, 0, 0), (17, .ldc 49, (-1000001), 0, 0), (19, .invokevirtual 50, 1, 173, 2), (22, .ireturn, 0, 0, 0), (23, .aload_n 0, 0, 0, 0), (24, .getfield 27, 0, 3, 4), (27, .invokevirtual 139, 0, 102, 1), (30, .bipush 99, 0, 0, 0), (32, .istore_n 3, 0, 0, 0), (33, .iload_n 3, 0, 0, 0), (34, .iconst 1, 0, 0, 0), (35, .if_icmp .lt 31, 0, 66, 0), (38, .aload_n 0, 0, 0, 0), (39, .getfield 27, 0, 3, 4), (42, .iload_n 2, 0, 0, 0), (43, .iload_n 3, 0, 0, 0), (44, .invokevirtual 184, 0, 104, 3), (47, .aload_n 0, 0, 0, 0), (48, .getfield 27, 0, 3, 4), (51, .iload_n 1, 0, 0, 0), (52, .invokevirtual 181, 1, 106, 2), (55, .ifCond .eq 5, 0, 60, 0), (58, .iload_n 3, 0, 0, 0), (59, .ireturn, 0, 0, 0), (60, .iinc 3 (-1), 0, 0, 0), (63, .goto (-30), 0, 33, 0), (66, .aload_n 0, 0, 0, 0), (67, .ldc 104, (-1000004), 0, 0), (69, .invokevirtual 50, 1, 173, 2), (72, .ireturn, 0, 0, 0)]
theorem gd_156 : mzGd 156 k_156 := mz_gd (k := 0) (by decide +kernel) (by decide +kernel) (by decide +kernel)
-- MeltPins.likely()J
def k_157 : List mzO := [(0, .aload_n 0, 0, 0, 0), (1, .getfield 27, 0, 3, 4), (4, .invokevirtual 139, 0, 102, 1), (7, .aload_n 0, 0, 0, 0), (8, .getfield 27, 0, 3, 4), (11, .invokevirtual 164, 1, 105, 1), (14, .istore_n 1, 0, 0, 0), (15, .lconst 0, 0, 0, 0), (16, .lstore_n 2, 0, 0, 0), (17, .iconst 0, 0, 0, 0), (18, .istore 4, 0, 0, 0), (20, .iload 4, 0, 0, 0), (22, .aload_n 0, 0, 0, 0), (23, .getfield 12, 0, 0, 4), (26, .invokevirtual 148, 1, 94, 1), (29, .if_icmp .gt 49, 0, 78, 0), (32, .iload 4, 0, 0, 0), (34, .iload_n 1, 0, 0, 0), (35, .iand, 0, 0, 0), (36, .iload_n 1, 0, 0, 0), (37, .if_icmp .ne 35, 0, 72, 0), (40, .aload_n 0, 0, 0, 0), (41, .iload 4, 0, 0, 0), (43, .invokevirtual 188, 2, 184, 2), (46, .lstore 5, 0, 0, 0), (48, .lload 5, 0, 0, 0), (50, .lconst 0, 0, 0, 0), (51, .lcmp, 0, 0, 0), (52, .ifCond .le 20, 0, 72, 0), (55, .aload_n 0, 0, 0, 0), (56, .getfield 27, 0, 3, 4), (59, .iload 4, 0, 0, 0), (61, .invokevirtual 181, 1, 106, 2), (64, .ifCond .eq 8, 0, 72, 0), (67, .lload_n 2, 0, 0, 0), (68, .lload 5, 0, 0, 0), (70, .ladd, 0, 0, 0), (71, .lstore_n 2, 0, 0, 0), (72, .iinc 4 1, 0, 0, 0), (75, .goto (-55), 0, 20, 0), (78, .lload_n 2, 0, 0, 0), (79, .lreturn, 0, 0, 0)]
theorem gd_157 : mzGd 157 k_157 := mz_gd (k := 0) (by decide +kernel) (by decide +kernel) (by decide +kernel)
-- MeltPins.century(I)I
def k_158 : List mzO := [(0, .iload_n 1, 0, 0, 0), (1, .iconst 1, 0, 0, 0), (2, .if_icmp .lt 9, 0, 11, 0), (5, .iload_n 1, 0, 0, 0), (6, .bipush 50, 0, 0, 0), (8, .if_icmp .le 10, 0, 18, 0), (11, .aload_n 0, 0, 0, 0), (12, .ldc 49, (-1000001), 0, 0), (14, .invokevirtual 50, 1, 173, 2), (17, .ireturn, 0, 0, 0), (18, .aload_n 0, 0, 0, 0), (19, .getfield 27, 0, 3, 4), (22, .invokevirtual 139, 0, 102, 1), (25, .iconst 0, 0, 0, 0), (26, .istore_n 2, 0, 0, 0), (27, .iconst 0, 0, 0, 0), (28, .istore_n 3, 0, 0, 0), (29, .iload_n 3, 0, 0, 0), (30, .iload_n 1, 0, 0, 0), (31, .if_icmp .ge 26, 0, 57, 0), (34, .aload_n 0, 0, 0, 0), (35, .getfield 27, 0, 3, 4), (38, .aload_n 0, 0, 0, 0), (39, .invokevirtual 192, 1, 185, 1), (42, .invokevirtual 181, 1, 106, 2), (45, .ifCond .eq 6, 0, 51, 0), (48, .iinc 2 1, 0, 0, 0), (51, .iinc 3 1, 0, 0, 0), (54, .goto (-25), 0, 29, 0), (57, .iload_n 2, 0, 0, 0), (58, .ireturn, 0, 0, 0)]
theorem gd_158 : mzGd 158 k_158 := mz_gd (k := 0) (by decide +kernel) (by decide +kernel) (by decide +kernel)
-- MeltPins.seed(I)I
def k_159 : List mzO := [(0, .aload_n 0, 0, 0, 0), (1, .getfield 12, 0, 0, 4), (4, .getfield 195, 0, 4, 3), (7, .istore_n 2, 0, 0, 0), (8, .aload_n 0, 0, 0, 0), (9, .getfield 12, 0, 0, 4), (12, .iload_n 1, 0, 0, 0), (13, .putfield 195, 0, 4, 3), (16, .iload_n 2, 0, 0, 0), (17, .ireturn, 0, 0, 0)]
theorem gd_159 : mzGd 159 k_159 := mz_gd (k := 0) (by decide +kernel) (by decide +kernel) (by decide +kernel)
-- MeltPins.game(II)I
def k_160 : List mzO := [(0, .iload_n 1, 0, 0, 0), (1, .iconst 1, 0, 0, 0), (2, .if_icmp .lt 17, 0, 19, 0), (5, .iload_n 1, 0, 0, 0), (6, .iconst 2, 0, 0, 0), (7, .if_icmp .gt 12, 0, 19, 0), (10, .iload_n 2, 0, 0, 0), (11, .ifCond .lt 8, 0, 19, 0), (14, .iload_n 2, 0, 0, 0), (15, .iconst 1, 0, 0, 0), (16, .if_icmp .le 10, 0, 26, 0), (19, .aload_n 0, 0, 0, 0), (20, .ldc 49, (-1000001), 0, 0), (22, .invokevirtual 50, 1, 173, 2), (25, .ireturn, 0, 0, 0), (26, .aload_n 0, 0, 0, 0), (27, .getfield 27, 0, 3, 4), (30, .invokevirtual 139, 0, 102, 1), (33, .aload_n 0, 0, 0, 0), (34, .getfield 12, 0, 0, 4), (37, .invokevirtual 148, 1, 94, 1), (40, .aload_n 0, 0, 0, 0), (41, .getfield 12, 0, 0, 4), (44, .getfield 85, 0, 3, 3), (47, .iconst (-1), 0, 0, 0), (48, .ixor, 0, 0, 0), (49, .iand, 0, 0, 0), (50, .istore_n 3, 0, 0, 0), (51, .iconst (-1), 0, 0, 0), (52, .istore 4, 0, 0, 0), (54, .iconst (-1), 0, 0, 0), (55, .istore 5, 0, 0, 0), (57, .iconst 0, 0, 0, 0), (58, .istore 6, 0, 0, 0), (60, .iload 6, 0, 0, 0), (62, .aload_n 0, 0, 0, 0), (63, .getfield 12, 0, 0, 4), (66, .getfield 70, 0, 0, 3), (69, .if_icmp .ge 55, 0, 124, 0), (72, .iload_n 3, 0, 0, 0), (73, .iload 6, 0, 0, 0), (75, .ishr, 0, 0, 0), (76, .iconst 1, 0, 0, 0), (77, .iand, 0, 0, 0), (78, .ifCond .eq 40, 0, 118, 0), (81, .aload_n 0, 0, 0, 0), (82, .iload_n 1, 0, 0, 0), (83, .iconst 1, 0, 0, 0), (84, .iload 6, 0, 0, 0), (86, .ishl, 0, 0, 0), (87, .aload_n 0, 0, 0, 0), (88, .getfield 12, 0, 0, 4), (91, .getfield 85, 0, 3, 3), (94, .iload 4, 0, 0, 0), (96, .bipush 12, 0, 0, 0), (98, .invokevirtual 198, 1, 187, 6), (101, .istore 7, 0, 0, 0), (103, .iload 7, 0, 0, 0), (105, .iload 4, 0, 0, 0), (107, .if_icmp .le 11, 0, 118, 0), (110, .iload 7, 0, 0, 0), (112, .istore 4, 0, 0, 0), (114, .iload 6, 0, 0, 0), (116, .istore 5, 0, 0, 0), (118, .iinc 6 1, 0, 0, 0), (121, .goto (-61), 0, 60, 0), (124, .iload_n 2, 0, 0, 0), (125, .iconst 1, 0, 0, 0), (126, .if_icmp .ne 6, 0, 132, 0), (129, .iload 5, 0, 0, 0), (131, .ireturn, 0, 0, 0), (132, .iload 4, 0, 0, 0), (134, .iconst 0, 0, 0, 0), (135, .invokestatic 202, 0, 0, 1), (138, .ireturn, 0, 0, 0)]
theorem gd_160 : mzGd 160 k_160 := mz_gd (k := 0) (by decide +kernel) (by decide +kernel) (by decide +kernel)
-- MeltPins.first(I)I
def k_161 : List mzO := [(0, .iload_n 1, 0, 0, 0), (1, .invokestatic 207, 1, 176, 1), (4, .ifCond .ne 10, 0, 14, 0), (7, .aload_n 0, 0, 0, 0), (8, .ldc 49, (-1000001), 0, 0), (10, .invokevirtual 50, 1, 173, 2), (13, .ireturn, 0, 0, 0), (14, .aload_n 0, 0, 0, 0), (15, .getfield 40, 0, 5, 4), (18, .iload_n 1, 0, 0, 0), (19, .aaload, 0, 0, 0), (20, .astore_n 2, 0, 0, 0), (21, .aload_n 2, 0, 0, 0), (22, .getfield 210, 0, 0, 1), (25, .ifCond .ne 10, 0, 35, 0), (28, .aload_n 0, 0, 0, 0), (29, .ldc 213, (-1000006), 0, 0), (31, .invokevirtual 50, 1, 173, 2), (34, .ireturn, 0, 0, 0), (35, .aload_n 2, 0, 0, 0), (36, .getfield 214, 0, 1, 1), (39, .aload_n 0, 0, 0, 0), (40, .getfield 12, 0, 0, 4), (43, .getfield 70, 0, 0, 3), (46, .if_icmp .eq 10, 0, 56, 0), (49, .aload_n 0, 0, 0, 0), (50, .ldc 104, (-1000004), 0, 0), (52, .invokevirtual 50, 1, 173, 2), (55, .ireturn, 0, 0, 0), (56, .aload_n 0, 0, 0, 0), (57, .getfield 27, 0, 3, 4), (60, .invokevirtual 139, 0, 102, 1), (63, .iconst (-1), 0, 0, 0), (64, .istore_n 3, 0, 0, 0), (65, .bipush 13, 0, 0, 0), (67, .istore 4, 0, 0, 0), (69, .iconst 0, 0, 0, 0), (70, .istore 5, 0, 0, 0), (72, .iload 5, 0, 0, 0), (74, .aload_n 0, 0, 0, 0), (75, .getfield 12, 0, 0, 4), (78, .invokevirtual 148, 1, 94, 1), (81, .if_icmp .gt 40, 0, 121, 0), (84, .iload 5, 0, 0, 0), (86, .invokestatic 159, 1, 190, 1), (89, .istore 6, 0, 0, 0), (91, .iload 6, 0, 0, 0), (93, .iload 4, 0, 0, 0), (95, .if_icmp .ge 20, 0, 115, 0), (98, .aload_n 0, 0, 0, 0), (99, .iload 5, 0, 0, 0), (101, .aload_n 2, 0, 0, 0), (102, .invokevirtual 215, 1, 188, 3), (105, .ifCond .eq 10, 0, 115, 0), (108, .iload 5, 0, 0, 0), (110, .istore_n 3, 0, 0, 0), (111, .iload 6, 0, 0, 0), (113, .istore 4, 0, 0, 0), (115, .iinc 5 1, 0, 0, 0), (118, .goto (-46), 0, 72, 0), (121, .iload_n 3, 0, 0, 0), (122, .ifCond .ge 12, 0, 134, 0), (125, .aload_n 0, 0, 0, 0), (126, .ldc 104, (-1000004), 0, 0), (128, .invokevirtual 50, 1, 173, 2), (131, .goto 4, 0, 135, 0), (134, .iload_n 3, 0, 0, 0), (135, .ireturn, 0, 0, 0)]
theorem gd_161 : mzGd 161 k_161 := mz_gd (k := 0) (by decide +kernel) (by decide +kernel) (by decide +kernel)
-- MeltPins.judge(I)I
def k_162 : List mzO := [(0, .iload_n 1, 0, 0, 0), (1, .invokestatic 207, 1, 176, 1), (4, .ifCond .ne 10, 0, 14, 0), (7, .aload_n 0, 0, 0, 0), (8, .ldc 49, (-1000001), 0, 0), (10, .invokevirtual 50, 1, 173, 2), (13, .ireturn, 0, 0, 0), (14, .aload_n 0, 0, 0, 0), (15, .getfield 40, 0, 5, 4), (18, .iload_n 1, 0, 0, 0), (19, .aaload, 0, 0, 0), (20, .astore_n 2, 0, 0, 0), (21, .aload_n 2, 0, 0, 0), (22, .getfield 210, 0, 0, 1), (25, .ifCond .ne 10, 0, 35, 0), (28, .aload_n 0, 0, 0, 0), (29, .ldc 213, (-1000006), 0, 0), (31, .invokevirtual 50, 1, 173, 2), (34, .ireturn, 0, 0, 0), (35, .aload_n 0, 0, 0, 0), (36, .iconst 0, 0, 0, 0), (37, .invokevirtual 118, 0, 178, 2), (40, .iconst 0, 0, 0, 0), (41, .istore_n 3, 0, 0, 0), (42, .iload_n 3, 0, 0, 0), (43, .aload_n 2, 0, 0, 0), (44, .getfield 214, 0, 1, 1), (47, .if_icmp .ge 48, 0, 95, 0), (50, .aload_n 0, 0, 0, 0), (51, .getfield 27, 0, 3, 4), (54, .aload_n 0, 0, 0, 0), (55, .getfield 12, 0, 0, 4), (58, .iload_n 3, 0, 0, 0), (59, .invokevirtual 105, 1, 98, 2), (62, .invokevirtual 133, 1, 109, 2), (65, .pop, 0, 0, 0), (66, .aload_n 2, 0, 0, 0), (67, .getfield 219, 0, 2, 1), (70, .iload_n 3, 0, 0, 0), (71, .iaload, 0, 0, 0), (72, .aload_n 0, 0, 0, 0), (73, .getfield 27, 0, 3, 4), (76, .getfield 121, 0, 7, 0), (79, .invokestatic 159, 1, 190, 1), (82, .if_icmp .eq 7, 0, 89, 0), (85, .iconst 1, 0, 0, 0), (86, .iload_n 3, 0, 0, 0), (87, .iadd, 0, 0, 0), (88, .ireturn, 0, 0, 0), (89, .iinc 3 1, 0, 0, 0), (92, .goto (-50), 0, 42, 0), (95, .iconst 0, 0, 0, 0), (96, .ireturn, 0, 0, 0)]
theorem gd_162 : mzGd 162 k_162 := mz_gd (k := 0) (by decide +kernel) (by decide +kernel) (by decide +kernel)
-- MeltPins.spot(II)I
def k_163 : List mzO := [(0, .iload_n 1, 0, 0, 0), (1, .ifCond .lt 22, 0, 23, 0), (4, .iload_n 1, 0, 0, 0), (5, .bipush 10, 0, 0, 0), (7, .if_icmp .ge 16, 0, 23, 0), (10, .iload_n 2, 0, 0, 0), (11, .iconst (-1), 0, 0, 0), (12, .if_icmp .eq 18, 0, 30, 0), (15, .aload_n 0, 0, 0, 0), (16, .iload_n 2, 0, 0, 0), (17, .invokevirtual 73, 1, 174, 2), (20, .ifCond .ne 10, 0, 30, 0), (23, .aload_n 0, 0, 0, 0), (24, .ldc 49, (-1000001), 0, 0), (26, .invokevirtual 50, 1, 173, 2), (29, .ireturn, 0, 0, 0), (30, .aload_n 0, 0, 0, 0), (31, .getfield 12, 0, 0, 4), (34, .getfield 222, 0, 9, 3), (37, .iload_n 1, 0, 0, 0), (38, .iload_n 2, 0, 0, 0), (39, .iastore, 0, 0, 0), (40, .iconst 1, 0, 0, 0), (41, .ireturn, 0, 0, 0)]
theorem gd_163 : mzGd 163 k_163 := mz_gd (k := 0) (by decide +kernel) (by decide +kernel) (by decide +kernel)
-- MeltPins.as(II)I
def k_164 : List mzO := [(0, .iload_n 1, 0, 0, 0), (1, .ifCond .lt 19, 0, 20, 0), (4, .iload_n 1, 0, 0, 0), (5, .bipush 10, 0, 0, 0), (7, .if_icmp .ge 13, 0, 20, 0), (10, .iload_n 2, 0, 0, 0), (11, .ifCond .lt 9, 0, 20, 0), (14, .iload_n 2, 0, 0, 0), (15, .bipush 7, 0, 0, 0), (17, .if_icmp .lt 10, 0, 27, 0), (20, .aload_n 0, 0, 0, 0), (21, .ldc 49, (-1000001), 0, 0), (23, .invokevirtual 50, 1, 173, 2), (26, .ireturn, 0, 0, 0), (27, .aload_n 0, 0, 0, 0), (28, .getfield 12, 0, 0, 4), (31, .getfield 222, 0, 9, 3), (34, .iload_n 1, 0, 0, 0), (35, .iaload, 0, 0, 0), (36, .istore_n 3, 0, 0, 0), (37, .aload_n 0, 0, 0, 0), (38, .iload_n 3, 0, 0, 0), (39, .invokevirtual 73, 1, 174, 2), (42, .ifCond .ne 10, 0, 52, 0), (45, .aload_n 0, 0, 0, 0), (46, .ldc 213, (-1000006), 0, 0), (48, .invokevirtual 50, 1, 173, 2), (51, .ireturn, 0, 0, 0), (52, .aload_n 0, 0, 0, 0), (53, .getfield 12, 0, 0, 4), (56, .getfield 77, 0, 5, 3), (59, .iload_n 3, 0, 0, 0), (60, .aaload, 0, 0, 0), (61, .iconst 0, 0, 0, 0), (62, .iaload, 0, 0, 0), (63, .iload_n 2, 0, 0, 0), (64, .invokestatic 225, 1, 177, 2), (67, .ifCond .eq 7, 0, 74, 0), (70, .iload_n 3, 0, 0, 0), (71, .goto 9, 0, 80, 0), (74, .aload_n 0, 0, 0, 0), (75, .ldc 229, (-1000003), 0, 0), (77, .invokevirtual 50, 1, 173, 2), (80, .ireturn, 0, 0, 0)]
theorem gd_164 : mzGd 164 k_164 := mz_gd (k := 0) (by decide +kernel) (by decide +kernel) (by decide +kernel)
-- MeltPins.sheet(III)I
def k_165 : List mzO := [(0, .iload_n 1, 0, 0, 0), (1, .invokestatic 207, 1, 176, 1), (4, .ifCond .eq 25, 0, 29, 0), (7, .iload_n 2, 0, 0, 0), (8, .ifCond .eq 28, 0, 36, 0), (11, .iload_n 2, 0, 0, 0), (12, .bipush 8, 0, 0, 0), (14, .if_icmp .eq 22, 0, 36, 0), (17, .iload_n 2, 0, 0, 0), (18, .bipush 16, 0, 0, 0), (20, .if_icmp .eq 16, 0, 36, 0), (23, .iload_n 2, 0, 0, 0), (24, .bipush 32, 0, 0, 0), (26, .if_icmp .eq 10, 0, 36, 0), (29, .aload_n 0, 0, 0, 0), (30, .ldc 49, (-1000001), 0, 0), (32, .invokevirtual 50, 1, 173, 2), (35, .ireturn, 0, 0, 0), (36, .iload_n 3, 0, 0, 0), (37, .ifCond .ge 10, 0, 47, 0), (40, .aload_n 0, 0, 0, 0), (41, .ldc 230, (-1000007), 0, 0), (43, .invokevirtual 50, 1, 173, 2), (46, .ireturn, 0, 0, 0), (47, .iload_n 3, 0, 0, 0), (48, .bipush 40, 0, 0, 0), (50, .if_icmp .le 10, 0, 60, 0), (53, .aload_n 0, 0, 0, 0), (54, .ldc 49, (-1000001), 0, 0), (56, .invokevirtual 50, 1, 173, 2), (59, .ireturn, 0, 0, 0), (60, .aload_n 0, 0, 0, 0), (61, .getfield 40, 0, 5, 4), (64, .iload_n 1, 0, 0, 0), (65, .aaload, 0, 0, 0), (66, .astore 4, 0, 0, 0), (68, .aload 4, 0, 0, 0), (70, .iload_n 2, 0, 0, 0), (71, .putfield 210, 0, 0, 1), (74, .aload 4, 0, 0, 0), (76, .iload_n 2, 0, 0, 0), (77, .ifCond .ne 7, 0, 84, 0), (80, .iconst 0, 0, 0, 0), (81, .goto 4, 0, 85, 0), (84, .iload_n 3, 0, 0, 0), (85, .putfield 214, 0, 1, 1), (88, .aload 4, 0, 0, 0), (90, .getfield 219, 0, 2, 1), (93, .iconst 0, 0, 0, 0), (94, .invokestatic 231, 0, 191, 2), (97, .aload 4, 0, 0, 0), (99, .getfield 214, 0, 1, 1), (102, .ireturn, 0, 0, 0)]
theorem gd_165 : mzGd 165 k_165 := mz_gd (k := 0) (by decide +kernel) (by decide +kernel) (by decide +kernel)
-- MeltPins.write(III)I
def k_166 : List mzO := [(0, .iload_n 1, 0, 0, 0), (1, .invokestatic 207, 1, 176, 1), (4, .ifCond .ne 10, 0, 14, 0), (7, .aload_n 0, 0, 0, 0), (8, .ldc 49, (-1000001), 0, 0), (10, .invokevirtual 50, 1, 173, 2), (13, .ireturn, 0, 0, 0), (14, .aload_n 0, 0, 0, 0), (15, .getfield 40, 0, 5, 4), (18, .iload_n 1, 0, 0, 0), (19, .aaload, 0, 0, 0), (20, .astore 4, 0, 0, 0), (22, .aload 4, 0, 0, 0), (24, .getfield 210, 0, 0, 1), (27, .ifCond .ne 10, 0, 37, 0), (30, .aload_n 0, 0, 0, 0), (31, .ldc 213, (-1000006), 0, 0), (33, .invokevirtual 50, 1, 173, 2), (36, .ireturn, 0, 0, 0), (37, .iload_n 2, 0, 0, 0), (38, .ifCond .lt 12, 0, 50, 0), (41, .iload_n 2, 0, 0, 0), (42, .aload 4, 0, 0, 0), (44, .getfield 214, 0, 1, 1), (47, .if_icmp .lt 10, 0, 57, 0), (50, .aload_n 0, 0, 0, 0), (51, .ldc 49, (-1000001), 0, 0), (53, .invokevirtual 50, 1, 173, 2), (56, .ireturn, 0, 0, 0), (57, .aload 4, 0, 0, 0), (59, .getfield 219, 0, 2, 1), (62, .iload_n 2, 0, 0, 0), (63, .aload 4, 0, 0, 0), (65, .iload_n 3, 0, 0, 0), (66, .invokevirtual 237, 1, 91, 2), (69, .iastore, 0, 0, 0), (70, .iconst 1, 0, 0, 0), (71, .ireturn, 0, 0, 0)]
theorem gd_166 : mzGd 166 k_166 := mz_gd (k := 0) (by decide +kernel) (by decide +kernel) (by decide +kernel)
-- MeltPins.copy(IIIII)I
def k_167 : List mzO := [(0, .iload_n 1, 0, 0, 0), (1, .invokestatic 207, 1, 176, 1), (4, .ifCond .eq 10, 0, 14, 0), (7, .iload_n 3, 0, 0, 0), (8, .invokestatic 207, 1, 176, 1), (11, .ifCond .ne 10, 0, 21, 0), (14, .aload_n 0, 0, 0, 0), (15, .ldc 49, (-1000001), 0, 0), (17, .invokevirtual 50, 1, 173, 2), (20, .ireturn, 0, 0, 0), (21, .aload_n 0, 0, 0, 0), (22, .getfield 40, 0, 5, 4), (25, .iload_n 1, 0, 0, 0), (26, .aaload, 0, 0, 0), (27, .astore 6, 0, 0, 0), (29, .aload_n 0, 0, 0, 0), (30, .getfield 40, 0, 5, 4), (33, .iload_n 3, 0, 0, 0), (34, .aaload, 0, 0, 0), (35, .astore 7, 0, 0, 0), (37, .aload 6, 0, 0, 0), (39, .getfield 210, 0, 0, 1), (42, .ifCond .eq 11, 0, 53, 0), (45, .aload 7, 0, 0, 0), (47, .getfield 210, 0, 0, 1), (50, .ifCond .ne 10, 0, 60, 0), (53, .aload_n 0, 0, 0, 0), (54, .ldc 213, (-1000006), 0, 0), (56, .invokevirtual 50, 1, 173, 2), (59, .ireturn, 0, 0, 0), (60, .aload 6, 0, 0, 0), (62, .getfield 210, 0, 0, 1), (65, .aload 7, 0, 0, 0), (67, .getfield 210, 0, 0, 1), (70, .if_icmp .eq 10, 0, 80, 0), (73, .aload_n 0, 0, 0, 0), (74, .ldc 229, (-1000003), 0, 0), (76, .invokevirtual 50, 1, 173, 2), (79, .ireturn, 0, 0, 0), (80, .aload 6, 0, 0, 0), (82, .iload_n 2, 0, 0, 0), (83, .iload 5, 0, 0, 0), (85, .invokevirtual 240, 1, 92, 3), (88, .ifCond .eq 15, 0, 103, 0), (91, .aload 7, 0, 0, 0), (93, .iload 4, 0, 0, 0), (95, .iload 5, 0, 0, 0), (97, .invokevirtual 240, 1, 92, 3), (100, .ifCond .ne 10, 0, 110, 0), (103, .aload_n 0, 0, 0, 0), (104, .ldc 49, (-1000001), 0, 0), (106, .invokevirtual 50, 1, 173, 2), (109, .ireturn, 0, 0, 0), (110, .aload 6, 0, 0, 0), (112, .getfield 219, 0, 2, 1), (115, .iload_n 2, 0, 0, 0), (116, .aload 7, 0, 0, 0), (118, .getfield 219, 0, 2, 1), (121, .iload 4, 0, 0, 0), (123, .iload 5, 0, 0, 0), (125, .invokestatic 243, 0, 0, 3), (128, .iload 5, 0, 0, 0), (130, .ireturn, 0, 0, 0)]
theorem gd_167 : mzGd 167 k_167 := mz_gd (k := 0) (by decide +kernel) (by decide +kernel) (by decide +kernel)
-- MeltPins.image()I
def k_168 : List mzO := [(0, .aload_n 0, 0, 0, 0), (1, .getfield 16, 0, 1, 4), (4, .aload_n 0, 0, 0, 0), (5, .getfield 12, 0, 0, 4), (8, .invokevirtual 63, 0, 93, 2), (11, .aload_n 0, 0, 0, 0), (12, .iconst 1, 0, 0, 0), (13, .putfield 249, 0, 7, 104), (16, .iconst 1, 0, 0, 0), (17, .ireturn, 0, 0, 0)]
theorem gd_168 : mzGd 168 k_168 := mz_gd (k := 0) (by decide +kernel) (by decide +kernel) (by decide +kernel)
-- MeltPins.undo()I
def k_169 : List mzO := [(0, .aload_n 0, 0, 0, 0), (1, .getfield 249, 0, 7, 104), (4, .ifCond .ne 10, 0, 14, 0), (7, .aload_n 0, 0, 0, 0), (8, .ldc 104, (-1000004), 0, 0), (10, .invokevirtual 50, 1, 173, 2), (13, .ireturn, 0, 0, 0), (14, .aload_n 0, 0, 0, 0), (15, .getfield 12, 0, 0, 4), (18, .aload_n 0, 0, 0, 0), (19, .getfield 16, 0, 1, 4), (22, .invokevirtual 63, 0, 93, 2), (25, .aload_n 0, 0, 0, 0), (26, .getfield 12, 0, 0, 4), (29, .getfield 70, 0, 0, 3), (32, .ireturn, 0, 0, 0)]
theorem gd_169 : mzGd 169 k_169 := mz_gd (k := 0) (by decide +kernel) (by decide +kernel) (by decide +kernel)
-- MeltPins.tear()I
def k_170 : List mzO := [(0, .aload_n 0, 0, 0, 0), (1, .getfield 249, 0, 7, 104), (4, .ifCond .eq 7, 0, 11, 0), (7, .iconst 1, 0, 0, 0), (8, .goto 4, 0, 12, 0), (11, .iconst 0, 0, 0, 0), (12, .istore_n 1, 0, 0, 0), (13, .aload_n 0, 0, 0, 0), (14, .iconst 0, 0, 0, 0), (15, .putfield 249, 0, 7, 104), (18, .iload_n 1, 0, 0, 0), (19, .ireturn, 0, 0, 0)]
theorem gd_170 : mzGd 170 k_170 := mz_gd (k := 0) (by decide +kernel) (by decide +kernel) (by decide +kernel)
-- MeltPins.count(I)I
def k_171 : List mzO := [(0, .iload_n 1, 0, 0, 0), (1, .tableswitch 102 0 6 #[43, 51, 59, 67, 78, 86, 94], 0, 43, 0), (44, .aload_n 0, 0, 0, 0), (45, .getfield 12, 0, 0, 4), (48, .getfield 70, 0, 0, 3), (51, .ireturn, 0, 0, 0), (52, .aload_n 0, 0, 0, 0), (53, .getfield 12, 0, 0, 4), (56, .getfield 97, 0, 1, 3), (59, .ireturn, 0, 0, 0), (60, .aload_n 0, 0, 0, 0), (61, .getfield 12, 0, 0, 4), (64, .getfield 109, 0, 2, 3), (67, .ireturn, 0, 0, 0), (68, .aload_n 0, 0, 0, 0), (69, .getfield 12, 0, 0, 4), (72, .getfield 85, 0, 3, 3), (75, .invokestatic 159, 1, 190, 1), (78, .ireturn, 0, 0, 0), (79, .aload_n 0, 0, 0, 0), (80, .getfield 34, 0, 4, 4), (83, .getfield 54, 0, 1, 2), (86, .ireturn, 0, 0, 0), (87, .aload_n 0, 0, 0, 0), (88, .getfield 12, 0, 0, 4), (91, .getfield 195, 0, 4, 3), (94, .ireturn, 0, 0, 0), (95, .aload_n 0, 0, 0, 0), (96, .getfield 12, 0, 0, 4), (99, .invokevirtual 253, 1, 100, 1), (102, .ireturn, 0, 0, 0), (103, .aload_n 0, 0, 0, 0), (104, .ldc 49, (-1000001), 0, 0), (106, .invokevirtual 50, 1, 173, 2), (109, .ireturn, 0, 0, 0)]
theorem gd_171 : mzGd 171 k_171 := mz_gd (k := 0) (by decide +kernel) (by decide +kernel) (by decide +kernel)
-- MeltPins.status(I)I
def k_172 : List mzO := [(0, .iload_n 1, 0, 0, 0), (1, .iconst (-1), 0, 0, 0), (2, .if_icmp .lt 9, 0, 11, 0), (5, .iload_n 1, 0, 0, 0), (6, .bipush 7, 0, 0, 0), (8, .if_icmp .lt 10, 0, 18, 0), (11, .aload_n 0, 0, 0, 0), (12, .ldc 49, (-1000001), 0, 0), (14, .invokevirtual 50, 1, 173, 2), (17, .ireturn, 0, 0, 0), (18, .iload_n 1, 0, 0, 0), (19, .ifCond .lt 10, 0, 29, 0), (22, .aload_n 0, 0, 0, 0), (23, .getfield 44, 0, 6, 4), (26, .iload_n 1, 0, 0, 0), (27, .iaload, 0, 0, 0), (28, .ireturn, 0, 0, 0), (29, .iconst 0, 0, 0, 0), (30, .istore_n 2, 0, 0, 0), (31, .iconst 0, 0, 0, 0), (32, .istore_n 3, 0, 0, 0), (33, .iload_n 3, 0, 0, 0), (34, .bipush 7, 0, 0, 0), (36, .if_icmp .ge 18, 0, 54, 0), (39, .iload_n 2, 0, 0, 0), (40, .aload_n 0, 0, 0, 0), (41, .getfield 44, 0, 6, 4), (44, .iload_n 3, 0, 0, 0), (45, .iaload, 0, 0, 0), (46, .iadd, 0, 0, 0), (47, .istore_n 2, 0, 0, 0), (48, .iinc 3 1, 0, 0, 0), (51, .goto (-18), 0, 33, 0), (54, .iload_n 2, 0, 0, 0), (55, .ireturn, 0, 0, 0)]
theorem gd_172 : mzGd 172 k_172 := mz_gd (k := 0) (by decide +kernel) (by decide +kernel) (by decide +kernel)
-- MeltPins.finding(I)I
def k_173 : List mzO := [(0, .ldc 49, (-1000001), 0, 0), (2, .iload_n 1, 0, 0, 0), (3, .isub, 0, 0, 0), (4, .istore_n 2, 0, 0, 0), (5, .iload_n 2, 0, 0, 0), (6, .ifCond .lt 19, 0, 25, 0), (9, .iload_n 2, 0, 0, 0), (10, .bipush 7, 0, 0, 0), (12, .if_icmp .ge 13, 0, 25, 0), (15, .aload_n 0, 0, 0, 0), (16, .getfield 44, 0, 6, 4), (19, .iload_n 2, 0, 0, 0), (20, .dup2, 0, 0, 0), (21, .iaload, 0, 0, 0), (22, .iconst 1, 0, 0, 0), (23, .iadd, 0, 0, 0), (24, .iastore, 0, 0, 0), (25, .iload_n 1, 0, 0, 0), (26, .ireturn, 0, 0, 0)]
theorem gd_173 : mzGd 173 k_173 := mz_gd (k := 0) (by decide +kernel) (by decide +kernel) (by decide +kernel)
-- MeltPins.isPlace(I)Z
def k_174 : List mzO := [(0, .iload_n 1, 0, 0, 0), (1, .ifCond .lt 18, 0, 19, 0), (4, .iload_n 1, 0, 0, 0), (5, .aload_n 0, 0, 0, 0), (6, .getfield 12, 0, 0, 4), (9, .getfield 70, 0, 0, 3), (12, .if_icmp .ge 7, 0, 19, 0), (15, .iconst 1, 0, 0, 0), (16, .goto 4, 0, 20, 0), (19, .iconst 0, 0, 0, 0), (20, .ireturn, 0, 0, 1)]
theorem gd_174 : mzGd 174 k_174 := mz_gd (k := 0) (by decide +kernel) (by decide +kernel) (by decide +kernel)
-- MeltPins.isSet(I)Z
def k_175 : List mzO := [(0, .iload_n 1, 0, 0, 0), (1, .ifCond .lt 18, 0, 19, 0), (4, .iload_n 1, 0, 0, 0), (5, .aload_n 0, 0, 0, 0), (6, .getfield 12, 0, 0, 4), (9, .invokevirtual 148, 1, 94, 1), (12, .if_icmp .gt 7, 0, 19, 0), (15, .iconst 1, 0, 0, 0), (16, .goto 4, 0, 20, 0), (19, .iconst 0, 0, 0, 0), (20, .ireturn, 0, 0, 1)]
theorem gd_175 : mzGd 175 k_175 := mz_gd (k := 0) (by decide +kernel) (by decide +kernel) (by decide +kernel)
-- MeltPins.isSheet(I)Z
def k_176 : List mzO := [(0, .iload_n 0, 0, 0, 0), (1, .ifCond .lt 12, 0, 13, 0), (4, .iload_n 0, 0, 0, 0), (5, .iconst 4, 0, 0, 0), (6, .if_icmp .ge 7, 0, 13, 0), (9, .iconst 1, 0, 0, 0), (10, .goto 4, 0, 14, 0), (13, .iconst 0, 0, 0, 0), (14, .ireturn, 0, 0, 1)]
theorem gd_176 : mzGd 176 k_176 := mz_gd (k := 0) (by decide +kernel) (by decide +kernel) (by decide +kernel)
-- MeltPins.isOfKind(II)Z
def k_177 : List mzO := [(0, .iload_n 0, 0, 0, 0), (1, .istore_n 2, 0, 0, 0), (2, .iconst 0, 0, 0, 0), (3, .istore_n 3, 0, 0, 0), (4, .iload_n 3, 0, 0, 0), (5, .bipush 7, 0, 0, 0), (7, .if_icmp .ge 26, 0, 33, 0), (10, .iload_n 2, 0, 0, 0), (11, .ifCond .lt 22, 0, 33, 0), (14, .iload_n 2, 0, 0, 0), (15, .iload_n 1, 0, 0, 0), (16, .if_icmp .ne 5, 0, 21, 0), (19, .iconst 1, 0, 0, 0), (20, .ireturn, 0, 0, 1), (21, .getstatic 256, 0, 0, 0), (24, .iload_n 2, 0, 0, 0), (25, .iaload, 0, 0, 0), (26, .istore_n 2, 0, 0, 0), (27, .iinc 3 1, 0, 0, 0), (30, .goto (-26), 0, 4, 0), (33, .iconst 0, 0, 0, 0), (34, .ireturn, 0, 0, 1)]
theorem gd_177 : mzGd 177 k_177 := mz_gd (k := 0) (by decide +kernel) (by decide +kernel) (by decide +kernel)
-- MeltPins.passPlan(I)V
def k_178 : List mzO := [(0, .aload_n 0, 0, 0, 0), (1, .getfield 27, 0, 3, 4), (4, .invokevirtual 139, 0, 102, 1), (7, .aload_n 0, 0, 0, 0), (8, .getfield 27, 0, 3, 4), (11, .aload_n 0, 0, 0, 0), (12, .getfield 12, 0, 0, 4), (15, .getfield 85, 0, 3, 3), (18, .invokevirtual 145, 0, 108, 2), (21, .iconst 0, 0, 0, 0), (22, .istore_n 2, 0, 0, 0), (23, .iload_n 2, 0, 0, 0), (24, .iload_n 1, 0, 0, 0), (25, .if_icmp .ge 25, 0, 50, 0), (28, .aload_n 0, 0, 0, 0), (29, .getfield 27, 0, 3, 4), (32, .aload_n 0, 0, 0, 0), (33, .getfield 12, 0, 0, 4), (36, .iload_n 2, 0, 0, 0), (37, .invokevirtual 105, 1, 98, 2), (40, .invokevirtual 133, 1, 109, 2), (43, .pop, 0, 0, 0), (44, .iinc 2 1, 0, 0, 0), (47, .goto (-24), 0, 23, 0), (50, .return_, 0, 0, 0)]
theorem gd_178 : mzGd 178 k_178 := mz_gd (k := 0) (by decide +kernel) (by decide +kernel) (by decide +kernel)
-- MeltPins.leastThatStands(Z)I
def k_179 : List mzO := [(0, .aload_n 0, 0, 0, 0), (1, .getfield 27, 0, 3, 4), (4, .invokevirtual 139, 0, 102, 1), (7, .aload_n 0, 0, 0, 0), (8, .getfield 27, 0, 3, 4), (11, .invokevirtual 164, 1, 105, 1), (14, .istore_n 2, 0, 0, 0), (15, .iconst (-1), 0, 0, 0), (16, .istore_n 3, 0, 0, 0), (17, .ldc 174, 100000000, 0, 0), (19, .istore 4, 0, 0, 0), (21, .iconst 0, 0, 0, 0), (22, .istore 5, 0, 0, 0), (24, .iload 5, 0, 0, 0), (26, .aload_n 0, 0, 0, 0), (27, .getfield 12, 0, 0, 4), (30, .invokevirtual 148, 1, 94, 1), (33, .if_icmp .gt 89, 0, 122, 0), (36, .iload 5, 0, 0, 0), (38, .iload_n 2, 0, 0, 0), (39, .iand, 0, 0, 0), (40, .iload_n 2, 0, 0, 0), (41, .if_icmp .ne 75, 0, 116, 0), (44, .iload 5, 0, 0, 0), (46, .invokestatic 159, 1, 190, 1), (49, .istore 6, 0, 0, 0), (51, .aload_n 0, 0, 0, 0), (52, .getfield 12, 0, 0, 4), (55, .iload 5, 0, 0, 0), (57, .iconst 4, 0, 0, 0), (58, .invokevirtual 175, 1, 99, 3), (61, .istore 7, 0, 0, 0), (63, .iload_n 1, 0, 0, 0), (64, .ifCond .eq 15, 0, 79, 0), (67, .iload 6, 0, 0, 0), (69, .sipush 10000, 0, 0, 0), (72, .imul, 0, 0, 0), (73, .iload 7, 0, 0, 0), (75, .iadd, 0, 0, 0), (76, .goto 12, 0, 88, 0), (79, .iload 7, 0, 0, 0), (81, .sipush 10000, 0, 0, 0), (84, .imul, 0, 0, 0), (85, .iload 6, 0, 0, 0), (87, .iadd, 0, 0, 0), (88, .istore 8, 0, 0, 0), (90, .iload 8, 0, 0, 0), (92, .iload 4, 0, 0, 0), (94, .if_icmp .ge 22, 0, 116, 0), (97, .aload_n 0, 0, 0, 0), (98, .getfield 27, 0, 3, 4), (101, .iload 5, 0, 0, 0), (103, .invokevirtual 181, 1, 106, 2), (106, .ifCond .eq 10, 0, 116, 0), (109, .iload 5, 0, 0, 0), (111, .istore_n 3, 0, 0, 0), (112, .iload 8, 0, 0, 0), (114, .istore 4, 0, 0, 0), (116, .iinc 5 1, 0, 0, 0), (119, .goto (-95), 0, 24, 0), (122, .iload_n 3, 0, 0, 0), (123, .ireturn, 0, 0, 0)]
theorem gd_179 : mzGd 179 k_179 := mz_gd (k := 0) (by decide +kernel) (by decide +kernel) (by decide +kernel)
-- MeltPins.tellOfSet(II)I
def k_180 : List mzO := [(0, .iload_n 1, 0, 0, 0), (1, .ifCond .ge 10, 0, 11, 0), (4, .aload_n 0, 0, 0, 0), (5, .ldc 104, (-1000004), 0, 0), (7, .invokevirtual 50, 1, 173, 2), (10, .ireturn, 0, 0, 0), (11, .iload_n 2, 0, 0, 0), (12, .lookupswitch 35 #[(0, 28), (1, 30)], 0, 28, 0), (40, .iload_n 1, 0, 0, 0), (41, .ireturn, 0, 0, 0), (42, .iload_n 1, 0, 0, 0), (43, .invokestatic 159, 1, 190, 1), (46, .ireturn, 0, 0, 0), (47, .aload_n 0, 0, 0, 0), (48, .getfield 12, 0, 0, 4), (51, .iload_n 1, 0, 0, 0), (52, .iconst 4, 0, 0, 0), (53, .invokevirtual 175, 1, 99, 3), (56, .ireturn, 0, 0, 0)]
theorem gd_180 : mzGd 180 k_180 := mz_gd (k := 0) (by decide +kernel) (by decide +kernel) (by decide +kernel)
-- MeltPins.digitSet(II)I
def k_181 : List mzO := [(0, .iconst 0, 0, 0, 0), (1, .istore_n 2, 0, 0, 0), (2, .iload_n 0, 0, 0, 0), (3, .istore_n 3, 0, 0, 0), (4, .iconst 0, 0, 0, 0), (5, .istore 4, 0, 0, 0), (7, .iload 4, 0, 0, 0), (9, .iload_n 1, 0, 0, 0), (10, .if_icmp .ge 23, 0, 33, 0), (13, .iload_n 2, 0, 0, 0), (14, .iconst 1, 0, 0, 0), (15, .iload_n 3, 0, 0, 0), (16, .bipush 12, 0, 0, 0), (18, .irem, 0, 0, 0), (19, .ishl, 0, 0, 0), (20, .ior, 0, 0, 0), (21, .istore_n 2, 0, 0, 0), (22, .iload_n 3, 0, 0, 0), (23, .bipush 12, 0, 0, 0), (25, .idiv, 0, 0, 0), (26, .istore_n 3, 0, 0, 0), (27, .iinc 4 1, 0, 0, 0), (30, .goto (-23), 0, 7, 0), (33, .iload_n 2, 0, 0, 0), (34, .ireturn, 0, 0, 0)]
theorem gd_181 : mzGd 181 k_181 := mz_gd (k := 0) (by decide +kernel) (by decide +kernel) (by decide +kernel)
-- MeltPins.orderYears(III)I
def k_182 : List mzO := [(0, .aload_n 0, 0, 0, 0), (1, .getfield 27, 0, 3, 4), (4, .aload_n 0, 0, 0, 0), (5, .getfield 12, 0, 0, 4), (8, .getfield 85, 0, 3, 3), (11, .invokevirtual 145, 0, 108, 2), (14, .iconst 1, 0, 0, 0), (15, .istore 4, 0, 0, 0), (17, .iload 4, 0, 0, 0), (19, .bipush 49, 0, 0, 0), (21, .if_icmp .gt 47, 0, 68, 0), (24, .aload_n 0, 0, 0, 0), (25, .getfield 27, 0, 3, 4), (28, .iload_n 1, 0, 0, 0), (29, .iload_n 2, 0, 0, 0), (30, .iload_n 3, 0, 0, 0), (31, .iload 4, 0, 0, 0), (33, .iconst 1, 0, 0, 0), (34, .isub, 0, 0, 0), (35, .invokestatic 259, 1, 183, 4), (38, .invokevirtual 133, 1, 109, 2), (41, .pop, 0, 0, 0), (42, .aload_n 0, 0, 0, 0), (43, .getfield 27, 0, 3, 4), (46, .getfield 121, 0, 7, 0), (49, .aload_n 0, 0, 0, 0), (50, .getfield 12, 0, 0, 4), (53, .invokevirtual 148, 1, 94, 1), (56, .if_icmp .ne 6, 0, 62, 0), (59, .iload 4, 0, 0, 0), (61, .ireturn, 0, 0, 0), (62, .iinc 4 1, 0, 0, 0), (65, .goto (-48), 0, 17, 0), (68, .bipush 50, 0, 0, 0), (70, .ireturn, 0, 0, 0)]
theorem gd_182 : mzGd 182 k_182 := mz_gd (k := 0) (by decide +kernel) (by decide +kernel) (by decide +kernel)
-- MeltPins.orderPushes(IIII)I
def k_183 : List mzO := [(0, .iconst 0, 0, 0, 0), (1, .istore 4, 0, 0, 0), (3, .iload_n 0, 0, 0, 0), (4, .istore 5, 0, 0, 0), (6, .iload_n 1, 0, 0, 0), (7, .iconst 1, 0, 0, 0), (8, .isub, 0, 0, 0), (9, .istore 6, 0, 0, 0), (11, .iload 6, 0, 0, 0), (13, .ifCond .lt 36, 0, 49, 0), (16, .iload 6, 0, 0, 0), (18, .iload_n 2, 0, 0, 0), (19, .imul, 0, 0, 0), (20, .iload_n 3, 0, 0, 0), (21, .if_icmp .ne 15, 0, 36, 0), (24, .iload 4, 0, 0, 0), (26, .iconst 1, 0, 0, 0), (27, .iload 5, 0, 0, 0), (29, .bipush 12, 0, 0, 0), (31, .irem, 0, 0, 0), (32, .ishl, 0, 0, 0), (33, .ior, 0, 0, 0), (34, .istore 4, 0, 0, 0), (36, .iload 5, 0, 0, 0), (38, .bipush 12, 0, 0, 0), (40, .idiv, 0, 0, 0), (41, .istore 5, 0, 0, 0), (43, .iinc 6 (-1), 0, 0, 0), (46, .goto (-35), 0, 11, 0), (49, .iload 4, 0, 0, 0), (51, .ireturn, 0, 0, 0)]
theorem gd_183 : mzGd 183 k_183 := mz_gd (k := 0) (by decide +kernel) (by decide +kernel) (by decide +kernel)
-- MeltPins.chanceOf(I)J
def k_184 : List mzO := [(0, .lconst 1, 0, 0, 0), (1, .lstore_n 2, 0, 0, 0), (2, .iconst 0, 0, 0, 0), (3, .istore 4, 0, 0, 0), (5, .iload 4, 0, 0, 0), (7, .aload_n 0, 0, 0, 0), (8, .getfield 12, 0, 0, 4), (11, .getfield 70, 0, 0, 3), (14, .if_icmp .ge 48, 0, 62, 0), (17, .aload_n 0, 0, 0, 0), (18, .getfield 12, 0, 0, 4), (21, .getfield 77, 0, 5, 3), (24, .iload 4, 0, 0, 0), (26, .aaload, 0, 0, 0), (27, .bipush 6, 0, 0, 0), (29, .iaload, 0, 0, 0), (30, .istore 5, 0, 0, 0), (32, .lload_n 2, 0, 0, 0), (33, .iload_n 1, 0, 0, 0), (34, .iload 4, 0, 0, 0), (36, .ishr, 0, 0, 0), (37, .iconst 1, 0, 0, 0), (38, .iand, 0, 0, 0), (39, .ifCond .eq 9, 0, 48, 0), (42, .iload 5, 0, 0, 0), (44, .i2l, 0, 0, 0), (45, .goto 9, 0, 54, 0), (48, .bipush 10, 0, 0, 0), (50, .iload 5, 0, 0, 0), (52, .isub, 0, 0, 0), (53, .i2l, 0, 0, 0), (54, .lmul, 0, 0, 0), (55, .lstore_n 2, 0, 0, 0), (56, .iinc 4 1, 0, 0, 0), (59, .goto (-54), 0, 5, 0), (62, .lload_n 2, 0, 0, 0), (63, .lreturn, 0, 0, 0)]
theorem gd_184 : mzGd 184 k_184 := mz_gd (k := 0) (by decide +kernel) (by decide +kernel) (by decide +kernel)
-- MeltPins.drawnSet()I
def k_185 : List mzO := [(0, .iconst 0, 0, 0, 0), (1, .istore_n 1, 0, 0, 0), (2, .iconst 0, 0, 0, 0), (3, .istore_n 2, 0, 0, 0), (4, .iload_n 2, 0, 0, 0), (5, .aload_n 0, 0, 0, 0), (6, .getfield 12, 0, 0, 4), (9, .getfield 70, 0, 0, 3), (12, .if_icmp .ge 40, 0, 52, 0), (15, .aload_n 0, 0, 0, 0), (16, .getfield 12, 0, 0, 4), (19, .invokevirtual 263, 1, 101, 1), (22, .bipush 10, 0, 0, 0), (24, .irem, 0, 0, 0), (25, .aload_n 0, 0, 0, 0), (26, .getfield 12, 0, 0, 4), (29, .getfield 77, 0, 5, 3), (32, .iload_n 2, 0, 0, 0), (33, .aaload, 0, 0, 0), (34, .bipush 6, 0, 0, 0), (36, .iaload, 0, 0, 0), (37, .if_icmp .ge 9, 0, 46, 0), (40, .iload_n 1, 0, 0, 0), (41, .iconst 1, 0, 0, 0), (42, .iload_n 2, 0, 0, 0), (43, .ishl, 0, 0, 0), (44, .ior, 0, 0, 0), (45, .istore_n 1, 0, 0, 0), (46, .iinc 2 1, 0, 0, 0), (49, .goto (-45), 0, 4, 0), (52, .iload_n 1, 0, 0, 0), (53, .ireturn, 0, 0, 0)]
theorem gd_185 : mzGd 185 k_185 := mz_gd (k := 0) (by decide +kernel) (by decide +kernel) (by decide +kernel)
-- MeltPins.bestPush(IIIII)I
def k_186 : List mzO := [(0, .iload_n 1, 0, 0, 0), (1, .ifCond .gt 16, 0, 17, 0), (4, .aload_n 0, 0, 0, 0), (5, .getfield 27, 0, 3, 4), (8, .iload_n 2, 0, 0, 0), (9, .iload_n 3, 0, 0, 0), (10, .invokevirtual 142, 1, 107, 3), (13, .invokestatic 159, 1, 190, 1), (16, .ireturn, 0, 0, 0), (17, .aload_n 0, 0, 0, 0), (18, .getfield 12, 0, 0, 4), (21, .invokevirtual 148, 1, 94, 1), (24, .iload_n 2, 0, 0, 0), (25, .iconst (-1), 0, 0, 0), (26, .ixor, 0, 0, 0), (27, .iand, 0, 0, 0), (28, .iload_n 3, 0, 0, 0), (29, .iconst (-1), 0, 0, 0), (30, .ixor, 0, 0, 0), (31, .iand, 0, 0, 0), (32, .istore 6, 0, 0, 0), (34, .iload 6, 0, 0, 0), (36, .ifCond .ne 15, 0, 51, 0), (39, .aload_n 0, 0, 0, 0), (40, .iload_n 1, 0, 0, 0), (41, .iload_n 2, 0, 0, 0), (42, .iload_n 3, 0, 0, 0), (43, .iload 4, 0, 0, 0), (45, .iload 5, 0, 0, 0), (47, .invokevirtual 198, 1, 187, 6), (50, .ireturn, 0, 0, 0), (51, .iconst (-1), 0, 0, 0), (52, .istore 7, 0, 0, 0), (54, .iconst 0, 0, 0, 0), (55, .istore 8, 0, 0, 0), (57, .iload 8, 0, 0, 0), (59, .aload_n 0, 0, 0, 0), (60, .getfield 12, 0, 0, 4), (63, .getfield 70, 0, 0, 3), (66, .if_icmp .ge 54, 0, 120, 0), (69, .iload 7, 0, 0, 0), (71, .iload 5, 0, 0, 0), (73, .if_icmp .ge 47, 0, 120, 0), (76, .iload 6, 0, 0, 0), (78, .iload 8, 0, 0, 0), (80, .ishr, 0, 0, 0), (81, .iconst 1, 0, 0, 0), (82, .iand, 0, 0, 0), (83, .ifCond .eq 31, 0, 114, 0), (86, .iload 7, 0, 0, 0), (88, .aload_n 0, 0, 0, 0), (89, .iload_n 1, 0, 0, 0), (90, .iload_n 2, 0, 0, 0), (91, .iconst 1, 0, 0, 0), (92, .iload 8, 0, 0, 0), (94, .ishl, 0, 0, 0), (95, .ior, 0, 0, 0), (96, .iload_n 3, 0, 0, 0), (97, .iload 4, 0, 0, 0), (99, .iload 7, 0, 0, 0), (101, .invokestatic 202, 0, 0, 1), (104, .iload 5, 0, 0, 0), (106, .invokevirtual 198, 1, 187, 6), (109, .invokestatic 202, 0, 0, 1), (112, .istore 7, 0, 0, 0), (114, .iinc 8 1, 0, 0, 0), (117, .goto (-60), 0, 57, 0), (120, .iload 7, 0, 0, 0), (122, .ireturn, 0, 0, 0)]
theorem gd_186 : mzGd 186 k_186 := mz_gd (k := 0) (by decide +kernel) (by decide +kernel) (by decide +kernel)
-- MeltPins.bestHold(IIIII)I
def k_187 : List mzO := [(0, .aload_n 0, 0, 0, 0), (1, .getfield 12, 0, 0, 4), (4, .invokevirtual 148, 1, 94, 1), (7, .iload_n 2, 0, 0, 0), (8, .iconst (-1), 0, 0, 0), (9, .ixor, 0, 0, 0), (10, .iand, 0, 0, 0), (11, .iload_n 3, 0, 0, 0), (12, .iconst (-1), 0, 0, 0), (13, .ixor, 0, 0, 0), (14, .iand, 0, 0, 0), (15, .istore 6, 0, 0, 0), (17, .iload 6, 0, 0, 0), (19, .ifCond .ne 17, 0, 36, 0), (22, .aload_n 0, 0, 0, 0), (23, .iload_n 1, 0, 0, 0), (24, .iconst 1, 0, 0, 0), (25, .isub, 0, 0, 0), (26, .iload_n 2, 0, 0, 0), (27, .iload_n 3, 0, 0, 0), (28, .iload 4, 0, 0, 0), (30, .iload 5, 0, 0, 0), (32, .invokevirtual 266, 1, 186, 6), (35, .ireturn, 0, 0, 0), (36, .bipush 13, 0, 0, 0), (38, .istore 7, 0, 0, 0), (40, .iconst 0, 0, 0, 0), (41, .istore 8, 0, 0, 0), (43, .iload 8, 0, 0, 0), (45, .aload_n 0, 0, 0, 0), (46, .getfield 12, 0, 0, 4), (49, .getfield 70, 0, 0, 3), (52, .if_icmp .ge 56, 0, 108, 0), (55, .iload 7, 0, 0, 0), (57, .iload 4, 0, 0, 0), (59, .if_icmp .le 49, 0, 108, 0), (62, .iload 6, 0, 0, 0), (64, .iload 8, 0, 0, 0), (66, .ishr, 0, 0, 0), (67, .iconst 1, 0, 0, 0), (68, .iand, 0, 0, 0), (69, .ifCond .eq 33, 0, 102, 0), (72, .iload 7, 0, 0, 0), (74, .aload_n 0, 0, 0, 0), (75, .iload_n 1, 0, 0, 0), (76, .iconst 1, 0, 0, 0), (77, .isub, 0, 0, 0), (78, .iload_n 2, 0, 0, 0), (79, .iload_n 3, 0, 0, 0), (80, .iconst 1, 0, 0, 0), (81, .iload 8, 0, 0, 0), (83, .ishl, 0, 0, 0), (84, .ior, 0, 0, 0), (85, .iload 4, 0, 0, 0), (87, .iload 5, 0, 0, 0), (89, .iload 7, 0, 0, 0), (91, .invokestatic 269, 0, 0, 2), (94, .invokevirtual 266, 1, 186, 6), (97, .invokestatic 269, 0, 0, 2), (100, .istore 7, 0, 0, 0), (102, .iinc 8 1, 0, 0, 0), (105, .goto (-62), 0, 43, 0), (108, .iload 7, 0, 0, 0), (110, .ireturn, 0, 0, 0)]
theorem gd_187 : mzGd 187 k_187 := mz_gd (k := 0) (by decide +kernel) (by decide +kernel) (by decide +kernel)
-- MeltPins.bringsLayers(ILMeltPins$Sheet;)Z
def k_188 : List mzO := [(0, .aload_n 0, 0, 0, 0), (1, .getfield 27, 0, 3, 4), (4, .aload_n 0, 0, 0, 0), (5, .getfield 12, 0, 0, 4), (8, .getfield 85, 0, 3, 3), (11, .invokevirtual 145, 0, 108, 2), (14, .iconst 0, 0, 0, 0), (15, .istore_n 3, 0, 0, 0), (16, .iconst 1, 0, 0, 0), (17, .istore 4, 0, 0, 0), (19, .iload 4, 0, 0, 0), (21, .bipush 24, 0, 0, 0), (23, .if_icmp .gt 61, 0, 84, 0), (26, .aload_n 0, 0, 0, 0), (27, .getfield 27, 0, 3, 4), (30, .iload 4, 0, 0, 0), (32, .iconst 1, 0, 0, 0), (33, .if_icmp .ne 7, 0, 40, 0), (36, .iload_n 1, 0, 0, 0), (37, .goto 4, 0, 41, 0), (40, .iconst 0, 0, 0, 0), (41, .invokevirtual 133, 1, 109, 2), (44, .pop, 0, 0, 0), (45, .aload_n 0, 0, 0, 0), (46, .aload_n 0, 0, 0, 0), (47, .getfield 27, 0, 3, 4), (50, .getfield 121, 0, 7, 0), (53, .iload_n 3, 0, 0, 0), (54, .iconst (-1), 0, 0, 0), (55, .ixor, 0, 0, 0), (56, .iand, 0, 0, 0), (57, .aload_n 2, 0, 0, 0), (58, .iload 4, 0, 0, 0), (60, .invokevirtual 272, 1, 189, 4), (63, .ifCond .ne 5, 0, 68, 0), (66, .iconst 0, 0, 0, 0), (67, .ireturn, 0, 0, 1), (68, .iload_n 3, 0, 0, 0), (69, .aload_n 0, 0, 0, 0), (70, .getfield 27, 0, 3, 4), (73, .getfield 121, 0, 7, 0), (76, .ior, 0, 0, 0), (77, .istore_n 3, 0, 0, 0), (78, .iinc 4 1, 0, 0, 0), (81, .goto (-62), 0, 19, 0), (84, .aload_n 0, 0, 0, 0), (85, .aload_n 0, 0, 0, 0), (86, .getfield 12, 0, 0, 4), (89, .invokevirtual 148, 1, 94, 1), (92, .iload_n 3, 0, 0, 0), (93, .iconst (-1), 0, 0, 0), (94, .ixor, 0, 0, 0), (95, .iand, 0, 0, 0), (96, .aload_n 2, 0, 0, 0), (97, .iconst 0, 0, 0, 0), (98, .invokevirtual 272, 1, 189, 4), (101, .ireturn, 0, 0, 1)]
theorem gd_188 : mzGd 188 k_188 := mz_gd (k := 0) (by decide +kernel) (by decide +kernel) (by decide +kernel)
-- MeltPins.areAll(ILMeltPins$Sheet;I)Z
def k_189 : List mzO := [(0, .iconst 0, 0, 0, 0), (1, .istore 4, 0, 0, 0), (3, .iload 4, 0, 0, 0), (5, .aload_n 0, 0, 0, 0), (6, .getfield 12, 0, 0, 4), (9, .getfield 70, 0, 0, 3), (12, .if_icmp .ge 31, 0, 43, 0), (15, .iload_n 1, 0, 0, 0), (16, .iload 4, 0, 0, 0), (18, .ishr, 0, 0, 0), (19, .iconst 1, 0, 0, 0), (20, .iand, 0, 0, 0), (21, .ifCond .eq 16, 0, 37, 0), (24, .aload_n 2, 0, 0, 0), (25, .getfield 219, 0, 2, 1), (28, .iload 4, 0, 0, 0), (30, .iaload, 0, 0, 0), (31, .iload_n 3, 0, 0, 0), (32, .if_icmp .eq 5, 0, 37, 0), (35, .iconst 0, 0, 0, 0), (36, .ireturn, 0, 0, 1), (37, .iinc 4 1, 0, 0, 0), (40, .goto (-37), 0, 3, 0), (43, .iconst 1, 0, 0, 0), (44, .ireturn, 0, 0, 1)]
theorem gd_189 : mzGd 189 k_189 := mz_gd (k := 0) (by decide +kernel) (by decide +kernel) (by decide +kernel)
-- java/lang/Integer.bitCount(I)I
def k_190 : List mzO := [(0, .iload_n 0, 0, 0, 0), (1, .iload_n 0, 0, 0, 0), (2, .iconst 1, 0, 0, 0), (3, .iushr, 0, 0, 0), (4, .ldc_w 265, 1431655765, 0, 0), (7, .iand, 0, 0, 0), (8, .isub, 0, 0, 0), (9, .istore_n 0, 0, 0, 0), (10, .iload_n 0, 0, 0, 0), (11, .ldc_w 266, 858993459, 0, 0), (14, .iand, 0, 0, 0), (15, .iload_n 0, 0, 0, 0), (16, .iconst 2, 0, 0, 0), (17, .iushr, 0, 0, 0), (18, .ldc_w 266, 858993459, 0, 0), (21, .iand, 0, 0, 0), (22, .iadd, 0, 0, 0), (23, .istore_n 0, 0, 0, 0), (24, .iload_n 0, 0, 0, 0), (25, .iload_n 0, 0, 0, 0), (26, .iconst 4, 0, 0, 0), (27, .iushr, 0, 0, 0), (28, .iadd, 0, 0, 0), (29, .ldc_w 267, 252645135, 0, 0), (32, .iand, 0, 0, 0), (33, .istore_n 0, 0, 0, 0), (34, .iload_n 0, 0, 0, 0), (35, .iload_n 0, 0, 0, 0), (36, .bipush 8, 0, 0, 0), (38, .iushr, 0, 0, 0), (39, .iadd, 0, 0, 0), (40, .istore_n 0, 0, 0, 0), (41, .iload_n 0, 0, 0, 0), (42, .iload_n 0, 0, 0, 0), (43, .bipush 16, 0, 0, 0), (45, .iushr, 0, 0, 0), (46, .iadd, 0, 0, 0), (47, .istore_n 0, 0, 0, 0), (48, .iload_n 0, 0, 0, 0), (49, .bipush 63, 0, 0, 0), (51, .iand, 0, 0, 0), (52, .ireturn, 0, 0, 0)]
theorem gd_190 : mzGd 190 k_190 := mz_gd (k := 0) (by decide +kernel) (by decide +kernel) (by decide +kernel)
-- java/util/Arrays.fill([II)V
def k_191 : List mzO := [(0, .iconst 0, 0, 0, 0), (1, .istore_n 2, 0, 0, 0), (2, .aload_n 0, 0, 0, 0), (3, .arraylength, 0, 0, 0), (4, .istore_n 3, 0, 0, 0), (5, .iload_n 2, 0, 0, 0), (6, .iload_n 3, 0, 0, 0), (7, .if_icmp .ge 13, 0, 20, 0), (10, .aload_n 0, 0, 0, 0), (11, .iload_n 2, 0, 0, 0), (12, .iload_n 1, 0, 0, 0), (13, .iastore, 0, 0, 0), (14, .iinc 2 1, 0, 0, 0), (17, .goto (-12), 0, 5, 0), (20, .return_, 0, 0, 0)]
theorem gd_191 : mzGd 191 k_191 := mz_gd (k := 0) (by decide +kernel) (by decide +kernel) (by decide +kernel)
end
section
/-! numbers: the machine's operations on what is not below 0 -/
theorem wid {z : Int} (h1 : -2147483648 ≤ z) (h2 : z < 2147483648) : mzW z = z := by unfold mzW; omega
theorem xid {z : Int} (h1 : -9223372036854775808 ≤ z) (h2 : z < 9223372036854775808) : mzX z = z := by unfold mzX; omega
def bt (x : Int32) (i : Nat) : Bool := x.toBitVec.getLsbD i
theorem b_ext {x y : Int32} (h : ∀ i, i < 32 → bt x i = bt y i) : x = y := Int32.toBitVec_inj.mp (BitVec.eq_of_getLsbD_eq (fun i hi => h i hi))
theorem b_or (x y : Int32) (i : Nat) : bt (x ||| y) i = (bt x i || bt y i) := by unfold bt; rw [Int32.toBitVec_or, BitVec.getLsbD_or]
theorem b_and (x y : Int32) (i : Nat) : bt (x &&& y) i = (bt x i && bt y i) := by unfold bt; rw [Int32.toBitVec_and, BitVec.getLsbD_and]
theorem b_xor (x y : Int32) (i : Nat) : bt (x ^^^ y) i = (bt x i ^^ bt y i) := by unfold bt; rw [Int32.toBitVec_xor, BitVec.getLsbD_xor]
theorem b_big {x : Int32} {i : Nat} (h : 32 ≤ i) : bt x i = false := BitVec.getLsbD_of_ge _ _ h
theorem b_m1 : ∀ i, i < 32 → bt (-1) i = true := by decide +kernel
theorem b_nat (n i : Nat) (hi : i < 32) : bt (nI n) i = n.testBit i := by
  unfold bt nI
  show (BitVec.ofNat 32 n).getLsbD i = _
  rw [BitVec.getLsbD_ofNat]
  simp [hi]
theorem nI_int {n : Nat} (h : n < 2147483648) : (nI n).toInt = (n : Int) := nI_toInt h
theorem nAnd {a b : Nat} (ha : a < 2147483648) : mzAnd (a : Int) (b : Int) = ((a &&& b : Nat) : Int) := by
  show (nI a &&& nI b).toInt = _
  have e : nI a &&& nI b = nI (a &&& b) := b_ext fun i hi => by rw [b_and, b_nat _ _ hi, b_nat _ _ hi, b_nat _ _ hi, Nat.testBit_and]
  rw [e, nI_int (Nat.lt_of_le_of_lt Nat.and_le_left ha)]
theorem nOr {a b : Nat} (ha : a < 2147483648) (hb : b < 2147483648) : mzOr (a : Int) (b : Int) = ((a ||| b : Nat) : Int) := by
  show (nI a ||| nI b).toInt = _
  have e : nI a ||| nI b = nI (a ||| b) := b_ext fun i hi => by rw [b_or, b_nat _ _ hi, b_nat _ _ hi, b_nat _ _ hi, Nat.testBit_or]
  rw [e, nI_int (Nat.or_lt_two_pow (n := 31) ha hb)]
/-- a without b -/
def nd (a b : Nat) : Nat := a ^^^ (a &&& b)
theorem nd_bit (a b i : Nat) : (nd a b).testBit i = (a.testBit i && !b.testBit i) := by
  unfold nd
  rw [Nat.testBit_xor, Nat.testBit_and]
  cases a.testBit i <;> cases b.testBit i <;> rfl
theorem nd_le (a b : Nat) : nd a b ≤ a := by
  refine Nat.le_of_testBit (fun i h => ?_)
  rw [nd_bit] at h
  simp only [Bool.and_eq_true] at h
  exact h.1
theorem nNot {a b : Nat} (ha : a < 2147483648) : mzAnd (a : Int) (mzXor (b : Int) (-1)) = ((nd a b : Nat) : Int) := by
  show (nI a &&& Int32.ofInt (nI b ^^^ (-1)).toInt).toInt = _
  rw [mz_ofInt_toInt]
  have e : nI a &&& (nI b ^^^ (-1)) = nI (nd a b) := b_ext fun i hi => by
    rw [b_and, b_xor, b_m1 i hi, b_nat _ _ hi, b_nat _ _ hi, b_nat _ _ hi, nd_bit]
    cases a.testBit i <;> cases b.testBit i <;> rfl
  rw [e, nI_int (Nat.lt_of_le_of_lt (nd_le a b) ha)]
theorem s_l : ∀ n, n < 32 → ((nI n &&& 31).toBitVec.smod 32).toNat = n := by decide +kernel
theorem s_u : ∀ n, n < 32 → (((nI n).toUInt32 &&& Int32.toUInt32 31).toBitVec % 32).toNat = n := by decide +kernel
theorem nShr {a p : Nat} (ha : a < 2147483648) (hp : p < 32) : mzShr (a : Int) (p : Int) = ((a / 2 ^ p : Nat) : Int) := by
  show (nI a >>> (nI p &&& 31)).toInt = _
  rw [pk_shrN ha (nI p &&& 31) p (s_l p hp), nI_int (Nat.lt_of_le_of_lt (Nat.div_le_self _ _) ha)]
theorem nShl {a p : Nat} (h : a * 2 ^ p < 2147483648) (hp : p < 32) : mzShl (a : Int) (p : Int) = ((a * 2 ^ p : Nat) : Int) := by
  show (nI a <<< (nI p &&& 31)).toInt = _
  rw [pk_shlN (nI p &&& 31) p (s_l p hp) (by omega), nI_int h]
theorem nUsh {a p : Nat} (ha : a < 2147483648) (hp : p < 32) : mzUsh (a : Int) (p : Int) = ((a / 2 ^ p : Nat) : Int) := by
  show (((nI a).toUInt32 >>> ((nI p).toUInt32 &&& Int32.toUInt32 31)).toInt32).toInt = _
  rw [pk_ushrN (by omega) (nI p) p (s_u p hp), nI_int (Nat.lt_of_le_of_lt (Nat.div_le_self _ _) ha)]
theorem nPow {p : Nat} (hp : p < 31) : mzShl 1 (p : Int) = ((2 ^ p : Nat) : Int) := by
  have h2 : 2 ^ p < 2147483648 := Nat.pow_lt_pow_right (a := 2) (by omega) hp
  have := nShl (a := 1) (p := p) (by omega) (by omega)
  rw [Nat.one_mul] at this
  exact this
theorem nBit {a p : Nat} (ha : a < 2147483648) (hp : p < 32) : mzAnd (mzShr (a : Int) (p : Int)) 1 = if a.testBit p then 1 else 0 := by
  rw [nShr ha hp]
  show mzAnd ((a / 2 ^ p : Nat) : Int) ((1 : Nat) : Int) = _
  rw [nAnd (Nat.lt_of_le_of_lt (Nat.div_le_self _ _) ha), Nat.and_one_is_mod, Nat.testBit_eq_decide_div_mod_eq]
  by_cases h : a / 2 ^ p % 2 = 1
  · simp [h]
  · have : a / 2 ^ p % 2 = 0 := by omega
    simp [this]
theorem nBit0 {a p : Nat} (ha : a < 2147483648) (hp : p < 32) : mzAnd (mzShr (a : Int) (p : Int)) 1 = 0 ↔ a.testBit p = false := by
  rw [nBit ha hp]
  cases a.testBit p <;> simp
theorem nBit1 {a p : Nat} (ha : a < 2147483648) (hp : p < 32) : mzAnd (mzShr (a : Int) (p : Int)) 1 ≠ 0 ↔ a.testBit p = true := by
  rw [nBit ha hp]
  cases a.testBit p <;> simp
theorem nAndPow0 {a p : Nat} (ha : a < 2147483648) (hp : p < 31) : mzAnd (a : Int) (mzShl 1 (p : Int)) = 0 ↔ a.testBit p = false := by
  rw [nPow hp, nAnd ha]
  constructor
  · intro h
    have h0 : a &&& 2 ^ p = 0 := by omega
    have := congrArg (fun z => Nat.testBit z p) h0
    simpa [Nat.testBit_and, Nat.testBit_two_pow_self] using this
  · intro h
    have : a &&& 2 ^ p = 0 := Nat.eq_of_testBit_eq fun i => by
      rw [Nat.testBit_and, Nat.testBit_two_pow]
      by_cases e : p = i
      · subst e; simp [h]
      · simp [e]
    omega
end
section
-- MeltPinsModel.finds 
theorem g1_e {d : Nat} {q : Int → mzM → Prop} (a0 : Int) (μ : mzM) (h : ((0 : Int) ≤ mzW ((-1000001) - a0) ∧ (mzW ((-1000001) - a0) : Int) < 7) ∧ (((0 : Int) ≤ mzW ((-1000001) - a0) ∧ (mzW ((-1000001) - a0) : Int) < 7) ∧ (q a0 (mzS μ 3 ((mzW ((-1000001) - a0)).toNat) (mzW ((μ 3 ((mzW ((-1000001) - a0)).toNat)) + 1)))))) : mzCl d 1 [mzR 0, mzI a0] μ (mzQi q) :=
  show mzWp d 1 0 [mzR 0, mzI a0] [] μ (mzQi q) from mzVg_ok (cd := k_1) (cuts := []) (n := 13) gd_1 h
-- MeltPinsModel.in 
theorem g2_e {d : Nat} {q : Int → mzM → Prop} (a0 : Int) (a1 : Int) (a2 : Int) (μ : mzM) (h : (mzCmp a0 a1 < 0 → ((0 : Int) = 0 ∨ (0 : Int) = 1) ∧ (q 0 μ)) ∧ ((0 : Int) ≤ mzCmp a0 a1 → ((0 : Int) < mzCmp a0 a2 → ((0 : Int) = 0 ∨ (0 : Int) = 1) ∧ (q 0 μ)) ∧ (mzCmp a0 a2 ≤ 0 → ((1 : Int) = 0 ∨ (1 : Int) = 1) ∧ (q 1 μ)))) : mzCl d 2 [mzL a0, mzL a1, mzL a2] μ (mzQi q) :=
  show mzWp d 2 0 [mzL a0, none, mzL a1, none, mzL a2, none] [] μ (mzQi q) from mzVg_ok (cd := k_2) (cuts := []) (n := 12) gd_2 h
-- MeltPinsModel.has 
theorem g3_e {d : Nat} {q : Int → mzM → Prop} (a0 : Int) (a1 : Int) (μ : mzM) (h : (mzAnd (mzShr a0 a1) 1 ≠ 1 → ((0 : Int) = 0 ∨ (0 : Int) = 1) ∧ (q 0 μ)) ∧ (mzAnd (mzShr a0 a1) 1 = 1 → ((1 : Int) = 0 ∨ (1 : Int) = 1) ∧ (q 1 μ))) : mzCl d 3 [mzI a0, mzI a1] μ (mzQi q) :=
  show mzWp d 3 0 [mzI a0, mzI a1] [] μ (mzQi q) from mzVg_ok (cd := k_3) (cuts := []) (n := 11) gd_3 h
-- MeltPinsModel.many 
theorem g4_e {d : Nat} {q : Int → mzM → Prop} (a0 : Int) (μ : mzM) (h : mzWp d 4 4 [mzI a0, mzI 0, mzI 0] [] μ (mzQi q)) : mzCl d 4 [mzI a0] μ (mzQi q) :=
  show mzWp d 4 0 [mzI a0, none, none] [] μ (mzQi q) from mzVg_ok (cd := k_4) (cuts := [(4, [true, true, true])]) (n := 6) gd_4 h
theorem g4_4 {d : Nat} {q : Int → mzM → Prop} (x0 : Int) (x1 : Int) (x2 : Int) (μ : mzM) (h : ((12 : Int) ≤ x2 → q x1 μ) ∧ (x2 < 12 → mzWp d 4 4 [mzI x0, mzI (mzW (x1 + (mzAnd (mzShr x0 x2) 1))), mzI (mzW (x2 + 1))] [] μ (mzQi q))) : mzWp d 4 4 [mzI x0, mzI x1, mzI x2] [] μ (mzQi q) :=
  show mzWp d 4 4 [mzI x0, mzI x1, mzI x2] [] μ (mzQi q) from mzVg_ok (cd := k_4) (cuts := [(4, [true, true, true])]) (n := 15) gd_4 h
-- MeltPinsModel.of 
theorem g5_e {d : Nat} {q : Int → mzM → Prop} (a0 : Int) (a1 : Int) (μ : mzM) (h : ((0 : Int) ≤ mzW ((mzW (4 + (mzW (10 * a0)))) + a1) ∧ (mzW ((mzW (4 + (mzW (10 * a0)))) + a1) : Int) < 318) ∧ (q (μ 1 ((mzW ((mzW (4 + (mzW (10 * a0)))) + a1)).toNat)) μ)) : mzCl d 5 [mzR 0, mzI a0, mzI a1] μ (mzQi q) :=
  show mzWp d 5 0 [mzR 0, mzI a0, mzI a1] [] μ (mzQi q) from mzVg_ok (cd := k_5) (cuts := []) (n := 12) gd_5 h
-- MeltPinsModel.isPlace 
theorem g6_e {d : Nat} {q : Int → mzM → Prop} (a0 : Int) (μ : mzM) (h : ((0 : Int) ≤ 0 ∧ (0 : Int) < 318) ∧ (mzCl d 2 [mzL a0, mzL 0, mzL (mzW ((μ 1 0) - 1))] μ (mzQi fun r2 m1 => ((r2 : Int) = 0 ∨ (r2 : Int) = 1) ∧ (q r2 m1)))) : mzCl (d + 1) 6 [mzR 0, mzI a0] μ (mzQi q) :=
  show mzWp (d + 1) 6 0 [mzR 0, mzI a0] [] μ (mzQi q) from mzVg_ok (cd := k_6) (cuts := []) (n := 13) gd_6 h
-- MeltPinsModel.every 
theorem g7_e {d : Nat} {q : Int → mzM → Prop}  (μ : mzM) (h : ((0 : Int) ≤ 0 ∧ (0 : Int) < 318) ∧ (q (mzW ((mzShl 1 (μ 1 0)) - 1)) μ)) : mzCl d 7 [mzR 0] μ (mzQi q) :=
  show mzWp d 7 0 [mzR 0] [] μ (mzQi q) from mzVg_ok (cd := k_7) (cuts := []) (n := 10) gd_7 h
-- MeltPinsModel.isSet 
theorem g8_e {d : Nat} {q : Int → mzM → Prop} (a0 : Int) (μ : mzM) (h : mzCl d 7 [mzR 0] μ (mzQi fun r2 m1 => mzCl d 2 [mzL a0, mzL 0, mzL r2] m1 (mzQi fun r4 m3 => ((r4 : Int) = 0 ∨ (r4 : Int) = 1) ∧ (q r4 m3)))) : mzCl (d + 1) 8 [mzR 0, mzI a0] μ (mzQi q) :=
  show mzWp (d + 1) 8 0 [mzR 0, mzI a0] [] μ (mzQi q) from mzVg_ok (cd := k_8) (cuts := []) (n := 9) gd_8 h
-- MeltPinsModel.feed 
theorem g9_e {d : Nat} {q : Int → mzM → Prop} (a0 : Int) (a1 : Int) (μ : mzM) (h : mzCl d 2 [mzL a1, mzL 1, mzL 4] μ (mzQi fun r2 m1 => (r2 ≠ 0 → (mzW ((m1 0 6) + a1) ≤ 120 → mzWp (d + 1) 9 41 [mzR 0, mzI a0, none, mzI (mzW (a1 - 1))] [] m1 (mzQi q)) ∧ ((120 : Int) < mzW ((m1 0 6) + a1) → mzCl d 1 [mzR 0, mzI (-1000002)] m1 (mzQi fun r4 m3 => q r4 m3))) ∧ (r2 = 0 → mzCl d 1 [mzR 0, mzI (-1000001)] m1 (mzQi fun r6 m5 => q r6 m5)))) : mzCl (d + 1) 9 [mzR 0, mzI a0, mzI a1] μ (mzQi q) :=
  show mzWp (d + 1) 9 0 [mzR 0, mzI a0, mzI a1, none] [] μ (mzQi q) from mzVg_ok (cd := k_9) (cuts := [(41, [true, true, false, true])]) (n := 18) gd_9 h
theorem g9_41 {d : Nat} {q : Int → mzM → Prop} (x1 : Int) (x3 : Int) (μ : mzM) (h : (x3 < 0 → q (μ 0 6) μ) ∧ ((0 : Int) ≤ x3 → ((0 : Int) ≤ μ 0 6 ∧ (μ 0 6 : Int) < 120) ∧ (mzWp (d + 1) 9 41 [mzR 0, mzI x1, none, mzI (mzW (x3 + (-1)))] [] (mzS (mzS μ 4 ((μ 0 6).toNat) (mzAnd (mzShr x1 (mzW (8 * x3))) 255)) 0 6 (mzW ((μ 0 6) + 1))) (mzQi q)))) : mzWp (d + 1) 9 41 [mzR 0, mzI x1, none, mzI x3] [] μ (mzQi q) :=
  show mzWp (d + 1) 9 41 [mzR 0, mzI x1, none, mzI x3] [] μ (mzQi q) from mzVg_ok (cd := k_9) (cuts := [(41, [true, true, false, true])]) (n := 24) gd_9 h
-- MeltPinsModel.wipe 
theorem g10_e {d : Nat} {q : Int → mzM → Prop}  (μ : mzM) (h : q (μ 0 6) (mzS μ 0 6 0)) : mzCl d 10 [mzR 0] μ (mzQi q) :=
  show mzWp d 10 0 [mzR 0, none] [] μ (mzQi q) from mzVg_ok (cd := k_10) (cuts := []) (n := 9) gd_10 h
-- MeltPinsModel.isDigit 
theorem g11_e {d : Nat} {q : Int → mzM → Prop} (a0 : Int) (μ : mzM) (h : mzCl d 2 [mzL a0, mzL 48, mzL 57] μ (mzQi fun r2 m1 => ((r2 : Int) = 0 ∨ (r2 : Int) = 1) ∧ (q r2 m1))) : mzCl (d + 1) 11 [mzI a0] μ (mzQi q) :=
  show mzWp (d + 1) 11 0 [mzI a0] [] μ (mzQi q) from mzVg_ok (cd := k_11) (cuts := []) (n := 7) gd_11 h
-- MeltPinsModel.isLetter 
theorem g12_e {d : Nat} {q : Int → mzM → Prop} (a0 : Int) (μ : mzM) (h : mzCl d 2 [mzL a0, mzL 97, mzL 122] μ (mzQi fun r2 m1 => ((r2 : Int) = 0 ∨ (r2 : Int) = 1) ∧ (q r2 m1))) : mzCl (d + 1) 12 [mzI a0] μ (mzQi q) :=
  show mzWp (d + 1) 12 0 [mzI a0] [] μ (mzQi q) from mzVg_ok (cd := k_12) (cuts := []) (n := 7) gd_12 h
-- MeltPinsModel.next 
theorem g13_e {d : Nat} {q : mzM → Prop}  (μ : mzM) (h : mzWp (d + 1) 13 8 [mzR 0, none] [] (mzS μ 0 8 (μ 0 9)) (mzQv q)) : mzCl (d + 1) 13 [mzR 0] μ (mzQv q) :=
  show mzWp (d + 1) 13 0 [mzR 0, none] [] μ (mzQv q) from mzVg_ok (cd := k_13) (cuts := [(8, [true, false]), (46, [true, false]), (141, [true, false]), (188, [true, false])]) (n := 6) gd_13 h
theorem g13_8 {d : Nat} {q : mzM → Prop}  (μ : mzM) (h : (μ 0 6 ≤ μ 0 8 → mzWp (d + 1) 13 46 [mzR 0, none] [] μ (mzQv q)) ∧ (μ 0 8 < μ 0 6 → ((0 : Int) ≤ μ 0 8 ∧ (μ 0 8 : Int) < 120) ∧ ((μ 4 ((μ 0 8).toNat) ≠ 32 → mzWp (d + 1) 13 46 [mzR 0, none] [] μ (mzQv q)) ∧ (μ 4 ((μ 0 8).toNat) = 32 → mzWp (d + 1) 13 8 [mzR 0, none] [] (mzS μ 0 8 (mzW ((μ 0 8) + 1))) (mzQv q))))) : mzWp (d + 1) 13 8 [mzR 0, none] [] μ (mzQv q) :=
  show mzWp (d + 1) 13 8 [mzR 0, none] [] μ (mzQv q) from mzVg_ok (cd := k_13) (cuts := [(8, [true, false]), (46, [true, false]), (141, [true, false]), (188, [true, false])]) (n := 21) gd_13 h
theorem g13_46 {d : Nat} {q : mzM → Prop}  (μ : mzM) (h : (μ 0 8 ≠ μ 0 6 → ((0 : Int) ≤ μ 0 8 ∧ (μ 0 8 : Int) < 120) ∧ (mzCl d 12 [mzI (μ 4 ((μ 0 8).toNat))] (mzS (mzS μ 0 9 (μ 0 8)) 0 10 0) (mzQi fun r2 m1 => (r2 = 0 → mzCl d 11 [mzI (μ 4 ((μ 0 8).toNat))] m1 (mzQi fun r4 m3 => (r4 = 0 → (μ 4 ((μ 0 8).toNat) ≠ 59 → ((4 : Int) ≤ 2 → mzWp (d + 1) 13 141 [mzR 0, none] [] (mzS m3 0 7 4) (mzQv q)) ∧ ((2 : Int) < 4 → mzWp (d + 1) 13 141 [mzR 0, none] [] (mzS (mzS m3 0 7 4) 0 9 (mzW ((m3 0 9) + 1))) (mzQv q))) ∧ (μ 4 ((μ 0 8).toNat) = 59 → ((3 : Int) ≤ 2 → mzWp (d + 1) 13 141 [mzR 0, none] [] (mzS m3 0 7 3) (mzQv q)) ∧ ((2 : Int) < 3 → mzWp (d + 1) 13 141 [mzR 0, none] [] (mzS (mzS m3 0 7 3) 0 9 (mzW ((m3 0 9) + 1))) (mzQv q)))) ∧ (r4 ≠ 0 → ((2 : Int) ≤ 2 → mzWp (d + 1) 13 141 [mzR 0, none] [] (mzS m3 0 7 2) (mzQv q)) ∧ ((2 : Int) < 2 → mzWp (d + 1) 13 141 [mzR 0, none] [] (mzS (mzS m3 0 7 2) 0 9 (mzW ((m3 0 9) + 1))) (mzQv q))))) ∧ (r2 ≠ 0 → ((1 : Int) ≤ 2 → mzWp (d + 1) 13 141 [mzR 0, none] [] (mzS m1 0 7 1) (mzQv q)) ∧ ((2 : Int) < 1 → mzWp (d + 1) 13 141 [mzR 0, none] [] (mzS (mzS m1 0 7 1) 0 9 (mzW ((m1 0 9) + 1))) (mzQv q)))))) ∧ (μ 0 8 = μ 0 6 → q (mzS (mzS (mzS μ 0 9 (μ 0 8)) 0 10 0) 0 7 0))) : mzWp (d + 1) 13 46 [mzR 0, none] [] μ (mzQv q) :=
  show mzWp (d + 1) 13 46 [mzR 0, none] [] μ (mzQv q) from mzVg_ok (cd := k_13) (cuts := [(8, [true, false]), (46, [true, false]), (141, [true, false]), (188, [true, false])]) (n := 43) gd_13 h
theorem g13_141 {d : Nat} {q : mzM → Prop}  (μ : mzM) (h : (μ 0 7 ≠ 1 → mzWp (d + 1) 13 188 [mzR 0, none] [] μ (mzQv q)) ∧ (μ 0 7 = 1 → (μ 0 6 ≤ μ 0 9 → mzWp (d + 1) 13 188 [mzR 0, none] [] μ (mzQv q)) ∧ (μ 0 9 < μ 0 6 → ((0 : Int) ≤ μ 0 9 ∧ (μ 0 9 : Int) < 120) ∧ (mzCl d 12 [mzI (μ 4 ((μ 0 9).toNat))] μ (mzQi fun r2 m1 => (r2 = 0 → mzWp (d + 1) 13 188 [mzR 0, none] [] m1 (mzQv q)) ∧ (r2 ≠ 0 → mzWp (d + 1) 13 141 [mzR 0, none] [] (mzS m1 0 9 (mzW ((m1 0 9) + 1))) (mzQv q))))))) : mzWp (d + 1) 13 141 [mzR 0, none] [] μ (mzQv q) :=
  show mzWp (d + 1) 13 141 [mzR 0, none] [] μ (mzQv q) from mzVg_ok (cd := k_13) (cuts := [(8, [true, false]), (46, [true, false]), (141, [true, false]), (188, [true, false])]) (n := 25) gd_13 h
theorem g13_188 {d : Nat} {q : mzM → Prop}  (μ : mzM) (h : (μ 0 7 ≠ 2 → q μ) ∧ (μ 0 7 = 2 → (μ 0 6 ≤ μ 0 9 → q μ) ∧ (μ 0 9 < μ 0 6 → ((0 : Int) ≤ μ 0 9 ∧ (μ 0 9 : Int) < 120) ∧ (mzCl d 11 [mzI (μ 4 ((μ 0 9).toNat))] μ (mzQi fun r2 m1 => (r2 = 0 → q m1) ∧ (r2 ≠ 0 → (m1 0 10 ≤ 9999 → ((0 : Int) ≤ m1 0 9 ∧ (m1 0 9 : Int) < 120) ∧ (mzWp (d + 1) 13 188 [mzR 0, none] [] (mzS (mzS m1 0 10 (mzW ((mzW ((mzW (10 * (m1 0 10))) + (m1 4 ((m1 0 9).toNat)))) - 48))) 0 9 (mzW ((m1 0 9) + 1))) (mzQv q))) ∧ ((9999 : Int) < m1 0 10 → mzWp (d + 1) 13 188 [mzR 0, none] [] (mzS (mzS m1 0 10 (m1 0 10)) 0 9 (mzW ((m1 0 9) + 1))) (mzQv q)))))))) : mzWp (d + 1) 13 188 [mzR 0, none] [] μ (mzQv q) :=
  show mzWp (d + 1) 13 188 [mzR 0, none] [] μ (mzQv q) from mzVg_ok (cd := k_13) (cuts := [(8, [true, false]), (46, [true, false]), (141, [true, false]), (188, [true, false])]) (n := 43) gd_13 h
-- MeltPinsModel.isWord 
theorem g14_e {d : Nat} {q : Int → mzM → Prop} (o0 : Nat) (μ : mzM) (h : (μ 0 11 ≠ 0 → mzWp (d + 1) 14 39 [mzR 0, mzP 300 o0, mzI 0, mzI 0] [] μ (mzQi q)) ∧ (μ 0 11 = 0 → (μ 0 7 ≠ 1 → mzWp (d + 1) 14 39 [mzR 0, mzP 300 o0, mzI 0, mzI 0] [] μ (mzQi q)) ∧ (μ 0 7 = 1 → (o0 < 14) ∧ ((mzW ((μ 0 9) - (μ 0 8)) ≠ mzSl o0 → mzWp (d + 1) 14 39 [mzR 0, mzP 300 o0, mzI 0, mzI 0] [] μ (mzQi q)) ∧ (mzW ((μ 0 9) - (μ 0 8)) = mzSl o0 → mzWp (d + 1) 14 39 [mzR 0, mzP 300 o0, mzI 1, mzI 0] [] μ (mzQi q)))))) : mzCl (d + 1) 14 [mzR 0, mzP 300 o0] μ (mzQi q) :=
  show mzWp (d + 1) 14 0 [mzR 0, mzP 300 o0, none, none] [] μ (mzQi q) from mzVg_ok (cd := k_14) (cuts := [(39, [true, true, true, true])]) (n := 22) gd_14 h
theorem g14_39 {d : Nat} {q : Int → mzM → Prop} (x1 : Nat) (x2 : Int) (x3 : Int) (μ : mzM) (h : (x2 = 0 → ((x2 : Int) = 0 ∨ (x2 : Int) = 1) ∧ (q x2 μ)) ∧ (x2 ≠ 0 → (x1 < 14) ∧ ((mzSl x1 ≤ x3 → ((x2 : Int) = 0 ∨ (x2 : Int) = 1) ∧ (q x2 μ)) ∧ (x3 < mzSl x1 → ((0 : Int) ≤ mzW ((μ 0 8) + x3) ∧ (mzW ((μ 0 8) + x3) : Int) < 120) ∧ ((x1 < 14 ∧ (0 : Int) ≤ x3 ∧ x3 < mzSl x1) ∧ ((μ 4 ((mzW ((μ 0 8) + x3)).toNat) ≠ mzSc x1 x3.toNat → mzWp (d + 1) 14 39 [mzR 0, mzP 300 x1, mzI 0, mzI (mzW (x3 + 1))] [] μ (mzQi q)) ∧ (μ 4 ((mzW ((μ 0 8) + x3)).toNat) = mzSc x1 x3.toNat → mzWp (d + 1) 14 39 [mzR 0, mzP 300 x1, mzI 1, mzI (mzW (x3 + 1))] [] μ (mzQi q)))))))) : mzWp (d + 1) 14 39 [mzR 0, mzP 300 x1, mzI x2, mzI x3] [] μ (mzQi q) :=
  show mzWp (d + 1) 14 39 [mzR 0, mzP 300 x1, mzI x2, mzI x3] [] μ (mzQi q) from mzVg_ok (cd := k_14) (cuts := [(39, [true, true, true, true])]) (n := 24) gd_14 h
-- MeltPinsModel.takes 
theorem g15_e {d : Nat} {q : Int → mzM → Prop} (o0 : Nat) (μ : mzM) (h : mzCl d 14 [mzR 0, mzP 300 o0] μ (mzQi fun r2 m1 => (r2 ≠ 0 → mzCl d 13 [mzR 0] m1 (mzQv fun m3 => ((1 : Int) = 0 ∨ (1 : Int) = 1) ∧ (q 1 m3))) ∧ (r2 = 0 → ((0 : Int) = 0 ∨ (0 : Int) = 1) ∧ (q 0 m1)))) : mzCl (d + 1) 15 [mzR 0, mzP 300 o0] μ (mzQi q) :=
  show mzWp (d + 1) 15 0 [mzR 0, mzP 300 o0] [] μ (mzQi q) from mzVg_ok (cd := k_15) (cuts := []) (n := 9) gd_15 h
-- MeltPinsModel.number 
theorem g16_e {d : Nat} {q : Int → mzM → Prop} (a0 : Int) (a1 : Int) (μ : mzM) (h : (μ 0 11 ≠ 0 → ((1 : Int) = 0 ∨ (1 : Int) = 1) ∧ (((1 : Int) ≠ 0 → q (μ 0 10) (mzS μ 0 11 1)) ∧ ((1 : Int) = 0 → mzCl d 13 [mzR 0] (mzS μ 0 11 1) (mzQv fun m1 => q (μ 0 10) m1)))) ∧ (μ 0 11 = 0 → (μ 0 7 ≠ 2 → ((1 : Int) = 0 ∨ (1 : Int) = 1) ∧ (((1 : Int) ≠ 0 → q (μ 0 10) (mzS μ 0 11 1)) ∧ ((1 : Int) = 0 → mzCl d 13 [mzR 0] (mzS μ 0 11 1) (mzQv fun m2 => q (μ 0 10) m2)))) ∧ (μ 0 7 = 2 → mzCl d 2 [mzL (μ 0 10), mzL a0, mzL a1] μ (mzQi fun r4 m3 => (r4 ≠ 0 → ((0 : Int) = 0 ∨ (0 : Int) = 1) ∧ (((0 : Int) ≠ 0 → q (m3 0 10) (mzS m3 0 11 0)) ∧ ((0 : Int) = 0 → mzCl d 13 [mzR 0] (mzS m3 0 11 0) (mzQv fun m5 => q (m3 0 10) m5)))) ∧ (r4 = 0 → ((1 : Int) = 0 ∨ (1 : Int) = 1) ∧ (((1 : Int) ≠ 0 → q (m3 0 10) (mzS m3 0 11 1)) ∧ ((1 : Int) = 0 → mzCl d 13 [mzR 0] (mzS m3 0 11 1) (mzQv fun m6 => q (m3 0 10) m6)))))))) : mzCl (d + 1) 16 [mzR 0, mzI a0, mzI a1] μ (mzQi q) :=
  show mzWp (d + 1) 16 0 [mzR 0, mzI a0, mzI a1, none] [] μ (mzQi q) from mzVg_ok (cd := k_16) (cuts := []) (n := 31) gd_16 h
-- MeltPinsModel.kindHere 
theorem g17_e {d : Nat} {q : Int → mzM → Prop}  (μ : mzM) (h : mzCl d 14 [mzR 0, mzP 300 2] μ (mzQi fun r2 m1 => (r2 = 0 → mzCl d 14 [mzR 0, mzP 300 3] m1 (mzQi fun r4 m3 => (r4 = 0 → mzCl d 14 [mzR 0, mzP 300 4] m3 (mzQi fun r6 m5 => (r6 = 0 → mzCl d 14 [mzR 0, mzP 300 5] m5 (mzQi fun r8 m7 => (r8 = 0 → mzCl d 14 [mzR 0, mzP 300 6] m7 (mzQi fun r10 m9 => (r10 = 0 → mzCl d 14 [mzR 0, mzP 300 7] m9 (mzQi fun r12 m11 => (r12 = 0 → mzCl d 14 [mzR 0, mzP 300 8] m11 (mzQi fun r14 m13 => (r14 = 0 → q (-1) m13) ∧ (r14 ≠ 0 → q 6 m13))) ∧ (r12 ≠ 0 → q 5 m11))) ∧ (r10 ≠ 0 → q 4 m9))) ∧ (r8 ≠ 0 → q 3 m7))) ∧ (r6 ≠ 0 → q 2 m5))) ∧ (r4 ≠ 0 → q 1 m3))) ∧ (r2 ≠ 0 → q 0 m1))) : mzCl (d + 1) 17 [mzR 0] μ (mzQi q) :=
  show mzWp (d + 1) 17 0 [mzR 0] [] μ (mzQi q) from mzVg_ok (cd := k_17) (cuts := []) (n := 32) gd_17 h
-- MeltPinsModel.placeItem 
theorem g18_e {d : Nat} {q : mzM → Prop}  (μ : mzM) (h : mzCl d 17 [mzR 0] μ (mzQi fun r2 m1 => (m1 0 11 ≠ 0 → ((1 : Int) = 0 ∨ (1 : Int) = 1) ∧ (mzWp (d + 1) 18 36 [mzR 0, mzI r2, none, none, none] [] (mzS m1 0 11 1) (mzQv q))) ∧ (m1 0 11 = 0 → (r2 < 0 → ((1 : Int) = 0 ∨ (1 : Int) = 1) ∧ (mzWp (d + 1) 18 36 [mzR 0, mzI r2, none, none, none] [] (mzS m1 0 11 1) (mzQv q))) ∧ ((0 : Int) ≤ r2 → ((0 : Int) ≤ 0 ∧ (0 : Int) < 318) ∧ ((m1 1 0 ≠ 12 → ((0 : Int) = 0 ∨ (0 : Int) = 1) ∧ (mzWp (d + 1) 18 36 [mzR 0, mzI r2, none, none, none] [] (mzS m1 0 11 0) (mzQv q))) ∧ (m1 1 0 = 12 → ((1 : Int) = 0 ∨ (1 : Int) = 1) ∧ (mzWp (d + 1) 18 36 [mzR 0, mzI r2, none, none, none] [] (mzS m1 0 11 1) (mzQv q)))))))) : mzCl (d + 1) 18 [mzR 0] μ (mzQv q) :=
  show mzWp (d + 1) 18 0 [mzR 0, none, none, none, none] [] μ (mzQv q) from mzVg_ok (cd := k_18) (cuts := [(36, [true, true, false, false, false]), (82, [true, false, true, false, false]), (160, [true, false, true, true, false]), (315, [true, false, false, false, true])]) (n := 20) gd_18 h
theorem g18_36 {d : Nat} {q : mzM → Prop} (x1 : Int) (μ : mzM) (h : (μ 0 11 = 0 → mzCl d 13 [mzR 0] μ (mzQv fun m1 => ((0 : Int) ≤ 0 ∧ (0 : Int) < 318) ∧ (((0 : Int) ≤ mzW (4 + (mzW (10 * (m1 1 0)))) ∧ (mzW (4 + (mzW (10 * (m1 1 0)))) : Int) < 318) ∧ (mzCl d 16 [mzR 0, mzI 1, mzI 99] (mzS m1 1 ((mzW (4 + (mzW (10 * (m1 1 0))))).toNat) x1) (mzQi fun r3 m2 => ((0 : Int) ≤ mzW ((mzW (4 + (mzW (10 * (m1 1 0))))) + 1) ∧ (mzW ((mzW (4 + (mzW (10 * (m1 1 0))))) + 1) : Int) < 318) ∧ (mzWp (d + 1) 18 82 [mzR 0, none, mzI (mzW (4 + (mzW (10 * (m1 1 0))))), none, none] [] (mzS m2 1 ((mzW ((mzW (4 + (mzW (10 * (m1 1 0))))) + 1)).toNat) r3) (mzQv q))))))) ∧ (μ 0 11 ≠ 0 → q μ)) : mzWp (d + 1) 18 36 [mzR 0, mzI x1, none, none, none] [] μ (mzQv q) :=
  show mzWp (d + 1) 18 36 [mzR 0, mzI x1, none, none, none] [] μ (mzQv q) from mzVg_ok (cd := k_18) (cuts := [(36, [true, true, false, false, false]), (82, [true, false, true, false, false]), (160, [true, false, true, true, false]), (315, [true, false, false, false, true])]) (n := 31) gd_18 h
theorem g18_82 {d : Nat} {q : mzM → Prop} (x2 : Int) (μ : mzM) (h : ((0 : Int) ≤ mzW (x2 + 2) ∧ (mzW (x2 + 2) : Int) < 318) ∧ (((0 : Int) ≤ mzW (x2 + 3) ∧ (mzW (x2 + 3) : Int) < 318) ∧ (((0 : Int) ≤ mzW (x2 + 4) ∧ (mzW (x2 + 4) : Int) < 318) ∧ (((0 : Int) ≤ mzW (x2 + 5) ∧ (mzW (x2 + 5) : Int) < 318) ∧ (((0 : Int) ≤ mzW (x2 + 6) ∧ (mzW (x2 + 6) : Int) < 318) ∧ (((0 : Int) ≤ mzW (x2 + 7) ∧ (mzW (x2 + 7) : Int) < 318) ∧ (((0 : Int) ≤ mzW (x2 + 8) ∧ (mzW (x2 + 8) : Int) < 318) ∧ (((0 : Int) ≤ mzW (x2 + 9) ∧ (mzW (x2 + 9) : Int) < 318) ∧ (mzWp (d + 1) 18 160 [mzR 0, none, mzI x2, mzI 1, none] [] (mzS (mzS (mzS (mzS (mzS (mzS (mzS (mzS μ 1 ((mzW (x2 + 2)).toNat) 0) 1 ((mzW (x2 + 3)).toNat) 0) 1 ((mzW (x2 + 4)).toNat) 1) 1 ((mzW (x2 + 5)).toNat) 1) 1 ((mzW (x2 + 6)).toNat) 0) 1 ((mzW (x2 + 7)).toNat) (-1)) 1 ((mzW (x2 + 8)).toNat) 0) 1 ((mzW (x2 + 9)).toNat) 0) (mzQv q)))))))))) : mzWp (d + 1) 18 82 [mzR 0, none, mzI x2, none, none] [] μ (mzQv q) :=
  show mzWp (d + 1) 18 82 [mzR 0, none, mzI x2, none, none] [] μ (mzQv q) from mzVg_ok (cd := k_18) (cuts := [(36, [true, true, false, false, false]), (82, [true, false, true, false, false]), (160, [true, false, true, true, false]), (315, [true, false, false, false, true])]) (n := 60) gd_18 h
theorem g18_160 {d : Nat} {q : mzM → Prop} (x2 : Int) (x3 : Int) (μ : mzM) (h : (x3 = 0 → mzWp (d + 1) 18 315 [mzR 0, none, none, none, mzI 0] [] μ (mzQv q)) ∧ (x3 ≠ 0 → (μ 0 11 ≠ 0 → mzWp (d + 1) 18 315 [mzR 0, none, none, none, mzI 0] [] μ (mzQv q)) ∧ (μ 0 11 = 0 → mzCl d 15 [mzR 0, mzP 300 9] μ (mzQi fun r2 m1 => (r2 = 0 → mzCl d 15 [mzR 0, mzP 300 10] m1 (mzQi fun r4 m3 => (r4 = 0 → mzCl d 15 [mzR 0, mzP 300 11] m3 (mzQi fun r6 m5 => (r6 = 0 → mzCl d 15 [mzR 0, mzP 300 12] m5 (mzQi fun r8 m7 => (r8 = 0 → mzCl d 15 [mzR 0, mzP 300 13] m7 (mzQi fun r10 m9 => (r10 = 0 → mzWp (d + 1) 18 160 [mzR 0, none, mzI x2, mzI 0, none] [] m9 (mzQv q)) ∧ (r10 ≠ 0 → mzCl d 16 [mzR 0, mzI 0, mzI 10] m9 (mzQi fun r12 m11 => ((0 : Int) ≤ mzW (x2 + 6) ∧ (mzW (x2 + 6) : Int) < 318) ∧ (mzWp (d + 1) 18 160 [mzR 0, none, mzI x2, mzI x3, none] [] (mzS m11 1 ((mzW (x2 + 6)).toNat) r12) (mzQv q)))))) ∧ (r8 ≠ 0 → mzCl d 16 [mzR 0, mzI 1, mzI 99] m7 (mzQi fun r14 m13 => ((0 : Int) ≤ mzW (x2 + 5) ∧ (mzW (x2 + 5) : Int) < 318) ∧ (mzWp (d + 1) 18 160 [mzR 0, none, mzI x2, mzI x3, none] [] (mzS m13 1 ((mzW (x2 + 5)).toNat) r14) (mzQv q)))))) ∧ (r6 ≠ 0 → mzCl d 16 [mzR 0, mzI 1, mzI 99] m5 (mzQi fun r16 m15 => ((0 : Int) ≤ mzW (x2 + 4) ∧ (mzW (x2 + 4) : Int) < 318) ∧ (mzWp (d + 1) 18 160 [mzR 0, none, mzI x2, mzI x3, none] [] (mzS m15 1 ((mzW (x2 + 4)).toNat) r16) (mzQv q)))))) ∧ (r4 ≠ 0 → mzCl d 16 [mzR 0, mzI 0, mzI 9] m3 (mzQi fun r18 m17 => ((0 : Int) ≤ mzW (x2 + 3) ∧ (mzW (x2 + 3) : Int) < 318) ∧ (mzWp (d + 1) 18 160 [mzR 0, none, mzI x2, mzI x3, none] [] (mzS m17 1 ((mzW (x2 + 3)).toNat) r18) (mzQv q)))))) ∧ (r2 ≠ 0 → mzCl d 16 [mzR 0, mzI 0, mzI 99] m1 (mzQi fun r20 m19 => ((0 : Int) ≤ mzW (x2 + 2) ∧ (mzW (x2 + 2) : Int) < 318) ∧ (mzWp (d + 1) 18 160 [mzR 0, none, mzI x2, mzI x3, none] [] (mzS m19 1 ((mzW (x2 + 2)).toNat) r20) (mzQv q)))))))) : mzWp (d + 1) 18 160 [mzR 0, none, mzI x2, mzI x3, none] [] μ (mzQv q) :=
  show mzWp (d + 1) 18 160 [mzR 0, none, mzI x2, mzI x3, none] [] μ (mzQv q) from mzVg_ok (cd := k_18) (cuts := [(36, [true, true, false, false, false]), (82, [true, false, true, false, false]), (160, [true, false, true, true, false]), (315, [true, false, false, false, true])]) (n := 38) gd_18 h
theorem g18_315 {d : Nat} {q : mzM → Prop} (x4 : Int) (μ : mzM) (h : ((12 : Int) ≤ x4 → ((0 : Int) ≤ 0 ∧ (0 : Int) < 318) ∧ (((0 : Int) ≤ 0 ∧ (0 : Int) < 318) ∧ (q (mzS μ 1 0 (mzW ((μ 1 0) + 1)))))) ∧ (x4 < 12 → ((0 : Int) ≤ 0 ∧ (0 : Int) < 318) ∧ (((0 : Int) ≤ mzW ((mzW (124 + (mzW (12 * (μ 1 0))))) + x4) ∧ (mzW ((mzW (124 + (mzW (12 * (μ 1 0))))) + x4) : Int) < 318) ∧ (((0 : Int) ≤ 0 ∧ (0 : Int) < 318) ∧ (((0 : Int) ≤ mzW ((mzW (124 + (mzW (12 * x4)))) + ((mzS μ 1 ((mzW ((mzW (124 + (mzW (12 * (μ 1 0))))) + x4)).toNat) 0) 1 0)) ∧ (mzW ((mzW (124 + (mzW (12 * x4)))) + ((mzS μ 1 ((mzW ((mzW (124 + (mzW (12 * (μ 1 0))))) + x4)).toNat) 0) 1 0)) : Int) < 318) ∧ (mzWp (d + 1) 18 315 [mzR 0, none, none, none, mzI (mzW (x4 + 1))] [] (mzS (mzS μ 1 ((mzW ((mzW (124 + (mzW (12 * (μ 1 0))))) + x4)).toNat) 0) 1 ((mzW ((mzW (124 + (mzW (12 * x4)))) + ((mzS μ 1 ((mzW ((mzW (124 + (mzW (12 * (μ 1 0))))) + x4)).toNat) 0) 1 0))).toNat) 0) (mzQv q))))))) : mzWp (d + 1) 18 315 [mzR 0, none, none, none, mzI x4] [] μ (mzQv q) :=
  show mzWp (d + 1) 18 315 [mzR 0, none, none, none, mzI x4] [] μ (mzQv q) from mzVg_ok (cd := k_18) (cuts := [(36, [true, true, false, false, false]), (82, [true, false, true, false, false]), (160, [true, false, true, true, false]), (315, [true, false, false, false, true])]) (n := 35) gd_18 h
-- MeltPinsModel.tieItem 
theorem g19_e {d : Nat} {q : mzM → Prop}  (μ : mzM) (h : (μ 0 11 ≠ 0 → ((1 : Int) = 0 ∨ (1 : Int) = 1) ∧ (mzWp (d + 1) 19 27 [mzR 0, none, none, none] [] (mzS μ 0 11 1) (mzQv q))) ∧ (μ 0 11 = 0 → ((0 : Int) ≤ 1 ∧ (1 : Int) < 318) ∧ ((μ 1 1 ≠ 40 → ((0 : Int) = 0 ∨ (0 : Int) = 1) ∧ (mzWp (d + 1) 19 27 [mzR 0, none, none, none] [] (mzS μ 0 11 0) (mzQv q))) ∧ (μ 1 1 = 40 → ((1 : Int) = 0 ∨ (1 : Int) = 1) ∧ (mzWp (d + 1) 19 27 [mzR 0, none, none, none] [] (mzS μ 0 11 1) (mzQv q)))))) : mzCl (d + 1) 19 [mzR 0] μ (mzQv q) :=
  show mzWp (d + 1) 19 0 [mzR 0, none, none, none] [] μ (mzQv q) from mzVg_ok (cd := k_19) (cuts := [(27, [true, false, false, false]), (66, [true, true, false, false]), (134, [true, true, false, false]), (173, [true, true, true, false])]) (n := 15) gd_19 h
theorem g19_27 {d : Nat} {q : mzM → Prop}  (μ : mzM) (h : ((0 : Int) ≤ 0 ∧ (0 : Int) < 318) ∧ (mzCl d 16 [mzR 0, mzI 0, mzI (mzW ((μ 1 0) - 1))] μ (mzQi fun r2 m1 => (m1 0 11 ≠ 0 → ((1 : Int) = 0 ∨ (1 : Int) = 1) ∧ (mzWp (d + 1) 19 66 [mzR 0, mzI r2, none, none] [] (mzS m1 0 11 1) (mzQv q))) ∧ (m1 0 11 = 0 → mzCl d 14 [mzR 0, mzP 300 0] m1 (mzQi fun r4 m3 => (r4 ≠ 0 → ((0 : Int) = 0 ∨ (0 : Int) = 1) ∧ (mzWp (d + 1) 19 66 [mzR 0, mzI r2, none, none] [] (mzS m3 0 11 0) (mzQv q))) ∧ (r4 = 0 → ((1 : Int) = 0 ∨ (1 : Int) = 1) ∧ (mzWp (d + 1) 19 66 [mzR 0, mzI r2, none, none] [] (mzS m3 0 11 1) (mzQv q)))))))) : mzWp (d + 1) 19 27 [mzR 0, none, none, none] [] μ (mzQv q) :=
  show mzWp (d + 1) 19 27 [mzR 0, none, none, none] [] μ (mzQv q) from mzVg_ok (cd := k_19) (cuts := [(27, [true, false, false, false]), (66, [true, true, false, false]), (134, [true, true, false, false]), (173, [true, true, true, false])]) (n := 23) gd_19 h
theorem g19_66 {d : Nat} {q : mzM → Prop} (x1 : Int) (μ : mzM) (h : (μ 0 11 = 0 → mzCl d 13 [mzR 0] μ (mzQv fun m1 => (m1 0 7 ≠ 2 → ((1 : Int) = 0 ∨ (1 : Int) = 1) ∧ (mzWp (d + 1) 19 134 [mzR 0, mzI x1, none, none] [] (mzS m1 0 11 1) (mzQv q))) ∧ (m1 0 7 = 2 → mzCl d 6 [mzR 0, mzI (m1 0 10)] m1 (mzQi fun r3 m2 => (r3 = 0 → ((1 : Int) = 0 ∨ (1 : Int) = 1) ∧ (mzWp (d + 1) 19 134 [mzR 0, mzI x1, none, none] [] (mzS m2 0 11 1) (mzQv q))) ∧ (r3 ≠ 0 → (m2 0 10 = x1 → ((1 : Int) = 0 ∨ (1 : Int) = 1) ∧ (mzWp (d + 1) 19 134 [mzR 0, mzI x1, none, none] [] (mzS m2 0 11 1) (mzQv q))) ∧ (m2 0 10 ≠ x1 → ((0 : Int) ≤ mzW ((mzW (124 + (mzW (12 * x1)))) + (m2 0 10)) ∧ (mzW ((mzW (124 + (mzW (12 * x1)))) + (m2 0 10)) : Int) < 318) ∧ ((m2 1 ((mzW ((mzW (124 + (mzW (12 * x1)))) + (m2 0 10))).toNat) = 0 → ((0 : Int) = 0 ∨ (0 : Int) = 1) ∧ (mzWp (d + 1) 19 134 [mzR 0, mzI x1, none, none] [] (mzS m2 0 11 0) (mzQv q))) ∧ (m2 1 ((mzW ((mzW (124 + (mzW (12 * x1)))) + (m2 0 10))).toNat) ≠ 0 → ((1 : Int) = 0 ∨ (1 : Int) = 1) ∧ (mzWp (d + 1) 19 134 [mzR 0, mzI x1, none, none] [] (mzS m2 0 11 1) (mzQv q)))))))))) ∧ (μ 0 11 ≠ 0 → q μ)) : mzWp (d + 1) 19 66 [mzR 0, mzI x1, none, none] [] μ (mzQv q) :=
  show mzWp (d + 1) 19 66 [mzR 0, mzI x1, none, none] [] μ (mzQv q) from mzVg_ok (cd := k_19) (cuts := [(27, [true, false, false, false]), (66, [true, true, false, false]), (134, [true, true, false, false]), (173, [true, true, true, false])]) (n := 36) gd_19 h
theorem g19_134 {d : Nat} {q : mzM → Prop} (x1 : Int) (μ : mzM) (h : ((0 : Int) ≤ 0 ∧ (0 : Int) < 318) ∧ (mzCl d 16 [mzR 0, mzI 0, mzI (mzW ((μ 1 0) - 1))] μ (mzQi fun r2 m1 => (m1 0 11 ≠ 0 → ((1 : Int) = 0 ∨ (1 : Int) = 1) ∧ (mzWp (d + 1) 19 173 [mzR 0, mzI x1, mzI r2, none] [] (mzS m1 0 11 1) (mzQv q))) ∧ (m1 0 11 = 0 → mzCl d 14 [mzR 0, mzP 300 1] m1 (mzQi fun r4 m3 => (r4 ≠ 0 → ((0 : Int) = 0 ∨ (0 : Int) = 1) ∧ (mzWp (d + 1) 19 173 [mzR 0, mzI x1, mzI r2, none] [] (mzS m3 0 11 0) (mzQv q))) ∧ (r4 = 0 → ((1 : Int) = 0 ∨ (1 : Int) = 1) ∧ (mzWp (d + 1) 19 173 [mzR 0, mzI x1, mzI r2, none] [] (mzS m3 0 11 1) (mzQv q)))))))) : mzWp (d + 1) 19 134 [mzR 0, mzI x1, none, none] [] μ (mzQv q) :=
  show mzWp (d + 1) 19 134 [mzR 0, mzI x1, none, none] [] μ (mzQv q) from mzVg_ok (cd := k_19) (cuts := [(27, [true, false, false, false]), (66, [true, true, false, false]), (134, [true, true, false, false]), (173, [true, true, true, false])]) (n := 23) gd_19 h
theorem g19_173 {d : Nat} {q : mzM → Prop} (x1 : Int) (x2 : Int) (μ : mzM) (h : (μ 0 11 = 0 → mzCl d 13 [mzR 0] μ (mzQv fun m1 => mzCl d 16 [mzR 0, mzI 1, mzI 99] m1 (mzQi fun r3 m2 => (m2 0 11 = 0 → ((0 : Int) ≤ mzW ((mzW (124 + (mzW (12 * x1)))) + x2) ∧ (mzW ((mzW (124 + (mzW (12 * x1)))) + x2) : Int) < 318) ∧ (((0 : Int) ≤ 1 ∧ (1 : Int) < 318) ∧ (((0 : Int) ≤ 1 ∧ (1 : Int) < 318) ∧ (q (mzS (mzS m2 1 ((mzW ((mzW (124 + (mzW (12 * x1)))) + x2)).toNat) r3) 1 1 (mzW (((mzS m2 1 ((mzW ((mzW (124 + (mzW (12 * x1)))) + x2)).toNat) r3) 1 1) + 1))))))) ∧ (m2 0 11 ≠ 0 → q m2)))) ∧ (μ 0 11 ≠ 0 → q μ)) : mzWp (d + 1) 19 173 [mzR 0, mzI x1, mzI x2, none] [] μ (mzQv q) :=
  show mzWp (d + 1) 19 173 [mzR 0, mzI x1, mzI x2, none] [] μ (mzQv q) from mzVg_ok (cd := k_19) (cuts := [(27, [true, false, false, false]), (66, [true, true, false, false]), (134, [true, true, false, false]), (173, [true, true, true, false])]) (n := 34) gd_19 h
-- MeltPinsModel.world 
theorem g20_e {d : Nat} {q : Int → mzM → Prop}  (μ : mzM) (h : mzWp (d + 1) 20 2 [mzR 0, mzI 0, none, none] [] μ (mzQi q)) : mzCl (d + 1) 20 [mzR 0] μ (mzQi q) :=
  show mzWp (d + 1) 20 0 [mzR 0, none, none, none] [] μ (mzQi q) from mzVg_ok (cd := k_20) (cuts := [(2, [true, true, false, false]), (43, [true, true, false, false]), (147, [true, false, true, true])]) (n := 4) gd_20 h
theorem g20_2 {d : Nat} {q : Int → mzM → Prop} (x1 : Int) (μ : mzM) (h : ((318 : Int) ≤ x1 → ((0 : Int) = 0 ∨ (0 : Int) = 1) ∧ (mzCl d 13 [mzR 0] (mzS (mzS μ 0 9 0) 0 11 0) (mzQv fun m1 => mzWp (d + 1) 20 43 [mzR 0, mzI 1, none, none] [] m1 (mzQi q)))) ∧ (x1 < 318 → ((0 : Int) ≤ x1 ∧ (x1 : Int) < 318) ∧ (((0 : Int) ≤ x1 ∧ (x1 : Int) < 318) ∧ (mzWp (d + 1) 20 2 [mzR 0, mzI (mzW (x1 + 1)), none, none] [] (mzS μ 5 x1.toNat (μ 1 x1.toNat)) (mzQi q))))) : mzWp (d + 1) 20 2 [mzR 0, mzI x1, none, none] [] μ (mzQi q) :=
  show mzWp (d + 1) 20 2 [mzR 0, mzI x1, none, none] [] μ (mzQi q) from mzVg_ok (cd := k_20) (cuts := [(2, [true, true, false, false]), (43, [true, true, false, false]), (147, [true, false, true, true])]) (n := 15) gd_20 h
theorem g20_43 {d : Nat} {q : Int → mzM → Prop} (x1 : Int) (μ : mzM) (h : (x1 = 0 → (μ 0 11 ≠ 0 → ((1 : Int) = 0 ∨ (1 : Int) = 1) ∧ (((1 : Int) = 0 → ((0 : Int) = 0 ∨ (0 : Int) = 1) ∧ (((0 : Int) ≤ 0 ∧ (0 : Int) < 318) ∧ (q (μ 1 0) (mzS (mzS (mzS μ 0 11 1) 0 6 0) 0 4 0)))) ∧ ((1 : Int) ≠ 0 → mzWp (d + 1) 20 147 [mzR 0, none, mzI (μ 0 8), mzI 0] [] (mzS (mzS μ 0 11 1) 0 6 0) (mzQi q)))) ∧ (μ 0 11 = 0 → (μ 0 7 = 0 → ((0 : Int) = 0 ∨ (0 : Int) = 1) ∧ (((0 : Int) = 0 → ((0 : Int) = 0 ∨ (0 : Int) = 1) ∧ (((0 : Int) ≤ 0 ∧ (0 : Int) < 318) ∧ (q (μ 1 0) (mzS (mzS (mzS μ 0 11 0) 0 6 0) 0 4 0)))) ∧ ((0 : Int) ≠ 0 → mzWp (d + 1) 20 147 [mzR 0, none, mzI (μ 0 8), mzI 0] [] (mzS (mzS μ 0 11 0) 0 6 0) (mzQi q)))) ∧ (μ 0 7 ≠ 0 → ((1 : Int) = 0 ∨ (1 : Int) = 1) ∧ (((1 : Int) = 0 → ((0 : Int) = 0 ∨ (0 : Int) = 1) ∧ (((0 : Int) ≤ 0 ∧ (0 : Int) < 318) ∧ (q (μ 1 0) (mzS (mzS (mzS μ 0 11 1) 0 6 0) 0 4 0)))) ∧ ((1 : Int) ≠ 0 → mzWp (d + 1) 20 147 [mzR 0, none, mzI (μ 0 8), mzI 0] [] (mzS (mzS μ 0 11 1) 0 6 0) (mzQi q)))))) ∧ (x1 ≠ 0 → (μ 0 11 ≠ 0 → (μ 0 11 ≠ 0 → ((1 : Int) = 0 ∨ (1 : Int) = 1) ∧ (((1 : Int) = 0 → ((0 : Int) = 0 ∨ (0 : Int) = 1) ∧ (((0 : Int) ≤ 0 ∧ (0 : Int) < 318) ∧ (q (μ 1 0) (mzS (mzS (mzS μ 0 11 1) 0 6 0) 0 4 0)))) ∧ ((1 : Int) ≠ 0 → mzWp (d + 1) 20 147 [mzR 0, none, mzI (μ 0 8), mzI 0] [] (mzS (mzS μ 0 11 1) 0 6 0) (mzQi q)))) ∧ (μ 0 11 = 0 → (μ 0 7 = 0 → ((0 : Int) = 0 ∨ (0 : Int) = 1) ∧ (((0 : Int) = 0 → ((0 : Int) = 0 ∨ (0 : Int) = 1) ∧ (((0 : Int) ≤ 0 ∧ (0 : Int) < 318) ∧ (q (μ 1 0) (mzS (mzS (mzS μ 0 11 0) 0 6 0) 0 4 0)))) ∧ ((0 : Int) ≠ 0 → mzWp (d + 1) 20 147 [mzR 0, none, mzI (μ 0 8), mzI 0] [] (mzS (mzS μ 0 11 0) 0 6 0) (mzQi q)))) ∧ (μ 0 7 ≠ 0 → ((1 : Int) = 0 ∨ (1 : Int) = 1) ∧ (((1 : Int) = 0 → ((0 : Int) = 0 ∨ (0 : Int) = 1) ∧ (((0 : Int) ≤ 0 ∧ (0 : Int) < 318) ∧ (q (μ 1 0) (mzS (mzS (mzS μ 0 11 1) 0 6 0) 0 4 0)))) ∧ ((1 : Int) ≠ 0 → mzWp (d + 1) 20 147 [mzR 0, none, mzI (μ 0 8), mzI 0] [] (mzS (mzS μ 0 11 1) 0 6 0) (mzQi q)))))) ∧ (μ 0 11 = 0 → (μ 0 7 ≠ 2 → mzCl d 18 [mzR 0] μ (mzQv fun m1 => (m1 0 11 ≠ 0 → ((0 : Int) = 0 → mzWp (d + 1) 20 43 [mzR 0, mzI 0, none, none] [] m1 (mzQi q)) ∧ ((0 : Int) ≠ 0 → mzCl d 13 [mzR 0] m1 (mzQv fun m2 => mzWp (d + 1) 20 43 [mzR 0, mzI 0, none, none] [] m2 (mzQi q)))) ∧ (m1 0 11 = 0 → (m1 0 7 ≠ 3 → ((0 : Int) = 0 → mzWp (d + 1) 20 43 [mzR 0, mzI 0, none, none] [] m1 (mzQi q)) ∧ ((0 : Int) ≠ 0 → mzCl d 13 [mzR 0] m1 (mzQv fun m3 => mzWp (d + 1) 20 43 [mzR 0, mzI 0, none, none] [] m3 (mzQi q)))) ∧ (m1 0 7 = 3 → ((1 : Int) = 0 → mzWp (d + 1) 20 43 [mzR 0, mzI 1, none, none] [] m1 (mzQi q)) ∧ ((1 : Int) ≠ 0 → mzCl d 13 [mzR 0] m1 (mzQv fun m4 => mzWp (d + 1) 20 43 [mzR 0, mzI 1, none, none] [] m4 (mzQi q))))))) ∧ (μ 0 7 = 2 → mzCl d 19 [mzR 0] μ (mzQv fun m5 => (m5 0 11 ≠ 0 → ((0 : Int) = 0 → mzWp (d + 1) 20 43 [mzR 0, mzI 0, none, none] [] m5 (mzQi q)) ∧ ((0 : Int) ≠ 0 → mzCl d 13 [mzR 0] m5 (mzQv fun m6 => mzWp (d + 1) 20 43 [mzR 0, mzI 0, none, none] [] m6 (mzQi q)))) ∧ (m5 0 11 = 0 → (m5 0 7 ≠ 3 → ((0 : Int) = 0 → mzWp (d + 1) 20 43 [mzR 0, mzI 0, none, none] [] m5 (mzQi q)) ∧ ((0 : Int) ≠ 0 → mzCl d 13 [mzR 0] m5 (mzQv fun m7 => mzWp (d + 1) 20 43 [mzR 0, mzI 0, none, none] [] m7 (mzQi q)))) ∧ (m5 0 7 = 3 → ((1 : Int) = 0 → mzWp (d + 1) 20 43 [mzR 0, mzI 1, none, none] [] m5 (mzQi q)) ∧ ((1 : Int) ≠ 0 → mzCl d 13 [mzR 0] m5 (mzQv fun m8 => mzWp (d + 1) 20 43 [mzR 0, mzI 1, none, none] [] m8 (mzQi q)))))))))) : mzWp (d + 1) 20 43 [mzR 0, mzI x1, none, none] [] μ (mzQi q) :=
  show mzWp (d + 1) 20 43 [mzR 0, mzI x1, none, none] [] μ (mzQi q) from mzVg_ok (cd := k_20) (cuts := [(2, [true, true, false, false]), (43, [true, true, false, false]), (147, [true, false, true, true])]) (n := 33) gd_20 h
theorem g20_147 {d : Nat} {q : Int → mzM → Prop} (x2 : Int) (x3 : Int) (μ : mzM) (h : ((318 : Int) ≤ x3 → q (mzW ((-1) - x2)) μ) ∧ (x3 < 318 → ((0 : Int) ≤ x3 ∧ (x3 : Int) < 318) ∧ (((0 : Int) ≤ x3 ∧ (x3 : Int) < 318) ∧ (mzWp (d + 1) 20 147 [mzR 0, none, mzI x2, mzI (mzW (x3 + 1))] [] (mzS μ 1 x3.toNat (μ 5 x3.toNat)) (mzQi q))))) : mzWp (d + 1) 20 147 [mzR 0, none, mzI x2, mzI x3] [] μ (mzQi q) :=
  show mzWp (d + 1) 20 147 [mzR 0, none, mzI x2, mzI x3] [] μ (mzQi q) from mzVg_ok (cd := k_20) (cuts := [(2, [true, true, false, false]), (43, [true, true, false, false]), (147, [true, false, true, true])]) (n := 15) gd_20 h
-- MeltPinsModel.height 
theorem g21_e {d : Nat} {q : Int → mzM → Prop} (a0 : Int) (μ : mzM) (h : mzCl d 5 [mzR 0, mzI a0, mzI 1] μ (mzQi fun r2 m1 => mzCl d 5 [mzR 0, mzI a0, mzI 0] m1 (mzQi fun r4 m3 => (r4 ≠ 6 → mzCl d 5 [mzR 0, mzI a0, mzI 0] m3 (mzQi fun r6 m5 => (r6 ≠ 5 → ((1 : Int) ≤ r2 → q r2 m5) ∧ (r2 < 1 → q 1 m5)) ∧ (r6 = 5 → mzCl d 5 [mzR 0, mzI a0, mzI 8] m5 (mzQi fun r8 m7 => ((1 : Int) ≤ mzW (r2 - (mzW (10 * r8))) → q (mzW (r2 - (mzW (10 * r8)))) m7) ∧ (mzW (r2 - (mzW (10 * r8))) < 1 → q 1 m7))))) ∧ (r4 = 6 → ((2 : Int) ≠ 0) ∧ (((1 : Int) ≤ mzDiv r2 2 → q (mzDiv r2 2) m3) ∧ (mzDiv r2 2 < 1 → q 1 m3)))))) : mzCl (d + 1) 21 [mzR 0, mzI a0] μ (mzQi q) :=
  show mzWp (d + 1) 21 0 [mzR 0, mzI a0, none, none] [] μ (mzQi q) from mzVg_ok (cd := k_21) (cuts := []) (n := 34) gd_21 h
-- MeltPinsModel.placeOf 
theorem g22_e {d : Nat} {q : Int → mzM → Prop} (a0 : Int) (a1 : Int) (μ : mzM) (h : mzCl d 6 [mzR 0, mzI a0] μ (mzQi fun r2 m1 => (r2 = 0 → mzCl d 1 [mzR 0, mzI (-1000001)] m1 (mzQi fun r4 m3 => q r4 m3)) ∧ (r2 ≠ 0 → mzCl d 2 [mzL a1, mzL 0, mzL 10] m1 (mzQi fun r6 m5 => (r6 ≠ 0 → ((9 : Int) ≤ a1 → (a1 ≠ 9 → mzCl d 5 [mzR 0, mzI a0, mzI 9] m5 (mzQi fun r8 m7 => q r8 m7)) ∧ (a1 = 9 → mzCl d 21 [mzR 0, mzI a0] m5 (mzQi fun r10 m9 => q r10 m9))) ∧ (a1 < 9 → mzCl d 5 [mzR 0, mzI a0, mzI a1] m5 (mzQi fun r12 m11 => q r12 m11))) ∧ (r6 = 0 → mzCl d 1 [mzR 0, mzI (-1000001)] m5 (mzQi fun r14 m13 => q r14 m13)))))) : mzCl (d + 1) 22 [mzR 0, mzI a0, mzI a1] μ (mzQi q) :=
  show mzWp (d + 1) 22 0 [mzR 0, mzI a0, mzI a1] [] μ (mzQi q) from mzVg_ok (cd := k_22) (cuts := []) (n := 22) gd_22 h
-- MeltPinsModel.may 
theorem g23_e {d : Nat} {q : Int → mzM → Prop} (a0 : Int) (a1 : Int) (a2 : Int) (μ : mzM) (h : (((a1 : Int) = 1 → mzCl d 2 [mzL a2, mzL 1, mzL 99] μ (mzQi fun r2 m1 => ((r2 : Int) = 0 ∨ (r2 : Int) = 1) ∧ (q r2 m1))) ∧ ((a1 : Int) = 2 → mzCl d 2 [mzL a2, mzL 0, mzL 99] μ (mzQi fun r4 m3 => ((r4 : Int) = 0 ∨ (r4 : Int) = 1) ∧ (q r4 m3))) ∧ ((a1 : Int) = 3 → mzCl d 2 [mzL a2, mzL 0, mzL 9] μ (mzQi fun r6 m5 => ((r6 : Int) = 0 ∨ (r6 : Int) = 1) ∧ (q r6 m5))) ∧ ((a1 : Int) = 4 → mzCl d 2 [mzL a2, mzL 1, mzL 99] μ (mzQi fun r8 m7 => ((r8 : Int) = 0 ∨ (r8 : Int) = 1) ∧ (q r8 m7))) ∧ ((a1 : Int) = 5 → mzCl d 2 [mzL a2, mzL 1, mzL 99] μ (mzQi fun r10 m9 => ((r10 : Int) = 0 ∨ (r10 : Int) = 1) ∧ (q r10 m9))) ∧ ((a1 : Int) = 6 → mzCl d 2 [mzL a2, mzL 0, mzL 10] μ (mzQi fun r12 m11 => ((r12 : Int) = 0 ∨ (r12 : Int) = 1) ∧ (q r12 m11))) ∧ True) ∧ (((a1 : Int) < 1 ∨ (6 : Int) < a1) → (a1 ≠ 7 → ((0 : Int) = 0 ∨ (0 : Int) = 1) ∧ (q 0 μ)) ∧ (a1 = 7 → (a2 = a0 → ((0 : Int) = 0 ∨ (0 : Int) = 1) ∧ (q 0 μ)) ∧ (a2 ≠ a0 → (a2 = (-1) → ((1 : Int) = 0 ∨ (1 : Int) = 1) ∧ (q 1 μ)) ∧ (a2 ≠ (-1) → mzCl d 6 [mzR 0, mzI a2] μ (mzQi fun r14 m13 => (r14 = 0 → ((0 : Int) = 0 ∨ (0 : Int) = 1) ∧ (q 0 m13)) ∧ (r14 ≠ 0 → ((1 : Int) = 0 ∨ (1 : Int) = 1) ∧ (q 1 m13)))))))) : mzCl (d + 1) 23 [mzR 0, mzI a0, mzI a1, mzI a2] μ (mzQi q) :=
  show mzWp (d + 1) 23 0 [mzR 0, mzI a0, mzI a1, mzI a2] [] μ (mzQi q) from mzVg_ok (cd := k_23) (cuts := []) (n := 19) gd_23 h
-- MeltPinsModel.becomes 
theorem g24_e {d : Nat} {q : Int → mzM → Prop} (a0 : Int) (a1 : Int) (μ : mzM) (h : ((0 : Int) ≤ a0 ∧ (a0 : Int) < 318) ∧ (((0 : Int) ≤ a0 ∧ (a0 : Int) < 318) ∧ (((0 : Int) = 0 ∨ (0 : Int) = 1) ∧ (q (μ 1 a0.toNat) (mzS (mzS μ 1 a0.toNat a1) 0 4 0))))) : mzCl d 24 [mzR 0, mzI a0, mzI a1] μ (mzQi q) :=
  show mzWp d 24 0 [mzR 0, mzI a0, mzI a1, none] [] μ (mzQi q) from mzVg_ok (cd := k_24) (cuts := []) (n := 16) gd_24 h
-- MeltPinsModel.change 
theorem g25_e {d : Nat} {q : Int → mzM → Prop} (a0 : Int) (a1 : Int) (a2 : Int) (μ : mzM) (h : mzCl d 6 [mzR 0, mzI a0] μ (mzQi fun r2 m1 => (r2 = 0 → mzCl d 1 [mzR 0, mzI (-1000001)] m1 (mzQi fun r4 m3 => q r4 m3)) ∧ (r2 ≠ 0 → mzCl d 23 [mzR 0, mzI a0, mzI a1, mzI a2] m1 (mzQi fun r6 m5 => (r6 = 0 → mzCl d 1 [mzR 0, mzI (-1000001)] m5 (mzQi fun r8 m7 => q r8 m7)) ∧ (r6 ≠ 0 → mzCl d 24 [mzR 0, mzI (mzW ((mzW (4 + (mzW (10 * a0)))) + a1)), mzI a2] m5 (mzQi fun r10 m9 => q r10 m9)))))) : mzCl (d + 1) 25 [mzR 0, mzI a0, mzI a1, mzI a2] μ (mzQi q) :=
  show mzWp (d + 1) 25 0 [mzR 0, mzI a0, mzI a1, mzI a2] [] μ (mzQi q) from mzVg_ok (cd := k_25) (cuts := []) (n := 23) gd_25 h
-- MeltPinsModel.step 
theorem g26_e {d : Nat} {q : Int → mzM → Prop} (a0 : Int) (μ : mzM) (h : mzCl d 6 [mzR 0, mzI a0] μ (mzQi fun r2 m1 => (r2 ≠ 0 → mzCl d 5 [mzR 0, mzI a0, mzI 8] m1 (mzQi fun r4 m3 => (r4 ≠ 9 → mzCl d 5 [mzR 0, mzI a0, mzI 8] m3 (mzQi fun r6 m5 => mzCl d 24 [mzR 0, mzI (mzW ((mzW (4 + (mzW (10 * a0)))) + 8)), mzI (mzW (r6 + 1))] m5 (mzQi fun r8 m7 => q (mzW (r8 + 1)) m7))) ∧ (r4 = 9 → mzCl d 1 [mzR 0, mzI (-1000002)] m3 (mzQi fun r10 m9 => q r10 m9)))) ∧ (r2 = 0 → mzCl d 1 [mzR 0, mzI (-1000001)] m1 (mzQi fun r12 m11 => q r12 m11)))) : mzCl (d + 1) 26 [mzR 0, mzI a0] μ (mzQi q) :=
  show mzWp (d + 1) 26 0 [mzR 0, mzI a0] [] μ (mzQi q) from mzVg_ok (cd := k_26) (cuts := []) (n := 29) gd_26 h
-- MeltPinsModel.isTie 
theorem g27_e {d : Nat} {q : Int → mzM → Prop} (a0 : Int) (a1 : Int) (μ : mzM) (h : mzCl d 6 [mzR 0, mzI a0] μ (mzQi fun r2 m1 => (r2 = 0 → ((0 : Int) = 0 ∨ (0 : Int) = 1) ∧ (q 0 m1)) ∧ (r2 ≠ 0 → mzCl d 6 [mzR 0, mzI a1] m1 (mzQi fun r4 m3 => (r4 = 0 → ((0 : Int) = 0 ∨ (0 : Int) = 1) ∧ (q 0 m3)) ∧ (r4 ≠ 0 → (a0 = a1 → ((0 : Int) = 0 ∨ (0 : Int) = 1) ∧ (q 0 m3)) ∧ (a0 ≠ a1 → ((1 : Int) = 0 ∨ (1 : Int) = 1) ∧ (q 1 m3))))))) : mzCl (d + 1) 27 [mzR 0, mzI a0, mzI a1] μ (mzQi q) :=
  show mzWp (d + 1) 27 0 [mzR 0, mzI a0, mzI a1] [] μ (mzQi q) from mzVg_ok (cd := k_27) (cuts := []) (n := 15) gd_27 h
-- MeltPinsModel.tie 
theorem g28_e {d : Nat} {q : Int → mzM → Prop} (a0 : Int) (a1 : Int) (a2 : Int) (μ : mzM) (h : mzCl d 27 [mzR 0, mzI a0, mzI a1] μ (mzQi fun r2 m1 => (r2 = 0 → mzCl d 1 [mzR 0, mzI (-1000001)] m1 (mzQi fun r4 m3 => q r4 m3)) ∧ (r2 ≠ 0 → mzCl d 2 [mzL a2, mzL 1, mzL 99] m1 (mzQi fun r6 m5 => (r6 ≠ 0 → ((0 : Int) ≤ mzW ((mzW (124 + (mzW (12 * a0)))) + a1) ∧ (mzW ((mzW (124 + (mzW (12 * a0)))) + a1) : Int) < 318) ∧ ((m5 1 ((mzW ((mzW (124 + (mzW (12 * a0)))) + a1)).toNat) ≠ 0 → ((0 : Int) ≤ 1 ∧ (1 : Int) < 318) ∧ (((0 : Int) ≤ mzW ((mzW (124 + (mzW (12 * a0)))) + a1) ∧ (mzW ((mzW (124 + (mzW (12 * a0)))) + a1) : Int) < 318) ∧ ((m5 1 ((mzW ((mzW (124 + (mzW (12 * a0)))) + a1)).toNat) ≠ 0 → ((0 : Int) ≤ 1 ∧ (1 : Int) < 318) ∧ (mzCl d 24 [mzR 0, mzI (mzW ((mzW (124 + (mzW (12 * a0)))) + a1)), mzI a2] (mzS m5 1 1 (mzW ((m5 1 1) + 0))) (mzQi fun r8 m7 => q r8 m7))) ∧ (m5 1 ((mzW ((mzW (124 + (mzW (12 * a0)))) + a1)).toNat) = 0 → ((0 : Int) ≤ 1 ∧ (1 : Int) < 318) ∧ (mzCl d 24 [mzR 0, mzI (mzW ((mzW (124 + (mzW (12 * a0)))) + a1)), mzI a2] (mzS m5 1 1 (mzW ((m5 1 1) + 1))) (mzQi fun r10 m9 => q r10 m9)))))) ∧ (m5 1 ((mzW ((mzW (124 + (mzW (12 * a0)))) + a1)).toNat) = 0 → ((0 : Int) ≤ 1 ∧ (1 : Int) < 318) ∧ ((m5 1 1 ≠ 40 → ((0 : Int) ≤ 1 ∧ (1 : Int) < 318) ∧ (((0 : Int) ≤ mzW ((mzW (124 + (mzW (12 * a0)))) + a1) ∧ (mzW ((mzW (124 + (mzW (12 * a0)))) + a1) : Int) < 318) ∧ ((m5 1 ((mzW ((mzW (124 + (mzW (12 * a0)))) + a1)).toNat) ≠ 0 → ((0 : Int) ≤ 1 ∧ (1 : Int) < 318) ∧ (mzCl d 24 [mzR 0, mzI (mzW ((mzW (124 + (mzW (12 * a0)))) + a1)), mzI a2] (mzS m5 1 1 (mzW ((m5 1 1) + 0))) (mzQi fun r12 m11 => q r12 m11))) ∧ (m5 1 ((mzW ((mzW (124 + (mzW (12 * a0)))) + a1)).toNat) = 0 → ((0 : Int) ≤ 1 ∧ (1 : Int) < 318) ∧ (mzCl d 24 [mzR 0, mzI (mzW ((mzW (124 + (mzW (12 * a0)))) + a1)), mzI a2] (mzS m5 1 1 (mzW ((m5 1 1) + 1))) (mzQi fun r14 m13 => q r14 m13)))))) ∧ (m5 1 1 = 40 → mzCl d 1 [mzR 0, mzI (-1000002)] m5 (mzQi fun r16 m15 => q r16 m15)))))) ∧ (r6 = 0 → mzCl d 1 [mzR 0, mzI (-1000001)] m5 (mzQi fun r18 m17 => q r18 m17)))))) : mzCl (d + 1) 28 [mzR 0, mzI a0, mzI a1, mzI a2] μ (mzQi q) :=
  show mzWp (d + 1) 28 0 [mzR 0, mzI a0, mzI a1, mzI a2, none] [] μ (mzQi q) from mzVg_ok (cd := k_28) (cuts := []) (n := 50) gd_28 h
-- MeltPinsModel.tieOf 
theorem g29_e {d : Nat} {q : Int → mzM → Prop} (a0 : Int) (a1 : Int) (μ : mzM) (h : mzCl d 6 [mzR 0, mzI a0] μ (mzQi fun r2 m1 => (r2 = 0 → mzCl d 1 [mzR 0, mzI (-1000001)] m1 (mzQi fun r4 m3 => q r4 m3)) ∧ (r2 ≠ 0 → mzCl d 6 [mzR 0, mzI a1] m1 (mzQi fun r6 m5 => (r6 = 0 → mzCl d 1 [mzR 0, mzI (-1000001)] m5 (mzQi fun r8 m7 => q r8 m7)) ∧ (r6 ≠ 0 → ((0 : Int) ≤ mzW ((mzW (124 + (mzW (12 * a0)))) + a1) ∧ (mzW ((mzW (124 + (mzW (12 * a0)))) + a1) : Int) < 318) ∧ (q (m5 1 ((mzW ((mzW (124 + (mzW (12 * a0)))) + a1)).toNat)) m5)))))) : mzCl (d + 1) 29 [mzR 0, mzI a0, mzI a1] μ (mzQi q) :=
  show mzWp (d + 1) 29 0 [mzR 0, mzI a0, mzI a1] [] μ (mzQi q) from mzVg_ok (cd := k_29) (cuts := []) (n := 21) gd_29 h
-- MeltPinsModel.cut 
theorem g30_e {d : Nat} {q : Int → mzM → Prop} (a0 : Int) (a1 : Int) (μ : mzM) (h : mzCl d 6 [mzR 0, mzI a0] μ (mzQi fun r2 m1 => (r2 = 0 → mzCl d 1 [mzR 0, mzI (-1000001)] m1 (mzQi fun r4 m3 => q r4 m3)) ∧ (r2 ≠ 0 → mzCl d 6 [mzR 0, mzI a1] m1 (mzQi fun r6 m5 => (r6 ≠ 0 → ((0 : Int) ≤ mzW ((mzW (124 + (mzW (12 * a0)))) + a1) ∧ (mzW ((mzW (124 + (mzW (12 * a0)))) + a1) : Int) < 318) ∧ ((m5 1 ((mzW ((mzW (124 + (mzW (12 * a0)))) + a1)).toNat) ≠ 0 → mzCl d 24 [mzR 0, mzI (mzW ((mzW (124 + (mzW (12 * a0)))) + a1)), mzI 0] m5 (mzQi fun r8 m7 => ((0 : Int) ≤ 1 ∧ (1 : Int) < 318) ∧ (((0 : Int) ≤ 1 ∧ (1 : Int) < 318) ∧ (((0 : Int) ≤ 1 ∧ (1 : Int) < 318) ∧ (q (mzW ((m7 1 1) - 1)) (mzS m7 1 1 (mzW ((m7 1 1) - 1)))))))) ∧ (m5 1 ((mzW ((mzW (124 + (mzW (12 * a0)))) + a1)).toNat) = 0 → mzCl d 1 [mzR 0, mzI (-1000004)] m5 (mzQi fun r10 m9 => q r10 m9)))) ∧ (r6 = 0 → mzCl d 1 [mzR 0, mzI (-1000001)] m5 (mzQi fun r12 m11 => q r12 m11)))))) : mzCl (d + 1) 30 [mzR 0, mzI a0, mzI a1] μ (mzQi q) :=
  show mzWp (d + 1) 30 0 [mzR 0, mzI a0, mzI a1, none] [] μ (mzQi q) from mzVg_ok (cd := k_30) (cuts := []) (n := 40) gd_30 h
-- MeltPinsModel.hold 
theorem g31_e {d : Nat} {q : Int → mzM → Prop} (a0 : Int) (a1 : Int) (μ : mzM) (h : mzCl d 6 [mzR 0, mzI a0] μ (mzQi fun r2 m1 => (r2 = 0 → mzCl d 1 [mzR 0, mzI (-1000001)] m1 (mzQi fun r4 m3 => q r4 m3)) ∧ (r2 ≠ 0 → (a1 = 0 → mzCl d 24 [mzR 0, mzI (mzW ((mzW (4 + (mzW (10 * a0)))) + 9)), mzI 0] m1 (mzQi fun r6 m5 => q r6 m5)) ∧ (a1 ≠ 0 → mzCl d 24 [mzR 0, mzI (mzW ((mzW (4 + (mzW (10 * a0)))) + 9)), mzI 1] m1 (mzQi fun r8 m7 => q r8 m7))))) : mzCl (d + 1) 31 [mzR 0, mzI a0, mzI a1] μ (mzQi q) :=
  show mzWp (d + 1) 31 0 [mzR 0, mzI a0, mzI a1] [] μ (mzQi q) from mzVg_ok (cd := k_31) (cuts := []) (n := 20) gd_31 h
-- MeltPinsModel.heldNow 
theorem g32_e {d : Nat} {q : Int → mzM → Prop}  (μ : mzM) (h : mzWp (d + 1) 32 4 [mzR 0, mzI 0, mzI 0] [] μ (mzQi q)) : mzCl (d + 1) 32 [mzR 0] μ (mzQi q) :=
  show mzWp (d + 1) 32 0 [mzR 0, none, none] [] μ (mzQi q) from mzVg_ok (cd := k_32) (cuts := [(4, [true, true, true])]) (n := 6) gd_32 h
theorem g32_4 {d : Nat} {q : Int → mzM → Prop} (x1 : Int) (x2 : Int) (μ : mzM) (h : ((0 : Int) ≤ 0 ∧ (0 : Int) < 318) ∧ ((μ 1 0 ≤ x2 → q x1 μ) ∧ (x2 < μ 1 0 → mzCl d 5 [mzR 0, mzI x2, mzI 9] μ (mzQi fun r2 m1 => mzWp (d + 1) 32 4 [mzR 0, mzI (mzOr x1 (mzShl r2 x2)), mzI (mzW (x2 + 1))] [] m1 (mzQi q))))) : mzWp (d + 1) 32 4 [mzR 0, mzI x1, mzI x2] [] μ (mzQi q) :=
  show mzWp (d + 1) 32 4 [mzR 0, mzI x1, mzI x2] [] μ (mzQi q) from mzVg_ok (cd := k_32) (cuts := [(4, [true, true, true])]) (n := 19) gd_32 h
-- MeltPinsModel.begins 
theorem g33_e {d : Nat} {q : mzM → Prop} (a0 : Int) (μ : mzM) (h : mzWp (d + 1) 33 17 [mzR 0, none, mzI 0] [] (mzS (mzS (mzS μ 0 13 0) 0 14 0) 0 15 a0) (mzQv q)) : mzCl (d + 1) 33 [mzR 0, mzI a0] μ (mzQv q) :=
  show mzWp (d + 1) 33 0 [mzR 0, mzI a0, none] [] μ (mzQv q) from mzVg_ok (cd := k_33) (cuts := [(17, [true, false, true])]) (n := 13) gd_33 h
theorem g33_17 {d : Nat} {q : mzM → Prop} (x2 : Int) (μ : mzM) (h : ((0 : Int) ≤ 0 ∧ (0 : Int) < 318) ∧ ((μ 1 0 ≤ x2 → q μ) ∧ (x2 < μ 1 0 → ((0 : Int) ≤ x2 ∧ (x2 : Int) < 12) ∧ (mzCl d 21 [mzR 0, mzI x2] (mzS μ 6 x2.toNat 0) (mzQi fun r2 m1 => ((0 : Int) ≤ x2 ∧ (x2 : Int) < 12) ∧ (mzWp (d + 1) 33 17 [mzR 0, none, mzI (mzW (x2 + 1))] [] (mzS m1 7 x2.toNat r2) (mzQv q))))))) : mzWp (d + 1) 33 17 [mzR 0, none, mzI x2] [] μ (mzQv q) :=
  show mzWp (d + 1) 33 17 [mzR 0, none, mzI x2] [] μ (mzQv q) from mzVg_ok (cd := k_33) (cuts := [(17, [true, false, true])]) (n := 22) gd_33 h
-- MeltPinsModel.gets 
theorem g34_e {d : Nat} {q : Int → mzM → Prop} (a0 : Int) (a1 : Int) (μ : mzM) (h : mzWp (d + 1) 34 5 [mzR 0, mzI a0, mzI a1, mzI 0, mzI 0] [] μ (mzQi q)) : mzCl (d + 1) 34 [mzR 0, mzI a0, mzI a1] μ (mzQi q) :=
  show mzWp (d + 1) 34 0 [mzR 0, mzI a0, mzI a1, none, none] [] μ (mzQi q) from mzVg_ok (cd := k_34) (cuts := [(5, [true, true, true, true, true])]) (n := 6) gd_34 h
theorem g34_5 {d : Nat} {q : Int → mzM → Prop} (x1 : Int) (x2 : Int) (x3 : Int) (x4 : Int) (μ : mzM) (h : ((0 : Int) ≤ 0 ∧ (0 : Int) < 318) ∧ ((μ 1 0 ≤ x4 → q x3 μ) ∧ (x4 < μ 1 0 → mzCl d 3 [mzI x2, mzI x4] μ (mzQi fun r2 m1 => (r2 = 0 → mzWp (d + 1) 34 5 [mzR 0, mzI x1, mzI x2, mzI (mzW (x3 + 0)), mzI (mzW (x4 + 1))] [] m1 (mzQi q)) ∧ (r2 ≠ 0 → ((0 : Int) ≤ mzW ((mzW (124 + (mzW (12 * x4)))) + x1) ∧ (mzW ((mzW (124 + (mzW (12 * x4)))) + x1) : Int) < 318) ∧ (mzWp (d + 1) 34 5 [mzR 0, mzI x1, mzI x2, mzI (mzW (x3 + (m1 1 ((mzW ((mzW (124 + (mzW (12 * x4)))) + x1)).toNat)))), mzI (mzW (x4 + 1))] [] m1 (mzQi q))))))) : mzWp (d + 1) 34 5 [mzR 0, mzI x1, mzI x2, mzI x3, mzI x4] [] μ (mzQi q) :=
  show mzWp (d + 1) 34 5 [mzR 0, mzI x1, mzI x2, mzI x3, mzI x4] [] μ (mzQi q) from mzVg_ok (cd := k_34) (cuts := [(5, [true, true, true, true, true])]) (n := 28) gd_34 h
-- MeltPinsModel.company 
theorem g35_e {d : Nat} {q : Int → mzM → Prop} (a0 : Int) (a1 : Int) (μ : mzM) (h : mzWp (d + 1) 35 5 [mzR 0, mzI a0, mzI a1, mzI 0, mzI 0] [] μ (mzQi q)) : mzCl (d + 1) 35 [mzR 0, mzI a0, mzI a1] μ (mzQi q) :=
  show mzWp (d + 1) 35 0 [mzR 0, mzI a0, mzI a1, none, none] [] μ (mzQi q) from mzVg_ok (cd := k_35) (cuts := [(5, [true, true, true, true, true])]) (n := 6) gd_35 h
theorem g35_5 {d : Nat} {q : Int → mzM → Prop} (x1 : Int) (x2 : Int) (x3 : Int) (x4 : Int) (μ : mzM) (h : ((0 : Int) ≤ 0 ∧ (0 : Int) < 318) ∧ ((μ 1 0 ≤ x4 → q x3 μ) ∧ (x4 < μ 1 0 → mzCl d 3 [mzI x2, mzI x4] μ (mzQi fun r2 m1 => (r2 = 0 → mzWp (d + 1) 35 5 [mzR 0, mzI x1, mzI x2, mzI (mzW (x3 + 0)), mzI (mzW (x4 + 1))] [] m1 (mzQi q)) ∧ (r2 ≠ 0 → ((0 : Int) ≤ mzW ((mzW (124 + (mzW (12 * x4)))) + x1) ∧ (mzW ((mzW (124 + (mzW (12 * x4)))) + x1) : Int) < 318) ∧ ((m1 1 ((mzW ((mzW (124 + (mzW (12 * x4)))) + x1)).toNat) ≤ 0 → mzWp (d + 1) 35 5 [mzR 0, mzI x1, mzI x2, mzI (mzW (x3 + 0)), mzI (mzW (x4 + 1))] [] m1 (mzQi q)) ∧ ((0 : Int) < m1 1 ((mzW ((mzW (124 + (mzW (12 * x4)))) + x1)).toNat) → mzWp (d + 1) 35 5 [mzR 0, mzI x1, mzI x2, mzI (mzW (x3 + 1)), mzI (mzW (x4 + 1))] [] m1 (mzQi q)))))))) : mzWp (d + 1) 35 5 [mzR 0, mzI x1, mzI x2, mzI x3, mzI x4] [] μ (mzQi q) :=
  show mzWp (d + 1) 35 5 [mzR 0, mzI x1, mzI x2, mzI x3, mzI x4] [] μ (mzQi q) from mzVg_ok (cd := k_35) (cuts := [(5, [true, true, true, true, true])]) (n := 30) gd_35 h
-- MeltPinsModel.goes 
theorem g36_e {d : Nat} {q : Int → mzM → Prop} (a0 : Int) (a1 : Int) (μ : mzM) (h : mzCl d 34 [mzR 0, mzI a0, mzI a1] μ (mzQi fun r2 m1 => ((0 : Int) ≤ a0 ∧ (a0 : Int) < 12) ∧ ((r2 < m1 7 a0.toNat → ((0 : Int) = 0 ∨ (0 : Int) = 1) ∧ (q 0 m1)) ∧ (m1 7 a0.toNat ≤ r2 → mzCl d 5 [mzR 0, mzI a0, mzI 0] m1 (mzQi fun r4 m3 => (r4 ≠ 3 → ((1 : Int) = 0 ∨ (1 : Int) = 1) ∧ (q 1 m3)) ∧ (r4 = 3 → mzCl d 35 [mzR 0, mzI a0, mzI a1] m3 (mzQi fun r6 m5 => (r6 ≤ 1 → ((0 : Int) = 0 ∨ (0 : Int) = 1) ∧ (q 0 m5)) ∧ ((1 : Int) < r6 → ((1 : Int) = 0 ∨ (1 : Int) = 1) ∧ (q 1 m5))))))))) : mzCl (d + 1) 36 [mzR 0, mzI a0, mzI a1] μ (mzQi q) :=
  show mzWp (d + 1) 36 0 [mzR 0, mzI a0, mzI a1] [] μ (mzQi q) from mzVg_ok (cd := k_36) (cuts := []) (n := 25) gd_36 h
-- MeltPinsModel.falls 
theorem g37_e {d : Nat} {q : Int → mzM → Prop} (a0 : Int) (a1 : Int) (μ : mzM) (h : mzCl d 5 [mzR 0, mzI a0, mzI 0] μ (mzQi fun r2 m1 => (r2 = 2 → mzCl d 34 [mzR 0, mzI a0, mzI a1] m1 (mzQi fun r4 m3 => mzCl d 5 [mzR 0, mzI a0, mzI 2] m3 (mzQi fun r6 m5 => (r6 ≤ r4 → ((0 : Int) = 0 ∨ (0 : Int) = 1) ∧ (q 0 m5)) ∧ (r4 < r6 → ((1 : Int) = 0 ∨ (1 : Int) = 1) ∧ (q 1 m5))))) ∧ (r2 ≠ 2 → (r2 ≠ 5 → ((0 : Int) = 0 ∨ (0 : Int) = 1) ∧ (q 0 m1)) ∧ (r2 = 5 → mzCl d 5 [mzR 0, mzI a0, mzI 8] m1 (mzQi fun r8 m7 => (r8 ≠ 0 → ((0 : Int) = 0 ∨ (0 : Int) = 1) ∧ (q 0 m7)) ∧ (r8 = 0 → mzCl d 34 [mzR 0, mzI a0, mzI a1] m7 (mzQi fun r10 m9 => mzCl d 5 [mzR 0, mzI a0, mzI 2] m9 (mzQi fun r12 m11 => (r12 ≤ r10 → ((0 : Int) = 0 ∨ (0 : Int) = 1) ∧ (q 0 m11)) ∧ (r10 < r12 → ((1 : Int) = 0 ∨ (1 : Int) = 1) ∧ (q 1 m11)))))))))) : mzCl (d + 1) 37 [mzR 0, mzI a0, mzI a1] μ (mzQi q) :=
  show mzWp (d + 1) 37 0 [mzR 0, mzI a0, mzI a1, none] [] μ (mzQi q) from mzVg_ok (cd := k_37) (cuts := []) (n := 29) gd_37 h
-- MeltPinsModel.year 
theorem g38_e {d : Nat} {q : Int → mzM → Prop} (a0 : Int) (μ : mzM) (h : mzWp (d + 1) 38 48 [mzR 0, mzI a0, mzI (μ 0 13), mzI (μ 0 14), mzI 0, none, mzI (mzOr (μ 0 13) (mzAnd (mzAnd a0 (mzXor (μ 0 15) (-1))) (mzXor (μ 0 14) (-1)))), mzI 0, none] [] (mzS μ 0 13 (mzOr (μ 0 13) (mzAnd (mzAnd a0 (mzXor (μ 0 15) (-1))) (mzXor (μ 0 14) (-1))))) (mzQi q)) : mzCl (d + 1) 38 [mzR 0, mzI a0] μ (mzQi q) :=
  show mzWp (d + 1) 38 0 [mzR 0, mzI a0, none, none, none, none, none, none, none] [] μ (mzQi q) from mzVg_ok (cd := k_38) (cuts := [(48, [true, true, true, true, true, false, true, true, false]), (232, [true, false, true, true, true, false, false, true, false]), (309, [true, false, true, true, true, false, false, true, false])]) (n := 32) gd_38 h
theorem g38_48 {d : Nat} {q : Int → mzM → Prop} (x1 : Int) (x2 : Int) (x3 : Int) (x4 : Int) (x6 : Int) (x7 : Int) (μ : mzM) (h : ((0 : Int) ≤ 0 ∧ (0 : Int) < 318) ∧ ((μ 1 0 ≤ x7 → mzWp (d + 1) 38 232 [mzR 0, none, mzI x2, mzI x3, mzI x4, none, none, mzI 0, none] [] μ (mzQi q)) ∧ (x7 < μ 1 0 → mzCl d 3 [mzI x6, mzI x7] μ (mzQi fun r2 m1 => (r2 = 0 → mzCl d 3 [mzI (mzOr (m1 0 15) (m1 0 14)), mzI x7] m1 (mzQi fun r4 m3 => (r4 ≠ 0 → mzWp (d + 1) 38 48 [mzR 0, mzI x1, mzI x2, mzI x3, mzI x4, none, mzI x6, mzI (mzW (x7 + 1)), none] [] m3 (mzQi q)) ∧ (r4 = 0 → mzCl d 36 [mzR 0, mzI x7, mzI x6] m3 (mzQi fun r6 m5 => (r6 = 0 → (x4 ≠ 0 → ((0 : Int) ≤ x7 ∧ (x7 : Int) < 12) ∧ (mzCl d 5 [mzR 0, mzI x7, mzI 3] (mzS m5 6 x7.toNat 0) (mzQi fun r8 m7 => ((0 : Int) ≤ r8 → mzWp (d + 1) 38 48 [mzR 0, mzI x1, mzI x2, mzI x3, mzI 1, none, mzI x6, mzI (mzW (x7 + 1)), none] [] (mzS m7 0 13 (mzOr (m5 0 13) 0)) (mzQi q)) ∧ (r8 < 0 → mzWp (d + 1) 38 48 [mzR 0, mzI x1, mzI x2, mzI x3, mzI 1, none, mzI x6, mzI (mzW (x7 + 1)), none] [] (mzS m7 0 13 (mzOr (m5 0 13) (mzShl 1 x7))) (mzQi q))))) ∧ (x4 = 0 → ((0 : Int) ≤ x7 ∧ (x7 : Int) < 12) ∧ (((0 : Int) = m5 6 x7.toNat → ((0 : Int) ≤ x7 ∧ (x7 : Int) < 12) ∧ (mzCl d 5 [mzR 0, mzI x7, mzI 3] (mzS m5 6 x7.toNat 0) (mzQi fun r10 m9 => ((0 : Int) ≤ r10 → mzWp (d + 1) 38 48 [mzR 0, mzI x1, mzI x2, mzI x3, mzI 0, none, mzI x6, mzI (mzW (x7 + 1)), none] [] (mzS m9 0 13 (mzOr (m5 0 13) 0)) (mzQi q)) ∧ (r10 < 0 → mzWp (d + 1) 38 48 [mzR 0, mzI x1, mzI x2, mzI x3, mzI 0, none, mzI x6, mzI (mzW (x7 + 1)), none] [] (mzS m9 0 13 (mzOr (m5 0 13) (mzShl 1 x7))) (mzQi q))))) ∧ ((0 : Int) ≠ m5 6 x7.toNat → ((0 : Int) ≤ x7 ∧ (x7 : Int) < 12) ∧ (mzCl d 5 [mzR 0, mzI x7, mzI 3] (mzS m5 6 x7.toNat 0) (mzQi fun r12 m11 => ((0 : Int) ≤ r12 → mzWp (d + 1) 38 48 [mzR 0, mzI x1, mzI x2, mzI x3, mzI 1, none, mzI x6, mzI (mzW (x7 + 1)), none] [] (mzS m11 0 13 (mzOr (m5 0 13) 0)) (mzQi q)) ∧ (r12 < 0 → mzWp (d + 1) 38 48 [mzR 0, mzI x1, mzI x2, mzI x3, mzI 1, none, mzI x6, mzI (mzW (x7 + 1)), none] [] (mzS m11 0 13 (mzOr (m5 0 13) (mzShl 1 x7))) (mzQi q)))))))) ∧ (r6 ≠ 0 → ((0 : Int) ≤ x7 ∧ (x7 : Int) < 12) ∧ ((x4 ≠ 0 → ((0 : Int) ≤ x7 ∧ (x7 : Int) < 12) ∧ (mzCl d 5 [mzR 0, mzI x7, mzI 3] (mzS m5 6 x7.toNat (mzW ((m5 6 x7.toNat) + 1))) (mzQi fun r14 m13 => (mzW ((m5 6 x7.toNat) + 1) ≤ r14 → mzWp (d + 1) 38 48 [mzR 0, mzI x1, mzI x2, mzI x3, mzI 1, none, mzI x6, mzI (mzW (x7 + 1)), none] [] (mzS m13 0 13 (mzOr (m5 0 13) 0)) (mzQi q)) ∧ (r14 < mzW ((m5 6 x7.toNat) + 1) → mzWp (d + 1) 38 48 [mzR 0, mzI x1, mzI x2, mzI x3, mzI 1, none, mzI x6, mzI (mzW (x7 + 1)), none] [] (mzS m13 0 13 (mzOr (m5 0 13) (mzShl 1 x7))) (mzQi q))))) ∧ (x4 = 0 → ((0 : Int) ≤ x7 ∧ (x7 : Int) < 12) ∧ ((mzW ((m5 6 x7.toNat) + 1) = m5 6 x7.toNat → ((0 : Int) ≤ x7 ∧ (x7 : Int) < 12) ∧ (mzCl d 5 [mzR 0, mzI x7, mzI 3] (mzS m5 6 x7.toNat (mzW ((m5 6 x7.toNat) + 1))) (mzQi fun r16 m15 => (mzW ((m5 6 x7.toNat) + 1) ≤ r16 → mzWp (d + 1) 38 48 [mzR 0, mzI x1, mzI x2, mzI x3, mzI 0, none, mzI x6, mzI (mzW (x7 + 1)), none] [] (mzS m15 0 13 (mzOr (m5 0 13) 0)) (mzQi q)) ∧ (r16 < mzW ((m5 6 x7.toNat) + 1) → mzWp (d + 1) 38 48 [mzR 0, mzI x1, mzI x2, mzI x3, mzI 0, none, mzI x6, mzI (mzW (x7 + 1)), none] [] (mzS m15 0 13 (mzOr (m5 0 13) (mzShl 1 x7))) (mzQi q))))) ∧ (mzW ((m5 6 x7.toNat) + 1) ≠ m5 6 x7.toNat → ((0 : Int) ≤ x7 ∧ (x7 : Int) < 12) ∧ (mzCl d 5 [mzR 0, mzI x7, mzI 3] (mzS m5 6 x7.toNat (mzW ((m5 6 x7.toNat) + 1))) (mzQi fun r18 m17 => (mzW ((m5 6 x7.toNat) + 1) ≤ r18 → mzWp (d + 1) 38 48 [mzR 0, mzI x1, mzI x2, mzI x3, mzI 1, none, mzI x6, mzI (mzW (x7 + 1)), none] [] (mzS m17 0 13 (mzOr (m5 0 13) 0)) (mzQi q)) ∧ (r18 < mzW ((m5 6 x7.toNat) + 1) → mzWp (d + 1) 38 48 [mzR 0, mzI x1, mzI x2, mzI x3, mzI 1, none, mzI x6, mzI (mzW (x7 + 1)), none] [] (mzS m17 0 13 (mzOr (m5 0 13) (mzShl 1 x7))) (mzQi q))))))))))))) ∧ (r2 ≠ 0 → mzCl d 3 [mzI x1, mzI x7] m1 (mzQi fun r20 m19 => (r20 ≠ 0 → mzWp (d + 1) 38 48 [mzR 0, mzI x1, mzI x2, mzI x3, mzI x4, none, mzI x6, mzI (mzW (x7 + 1)), none] [] m19 (mzQi q)) ∧ (r20 = 0 → mzCl d 37 [mzR 0, mzI x7, mzI x6] m19 (mzQi fun r22 m21 => (r22 ≠ 0 → ((0 : Int) ≤ x7 ∧ (x7 : Int) < 12) ∧ (mzWp (d + 1) 38 48 [mzR 0, mzI x1, mzI x2, mzI x3, mzI x4, none, mzI x6, mzI (mzW (x7 + 1)), none] [] (mzS (mzS m21 0 13 (mzAnd (m21 0 13) (mzXor (mzShl 1 x7) (-1)))) 6 x7.toNat 0) (mzQi q))) ∧ (r22 = 0 → mzWp (d + 1) 38 48 [mzR 0, mzI x1, mzI x2, mzI x3, mzI x4, none, mzI x6, mzI (mzW (x7 + 1)), none] [] m21 (mzQi q)))))))))) : mzWp (d + 1) 38 48 [mzR 0, mzI x1, mzI x2, mzI x3, mzI x4, none, mzI x6, mzI x7, none] [] μ (mzQi q) :=
  show mzWp (d + 1) 38 48 [mzR 0, mzI x1, mzI x2, mzI x3, mzI x4, none, mzI x6, mzI x7, none] [] μ (mzQi q) from mzVg_ok (cd := k_38) (cuts := [(48, [true, true, true, true, true, false, true, true, false]), (232, [true, false, true, true, true, false, false, true, false]), (309, [true, false, true, true, true, false, false, true, false])]) (n := 66) gd_38 h
theorem g38_232 {d : Nat} {q : Int → mzM → Prop} (x2 : Int) (x3 : Int) (x4 : Int) (x7 : Int) (μ : mzM) (h : ((0 : Int) ≤ 0 ∧ (0 : Int) < 318) ∧ ((μ 1 0 ≤ x7 → mzWp (d + 1) 38 309 [mzR 0, none, mzI x2, mzI x3, mzI x4, none, none, mzI 0, none] [] μ (mzQi q)) ∧ (x7 < μ 1 0 → mzCl d 5 [mzR 0, mzI x7, mzI 0] μ (mzQi fun r2 m1 => (r2 ≠ 4 → mzWp (d + 1) 38 232 [mzR 0, none, mzI x2, mzI x3, mzI x4, none, none, mzI (mzW (x7 + 1)), none] [] m1 (mzQi q)) ∧ (r2 = 4 → mzCl d 3 [mzI (mzAnd (m1 0 13) (mzXor x2 (-1))), mzI x7] m1 (mzQi fun r4 m3 => (r4 = 0 → mzWp (d + 1) 38 232 [mzR 0, none, mzI x2, mzI x3, mzI x4, none, none, mzI (mzW (x7 + 1)), none] [] m3 (mzQi q)) ∧ (r4 ≠ 0 → mzCl d 5 [mzR 0, mzI x7, mzI 7] m3 (mzQi fun r6 m5 => (r6 < 0 → mzWp (d + 1) 38 232 [mzR 0, none, mzI x2, mzI x3, mzI x4, none, none, mzI (mzW (x7 + 1)), none] [] m5 (mzQi q)) ∧ ((0 : Int) ≤ r6 → mzCl d 5 [mzR 0, mzI x7, mzI 7] m5 (mzQi fun r8 m7 => mzWp (d + 1) 38 232 [mzR 0, none, mzI x2, mzI x3, mzI x4, none, none, mzI (mzW (x7 + 1)), none] [] (mzS m7 0 14 (mzOr (m5 0 14) (mzShl 1 r8))) (mzQi q))))))))))) : mzWp (d + 1) 38 232 [mzR 0, none, mzI x2, mzI x3, mzI x4, none, none, mzI x7, none] [] μ (mzQi q) :=
  show mzWp (d + 1) 38 232 [mzR 0, none, mzI x2, mzI x3, mzI x4, none, none, mzI x7, none] [] μ (mzQi q) from mzVg_ok (cd := k_38) (cuts := [(48, [true, true, true, true, true, false, true, true, false]), (232, [true, false, true, true, true, false, false, true, false]), (309, [true, false, true, true, true, false, false, true, false])]) (n := 41) gd_38 h
theorem g38_309 {d : Nat} {q : Int → mzM → Prop} (x2 : Int) (x3 : Int) (x4 : Int) (x7 : Int) (μ : mzM) (h : ((0 : Int) ≤ 0 ∧ (0 : Int) < 318) ∧ ((μ 1 0 ≤ x7 → (x4 ≠ 0 → ((1 : Int) = 0 ∨ (1 : Int) = 1) ∧ (q 1 (mzS μ 0 13 (mzAnd (μ 0 13) (mzXor (μ 0 14) (-1)))))) ∧ (x4 = 0 → (mzAnd (μ 0 13) (mzXor (μ 0 14) (-1)) ≠ x2 → ((1 : Int) = 0 ∨ (1 : Int) = 1) ∧ (q 1 (mzS μ 0 13 (mzAnd (μ 0 13) (mzXor (μ 0 14) (-1)))))) ∧ (mzAnd (μ 0 13) (mzXor (μ 0 14) (-1)) = x2 → (μ 0 14 = x3 → ((0 : Int) = 0 ∨ (0 : Int) = 1) ∧ (q 0 (mzS μ 0 13 (mzAnd (μ 0 13) (mzXor (μ 0 14) (-1)))))) ∧ (μ 0 14 ≠ x3 → ((1 : Int) = 0 ∨ (1 : Int) = 1) ∧ (q 1 (mzS μ 0 13 (mzAnd (μ 0 13) (mzXor (μ 0 14) (-1))))))))) ∧ (x7 < μ 1 0 → mzCl d 3 [mzI (μ 0 14), mzI x7] μ (mzQi fun r2 m1 => (r2 = 0 → mzWp (d + 1) 38 309 [mzR 0, none, mzI x2, mzI x3, mzI x4, none, none, mzI (mzW (x7 + 1)), none] [] m1 (mzQi q)) ∧ (r2 ≠ 0 → ((0 : Int) ≤ x7 ∧ (x7 : Int) < 12) ∧ (mzWp (d + 1) 38 309 [mzR 0, none, mzI x2, mzI x3, mzI x4, none, none, mzI (mzW (x7 + 1)), none] [] (mzS m1 6 x7.toNat 0) (mzQi q))))))) : mzWp (d + 1) 38 309 [mzR 0, none, mzI x2, mzI x3, mzI x4, none, none, mzI x7, none] [] μ (mzQi q) :=
  show mzWp (d + 1) 38 309 [mzR 0, none, mzI x2, mzI x3, mzI x4, none, none, mzI x7, none] [] μ (mzQi q) from mzVg_ok (cd := k_38) (cuts := [(48, [true, true, true, true, true, false, true, true, false]), (232, [true, false, true, true, true, false, false, true, false]), (309, [true, false, true, true, true, false, false, true, false])]) (n := 29) gd_38 h
-- MeltPinsModel.pushesOf 
theorem g39_e {d : Nat} {q : Int → mzM → Prop} (a0 : Int) (μ : mzM) (h : mzWp d 39 4 [mzR 0, mzI a0, mzI 0, mzI 0] [] μ (mzQi q)) : mzCl d 39 [mzR 0, mzI a0] μ (mzQi q) :=
  show mzWp d 39 0 [mzR 0, mzI a0, none, none] [] μ (mzQi q) from mzVg_ok (cd := k_39) (cuts := [(4, [true, true, true, true])]) (n := 6) gd_39 h
theorem g39_4 {d : Nat} {q : Int → mzM → Prop} (x1 : Int) (x2 : Int) (x3 : Int) (μ : mzM) (h : ((0 : Int) ≤ 2 ∧ (2 : Int) < 318) ∧ ((μ 1 2 ≤ x3 → q x2 μ) ∧ (x3 < μ 1 2 → ((0 : Int) ≤ mzW (268 + (mzW (2 * x3))) ∧ (mzW (268 + (mzW (2 * x3))) : Int) < 318) ∧ ((μ 1 ((mzW (268 + (mzW (2 * x3)))).toNat) ≠ x1 → mzWp d 39 4 [mzR 0, mzI x1, mzI (mzOr x2 0), mzI (mzW (x3 + 1))] [] μ (mzQi q)) ∧ (μ 1 ((mzW (268 + (mzW (2 * x3)))).toNat) = x1 → ((0 : Int) ≤ mzW ((mzW (268 + (mzW (2 * x3)))) + 1) ∧ (mzW ((mzW (268 + (mzW (2 * x3)))) + 1) : Int) < 318) ∧ (mzWp d 39 4 [mzR 0, mzI x1, mzI (mzOr x2 (mzShl 1 (μ 1 ((mzW ((mzW (268 + (mzW (2 * x3)))) + 1)).toNat)))), mzI (mzW (x3 + 1))] [] μ (mzQi q))))))) : mzWp d 39 4 [mzR 0, mzI x1, mzI x2, mzI x3] [] μ (mzQi q) :=
  show mzWp d 39 4 [mzR 0, mzI x1, mzI x2, mzI x3] [] μ (mzQi q) from mzVg_ok (cd := k_39) (cuts := [(4, [true, true, true, true])]) (n := 36) gd_39 h
-- MeltPinsModel.plan 
theorem g40_e {d : Nat} {q : mzM → Prop} (a0 : Int) (μ : mzM) (h : mzCl d 32 [mzR 0] μ (mzQi fun r2 m1 => mzCl d 33 [mzR 0, mzI r2] m1 (mzQv fun m3 => mzWp (d + 1) 40 10 [mzR 0, mzI a0, mzI 0] [] m3 (mzQv q)))) : mzCl (d + 1) 40 [mzR 0, mzI a0] μ (mzQv q) :=
  show mzWp (d + 1) 40 0 [mzR 0, mzI a0, none] [] μ (mzQv q) from mzVg_ok (cd := k_40) (cuts := [(10, [true, true, true])]) (n := 8) gd_40 h
theorem g40_10 {d : Nat} {q : mzM → Prop} (x1 : Int) (x2 : Int) (μ : mzM) (h : (x1 ≤ x2 → q μ) ∧ (x2 < x1 → mzCl d 39 [mzR 0, mzI x2] μ (mzQi fun r2 m1 => mzCl d 38 [mzR 0, mzI r2] m1 (mzQi fun r4 m3 => mzWp (d + 1) 40 10 [mzR 0, mzI x1, mzI (mzW (x2 + 1))] [] m3 (mzQv q))))) : mzWp (d + 1) 40 10 [mzR 0, mzI x1, mzI x2] [] μ (mzQv q) :=
  show mzWp (d + 1) 40 10 [mzR 0, mzI x1, mzI x2] [] μ (mzQv q) from mzVg_ok (cd := k_40) (cuts := [(10, [true, true, true])]) (n := 13) gd_40 h
-- MeltPinsModel.push 
theorem g41_e {d : Nat} {q : Int → mzM → Prop} (a0 : Int) (a1 : Int) (μ : mzM) (h : mzCl d 2 [mzL a0, mzL 0, mzL 49] μ (mzQi fun r2 m1 => (r2 = 0 → mzCl d 1 [mzR 0, mzI (-1000001)] m1 (mzQi fun r4 m3 => q r4 m3)) ∧ (r2 ≠ 0 → mzCl d 6 [mzR 0, mzI a1] m1 (mzQi fun r6 m5 => (r6 ≠ 0 → mzCl d 39 [mzR 0, mzI a0] m5 (mzQi fun r8 m7 => mzCl d 3 [mzI r8, mzI a1] m7 (mzQi fun r10 m9 => (r10 = 0 → ((0 : Int) ≤ 2 ∧ (2 : Int) < 318) ∧ ((m9 1 2 ≠ 20 → ((0 : Int) ≤ mzW (268 + (mzW (2 * (m9 1 2)))) ∧ (mzW (268 + (mzW (2 * (m9 1 2)))) : Int) < 318) ∧ (((0 : Int) ≤ mzW ((mzW (268 + (mzW (2 * (m9 1 2))))) + 1) ∧ (mzW ((mzW (268 + (mzW (2 * (m9 1 2))))) + 1) : Int) < 318) ∧ (((0 : Int) ≤ 2 ∧ (2 : Int) < 318) ∧ (((0 : Int) ≤ 2 ∧ (2 : Int) < 318) ∧ (((0 : Int) ≤ 2 ∧ (2 : Int) < 318) ∧ (q (mzW (((mzS (mzS m9 1 ((mzW (268 + (mzW (2 * (m9 1 2))))).toNat) a0) 1 ((mzW ((mzW (268 + (mzW (2 * (m9 1 2))))) + 1)).toNat) a1) 1 2) + 1)) (mzS (mzS (mzS m9 1 ((mzW (268 + (mzW (2 * (m9 1 2))))).toNat) a0) 1 ((mzW ((mzW (268 + (mzW (2 * (m9 1 2))))) + 1)).toNat) a1) 1 2 (mzW (((mzS (mzS m9 1 ((mzW (268 + (mzW (2 * (m9 1 2))))).toNat) a0) 1 ((mzW ((mzW (268 + (mzW (2 * (m9 1 2))))) + 1)).toNat) a1) 1 2) + 1))))))))) ∧ (m9 1 2 = 20 → mzCl d 1 [mzR 0, mzI (-1000002)] m9 (mzQi fun r12 m11 => q r12 m11)))) ∧ (r10 ≠ 0 → mzCl d 1 [mzR 0, mzI (-1000005)] m9 (mzQi fun r14 m13 => q r14 m13))))) ∧ (r6 = 0 → mzCl d 1 [mzR 0, mzI (-1000001)] m5 (mzQi fun r16 m15 => q r16 m15)))))) : mzCl (d + 1) 41 [mzR 0, mzI a0, mzI a1] μ (mzQi q) :=
  show mzWp (d + 1) 41 0 [mzR 0, mzI a0, mzI a1, none] [] μ (mzQi q) from mzVg_ok (cd := k_41) (cuts := []) (n := 58) gd_41 h
-- MeltPinsModel.pushOf 
theorem g42_e {d : Nat} {q : Int → mzM → Prop} (a0 : Int) (a1 : Int) (μ : mzM) (h : ((0 : Int) ≤ 2 ∧ (2 : Int) < 318) ∧ (mzCl d 2 [mzL a0, mzL 0, mzL (mzW ((μ 1 2) - 1))] μ (mzQi fun r2 m1 => (r2 = 0 → mzCl d 1 [mzR 0, mzI (-1000001)] m1 (mzQi fun r4 m3 => q r4 m3)) ∧ (r2 ≠ 0 → mzCl d 2 [mzL a1, mzL 0, mzL 1] m1 (mzQi fun r6 m5 => (r6 = 0 → mzCl d 1 [mzR 0, mzI (-1000001)] m5 (mzQi fun r8 m7 => q r8 m7)) ∧ (r6 ≠ 0 → ((0 : Int) ≤ mzW ((mzW (268 + (mzW (2 * a0)))) + a1) ∧ (mzW ((mzW (268 + (mzW (2 * a0)))) + a1) : Int) < 318) ∧ (q (m5 1 ((mzW ((mzW (268 + (mzW (2 * a0)))) + a1)).toNat)) m5))))))) : mzCl (d + 1) 42 [mzR 0, mzI a0, mzI a1] μ (mzQi q) :=
  show mzWp (d + 1) 42 0 [mzR 0, mzI a0, mzI a1] [] μ (mzQi q) from mzVg_ok (cd := k_42) (cuts := []) (n := 31) gd_42 h
-- MeltPinsModel.clear 
theorem g43_e {d : Nat} {q : Int → mzM → Prop}  (μ : mzM) (h : ((0 : Int) ≤ 2 ∧ (2 : Int) < 318) ∧ (((0 : Int) ≤ 2 ∧ (2 : Int) < 318) ∧ (q (μ 1 2) (mzS μ 1 2 0)))) : mzCl d 43 [mzR 0] μ (mzQi q) :=
  show mzWp d 43 0 [mzR 0, none] [] μ (mzQi q) from mzVg_ok (cd := k_43) (cuts := []) (n := 13) gd_43 h
-- MeltPinsModel.run 
theorem g44_e {d : Nat} {q : Int → mzM → Prop} (a0 : Int) (a1 : Int) (μ : mzM) (h : mzCl d 2 [mzL a0, mzL 0, mzL 99] μ (mzQi fun r2 m1 => (r2 = 0 → mzCl d 1 [mzR 0, mzI (-1000001)] m1 (mzQi fun r4 m3 => q r4 m3)) ∧ (r2 ≠ 0 → mzCl d 2 [mzL a1, mzL 0, mzL 1] m1 (mzQi fun r6 m5 => (r6 ≠ 0 → mzCl d 40 [mzR 0, mzI a0] m5 (mzQv fun m7 => (a1 ≠ 0 → q (m7 0 14) m7) ∧ (a1 = 0 → q (m7 0 13) m7))) ∧ (r6 = 0 → mzCl d 1 [mzR 0, mzI (-1000001)] m5 (mzQi fun r9 m8 => q r9 m8)))))) : mzCl (d + 1) 44 [mzR 0, mzI a0, mzI a1] μ (mzQi q) :=
  show mzWp (d + 1) 44 0 [mzR 0, mzI a0, mzI a1] [] μ (mzQi q) from mzVg_ok (cd := k_44) (cuts := []) (n := 22) gd_44 h
-- MeltPinsModel.runOf 
theorem g45_e {d : Nat} {q : Int → mzM → Prop} (a0 : Int) (a1 : Int) (a2 : Int) (μ : mzM) (h : mzCl d 2 [mzL a0, mzL 0, mzL 99] μ (mzQi fun r2 m1 => (r2 = 0 → mzCl d 1 [mzR 0, mzI (-1000001)] m1 (mzQi fun r4 m3 => q r4 m3)) ∧ (r2 ≠ 0 → mzCl d 6 [mzR 0, mzI a1] m1 (mzQi fun r6 m5 => (r6 = 0 → mzCl d 1 [mzR 0, mzI (-1000001)] m5 (mzQi fun r8 m7 => q r8 m7)) ∧ (r6 ≠ 0 → mzCl d 2 [mzL a2, mzL 0, mzL 1] m5 (mzQi fun r10 m9 => (r10 ≠ 0 → mzCl d 40 [mzR 0, mzI a0] m9 (mzQv fun m11 => (a2 ≠ 0 → mzCl d 34 [mzR 0, mzI a1, mzI (m11 0 13)] m11 (mzQi fun r13 m12 => q r13 m12)) ∧ (a2 = 0 → ((0 : Int) ≤ a1 ∧ (a1 : Int) < 12) ∧ (q (m11 6 a1.toNat) m11)))) ∧ (r10 = 0 → mzCl d 1 [mzR 0, mzI (-1000001)] m9 (mzQi fun r15 m14 => q r15 m14)))))))) : mzCl (d + 1) 45 [mzR 0, mzI a0, mzI a1, mzI a2] μ (mzQi q) :=
  show mzWp (d + 1) 45 0 [mzR 0, mzI a0, mzI a1, mzI a2] [] μ (mzQi q) from mzVg_ok (cd := k_45) (cuts := []) (n := 28) gd_45 h
-- MeltPinsModel.when 
theorem g46_e {d : Nat} {q : Int → mzM → Prop} (a0 : Int) (μ : mzM) (h : mzCl d 6 [mzR 0, mzI a0] μ (mzQi fun r2 m1 => (r2 ≠ 0 → mzCl d 32 [mzR 0] m1 (mzQi fun r4 m3 => mzCl d 33 [mzR 0, mzI r4] m3 (mzQv fun m5 => mzWp (d + 1) 46 25 [mzR 0, mzI a0, mzI 1] [] m5 (mzQi q)))) ∧ (r2 = 0 → mzCl d 1 [mzR 0, mzI (-1000001)] m1 (mzQi fun r7 m6 => q r7 m6)))) : mzCl (d + 1) 46 [mzR 0, mzI a0] μ (mzQi q) :=
  show mzWp (d + 1) 46 0 [mzR 0, mzI a0, none] [] μ (mzQi q) from mzVg_ok (cd := k_46) (cuts := [(25, [true, true, true])]) (n := 12) gd_46 h
theorem g46_25 {d : Nat} {q : Int → mzM → Prop} (x1 : Int) (x2 : Int) (μ : mzM) (h : ((100 : Int) ≤ x2 → mzCl d 1 [mzR 0, mzI (-1000004)] μ (mzQi fun r2 m1 => q r2 m1)) ∧ (x2 < 100 → mzCl d 39 [mzR 0, mzI (mzW (x2 - 1))] μ (mzQi fun r4 m3 => mzCl d 38 [mzR 0, mzI r4] m3 (mzQi fun r6 m5 => mzCl d 3 [mzI (m5 0 13), mzI x1] m5 (mzQi fun r8 m7 => (r8 = 0 → mzWp (d + 1) 46 25 [mzR 0, mzI x1, mzI (mzW (x2 + 1))] [] m7 (mzQi q)) ∧ (r8 ≠ 0 → q x2 m7)))))) : mzWp (d + 1) 46 25 [mzR 0, mzI x1, mzI x2] [] μ (mzQi q) :=
  show mzWp (d + 1) 46 25 [mzR 0, mzI x1, mzI x2] [] μ (mzQi q) from mzVg_ok (cd := k_46) (cuts := [(25, [true, true, true])]) (n := 20) gd_46 h
-- MeltPinsModel.settles 
theorem g47_e {d : Nat} {q : Int → mzM → Prop}  (μ : mzM) (h : mzCl d 32 [mzR 0] μ (mzQi fun r2 m1 => mzCl d 33 [mzR 0, mzI r2] m1 (mzQv fun m3 => mzWp (d + 1) 47 12 [mzR 0, mzI 0, mzI 1, none, none] [] m3 (mzQi q)))) : mzCl (d + 1) 47 [mzR 0] μ (mzQi q) :=
  show mzWp (d + 1) 47 0 [mzR 0, none, none, none, none] [] μ (mzQi q) from mzVg_ok (cd := k_47) (cuts := [(12, [true, true, true, false, false])]) (n := 10) gd_47 h
theorem g47_12 {d : Nat} {q : Int → mzM → Prop} (x1 : Int) (x2 : Int) (μ : mzM) (h : ((100 : Int) ≤ x2 → q x1 μ) ∧ (x2 < 100 → mzCl d 39 [mzR 0, mzI (mzW (x2 - 1))] μ (mzQi fun r2 m1 => mzCl d 38 [mzR 0, mzI r2] m1 (mzQi fun r4 m3 => (μ 0 13 ≠ m3 0 13 → mzWp (d + 1) 47 12 [mzR 0, mzI x2, mzI (mzW (x2 + 1)), none, none] [] m3 (mzQi q)) ∧ (μ 0 13 = m3 0 13 → (μ 0 14 = m3 0 14 → mzWp (d + 1) 47 12 [mzR 0, mzI x1, mzI (mzW (x2 + 1)), none, none] [] m3 (mzQi q)) ∧ (μ 0 14 ≠ m3 0 14 → mzWp (d + 1) 47 12 [mzR 0, mzI x2, mzI (mzW (x2 + 1)), none, none] [] m3 (mzQi q))))))) : mzWp (d + 1) 47 12 [mzR 0, mzI x1, mzI x2, none, none] [] μ (mzQi q) :=
  show mzWp (d + 1) 47 12 [mzR 0, mzI x1, mzI x2, none, none] [] μ (mzQi q) from mzVg_ok (cd := k_47) (cuts := [(12, [true, true, true, false, false])]) (n := 32) gd_47 h
-- MeltPinsModel.standOf 
theorem g48_e {d : Nat} {q : Int → mzM → Prop} (a0 : Int) (a1 : Int) (μ : mzM) (h : mzCl d 33 [mzR 0, mzI a1] μ (mzQv fun m1 => mzWp (d + 1) 48 10 [mzR 0, mzI a0, none, mzI 1, mzI 0] [] m1 (mzQi q))) : mzCl (d + 1) 48 [mzR 0, mzI a0, mzI a1] μ (mzQi q) :=
  show mzWp (d + 1) 48 0 [mzR 0, mzI a0, mzI a1, none, none] [] μ (mzQi q) from mzVg_ok (cd := k_48) (cuts := [(10, [true, true, false, true, true])]) (n := 9) gd_48 h
theorem g48_10 {d : Nat} {q : Int → mzM → Prop} (x1 : Int) (x3 : Int) (x4 : Int) (μ : mzM) (h : ((24 : Int) ≤ x4 → q (μ 0 13) μ) ∧ (x4 < 24 → (x3 = 0 → q (μ 0 13) μ) ∧ (x3 ≠ 0 → (x4 ≠ 0 → mzCl d 38 [mzR 0, mzI 0] μ (mzQi fun r2 m1 => (r2 ≠ 0 → mzWp (d + 1) 48 10 [mzR 0, mzI x1, none, mzI 1, mzI (mzW (x4 + 1))] [] m1 (mzQi q)) ∧ (r2 = 0 → (x4 ≠ 0 → mzWp (d + 1) 48 10 [mzR 0, mzI x1, none, mzI 0, mzI (mzW (x4 + 1))] [] m1 (mzQi q)) ∧ (x4 = 0 → mzWp (d + 1) 48 10 [mzR 0, mzI x1, none, mzI 1, mzI (mzW (x4 + 1))] [] m1 (mzQi q))))) ∧ (x4 = 0 → mzCl d 38 [mzR 0, mzI x1] μ (mzQi fun r4 m3 => (r4 ≠ 0 → mzWp (d + 1) 48 10 [mzR 0, mzI x1, none, mzI 1, mzI (mzW (x4 + 1))] [] m3 (mzQi q)) ∧ (r4 = 0 → (x4 ≠ 0 → mzWp (d + 1) 48 10 [mzR 0, mzI x1, none, mzI 0, mzI (mzW (x4 + 1))] [] m3 (mzQi q)) ∧ (x4 = 0 → mzWp (d + 1) 48 10 [mzR 0, mzI x1, none, mzI 1, mzI (mzW (x4 + 1))] [] m3 (mzQi q)))))))) : mzWp (d + 1) 48 10 [mzR 0, mzI x1, none, mzI x3, mzI x4] [] μ (mzQi q) :=
  show mzWp (d + 1) 48 10 [mzR 0, mzI x1, none, mzI x3, mzI x4] [] μ (mzQi q) from mzVg_ok (cd := k_48) (cuts := [(10, [true, true, false, true, true])]) (n := 21) gd_48 h
-- MeltPinsModel.findStands 
theorem g49_e {d : Nat} {q : mzM → Prop}  (μ : mzM) (h : (μ 0 4 = 0 → mzWp (d + 1) 49 10 [mzR 0, mzI 0] [] μ (mzQv q)) ∧ (μ 0 4 ≠ 0 → q μ)) : mzCl (d + 1) 49 [mzR 0] μ (mzQv q) :=
  show mzWp (d + 1) 49 0 [mzR 0, none] [] μ (mzQv q) from mzVg_ok (cd := k_49) (cuts := [(10, [true, true])]) (n := 7) gd_49 h
theorem g49_10 {d : Nat} {q : mzM → Prop} (x1 : Int) (μ : mzM) (h : mzCl d 7 [mzR 0] μ (mzQi fun r2 m1 => (r2 < x1 → ((1 : Int) = 0 ∨ (1 : Int) = 1) ∧ (q (mzS m1 0 4 1))) ∧ (x1 ≤ r2 → mzCl d 32 [mzR 0] m1 (mzQi fun r4 m3 => mzCl d 48 [mzR 0, mzI x1, mzI r4] m3 (mzQi fun r6 m5 => ((0 : Int) ≤ x1 ∧ (x1 : Int) < 4096) ∧ (mzWp (d + 1) 49 10 [mzR 0, mzI (mzW (x1 + 1))] [] (mzS m5 8 x1.toNat r6) (mzQv q))))))) : mzWp (d + 1) 49 10 [mzR 0, mzI x1] [] μ (mzQv q) :=
  show mzWp (d + 1) 49 10 [mzR 0, mzI x1] [] μ (mzQv q) from mzVg_ok (cd := k_49) (cuts := [(10, [true, true])]) (n := 17) gd_49 h
-- MeltPinsModel.stand 
theorem g50_e {d : Nat} {q : Int → mzM → Prop} (a0 : Int) (μ : mzM) (h : mzCl d 8 [mzR 0, mzI a0] μ (mzQi fun r2 m1 => (r2 = 0 → mzCl d 1 [mzR 0, mzI (-1000001)] m1 (mzQi fun r4 m3 => q r4 m3)) ∧ (r2 ≠ 0 → mzCl d 32 [mzR 0] m1 (mzQi fun r6 m5 => mzCl d 48 [mzR 0, mzI a0, mzI r6] m5 (mzQi fun r8 m7 => q r8 m7))))) : mzCl (d + 1) 50 [mzR 0, mzI a0] μ (mzQi q) :=
  show mzWp (d + 1) 50 0 [mzR 0, mzI a0] [] μ (mzQi q) from mzVg_ok (cd := k_50) (cuts := []) (n := 12) gd_50 h
-- MeltPinsModel.allIn 
theorem g51_e {d : Nat} {q : Int → mzM → Prop} (a0 : Int) (μ : mzM) (h : mzWp (d + 1) 51 2 [mzR 0, mzI a0, mzI 1] [] μ (mzQi q)) : mzCl (d + 1) 51 [mzR 0, mzI a0] μ (mzQi q) :=
  show mzWp (d + 1) 51 0 [mzR 0, mzI a0, none] [] μ (mzQi q) from mzVg_ok (cd := k_51) (cuts := [(2, [true, true, true])]) (n := 4) gd_51 h
theorem g51_2 {d : Nat} {q : Int → mzM → Prop} (x1 : Int) (x2 : Int) (μ : mzM) (h : (x1 < x2 → q (-1) μ) ∧ (x2 ≤ x1 → ((0 : Int) ≤ mzW (x2 - 1) ∧ (mzW (x2 - 1) : Int) < 50) ∧ (mzCl d 38 [mzR 0, mzI (μ 9 ((mzW (x2 - 1)).toNat))] μ (mzQi fun r2 m1 => mzCl d 7 [mzR 0] m1 (mzQi fun r4 m3 => (m1 0 13 ≠ r4 → mzWp (d + 1) 51 2 [mzR 0, mzI x1, mzI (mzW (x2 + 1))] [] m3 (mzQi q)) ∧ (m1 0 13 = r4 → q x2 m3)))))) : mzWp (d + 1) 51 2 [mzR 0, mzI x1, mzI x2] [] μ (mzQi q) :=
  show mzWp (d + 1) 51 2 [mzR 0, mzI x1, mzI x2] [] μ (mzQi q) from mzVg_ok (cd := k_51) (cuts := [(2, [true, true, true])]) (n := 21) gd_51 h
-- MeltPinsModel.asksNothing 
theorem g52_e {d : Nat} {q : mzM → Prop}  (μ : mzM) (h : mzWp d 52 2 [mzR 0, mzI 0] [] μ (mzQv q)) : mzCl d 52 [mzR 0] μ (mzQv q) :=
  show mzWp d 52 0 [mzR 0, none] [] μ (mzQv q) from mzVg_ok (cd := k_52) (cuts := [(2, [true, true])]) (n := 4) gd_52 h
theorem g52_2 {d : Nat} {q : mzM → Prop} (x1 : Int) (μ : mzM) (h : ((50 : Int) ≤ x1 → q μ) ∧ (x1 < 50 → ((0 : Int) ≤ x1 ∧ (x1 : Int) < 50) ∧ (mzWp d 52 2 [mzR 0, mzI (mzW (x1 + 1))] [] (mzS μ 9 x1.toNat 0) (mzQv q)))) : mzWp d 52 2 [mzR 0, mzI x1] [] μ (mzQv q) :=
  show mzWp d 52 2 [mzR 0, mzI x1] [] μ (mzQv q) from mzVg_ok (cd := k_52) (cuts := [(2, [true, true])]) (n := 12) gd_52 h
-- MeltPinsModel.late 
theorem g53_e {d : Nat} {q : Int → mzM → Prop} (a0 : Int) (μ : mzM) (h : mzCl d 8 [mzR 0, mzI a0] μ (mzQi fun r2 m1 => (r2 ≠ 0 → mzCl d 52 [mzR 0] m1 (mzQv fun m3 => ((0 : Int) ≤ 0 ∧ (0 : Int) < 50) ∧ (mzCl d 32 [mzR 0] (mzS m3 9 0 a0) (mzQi fun r5 m4 => mzCl d 33 [mzR 0, mzI r5] m4 (mzQv fun m6 => mzCl d 51 [mzR 0, mzI 24] m6 (mzQi fun r8 m7 => ((0 : Int) ≤ r8 → q r8 m7) ∧ (r8 < 0 → mzCl d 1 [mzR 0, mzI (-1000004)] m7 (mzQi fun r10 m9 => q r10 m9)))))))) ∧ (r2 = 0 → mzCl d 1 [mzR 0, mzI (-1000001)] m1 (mzQi fun r12 m11 => q r12 m11)))) : mzCl (d + 1) 53 [mzR 0, mzI a0] μ (mzQi q) :=
  show mzWp (d + 1) 53 0 [mzR 0, mzI a0, none] [] μ (mzQi q) from mzVg_ok (cd := k_53) (cuts := []) (n := 27) gd_53 h
-- MeltPinsModel.sumOf 
theorem g54_e {d : Nat} {q : Int → mzM → Prop} (a0 : Int) (a1 : Int) (μ : mzM) (h : mzWp (d + 1) 54 5 [mzR 0, mzI a0, mzI a1, mzI 0, mzI 0] [] μ (mzQi q)) : mzCl (d + 1) 54 [mzR 0, mzI a0, mzI a1] μ (mzQi q) :=
  show mzWp (d + 1) 54 0 [mzR 0, mzI a0, mzI a1, none, none] [] μ (mzQi q) from mzVg_ok (cd := k_54) (cuts := [(5, [true, true, true, true, true])]) (n := 6) gd_54 h
theorem g54_5 {d : Nat} {q : Int → mzM → Prop} (x1 : Int) (x2 : Int) (x3 : Int) (x4 : Int) (μ : mzM) (h : ((0 : Int) ≤ 0 ∧ (0 : Int) < 318) ∧ ((μ 1 0 ≤ x4 → q x3 μ) ∧ (x4 < μ 1 0 → mzCl d 3 [mzI x1, mzI x4] μ (mzQi fun r2 m1 => (r2 = 0 → mzWp (d + 1) 54 5 [mzR 0, mzI x1, mzI x2, mzI (mzW (x3 + 0)), mzI (mzW (x4 + 1))] [] m1 (mzQi q)) ∧ (r2 ≠ 0 → mzCl d 5 [mzR 0, mzI x4, mzI x2] m1 (mzQi fun r4 m3 => mzWp (d + 1) 54 5 [mzR 0, mzI x1, mzI x2, mzI (mzW (x3 + r4)), mzI (mzW (x4 + 1))] [] m3 (mzQi q))))))) : mzWp (d + 1) 54 5 [mzR 0, mzI x1, mzI x2, mzI x3, mzI x4] [] μ (mzQi q) :=
  show mzWp (d + 1) 54 5 [mzR 0, mzI x1, mzI x2, mzI x3, mzI x4] [] μ (mzQi q) from mzVg_ok (cd := k_54) (cuts := [(5, [true, true, true, true, true])]) (n := 22) gd_54 h
-- MeltPinsModel.leastAll 
theorem g55_e {d : Nat} {q : Int → mzM → Prop} (a0 : Int) (a1 : Int) (μ : mzM) (h : mzCl d 49 [mzR 0] μ (mzQv fun m1 => mzWp (d + 1) 55 12 [mzR 0, mzI a0, mzI a1, mzI (-1), mzI 0, mzI 0, none] [] m1 (mzQi q))) : mzCl (d + 1) 55 [mzR 0, mzI a0, mzI a1] μ (mzQi q) :=
  show mzWp (d + 1) 55 0 [mzR 0, mzI a0, mzI a1, none, none, none, none] [] μ (mzQi q) from mzVg_ok (cd := k_55) (cuts := [(12, [true, true, true, true, true, true, false])]) (n := 10) gd_55 h
theorem g55_12 {d : Nat} {q : Int → mzM → Prop} (x1 : Int) (x2 : Int) (x3 : Int) (x4 : Int) (x5 : Int) (μ : mzM) (h : mzCl d 7 [mzR 0] μ (mzQi fun r2 m1 => (r2 < x5 → q x3 m1) ∧ (x5 ≤ r2 → ((0 : Int) ≤ x5 ∧ (x5 : Int) < 4096) ∧ (mzCl d 7 [mzR 0] m1 (mzQi fun r4 m3 => (m1 8 x5.toNat = r4 → mzCl d 4 [mzI x5] m3 (mzQi fun r6 m5 => mzCl d 54 [mzR 0, mzI x5, mzI 4] m5 (mzQi fun r8 m7 => (x3 < 0 → mzWp (d + 1) 55 12 [mzR 0, mzI x1, mzI x2, mzI x5, mzI (mzW ((mzW (x1 * r6)) + (mzW (x2 * r8)))), mzI (mzW (x5 + 1)), none] [] m7 (mzQi q)) ∧ ((0 : Int) ≤ x3 → (mzW ((mzW (x1 * r6)) + (mzW (x2 * r8))) < x4 → mzWp (d + 1) 55 12 [mzR 0, mzI x1, mzI x2, mzI x5, mzI (mzW ((mzW (x1 * r6)) + (mzW (x2 * r8)))), mzI (mzW (x5 + 1)), none] [] m7 (mzQi q)) ∧ (x4 ≤ mzW ((mzW (x1 * r6)) + (mzW (x2 * r8))) → mzWp (d + 1) 55 12 [mzR 0, mzI x1, mzI x2, mzI x3, mzI x4, mzI (mzW (x5 + 1)), none] [] m7 (mzQi q)))))) ∧ (m1 8 x5.toNat ≠ r4 → mzWp (d + 1) 55 12 [mzR 0, mzI x1, mzI x2, mzI x3, mzI x4, mzI (mzW (x5 + 1)), none] [] m3 (mzQi q))))))) : mzWp (d + 1) 55 12 [mzR 0, mzI x1, mzI x2, mzI x3, mzI x4, mzI x5, none] [] μ (mzQi q) :=
  show mzWp (d + 1) 55 12 [mzR 0, mzI x1, mzI x2, mzI x3, mzI x4, mzI x5, none] [] μ (mzQi q) from mzVg_ok (cd := k_55) (cuts := [(12, [true, true, true, true, true, true, false])]) (n := 36) gd_55 h
-- MeltPinsModel.told 
theorem g56_e {d : Nat} {q : Int → mzM → Prop} (a0 : Int) (a1 : Int) (μ : mzM) (h : ((0 : Int) ≤ a0 → (a1 ≠ 0 → (a1 ≠ 1 → mzCl d 54 [mzR 0, mzI a0, mzI 4] μ (mzQi fun r2 m1 => q r2 m1)) ∧ (a1 = 1 → mzCl d 4 [mzI a0] μ (mzQi fun r4 m3 => q r4 m3))) ∧ (a1 = 0 → q a0 μ)) ∧ (a0 < 0 → mzCl d 1 [mzR 0, mzI (-1000004)] μ (mzQi fun r6 m5 => q r6 m5))) : mzCl (d + 1) 56 [mzR 0, mzI a0, mzI a1] μ (mzQi q) :=
  show mzWp (d + 1) 56 0 [mzR 0, mzI a0, mzI a1] [] μ (mzQi q) from mzVg_ok (cd := k_56) (cuts := []) (n := 13) gd_56 h
-- MeltPinsModel.fewest 
theorem g57_e {d : Nat} {q : Int → mzM → Prop} (a0 : Int) (μ : mzM) (h : mzCl d 2 [mzL a0, mzL 0, mzL 2] μ (mzQi fun r2 m1 => (r2 = 0 → mzCl d 1 [mzR 0, mzI (-1000001)] m1 (mzQi fun r4 m3 => q r4 m3)) ∧ (r2 ≠ 0 → mzCl d 55 [mzR 0, mzI 10000, mzI 1] m1 (mzQi fun r6 m5 => mzCl d 56 [mzR 0, mzI r6, mzI a0] m5 (mzQi fun r8 m7 => q r8 m7))))) : mzCl (d + 1) 57 [mzR 0, mzI a0] μ (mzQi q) :=
  show mzWp (d + 1) 57 0 [mzR 0, mzI a0] [] μ (mzQi q) from mzVg_ok (cd := k_57) (cuts := []) (n := 16) gd_57 h
-- MeltPinsModel.cheapest 
theorem g58_e {d : Nat} {q : Int → mzM → Prop} (a0 : Int) (μ : mzM) (h : mzCl d 2 [mzL a0, mzL 0, mzL 2] μ (mzQi fun r2 m1 => (r2 = 0 → mzCl d 1 [mzR 0, mzI (-1000001)] m1 (mzQi fun r4 m3 => q r4 m3)) ∧ (r2 ≠ 0 → mzCl d 55 [mzR 0, mzI 1, mzI 100] m1 (mzQi fun r6 m5 => mzCl d 56 [mzR 0, mzI r6, mzI a0] m5 (mzQi fun r8 m7 => q r8 m7))))) : mzCl (d + 1) 58 [mzR 0, mzI a0] μ (mzQi q) :=
  show mzWp (d + 1) 58 0 [mzR 0, mzI a0] [] μ (mzQi q) from mzVg_ok (cd := k_58) (cuts := []) (n := 16) gd_58 h
-- MeltPinsModel.most 
theorem g59_e {d : Nat} {q : Int → mzM → Prop} (a0 : Int) (a1 : Int) (μ : mzM) (h : mzCl d 2 [mzL a0, mzL 0, mzL 12] μ (mzQi fun r2 m1 => (r2 = 0 → mzCl d 1 [mzR 0, mzI (-1000001)] m1 (mzQi fun r4 m3 => q r4 m3)) ∧ (r2 ≠ 0 → mzCl d 2 [mzL a1, mzL 0, mzL 1] m1 (mzQi fun r6 m5 => (r6 ≠ 0 → ((0 : Int) ≤ 0 ∧ (0 : Int) < 318) ∧ ((a0 ≤ m5 1 0 → mzCl d 49 [mzR 0] m5 (mzQv fun m7 => mzWp (d + 1) 59 55 [mzR 0, mzI a0, mzI a1, mzI (-1), mzI 0] [] m7 (mzQi q))) ∧ (m5 1 0 < a0 → mzCl d 1 [mzR 0, mzI (-1000004)] m5 (mzQi fun r9 m8 => q r9 m8)))) ∧ (r6 = 0 → mzCl d 1 [mzR 0, mzI (-1000001)] m5 (mzQi fun r11 m10 => q r11 m10)))))) : mzCl (d + 1) 59 [mzR 0, mzI a0, mzI a1] μ (mzQi q) :=
  show mzWp (d + 1) 59 0 [mzR 0, mzI a0, mzI a1, none, none] [] μ (mzQi q) from mzVg_ok (cd := k_59) (cuts := [(55, [true, true, true, true, true])]) (n := 26) gd_59 h
theorem g59_55 {d : Nat} {q : Int → mzM → Prop} (x1 : Int) (x2 : Int) (x3 : Int) (x4 : Int) (μ : mzM) (h : mzCl d 7 [mzR 0] μ (mzQi fun r2 m1 => (r2 < x4 → (x2 ≠ 0 → ((0 : Int) ≤ x3 ∧ (x3 : Int) < 4096) ∧ (mzCl d 4 [mzI (m1 8 x3.toNat)] m1 (mzQi fun r4 m3 => q r4 m3))) ∧ (x2 = 0 → q x3 m1)) ∧ (x4 ≤ r2 → mzCl d 4 [mzI x4] m1 (mzQi fun r6 m5 => (r6 ≠ x1 → mzWp (d + 1) 59 55 [mzR 0, mzI x1, mzI x2, mzI x3, mzI (mzW (x4 + 1))] [] m5 (mzQi q)) ∧ (r6 = x1 → (x3 < 0 → mzWp (d + 1) 59 55 [mzR 0, mzI x1, mzI x2, mzI x4, mzI (mzW (x4 + 1))] [] m5 (mzQi q)) ∧ ((0 : Int) ≤ x3 → ((0 : Int) ≤ x4 ∧ (x4 : Int) < 4096) ∧ (mzCl d 4 [mzI (m5 8 x4.toNat)] m5 (mzQi fun r8 m7 => ((0 : Int) ≤ x3 ∧ (x3 : Int) < 4096) ∧ (mzCl d 4 [mzI (m7 8 x3.toNat)] m7 (mzQi fun r10 m9 => (r8 ≤ r10 → mzWp (d + 1) 59 55 [mzR 0, mzI x1, mzI x2, mzI x3, mzI (mzW (x4 + 1))] [] m9 (mzQi q)) ∧ (r10 < r8 → mzWp (d + 1) 59 55 [mzR 0, mzI x1, mzI x2, mzI x4, mzI (mzW (x4 + 1))] [] m9 (mzQi q)))))))))))) : mzWp (d + 1) 59 55 [mzR 0, mzI x1, mzI x2, mzI x3, mzI x4] [] μ (mzQi q) :=
  show mzWp (d + 1) 59 55 [mzR 0, mzI x1, mzI x2, mzI x3, mzI x4] [] μ (mzQi q) from mzVg_ok (cd := k_59) (cuts := [(55, [true, true, true, true, true])]) (n := 27) gd_59 h
-- MeltPinsModel.must 
theorem g60_e {d : Nat} {q : Int → mzM → Prop}  (μ : mzM) (h : mzWp (d + 1) 60 4 [mzR 0, mzI 0, mzI 0] [] μ (mzQi q)) : mzCl (d + 1) 60 [mzR 0] μ (mzQi q) :=
  show mzWp (d + 1) 60 0 [mzR 0, none, none] [] μ (mzQi q) from mzVg_ok (cd := k_60) (cuts := [(4, [true, true, true])]) (n := 6) gd_60 h
theorem g60_4 {d : Nat} {q : Int → mzM → Prop} (x1 : Int) (x2 : Int) (μ : mzM) (h : ((0 : Int) ≤ 0 ∧ (0 : Int) < 318) ∧ ((μ 1 0 ≤ x2 → q x1 μ) ∧ (x2 < μ 1 0 → mzCl d 7 [mzR 0] μ (mzQi fun r2 m1 => mzCl d 34 [mzR 0, mzI x2, mzI r2] m1 (mzQi fun r4 m3 => mzCl d 21 [mzR 0, mzI x2] m3 (mzQi fun r6 m5 => (r6 ≤ r4 → mzWp (d + 1) 60 4 [mzR 0, mzI (mzOr x1 0), mzI (mzW (x2 + 1))] [] m5 (mzQi q)) ∧ (r4 < r6 → mzWp (d + 1) 60 4 [mzR 0, mzI (mzOr x1 (mzShl 1 x2)), mzI (mzW (x2 + 1))] [] m5 (mzQi q)))))))) : mzWp (d + 1) 60 4 [mzR 0, mzI x1, mzI x2] [] μ (mzQi q) :=
  show mzWp (d + 1) 60 4 [mzR 0, mzI x1, mzI x2] [] μ (mzQi q) from mzVg_ok (cd := k_60) (cuts := [(4, [true, true, true])]) (n := 26) gd_60 h
-- MeltPinsModel.tries 
theorem g61_e {d : Nat} {q : mzM → Prop} (a0 : Int) (a1 : Int) (a2 : Int) (a3 : Int) (μ : mzM) (h : (a0 ≠ 0 → mzWp (d + 1) 61 58 [mzR 0, mzI a0, mzI a1, mzI a2, mzI a3, mzI 0] [] μ (mzQv q)) ∧ (a0 = 0 → mzCl d 32 [mzR 0] μ (mzQi fun r2 m1 => mzCl d 33 [mzR 0, mzI r2] m1 (mzQv fun m3 => mzCl d 51 [mzR 0, mzI 49] m3 (mzQi fun r5 m4 => (r5 < 0 → q m4) ∧ ((0 : Int) ≤ r5 → (m4 0 20 ≤ 0 → q (mzS (mzS m4 0 20 r5) 0 21 a3)) ∧ ((0 : Int) < m4 0 20 → (r5 < m4 0 20 → q (mzS (mzS m4 0 20 r5) 0 21 a3)) ∧ (m4 0 20 ≤ r5 → q m4)))))))) : mzCl (d + 1) 61 [mzR 0, mzI a0, mzI a1, mzI a2, mzI a3] μ (mzQv q) :=
  show mzWp (d + 1) 61 0 [mzR 0, mzI a0, mzI a1, mzI a2, mzI a3, none] [] μ (mzQv q) from mzVg_ok (cd := k_61) (cuts := [(58, [true, true, true, true, true, true])]) (n := 27) gd_61 h
theorem g61_58 {d : Nat} {q : mzM → Prop} (x1 : Int) (x2 : Int) (x3 : Int) (x4 : Int) (x5 : Int) (μ : mzM) (h : ((0 : Int) ≤ 0 ∧ (0 : Int) < 318) ∧ ((μ 1 0 ≤ x5 → q μ) ∧ (x5 < μ 1 0 → mzCl d 3 [mzI x1, mzI x5] μ (mzQi fun r2 m1 => (r2 ≠ 0 → ((0 : Int) ≤ mzW (x2 * x3) ∧ (mzW (x2 * x3) : Int) < 50) ∧ (((0 : Int) ≤ mzW (x2 * x3) ∧ (mzW (x2 * x3) : Int) < 50) ∧ (mzCl d 61 [mzR 0, mzI (mzAnd x1 (mzXor (mzShl 1 x5) (-1))), mzI x2, mzI (mzW (x3 + 1)), mzI (mzW ((mzW (12 * x4)) + x5))] (mzS m1 9 ((mzW (x2 * x3)).toNat) (mzOr (m1 9 ((mzW (x2 * x3)).toNat)) (mzShl 1 x5))) (mzQv fun m3 => ((0 : Int) ≤ mzW (x2 * x3) ∧ (mzW (x2 * x3) : Int) < 50) ∧ (((0 : Int) ≤ mzW (x2 * x3) ∧ (mzW (x2 * x3) : Int) < 50) ∧ (mzWp (d + 1) 61 58 [mzR 0, mzI x1, mzI x2, mzI x3, mzI x4, mzI (mzW (x5 + 1))] [] (mzS m3 9 ((mzW (x2 * x3)).toNat) (mzAnd (m3 9 ((mzW (x2 * x3)).toNat)) (mzXor (mzShl 1 x5) (-1)))) (mzQv q))))))) ∧ (r2 = 0 → mzWp (d + 1) 61 58 [mzR 0, mzI x1, mzI x2, mzI x3, mzI x4, mzI (mzW (x5 + 1))] [] m1 (mzQv q)))))) : mzWp (d + 1) 61 58 [mzR 0, mzI x1, mzI x2, mzI x3, mzI x4, mzI x5] [] μ (mzQv q) :=
  show mzWp (d + 1) 61 58 [mzR 0, mzI x1, mzI x2, mzI x3, mzI x4, mzI x5] [] μ (mzQv q) from mzVg_ok (cd := k_61) (cuts := [(58, [true, true, true, true, true, true])]) (n := 58) gd_61 h
-- MeltPinsModel.order 
theorem g62_e {d : Nat} {q : Int → mzM → Prop} (a0 : Int) (a1 : Int) (a2 : Int) (μ : mzM) (h : mzCl d 8 [mzR 0, mzI a0] μ (mzQi fun r2 m1 => (r2 = 0 → mzCl d 1 [mzR 0, mzI (-1000001)] m1 (mzQi fun r4 m3 => q r4 m3)) ∧ (r2 ≠ 0 → mzCl d 4 [mzI a0] m1 (mzQi fun r6 m5 => mzCl d 2 [mzL r6, mzL 1, mzL 4] m5 (mzQi fun r8 m7 => (r8 = 0 → mzCl d 1 [mzR 0, mzI (-1000001)] m7 (mzQi fun r10 m9 => q r10 m9)) ∧ (r8 ≠ 0 → mzCl d 2 [mzL a1, mzL 0, mzL 5] m7 (mzQi fun r12 m11 => (r12 = 0 → mzCl d 1 [mzR 0, mzI (-1000001)] m11 (mzQi fun r14 m13 => q r14 m13)) ∧ (r12 ≠ 0 → mzCl d 2 [mzL a2, mzL 0, mzL 1] m11 (mzQi fun r16 m15 => (r16 ≠ 0 → mzCl d 52 [mzR 0] m15 (mzQv fun m17 => mzCl d 61 [mzR 0, mzI a0, mzI a1, mzI 0, mzI 0] (mzS (mzS m17 0 20 0) 0 21 0) (mzQv fun m18 => (m18 0 20 ≠ 0 → (a2 ≠ 0 → q (m18 0 21) m18) ∧ (a2 = 0 → q (m18 0 20) m18)) ∧ (m18 0 20 = 0 → mzCl d 1 [mzR 0, mzI (-1000004)] m18 (mzQi fun r20 m19 => q r20 m19))))) ∧ (r16 = 0 → mzCl d 1 [mzR 0, mzI (-1000001)] m15 (mzQi fun r22 m21 => q r22 m21))))))))))) : mzCl (d + 1) 62 [mzR 0, mzI a0, mzI a1, mzI a2] μ (mzQi q) :=
  show mzWp (d + 1) 62 0 [mzR 0, mzI a0, mzI a1, mzI a2] [] μ (mzQi q) from mzVg_ok (cd := k_62) (cuts := []) (n := 47) gd_62 h
-- MeltPinsModel.stop 
theorem g63_e {d : Nat} {q : Int → mzM → Prop} (a0 : Int) (a1 : Int) (μ : mzM) (h : mzCl d 8 [mzR 0, mzI a0] μ (mzQi fun r2 m1 => (r2 = 0 → mzCl d 1 [mzR 0, mzI (-1000001)] m1 (mzQi fun r4 m3 => q r4 m3)) ∧ (r2 ≠ 0 → mzCl d 2 [mzL a1, mzL 0, mzL 1] m1 (mzQi fun r6 m5 => (r6 ≠ 0 → mzCl d 7 [mzR 0] m5 (mzQi fun r8 m7 => mzCl d 32 [mzR 0] m7 (mzQi fun r10 m9 => mzWp (d + 1) 63 50 [mzR 0, mzI a0, mzI a1, mzI (mzAnd (mzAnd r8 (mzXor a0 (-1))) (mzXor r10 (-1))), mzI (-1), mzI 0, mzI 0, none] [] m9 (mzQi q)))) ∧ (r6 = 0 → mzCl d 1 [mzR 0, mzI (-1000001)] m5 (mzQi fun r12 m11 => q r12 m11)))))) : mzCl (d + 1) 63 [mzR 0, mzI a0, mzI a1] μ (mzQi q) :=
  show mzWp (d + 1) 63 0 [mzR 0, mzI a0, mzI a1, none, none, none, none, none] [] μ (mzQi q) from mzVg_ok (cd := k_63) (cuts := [(50, [true, true, true, true, true, true, true, false])]) (n := 30) gd_63 h
theorem g63_50 {d : Nat} {q : Int → mzM → Prop} (x1 : Int) (x2 : Int) (x3 : Int) (x4 : Int) (x5 : Int) (x6 : Int) (μ : mzM) (h : mzCl d 7 [mzR 0] μ (mzQi fun r2 m1 => (r2 < x6 → (x2 ≠ 0 → mzCl d 54 [mzR 0, mzI x4, mzI 5] m1 (mzQi fun r4 m3 => q r4 m3)) ∧ (x2 = 0 → q x4 m1)) ∧ (x6 ≤ r2 → (mzAnd x6 (mzXor x3 (-1)) = 0 → mzCl d 4 [mzI x6] m1 (mzQi fun r6 m5 => mzCl d 54 [mzR 0, mzI x6, mzI 5] m5 (mzQi fun r8 m7 => (x4 < 0 → mzCl d 32 [mzR 0] m7 (mzQi fun r10 m9 => mzCl d 48 [mzR 0, mzI x1, mzI (mzOr r10 x6)] m9 (mzQi fun r12 m11 => (mzAnd r12 (mzXor x1 (-1)) = 0 → mzWp (d + 1) 63 50 [mzR 0, mzI x1, mzI x2, mzI x3, mzI x6, mzI (mzW ((mzW (10000 * r6)) + r8)), mzI (mzW (x6 + 1)), none] [] m11 (mzQi q)) ∧ (mzAnd r12 (mzXor x1 (-1)) ≠ 0 → mzWp (d + 1) 63 50 [mzR 0, mzI x1, mzI x2, mzI x3, mzI x4, mzI x5, mzI (mzW (x6 + 1)), none] [] m11 (mzQi q))))) ∧ ((0 : Int) ≤ x4 → (x5 ≤ mzW ((mzW (10000 * r6)) + r8) → mzWp (d + 1) 63 50 [mzR 0, mzI x1, mzI x2, mzI x3, mzI x4, mzI x5, mzI (mzW (x6 + 1)), none] [] m7 (mzQi q)) ∧ (mzW ((mzW (10000 * r6)) + r8) < x5 → mzCl d 32 [mzR 0] m7 (mzQi fun r14 m13 => mzCl d 48 [mzR 0, mzI x1, mzI (mzOr r14 x6)] m13 (mzQi fun r16 m15 => (mzAnd r16 (mzXor x1 (-1)) = 0 → mzWp (d + 1) 63 50 [mzR 0, mzI x1, mzI x2, mzI x3, mzI x6, mzI (mzW ((mzW (10000 * r6)) + r8)), mzI (mzW (x6 + 1)), none] [] m15 (mzQi q)) ∧ (mzAnd r16 (mzXor x1 (-1)) ≠ 0 → mzWp (d + 1) 63 50 [mzR 0, mzI x1, mzI x2, mzI x3, mzI x4, mzI x5, mzI (mzW (x6 + 1)), none] [] m15 (mzQi q))))))))) ∧ (mzAnd x6 (mzXor x3 (-1)) ≠ 0 → mzWp (d + 1) 63 50 [mzR 0, mzI x1, mzI x2, mzI x3, mzI x4, mzI x5, mzI (mzW (x6 + 1)), none] [] m1 (mzQi q))))) : mzWp (d + 1) 63 50 [mzR 0, mzI x1, mzI x2, mzI x3, mzI x4, mzI x5, mzI x6, none] [] μ (mzQi q) :=
  show mzWp (d + 1) 63 50 [mzR 0, mzI x1, mzI x2, mzI x3, mzI x4, mzI x5, mzI x6, none] [] μ (mzQi q) from mzVg_ok (cd := k_63) (cuts := [(50, [true, true, true, true, true, true, true, false])]) (n := 45) gd_63 h
-- MeltPinsModel.brings 
theorem g64_e {d : Nat} {q : Int → mzM → Prop} (a0 : Int) (μ : mzM) (h : mzCl d 32 [mzR 0] μ (mzQi fun r2 m1 => mzCl d 48 [mzR 0, mzI a0, mzI r2] m1 (mzQi fun r4 m3 => mzCl d 7 [mzR 0] m3 (mzQi fun r6 m5 => (r4 ≠ r6 → ((0 : Int) = 0 ∨ (0 : Int) = 1) ∧ (q 0 m5)) ∧ (r4 = r6 → ((1 : Int) = 0 ∨ (1 : Int) = 1) ∧ (q 1 m5)))))) : mzCl (d + 1) 64 [mzR 0, mzI a0] μ (mzQi q) :=
  show mzWp (d + 1) 64 0 [mzR 0, mzI a0] [] μ (mzQi q) from mzVg_ok (cd := k_64) (cuts := []) (n := 12) gd_64 h
-- MeltPinsModel.keepBars 
theorem g65_e {d : Nat} {q : mzM → Prop}  (μ : mzM) (h : mzWp (d + 1) 65 2 [mzR 0, mzI 0] [] μ (mzQv q)) : mzCl (d + 1) 65 [mzR 0] μ (mzQv q) :=
  show mzWp (d + 1) 65 0 [mzR 0, none] [] μ (mzQv q) from mzVg_ok (cd := k_65) (cuts := [(2, [true, true])]) (n := 4) gd_65 h
theorem g65_2 {d : Nat} {q : mzM → Prop} (x1 : Int) (μ : mzM) (h : ((0 : Int) ≤ 0 ∧ (0 : Int) < 318) ∧ ((μ 1 0 ≤ x1 → q μ) ∧ (x1 < μ 1 0 → mzCl d 5 [mzR 0, mzI x1, mzI 1] μ (mzQi fun r2 m1 => ((0 : Int) ≤ x1 ∧ (x1 : Int) < 12) ∧ (mzWp (d + 1) 65 2 [mzR 0, mzI (mzW (x1 + 1))] [] (mzS m1 10 x1.toNat r2) (mzQv q)))))) : mzWp (d + 1) 65 2 [mzR 0, mzI x1] [] μ (mzQv q) :=
  show mzWp (d + 1) 65 2 [mzR 0, mzI x1] [] μ (mzQv q) from mzVg_ok (cd := k_65) (cuts := [(2, [true, true])]) (n := 18) gd_65 h
-- MeltPinsModel.giveBars 
theorem g66_e {d : Nat} {q : mzM → Prop} (a0 : Int) (μ : mzM) (h : mzWp d 66 2 [mzR 0, mzI a0, mzI 0] [] μ (mzQv q)) : mzCl d 66 [mzR 0, mzI a0] μ (mzQv q) :=
  show mzWp d 66 0 [mzR 0, mzI a0, none] [] μ (mzQv q) from mzVg_ok (cd := k_66) (cuts := [(2, [true, true, true])]) (n := 4) gd_66 h
theorem g66_2 {d : Nat} {q : mzM → Prop} (x1 : Int) (x2 : Int) (μ : mzM) (h : ((0 : Int) ≤ 0 ∧ (0 : Int) < 318) ∧ ((μ 1 0 ≤ x2 → q μ) ∧ (x2 < μ 1 0 → ((0 : Int) ≤ x2 ∧ (x2 : Int) < 12) ∧ (((1 : Int) ≤ mzW ((μ 10 x2.toNat) - x1) → ((0 : Int) ≤ x2 ∧ (x2 : Int) < 12) ∧ (((0 : Int) ≤ mzW ((mzW (4 + (mzW (10 * x2)))) + 1) ∧ (mzW ((mzW (4 + (mzW (10 * x2)))) + 1) : Int) < 318) ∧ (mzWp d 66 2 [mzR 0, mzI x1, mzI (mzW (x2 + 1))] [] (mzS μ 1 ((mzW ((mzW (4 + (mzW (10 * x2)))) + 1)).toNat) (mzW ((μ 10 x2.toNat) - x1))) (mzQv q)))) ∧ (mzW ((μ 10 x2.toNat) - x1) < 1 → ((0 : Int) ≤ mzW ((mzW (4 + (mzW (10 * x2)))) + 1) ∧ (mzW ((mzW (4 + (mzW (10 * x2)))) + 1) : Int) < 318) ∧ (mzWp d 66 2 [mzR 0, mzI x1, mzI (mzW (x2 + 1))] [] (mzS μ 1 ((mzW ((mzW (4 + (mzW (10 * x2)))) + 1)).toNat) 1) (mzQv q))))))) : mzWp d 66 2 [mzR 0, mzI x1, mzI x2] [] μ (mzQv q) :=
  show mzWp d 66 2 [mzR 0, mzI x1, mzI x2] [] μ (mzQv q) from mzVg_ok (cd := k_66) (cuts := [(2, [true, true, true])]) (n := 34) gd_66 h
-- MeltPinsModel.near 
theorem g67_e {d : Nat} {q : Int → mzM → Prop} (a0 : Int) (μ : mzM) (h : mzCl d 8 [mzR 0, mzI a0] μ (mzQi fun r2 m1 => (r2 ≠ 0 → mzCl d 65 [mzR 0] m1 (mzQv fun m3 => mzWp (d + 1) 67 23 [mzR 0, mzI a0, mzI (-1), mzI 0] [] m3 (mzQi q))) ∧ (r2 = 0 → mzCl d 1 [mzR 0, mzI (-1000001)] m1 (mzQi fun r5 m4 => q r5 m4)))) : mzCl (d + 1) 67 [mzR 0, mzI a0] μ (mzQi q) :=
  show mzWp (d + 1) 67 0 [mzR 0, mzI a0, none, none] [] μ (mzQi q) from mzVg_ok (cd := k_67) (cuts := [(23, [true, true, true, true])]) (n := 12) gd_67 h
theorem g67_23 {d : Nat} {q : Int → mzM → Prop} (x1 : Int) (x2 : Int) (x3 : Int) (μ : mzM) (h : ((99 : Int) ≤ x3 → mzCl d 66 [mzR 0, mzI 0] μ (mzQv fun m1 => ((0 : Int) ≤ x2 → q x2 m1) ∧ (x2 < 0 → mzCl d 1 [mzR 0, mzI (-1000004)] m1 (mzQi fun r3 m2 => q r3 m2)))) ∧ (x3 < 99 → ((0 : Int) ≤ x2 → mzCl d 66 [mzR 0, mzI 0] μ (mzQv fun m4 => ((0 : Int) ≤ x2 → q x2 m4) ∧ (x2 < 0 → mzCl d 1 [mzR 0, mzI (-1000004)] m4 (mzQi fun r6 m5 => q r6 m5)))) ∧ (x2 < 0 → mzCl d 66 [mzR 0, mzI x3] μ (mzQv fun m7 => mzCl d 64 [mzR 0, mzI x1] m7 (mzQi fun r9 m8 => (r9 = 0 → mzWp (d + 1) 67 23 [mzR 0, mzI x1, mzI (-1), mzI (mzW (x3 + 1))] [] m8 (mzQi q)) ∧ (r9 ≠ 0 → mzWp (d + 1) 67 23 [mzR 0, mzI x1, mzI x3, mzI (mzW (x3 + 1))] [] m8 (mzQi q))))))) : mzWp (d + 1) 67 23 [mzR 0, mzI x1, mzI x2, mzI x3] [] μ (mzQi q) :=
  show mzWp (d + 1) 67 23 [mzR 0, mzI x1, mzI x2, mzI x3] [] μ (mzQi q) from mzVg_ok (cd := k_67) (cuts := [(23, [true, true, true, true])]) (n := 19) gd_67 h
-- MeltPinsModel.edge 
theorem g68_e {d : Nat} {q : Int → mzM → Prop} (a0 : Int) (a1 : Int) (μ : mzM) (h : mzCl d 8 [mzR 0, mzI a0] μ (mzQi fun r2 m1 => (r2 = 0 → mzCl d 1 [mzR 0, mzI (-1000001)] m1 (mzQi fun r4 m3 => q r4 m3)) ∧ (r2 ≠ 0 → mzCl d 6 [mzR 0, mzI a1] m1 (mzQi fun r6 m5 => (r6 ≠ 0 → ((0 : Int) ≤ mzW ((mzW (4 + (mzW (10 * a1)))) + 1) ∧ (mzW ((mzW (4 + (mzW (10 * a1)))) + 1) : Int) < 318) ∧ (mzWp (d + 1) 68 47 [mzR 0, mzI a0, none, mzI (mzW ((mzW (4 + (mzW (10 * a1)))) + 1)), mzI (m5 1 ((mzW ((mzW (4 + (mzW (10 * a1)))) + 1)).toNat)), mzI (-1), mzI 99] [] m5 (mzQi q))) ∧ (r6 = 0 → mzCl d 1 [mzR 0, mzI (-1000001)] m5 (mzQi fun r8 m7 => q r8 m7)))))) : mzCl (d + 1) 68 [mzR 0, mzI a0, mzI a1] μ (mzQi q) :=
  show mzWp (d + 1) 68 0 [mzR 0, mzI a0, mzI a1, none, none, none, none] [] μ (mzQi q) from mzVg_ok (cd := k_68) (cuts := [(47, [true, true, false, true, true, true, true])]) (n := 27) gd_68 h
theorem g68_47 {d : Nat} {q : Int → mzM → Prop} (x1 : Int) (x3 : Int) (x4 : Int) (x5 : Int) (x6 : Int) (μ : mzM) (h : (x6 ≤ 0 → ((0 : Int) ≤ x3 ∧ (x3 : Int) < 318) ∧ (((0 : Int) ≤ x5 → q x5 (mzS μ 1 x3.toNat x4)) ∧ (x5 < 0 → mzCl d 1 [mzR 0, mzI (-1000004)] (mzS μ 1 x3.toNat x4) (mzQi fun r2 m1 => q r2 m1)))) ∧ ((0 : Int) < x6 → ((0 : Int) ≤ x5 → ((0 : Int) ≤ x3 ∧ (x3 : Int) < 318) ∧ (((0 : Int) ≤ x5 → q x5 (mzS μ 1 x3.toNat x4)) ∧ (x5 < 0 → mzCl d 1 [mzR 0, mzI (-1000004)] (mzS μ 1 x3.toNat x4) (mzQi fun r4 m3 => q r4 m3)))) ∧ (x5 < 0 → ((0 : Int) ≤ x3 ∧ (x3 : Int) < 318) ∧ (mzCl d 64 [mzR 0, mzI x1] (mzS μ 1 x3.toNat x6) (mzQi fun r6 m5 => (r6 = 0 → mzWp (d + 1) 68 47 [mzR 0, mzI x1, none, mzI x3, mzI x4, mzI (-1), mzI (mzW (x6 + (-1)))] [] m5 (mzQi q)) ∧ (r6 ≠ 0 → mzWp (d + 1) 68 47 [mzR 0, mzI x1, none, mzI x3, mzI x4, mzI x6, mzI (mzW (x6 + (-1)))] [] m5 (mzQi q))))))) : mzWp (d + 1) 68 47 [mzR 0, mzI x1, none, mzI x3, mzI x4, mzI x5, mzI x6] [] μ (mzQi q) :=
  show mzWp (d + 1) 68 47 [mzR 0, mzI x1, none, mzI x3, mzI x4, mzI x5, mzI x6] [] μ (mzQi q) from mzVg_ok (cd := k_68) (cuts := [(47, [true, true, false, true, true, true, true])]) (n := 20) gd_68 h
-- MeltPinsModel.look 
theorem g69_e {d : Nat} {q : Int → mzM → Prop}  (μ : mzM) (h : mzWp (d + 1) 69 6 [mzR 0, mzI (-1), mzI 0, mzI 0, none] [] μ (mzQi q)) : mzCl (d + 1) 69 [mzR 0] μ (mzQi q) :=
  show mzWp (d + 1) 69 0 [mzR 0, none, none, none, none] [] μ (mzQi q) from mzVg_ok (cd := k_69) (cuts := [(6, [true, true, true, true, false])]) (n := 8) gd_69 h
theorem g69_6 {d : Nat} {q : Int → mzM → Prop} (x1 : Int) (x2 : Int) (x3 : Int) (μ : mzM) (h : ((0 : Int) ≤ 0 ∧ (0 : Int) < 318) ∧ ((μ 1 0 ≤ x3 → ((0 : Int) ≤ x1 → q x1 μ) ∧ (x1 < 0 → mzCl d 1 [mzR 0, mzI (-1000004)] μ (mzQi fun r2 m1 => q r2 m1))) ∧ (x3 < μ 1 0 → mzCl d 32 [mzR 0] μ (mzQi fun r4 m3 => mzCl d 48 [mzR 0, mzI (mzShl 1 x3), mzI r4] m3 (mzQi fun r6 m5 => mzCl d 4 [mzI r6] m5 (mzQi fun r8 m7 => (x1 < 0 → mzWp (d + 1) 69 6 [mzR 0, mzI x3, mzI r8, mzI (mzW (x3 + 1)), none] [] m7 (mzQi q)) ∧ ((0 : Int) ≤ x1 → (x2 < r8 → mzWp (d + 1) 69 6 [mzR 0, mzI x3, mzI r8, mzI (mzW (x3 + 1)), none] [] m7 (mzQi q)) ∧ (r8 ≤ x2 → mzWp (d + 1) 69 6 [mzR 0, mzI x1, mzI x2, mzI (mzW (x3 + 1)), none] [] m7 (mzQi q))))))))) : mzWp (d + 1) 69 6 [mzR 0, mzI x1, mzI x2, mzI x3, none] [] μ (mzQi q) :=
  show mzWp (d + 1) 69 6 [mzR 0, mzI x1, mzI x2, mzI x3, none] [] μ (mzQi q) from mzVg_ok (cd := k_69) (cuts := [(6, [true, true, true, true, false])]) (n := 28) gd_69 h
-- MeltPinsModel.likely 
theorem g70_e {d : Nat} {q : Int → mzM → Prop}  (μ : mzM) (h : mzCl d 49 [mzR 0] μ (mzQv fun m1 => mzWp (d + 1) 70 8 [mzR 0, mzL 0, none, mzI 0, none, none, none] [] m1 (mzQj q))) : mzCl (d + 1) 70 [mzR 0] μ (mzQj q) :=
  show mzWp (d + 1) 70 0 [mzR 0, none, none, none, none, none, none] [] μ (mzQj q) from mzVg_ok (cd := k_70) (cuts := [(8, [true, true, false, true, false, false, false]), (38, [true, true, false, true, true, false, true])]) (n := 8) gd_70 h
theorem g70_8 {d : Nat} {q : Int → mzM → Prop} (x1 : Int) (x3 : Int) (μ : mzM) (h : mzCl d 7 [mzR 0] μ (mzQi fun r2 m1 => (r2 < x3 → q x1 m1) ∧ (x3 ≤ r2 → ((0 : Int) ≤ x3 ∧ (x3 : Int) < 4096) ∧ (mzCl d 7 [mzR 0] m1 (mzQi fun r4 m3 => (m1 8 x3.toNat = r4 → mzWp (d + 1) 70 38 [mzR 0, mzL x1, none, mzI x3, mzL 1, none, mzI 0] [] m3 (mzQj q)) ∧ (m1 8 x3.toNat ≠ r4 → mzWp (d + 1) 70 8 [mzR 0, mzL x1, none, mzI (mzW (x3 + 1)), none, none, none] [] m3 (mzQj q))))))) : mzWp (d + 1) 70 8 [mzR 0, mzL x1, none, mzI x3, none, none, none] [] μ (mzQj q) :=
  show mzWp (d + 1) 70 8 [mzR 0, mzL x1, none, mzI x3, none, none, none] [] μ (mzQj q) from mzVg_ok (cd := k_70) (cuts := [(8, [true, true, false, true, false, false, false]), (38, [true, true, false, true, true, false, true])]) (n := 17) gd_70 h
theorem g70_38 {d : Nat} {q : Int → mzM → Prop} (x1 : Int) (x3 : Int) (x4 : Int) (x6 : Int) (μ : mzM) (h : ((0 : Int) ≤ 0 ∧ (0 : Int) < 318) ∧ ((μ 1 0 ≤ x6 → mzWp (d + 1) 70 8 [mzR 0, mzL (mzX (x1 + x4)), none, mzI (mzW (x3 + 1)), none, none, none] [] μ (mzQj q)) ∧ (x6 < μ 1 0 → mzCl d 3 [mzI x3, mzI x6] μ (mzQi fun r2 m1 => (r2 = 0 → mzCl d 5 [mzR 0, mzI x6, mzI 6] m1 (mzQi fun r4 m3 => mzWp (d + 1) 70 38 [mzR 0, mzL x1, none, mzI x3, mzL (mzX (x4 * (mzW (10 - r4)))), none, mzI (mzW (x6 + 1))] [] m3 (mzQj q))) ∧ (r2 ≠ 0 → mzCl d 5 [mzR 0, mzI x6, mzI 6] m1 (mzQi fun r6 m5 => mzWp (d + 1) 70 38 [mzR 0, mzL x1, none, mzI x3, mzL (mzX (x4 * r6)), none, mzI (mzW (x6 + 1))] [] m5 (mzQj q))))))) : mzWp (d + 1) 70 38 [mzR 0, mzL x1, none, mzI x3, mzL x4, none, mzI x6] [] μ (mzQj q) :=
  show mzWp (d + 1) 70 38 [mzR 0, mzL x1, none, mzI x3, mzL x4, none, mzI x6] [] μ (mzQj q) from mzVg_ok (cd := k_70) (cuts := [(8, [true, true, false, true, false, false, false]), (38, [true, true, false, true, true, false, true])]) (n := 24) gd_70 h
-- MeltPinsModel.century 
theorem g71_e {d : Nat} {q : Int → mzM → Prop} (a0 : Int) (μ : mzM) (h : mzCl d 2 [mzL a0, mzL 1, mzL 50] μ (mzQi fun r2 m1 => (r2 ≠ 0 → mzWp (d + 1) 71 23 [mzR 0, mzI a0, mzI 0, mzI 0, none, none] [] m1 (mzQi q)) ∧ (r2 = 0 → mzCl d 1 [mzR 0, mzI (-1000001)] m1 (mzQi fun r4 m3 => q r4 m3)))) : mzCl (d + 1) 71 [mzR 0, mzI a0] μ (mzQi q) :=
  show mzWp (d + 1) 71 0 [mzR 0, mzI a0, none, none, none, none] [] μ (mzQi q) from mzVg_ok (cd := k_71) (cuts := [(23, [true, true, true, true, false, false]), (34, [true, true, true, true, true, true])]) (n := 12) gd_71 h
theorem g71_23 {d : Nat} {q : Int → mzM → Prop} (x1 : Int) (x2 : Int) (x3 : Int) (μ : mzM) (h : (x1 ≤ x3 → q x2 μ) ∧ (x3 < x1 → mzWp (d + 1) 71 34 [mzR 0, mzI x1, mzI x2, mzI x3, mzI 0, mzI 0] [] μ (mzQi q))) : mzWp (d + 1) 71 23 [mzR 0, mzI x1, mzI x2, mzI x3, none, none] [] μ (mzQi q) :=
  show mzWp (d + 1) 71 23 [mzR 0, mzI x1, mzI x2, mzI x3, none, none] [] μ (mzQi q) from mzVg_ok (cd := k_71) (cuts := [(23, [true, true, true, true, false, false]), (34, [true, true, true, true, true, true])]) (n := 9) gd_71 h
theorem g71_34 {d : Nat} {q : Int → mzM → Prop} (x1 : Int) (x2 : Int) (x3 : Int) (x4 : Int) (x5 : Int) (μ : mzM) (h : ((0 : Int) ≤ 0 ∧ (0 : Int) < 318) ∧ ((μ 1 0 ≤ x5 → mzCl d 64 [mzR 0, mzI x4] μ (mzQi fun r2 m1 => (r2 = 0 → mzWp (d + 1) 71 23 [mzR 0, mzI x1, mzI (mzW (x2 + 0)), mzI (mzW (x3 + 1)), none, none] [] m1 (mzQi q)) ∧ (r2 ≠ 0 → mzWp (d + 1) 71 23 [mzR 0, mzI x1, mzI (mzW (x2 + 1)), mzI (mzW (x3 + 1)), none, none] [] m1 (mzQi q)))) ∧ (x5 < μ 1 0 → ((0 : Int) ≤ 3 ∧ (3 : Int) < 318) ∧ (((0 : Int) ≤ 3 ∧ (3 : Int) < 318) ∧ (((0 : Int) ≤ 3 ∧ (3 : Int) < 318) ∧ (((10 : Int) ≠ 0) ∧ (mzCl d 5 [mzR 0, mzI x5, mzI 6] (mzS μ 1 3 (mzW ((mzW ((μ 1 3) * 1103515245)) + 12345))) (mzQi fun r4 m3 => (r4 ≤ mzRem (mzUsh (mzW ((mzW ((μ 1 3) * 1103515245)) + 12345)) 8) 10 → mzWp (d + 1) 71 34 [mzR 0, mzI x1, mzI x2, mzI x3, mzI (mzOr x4 0), mzI (mzW (x5 + 1))] [] m3 (mzQi q)) ∧ (mzRem (mzUsh (mzW ((mzW ((μ 1 3) * 1103515245)) + 12345)) 8) 10 < r4 → mzWp (d + 1) 71 34 [mzR 0, mzI x1, mzI x2, mzI x3, mzI (mzOr x4 (mzShl 1 x5)), mzI (mzW (x5 + 1))] [] m3 (mzQi q)))))))))) : mzWp (d + 1) 71 34 [mzR 0, mzI x1, mzI x2, mzI x3, mzI x4, mzI x5] [] μ (mzQi q) :=
  show mzWp (d + 1) 71 34 [mzR 0, mzI x1, mzI x2, mzI x3, mzI x4, mzI x5] [] μ (mzQi q) from mzVg_ok (cd := k_71) (cuts := [(23, [true, true, true, true, false, false]), (34, [true, true, true, true, true, true])]) (n := 42) gd_71 h
-- MeltPinsModel.seed 
theorem g72_e {d : Nat} {q : Int → mzM → Prop} (a0 : Int) (μ : mzM) (h : ((0 : Int) ≤ 3 ∧ (3 : Int) < 318) ∧ (((0 : Int) ≤ 3 ∧ (3 : Int) < 318) ∧ (q (μ 1 3) (mzS μ 1 3 a0)))) : mzCl d 72 [mzR 0, mzI a0] μ (mzQi q) :=
  show mzWp d 72 0 [mzR 0, mzI a0, none] [] μ (mzQi q) from mzVg_ok (cd := k_72) (cuts := []) (n := 13) gd_72 h
-- MeltPinsModel.ones 
theorem g73_e {d : Nat} {q : Int → mzM → Prop} (a0 : Int) (a1 : Int) (a2 : Int) (μ : mzM) (h : (a0 ≠ 0 → mzCl d 7 [mzR 0] μ (mzQi fun r2 m1 => (mzAnd (mzAnd r2 (mzXor a1 (-1))) (mzXor a2 (-1)) ≠ 0 → mzWp (d + 1) 73 47 [mzR 0, mzI a0, mzI a1, mzI a2, mzI (mzAnd (mzAnd r2 (mzXor a1 (-1))) (mzXor a2 (-1))), mzI (-1), mzI 0, none] [] m1 (mzQi q)) ∧ (mzAnd (mzAnd r2 (mzXor a1 (-1))) (mzXor a2 (-1)) = 0 → mzCl d 74 [mzR 0, mzI a0, mzI a1, mzI a2] m1 (mzQi fun r4 m3 => q r4 m3)))) ∧ (a0 = 0 → mzCl d 48 [mzR 0, mzI a1, mzI a2] μ (mzQi fun r6 m5 => mzCl d 4 [mzI r6] m5 (mzQi fun r8 m7 => q r8 m7)))) : mzCl (d + 1) 73 [mzR 0, mzI a0, mzI a1, mzI a2] μ (mzQi q) :=
  show mzWp (d + 1) 73 0 [mzR 0, mzI a0, mzI a1, mzI a2, none, none, none, none] [] μ (mzQi q) from mzVg_ok (cd := k_73) (cuts := [(47, [true, true, true, true, true, true, true, false])]) (n := 22) gd_73 h
theorem g73_47 {d : Nat} {q : Int → mzM → Prop} (x1 : Int) (x2 : Int) (x3 : Int) (x4 : Int) (x5 : Int) (x6 : Int) (μ : mzM) (h : ((0 : Int) ≤ 0 ∧ (0 : Int) < 318) ∧ ((μ 1 0 ≤ x6 → q x5 μ) ∧ (x6 < μ 1 0 → mzCl d 3 [mzI x4, mzI x6] μ (mzQi fun r2 m1 => (r2 = 0 → (((-1) : Int) ≤ x5 → mzWp (d + 1) 73 47 [mzR 0, mzI x1, mzI x2, mzI x3, mzI x4, mzI x5, mzI (mzW (x6 + 1)), none] [] m1 (mzQi q)) ∧ (x5 < (-1) → mzWp (d + 1) 73 47 [mzR 0, mzI x1, mzI x2, mzI x3, mzI x4, mzI (-1), mzI (mzW (x6 + 1)), none] [] m1 (mzQi q))) ∧ (r2 ≠ 0 → mzCl d 74 [mzR 0, mzI x1, mzI (mzOr x2 (mzShl 1 x6)), mzI x3] m1 (mzQi fun r4 m3 => (r4 ≤ x5 → mzWp (d + 1) 73 47 [mzR 0, mzI x1, mzI x2, mzI x3, mzI x4, mzI x5, mzI (mzW (x6 + 1)), none] [] m3 (mzQi q)) ∧ (x5 < r4 → mzWp (d + 1) 73 47 [mzR 0, mzI x1, mzI x2, mzI x3, mzI x4, mzI r4, mzI (mzW (x6 + 1)), none] [] m3 (mzQi q)))))))) : mzWp (d + 1) 73 47 [mzR 0, mzI x1, mzI x2, mzI x3, mzI x4, mzI x5, mzI x6, none] [] μ (mzQi q) :=
  show mzWp (d + 1) 73 47 [mzR 0, mzI x1, mzI x2, mzI x3, mzI x4, mzI x5, mzI x6, none] [] μ (mzQi q) from mzVg_ok (cd := k_73) (cuts := [(47, [true, true, true, true, true, true, true, false])]) (n := 31) gd_73 h
-- MeltPinsModel.others 
theorem g74_e {d : Nat} {q : Int → mzM → Prop} (a0 : Int) (a1 : Int) (a2 : Int) (μ : mzM) (h : mzCl d 7 [mzR 0] μ (mzQi fun r2 m1 => (mzAnd (mzAnd r2 (mzXor a1 (-1))) (mzXor a2 (-1)) ≠ 0 → mzWp (d + 1) 74 36 [mzR 0, mzI a0, mzI a1, mzI a2, mzI (mzAnd (mzAnd r2 (mzXor a1 (-1))) (mzXor a2 (-1))), mzI 13, mzI 0, none] [] m1 (mzQi q)) ∧ (mzAnd (mzAnd r2 (mzXor a1 (-1))) (mzXor a2 (-1)) = 0 → mzCl d 73 [mzR 0, mzI (mzW (a0 - 1)), mzI a1, mzI a2] m1 (mzQi fun r4 m3 => q r4 m3)))) : mzCl (d + 1) 74 [mzR 0, mzI a0, mzI a1, mzI a2] μ (mzQi q) :=
  show mzWp (d + 1) 74 0 [mzR 0, mzI a0, mzI a1, mzI a2, none, none, none, none] [] μ (mzQi q) from mzVg_ok (cd := k_74) (cuts := [(36, [true, true, true, true, true, true, true, false])]) (n := 22) gd_74 h
theorem g74_36 {d : Nat} {q : Int → mzM → Prop} (x1 : Int) (x2 : Int) (x3 : Int) (x4 : Int) (x5 : Int) (x6 : Int) (μ : mzM) (h : ((0 : Int) ≤ 0 ∧ (0 : Int) < 318) ∧ ((μ 1 0 ≤ x6 → q x5 μ) ∧ (x6 < μ 1 0 → mzCl d 3 [mzI x4, mzI x6] μ (mzQi fun r2 m1 => (r2 = 0 → (x5 ≤ 13 → mzWp (d + 1) 74 36 [mzR 0, mzI x1, mzI x2, mzI x3, mzI x4, mzI x5, mzI (mzW (x6 + 1)), none] [] m1 (mzQi q)) ∧ ((13 : Int) < x5 → mzWp (d + 1) 74 36 [mzR 0, mzI x1, mzI x2, mzI x3, mzI x4, mzI 13, mzI (mzW (x6 + 1)), none] [] m1 (mzQi q))) ∧ (r2 ≠ 0 → mzCl d 73 [mzR 0, mzI (mzW (x1 - 1)), mzI x2, mzI (mzOr x3 (mzShl 1 x6))] m1 (mzQi fun r4 m3 => (x5 ≤ r4 → mzWp (d + 1) 74 36 [mzR 0, mzI x1, mzI x2, mzI x3, mzI x4, mzI x5, mzI (mzW (x6 + 1)), none] [] m3 (mzQi q)) ∧ (r4 < x5 → mzWp (d + 1) 74 36 [mzR 0, mzI x1, mzI x2, mzI x3, mzI x4, mzI r4, mzI (mzW (x6 + 1)), none] [] m3 (mzQi q)))))))) : mzWp (d + 1) 74 36 [mzR 0, mzI x1, mzI x2, mzI x3, mzI x4, mzI x5, mzI x6, none] [] μ (mzQi q) :=
  show mzWp (d + 1) 74 36 [mzR 0, mzI x1, mzI x2, mzI x3, mzI x4, mzI x5, mzI x6, none] [] μ (mzQi q) from mzVg_ok (cd := k_74) (cuts := [(36, [true, true, true, true, true, true, true, false])]) (n := 33) gd_74 h
-- MeltPinsModel.game 
theorem g75_e {d : Nat} {q : Int → mzM → Prop} (a0 : Int) (a1 : Int) (μ : mzM) (h : mzCl d 2 [mzL a0, mzL 1, mzL 2] μ (mzQi fun r2 m1 => (r2 = 0 → mzCl d 1 [mzR 0, mzI (-1000001)] m1 (mzQi fun r4 m3 => q r4 m3)) ∧ (r2 ≠ 0 → mzCl d 2 [mzL a1, mzL 0, mzL 1] m1 (mzQi fun r6 m5 => (r6 ≠ 0 → mzCl d 32 [mzR 0] m5 (mzQi fun r8 m7 => mzCl d 73 [mzR 0, mzI a0, mzI 0, mzI r8] m7 (mzQi fun r10 m9 => (a1 ≠ 0 → mzWp (d + 1) 75 53 [mzR 0, mzI a0, none, mzI r8, mzI r10, mzI 0] [] m9 (mzQi q)) ∧ (a1 = 0 → q r10 m9)))) ∧ (r6 = 0 → mzCl d 1 [mzR 0, mzI (-1000001)] m5 (mzQi fun r12 m11 => q r12 m11)))))) : mzCl (d + 1) 75 [mzR 0, mzI a0, mzI a1] μ (mzQi q) :=
  show mzWp (d + 1) 75 0 [mzR 0, mzI a0, mzI a1, none, none, none] [] μ (mzQi q) from mzVg_ok (cd := k_75) (cuts := [(53, [true, true, false, true, true, true])]) (n := 27) gd_75 h
theorem g75_53 {d : Nat} {q : Int → mzM → Prop} (x1 : Int) (x3 : Int) (x4 : Int) (x5 : Int) (μ : mzM) (h : ((0 : Int) ≤ 0 ∧ (0 : Int) < 318) ∧ ((μ 1 0 ≤ x5 → q (-1) μ) ∧ (x5 < μ 1 0 → mzCl d 3 [mzI x3, mzI x5] μ (mzQi fun r2 m1 => (r2 ≠ 0 → mzWp (d + 1) 75 53 [mzR 0, mzI x1, none, mzI x3, mzI x4, mzI (mzW (x5 + 1))] [] m1 (mzQi q)) ∧ (r2 = 0 → mzCl d 74 [mzR 0, mzI x1, mzI (mzShl 1 x5), mzI x3] m1 (mzQi fun r4 m3 => (r4 ≠ x4 → mzWp (d + 1) 75 53 [mzR 0, mzI x1, none, mzI x3, mzI x4, mzI (mzW (x5 + 1))] [] m3 (mzQi q)) ∧ (r4 = x4 → q x5 m3))))))) : mzWp (d + 1) 75 53 [mzR 0, mzI x1, none, mzI x3, mzI x4, mzI x5] [] μ (mzQi q) :=
  show mzWp (d + 1) 75 53 [mzR 0, mzI x1, none, mzI x3, mzI x4, mzI x5] [] μ (mzQi q) from mzVg_ok (cd := k_75) (cuts := [(53, [true, true, false, true, true, true])]) (n := 23) gd_75 h
-- MeltPinsModel.isSheet 
theorem g76_e {d : Nat} {q : Int → mzM → Prop} (a0 : Int) (μ : mzM) (h : mzCl d 2 [mzL a0, mzL 0, mzL 3] μ (mzQi fun r2 m1 => ((r2 : Int) = 0 ∨ (r2 : Int) = 1) ∧ (q r2 m1))) : mzCl (d + 1) 76 [mzI a0] μ (mzQi q) :=
  show mzWp (d + 1) 76 0 [mzI a0] [] μ (mzQi q) from mzVg_ok (cd := k_76) (cuts := []) (n := 7) gd_76 h
-- MeltPinsModel.isFirst 
theorem g77_e {d : Nat} {q : Int → mzM → Prop} (a0 : Int) (a1 : Int) (μ : mzM) (h : mzCl d 32 [mzR 0] μ (mzQi fun r2 m1 => mzCl d 33 [mzR 0, mzI r2] m1 (mzQv fun m3 => mzWp (d + 1) 77 13 [mzR 0, mzI a0, mzI a1, mzI 0, mzI 1, none] [] m3 (mzQi q)))) : mzCl (d + 1) 77 [mzR 0, mzI a0, mzI a1] μ (mzQi q) :=
  show mzWp (d + 1) 77 0 [mzR 0, mzI a0, mzI a1, none, none, none] [] μ (mzQi q) from mzVg_ok (cd := k_77) (cuts := [(13, [true, true, true, true, true, false]), (39, [true, true, true, true, true, true]), (107, [true, false, true, true, true, false])]) (n := 10) gd_77 h
theorem g77_13 {d : Nat} {q : Int → mzM → Prop} (x1 : Int) (x2 : Int) (x3 : Int) (x4 : Int) (μ : mzM) (h : ((24 : Int) < x4 → mzWp (d + 1) 77 107 [mzR 0, none, mzI x2, mzI x3, mzI 0, none] [] μ (mzQi q)) ∧ (x4 ≤ 24 → (x4 ≠ 1 → mzCl d 38 [mzR 0, mzI 0] μ (mzQi fun r2 m1 => mzWp (d + 1) 77 39 [mzR 0, mzI x1, mzI x2, mzI x3, mzI x4, mzI 0] [] m1 (mzQi q))) ∧ (x4 = 1 → mzCl d 38 [mzR 0, mzI x1] μ (mzQi fun r4 m3 => mzWp (d + 1) 77 39 [mzR 0, mzI x1, mzI x2, mzI x3, mzI x4, mzI 0] [] m3 (mzQi q))))) : mzWp (d + 1) 77 13 [mzR 0, mzI x1, mzI x2, mzI x3, mzI x4, none] [] μ (mzQi q) :=
  show mzWp (d + 1) 77 13 [mzR 0, mzI x1, mzI x2, mzI x3, mzI x4, none] [] μ (mzQi q) from mzVg_ok (cd := k_77) (cuts := [(13, [true, true, true, true, true, false]), (39, [true, true, true, true, true, true]), (107, [true, false, true, true, true, false])]) (n := 15) gd_77 h
theorem g77_107 {d : Nat} {q : Int → mzM → Prop} (x2 : Int) (x3 : Int) (x4 : Int) (μ : mzM) (h : ((0 : Int) ≤ 0 ∧ (0 : Int) < 318) ∧ ((μ 1 0 ≤ x4 → ((1 : Int) = 0 ∨ (1 : Int) = 1) ∧ (q 1 μ)) ∧ (x4 < μ 1 0 → mzCl d 3 [mzI x3, mzI x4] μ (mzQi fun r2 m1 => (r2 ≠ 0 → mzWp (d + 1) 77 107 [mzR 0, none, mzI x2, mzI x3, mzI (mzW (x4 + 1)), none] [] m1 (mzQi q)) ∧ (r2 = 0 → ((0 : Int) ≤ mzW ((mzW (40 * x2)) + x4) ∧ (mzW ((mzW (40 * x2)) + x4) : Int) < 160) ∧ ((m1 13 ((mzW ((mzW (40 * x2)) + x4)).toNat) = 0 → mzWp (d + 1) 77 107 [mzR 0, none, mzI x2, mzI x3, mzI (mzW (x4 + 1)), none] [] m1 (mzQi q)) ∧ (m1 13 ((mzW ((mzW (40 * x2)) + x4)).toNat) ≠ 0 → ((0 : Int) = 0 ∨ (0 : Int) = 1) ∧ (q 0 m1)))))))) : mzWp (d + 1) 77 107 [mzR 0, none, mzI x2, mzI x3, mzI x4, none] [] μ (mzQi q) :=
  show mzWp (d + 1) 77 107 [mzR 0, none, mzI x2, mzI x3, mzI x4, none] [] μ (mzQi q) from mzVg_ok (cd := k_77) (cuts := [(13, [true, true, true, true, true, false]), (39, [true, true, true, true, true, true]), (107, [true, false, true, true, true, false])]) (n := 23) gd_77 h
theorem g77_39 {d : Nat} {q : Int → mzM → Prop} (x1 : Int) (x2 : Int) (x3 : Int) (x4 : Int) (x5 : Int) (μ : mzM) (h : ((0 : Int) ≤ 0 ∧ (0 : Int) < 318) ∧ ((μ 1 0 ≤ x5 → mzWp (d + 1) 77 13 [mzR 0, mzI x1, mzI x2, mzI (mzOr x3 (μ 0 13)), mzI (mzW (x4 + 1)), none] [] μ (mzQi q)) ∧ (x5 < μ 1 0 → mzCl d 3 [mzI (mzAnd (μ 0 13) (mzXor x3 (-1))), mzI x5] μ (mzQi fun r2 m1 => (r2 = 0 → mzWp (d + 1) 77 39 [mzR 0, mzI x1, mzI x2, mzI x3, mzI x4, mzI (mzW (x5 + 1))] [] m1 (mzQi q)) ∧ (r2 ≠ 0 → ((0 : Int) ≤ mzW ((mzW (40 * x2)) + x5) ∧ (mzW ((mzW (40 * x2)) + x5) : Int) < 160) ∧ ((m1 13 ((mzW ((mzW (40 * x2)) + x5)).toNat) = x4 → mzWp (d + 1) 77 39 [mzR 0, mzI x1, mzI x2, mzI x3, mzI x4, mzI (mzW (x5 + 1))] [] m1 (mzQi q)) ∧ (m1 13 ((mzW ((mzW (40 * x2)) + x5)).toNat) ≠ x4 → ((0 : Int) = 0 ∨ (0 : Int) = 1) ∧ (q 0 m1)))))))) : mzWp (d + 1) 77 39 [mzR 0, mzI x1, mzI x2, mzI x3, mzI x4, mzI x5] [] μ (mzQi q) :=
  show mzWp (d + 1) 77 39 [mzR 0, mzI x1, mzI x2, mzI x3, mzI x4, mzI x5] [] μ (mzQi q) from mzVg_ok (cd := k_77) (cuts := [(13, [true, true, true, true, true, false]), (39, [true, true, true, true, true, true]), (107, [true, false, true, true, true, false])]) (n := 29) gd_77 h
-- MeltPinsModel.first 
theorem g78_e {d : Nat} {q : Int → mzM → Prop} (a0 : Int) (μ : mzM) (h : mzCl d 76 [mzI a0] μ (mzQi fun r2 m1 => (r2 ≠ 0 → ((0 : Int) ≤ a0 ∧ (a0 : Int) < 4) ∧ ((m1 11 a0.toNat ≠ 0 → mzWp (d + 1) 78 35 [mzR 0, mzI a0, mzI (-1), mzI 0] [] m1 (mzQi q)) ∧ (m1 11 a0.toNat = 0 → mzCl d 1 [mzR 0, mzI (-1000006)] m1 (mzQi fun r4 m3 => q r4 m3)))) ∧ (r2 = 0 → mzCl d 1 [mzR 0, mzI (-1000001)] m1 (mzQi fun r6 m5 => q r6 m5)))) : mzCl (d + 1) 78 [mzR 0, mzI a0] μ (mzQi q) :=
  show mzWp (d + 1) 78 0 [mzR 0, mzI a0, none, none] [] μ (mzQi q) from mzVg_ok (cd := k_78) (cuts := [(35, [true, true, true, true])]) (n := 14) gd_78 h
theorem g78_35 {d : Nat} {q : Int → mzM → Prop} (x1 : Int) (x2 : Int) (x3 : Int) (μ : mzM) (h : mzCl d 7 [mzR 0] μ (mzQi fun r2 m1 => (r2 < x3 → ((0 : Int) ≤ x2 → q x2 m1) ∧ (x2 < 0 → mzCl d 1 [mzR 0, mzI (-1000004)] m1 (mzQi fun r4 m3 => q r4 m3))) ∧ (x3 ≤ r2 → ((0 : Int) ≤ x1 ∧ (x1 : Int) < 4) ∧ (((0 : Int) ≤ 0 ∧ (0 : Int) < 318) ∧ ((m1 12 x1.toNat ≠ m1 1 0 → ((0 : Int) ≤ x2 → q x2 m1) ∧ (x2 < 0 → mzCl d 1 [mzR 0, mzI (-1000004)] m1 (mzQi fun r6 m5 => q r6 m5))) ∧ (m1 12 x1.toNat = m1 1 0 → (x2 < 0 → mzCl d 77 [mzR 0, mzI x3, mzI x1] m1 (mzQi fun r8 m7 => (r8 = 0 → mzWp (d + 1) 78 35 [mzR 0, mzI x1, mzI x2, mzI (mzW (x3 + 1))] [] m7 (mzQi q)) ∧ (r8 ≠ 0 → mzWp (d + 1) 78 35 [mzR 0, mzI x1, mzI x3, mzI (mzW (x3 + 1))] [] m7 (mzQi q)))) ∧ ((0 : Int) ≤ x2 → mzCl d 4 [mzI x3] m1 (mzQi fun r10 m9 => mzCl d 4 [mzI x2] m9 (mzQi fun r12 m11 => (r12 ≤ r10 → mzWp (d + 1) 78 35 [mzR 0, mzI x1, mzI x2, mzI (mzW (x3 + 1))] [] m11 (mzQi q)) ∧ (r10 < r12 → mzCl d 77 [mzR 0, mzI x3, mzI x1] m11 (mzQi fun r14 m13 => (r14 = 0 → mzWp (d + 1) 78 35 [mzR 0, mzI x1, mzI x2, mzI (mzW (x3 + 1))] [] m13 (mzQi q)) ∧ (r14 ≠ 0 → mzWp (d + 1) 78 35 [mzR 0, mzI x1, mzI x3, mzI (mzW (x3 + 1))] [] m13 (mzQi q))))))))))))) : mzWp (d + 1) 78 35 [mzR 0, mzI x1, mzI x2, mzI x3] [] μ (mzQi q) :=
  show mzWp (d + 1) 78 35 [mzR 0, mzI x1, mzI x2, mzI x3] [] μ (mzQi q) from mzVg_ok (cd := k_78) (cuts := [(35, [true, true, true, true])]) (n := 31) gd_78 h
-- MeltPinsModel.judge 
theorem g79_e {d : Nat} {q : Int → mzM → Prop} (a0 : Int) (μ : mzM) (h : mzCl d 76 [mzI a0] μ (mzQi fun r2 m1 => (r2 ≠ 0 → ((0 : Int) ≤ a0 ∧ (a0 : Int) < 4) ∧ ((m1 11 a0.toNat ≠ 0 → mzCl d 32 [mzR 0] m1 (mzQi fun r4 m3 => mzCl d 33 [mzR 0, mzI r4] m3 (mzQv fun m5 => mzWp (d + 1) 79 41 [mzR 0, mzI a0, mzI 0] [] m5 (mzQi q)))) ∧ (m1 11 a0.toNat = 0 → mzCl d 1 [mzR 0, mzI (-1000006)] m1 (mzQi fun r7 m6 => q r7 m6)))) ∧ (r2 = 0 → mzCl d 1 [mzR 0, mzI (-1000001)] m1 (mzQi fun r9 m8 => q r9 m8)))) : mzCl (d + 1) 79 [mzR 0, mzI a0] μ (mzQi q) :=
  show mzWp (d + 1) 79 0 [mzR 0, mzI a0, none] [] μ (mzQi q) from mzVg_ok (cd := k_79) (cuts := [(41, [true, true, true])]) (n := 16) gd_79 h
theorem g79_41 {d : Nat} {q : Int → mzM → Prop} (x1 : Int) (x2 : Int) (μ : mzM) (h : ((0 : Int) ≤ x1 ∧ (x1 : Int) < 4) ∧ ((μ 12 x1.toNat ≤ x2 → q 0 μ) ∧ (x2 < μ 12 x1.toNat → mzCl d 39 [mzR 0, mzI x2] μ (mzQi fun r2 m1 => mzCl d 38 [mzR 0, mzI r2] m1 (mzQi fun r4 m3 => ((0 : Int) ≤ mzW ((mzW (40 * x1)) + x2) ∧ (mzW ((mzW (40 * x1)) + x2) : Int) < 160) ∧ (mzCl d 4 [mzI (m3 0 13)] m3 (mzQi fun r6 m5 => (m3 13 ((mzW ((mzW (40 * x1)) + x2)).toNat) = r6 → mzWp (d + 1) 79 41 [mzR 0, mzI x1, mzI (mzW (x2 + 1))] [] m5 (mzQi q)) ∧ (m3 13 ((mzW ((mzW (40 * x1)) + x2)).toNat) ≠ r6 → q (mzW (1 + x2)) m5)))))))) : mzWp (d + 1) 79 41 [mzR 0, mzI x1, mzI x2] [] μ (mzQi q) :=
  show mzWp (d + 1) 79 41 [mzR 0, mzI x1, mzI x2] [] μ (mzQi q) from mzVg_ok (cd := k_79) (cuts := [(41, [true, true, true])]) (n := 29) gd_79 h
-- MeltPinsModel.spot 
theorem g80_e {d : Nat} {q : Int → mzM → Prop} (a0 : Int) (a1 : Int) (μ : mzM) (h : mzCl d 2 [mzL a0, mzL 0, mzL 9] μ (mzQi fun r2 m1 => (r2 = 0 → mzCl d 1 [mzR 0, mzI (-1000001)] m1 (mzQi fun r4 m3 => q r4 m3)) ∧ (r2 ≠ 0 → (a1 = (-1) → ((0 : Int) ≤ mzW (308 + a0) ∧ (mzW (308 + a0) : Int) < 318) ∧ (q 1 (mzS m1 1 ((mzW (308 + a0)).toNat) a1))) ∧ (a1 ≠ (-1) → mzCl d 6 [mzR 0, mzI a1] m1 (mzQi fun r6 m5 => (r6 ≠ 0 → ((0 : Int) ≤ mzW (308 + a0) ∧ (mzW (308 + a0) : Int) < 318) ∧ (q 1 (mzS m5 1 ((mzW (308 + a0)).toNat) a1))) ∧ (r6 = 0 → mzCl d 1 [mzR 0, mzI (-1000001)] m5 (mzQi fun r8 m7 => q r8 m7))))))) : mzCl (d + 1) 80 [mzR 0, mzI a0, mzI a1] μ (mzQi q) :=
  show mzWp (d + 1) 80 0 [mzR 0, mzI a0, mzI a1] [] μ (mzQi q) from mzVg_ok (cd := k_80) (cuts := []) (n := 23) gd_80 h
-- MeltPinsModel.above 
theorem g81_e {d : Nat} {q : Int → mzM → Prop} (a0 : Int) (μ : mzM) (h : (((a0 : Int) = 0 → q (-1) μ) ∧ ((a0 : Int) = 1 → q 0 μ) ∧ ((a0 : Int) = 2 → q 0 μ) ∧ ((a0 : Int) = 3 → q 1 μ) ∧ ((a0 : Int) = 4 → q 1 μ) ∧ ((a0 : Int) = 5 → q 2 μ) ∧ True) ∧ (((a0 : Int) < 0 ∨ (5 : Int) < a0) → q 3 μ)) : mzCl d 81 [mzI a0] μ (mzQi q) :=
  show mzWp d 81 0 [mzI a0] [] μ (mzQi q) from mzVg_ok (cd := k_81) (cuts := []) (n := 5) gd_81 h
-- MeltPinsModel.as 
theorem g82_e {d : Nat} {q : Int → mzM → Prop} (a0 : Int) (a1 : Int) (μ : mzM) (h : mzCl d 2 [mzL a0, mzL 0, mzL 9] μ (mzQi fun r2 m1 => (r2 = 0 → mzCl d 1 [mzR 0, mzI (-1000001)] m1 (mzQi fun r4 m3 => q r4 m3)) ∧ (r2 ≠ 0 → mzCl d 2 [mzL a1, mzL 0, mzL 6] m1 (mzQi fun r6 m5 => (r6 ≠ 0 → ((0 : Int) ≤ mzW (308 + a0) ∧ (mzW (308 + a0) : Int) < 318) ∧ (((0 : Int) ≤ m5 1 ((mzW (308 + a0)).toNat) → mzCl d 5 [mzR 0, mzI (m5 1 ((mzW (308 + a0)).toNat)), mzI 0] m5 (mzQi fun r8 m7 => mzWp (d + 1) 82 62 [mzR 0, none, mzI a1, mzI (m5 1 ((mzW (308 + a0)).toNat)), mzI r8] [] m7 (mzQi q))) ∧ (m5 1 ((mzW (308 + a0)).toNat) < 0 → mzCl d 1 [mzR 0, mzI (-1000006)] m5 (mzQi fun r10 m9 => q r10 m9)))) ∧ (r6 = 0 → mzCl d 1 [mzR 0, mzI (-1000001)] m5 (mzQi fun r12 m11 => q r12 m11)))))) : mzCl (d + 1) 82 [mzR 0, mzI a0, mzI a1] μ (mzQi q) :=
  show mzWp (d + 1) 82 0 [mzR 0, mzI a0, mzI a1, none, none] [] μ (mzQi q) from mzVg_ok (cd := k_82) (cuts := [(62, [true, false, true, true, true])]) (n := 28) gd_82 h
theorem g82_62 {d : Nat} {q : Int → mzM → Prop} (x2 : Int) (x3 : Int) (x4 : Int) (μ : mzM) (h : (x4 < 0 → mzCl d 1 [mzR 0, mzI (-1000003)] μ (mzQi fun r2 m1 => q r2 m1)) ∧ ((0 : Int) ≤ x4 → (x4 ≠ x2 → mzCl d 81 [mzI x4] μ (mzQi fun r4 m3 => mzWp (d + 1) 82 62 [mzR 0, none, mzI x2, mzI x3, mzI r4] [] m3 (mzQi q))) ∧ (x4 = x2 → q x3 μ))) : mzWp (d + 1) 82 62 [mzR 0, none, mzI x2, mzI x3, mzI x4] [] μ (mzQi q) :=
  show mzWp (d + 1) 82 62 [mzR 0, none, mzI x2, mzI x3, mzI x4] [] μ (mzQi q) from mzVg_ok (cd := k_82) (cuts := [(62, [true, false, true, true, true])]) (n := 11) gd_82 h
-- MeltPinsModel.sheet 
theorem g83_e {d : Nat} {q : Int → mzM → Prop} (a0 : Int) (a1 : Int) (a2 : Int) (μ : mzM) (h : mzCl d 76 [mzI a0] μ (mzQi fun r2 m1 => (r2 = 0 → mzCl d 1 [mzR 0, mzI (-1000001)] m1 (mzQi fun r4 m3 => q r4 m3)) ∧ (r2 ≠ 0 → (a1 = 0 → ((0 : Int) ≤ a2 → (a2 ≤ 40 → ((0 : Int) ≤ a0 ∧ (a0 : Int) < 4) ∧ ((a1 ≠ 0 → ((0 : Int) ≤ a0 ∧ (a0 : Int) < 4) ∧ (mzWp (d + 1) 83 86 [mzR 0, mzI a0, none, none, mzI 0] [] (mzS (mzS m1 11 a0.toNat a1) 12 a0.toNat a2) (mzQi q))) ∧ (a1 = 0 → ((0 : Int) ≤ a0 ∧ (a0 : Int) < 4) ∧ (mzWp (d + 1) 83 86 [mzR 0, mzI a0, none, none, mzI 0] [] (mzS (mzS m1 11 a0.toNat a1) 12 a0.toNat 0) (mzQi q))))) ∧ ((40 : Int) < a2 → mzCl d 1 [mzR 0, mzI (-1000001)] m1 (mzQi fun r6 m5 => q r6 m5))) ∧ (a2 < 0 → mzCl d 1 [mzR 0, mzI (-1000007)] m1 (mzQi fun r8 m7 => q r8 m7))) ∧ (a1 ≠ 0 → (a1 = 8 → ((0 : Int) ≤ a2 → (a2 ≤ 40 → ((0 : Int) ≤ a0 ∧ (a0 : Int) < 4) ∧ ((a1 ≠ 0 → ((0 : Int) ≤ a0 ∧ (a0 : Int) < 4) ∧ (mzWp (d + 1) 83 86 [mzR 0, mzI a0, none, none, mzI 0] [] (mzS (mzS m1 11 a0.toNat a1) 12 a0.toNat a2) (mzQi q))) ∧ (a1 = 0 → ((0 : Int) ≤ a0 ∧ (a0 : Int) < 4) ∧ (mzWp (d + 1) 83 86 [mzR 0, mzI a0, none, none, mzI 0] [] (mzS (mzS m1 11 a0.toNat a1) 12 a0.toNat 0) (mzQi q))))) ∧ ((40 : Int) < a2 → mzCl d 1 [mzR 0, mzI (-1000001)] m1 (mzQi fun r10 m9 => q r10 m9))) ∧ (a2 < 0 → mzCl d 1 [mzR 0, mzI (-1000007)] m1 (mzQi fun r12 m11 => q r12 m11))) ∧ (a1 ≠ 8 → (a1 = 16 → ((0 : Int) ≤ a2 → (a2 ≤ 40 → ((0 : Int) ≤ a0 ∧ (a0 : Int) < 4) ∧ ((a1 ≠ 0 → ((0 : Int) ≤ a0 ∧ (a0 : Int) < 4) ∧ (mzWp (d + 1) 83 86 [mzR 0, mzI a0, none, none, mzI 0] [] (mzS (mzS m1 11 a0.toNat a1) 12 a0.toNat a2) (mzQi q))) ∧ (a1 = 0 → ((0 : Int) ≤ a0 ∧ (a0 : Int) < 4) ∧ (mzWp (d + 1) 83 86 [mzR 0, mzI a0, none, none, mzI 0] [] (mzS (mzS m1 11 a0.toNat a1) 12 a0.toNat 0) (mzQi q))))) ∧ ((40 : Int) < a2 → mzCl d 1 [mzR 0, mzI (-1000001)] m1 (mzQi fun r14 m13 => q r14 m13))) ∧ (a2 < 0 → mzCl d 1 [mzR 0, mzI (-1000007)] m1 (mzQi fun r16 m15 => q r16 m15))) ∧ (a1 ≠ 16 → (a1 = 32 → ((0 : Int) ≤ a2 → (a2 ≤ 40 → ((0 : Int) ≤ a0 ∧ (a0 : Int) < 4) ∧ ((a1 ≠ 0 → ((0 : Int) ≤ a0 ∧ (a0 : Int) < 4) ∧ (mzWp (d + 1) 83 86 [mzR 0, mzI a0, none, none, mzI 0] [] (mzS (mzS m1 11 a0.toNat a1) 12 a0.toNat a2) (mzQi q))) ∧ (a1 = 0 → ((0 : Int) ≤ a0 ∧ (a0 : Int) < 4) ∧ (mzWp (d + 1) 83 86 [mzR 0, mzI a0, none, none, mzI 0] [] (mzS (mzS m1 11 a0.toNat a1) 12 a0.toNat 0) (mzQi q))))) ∧ ((40 : Int) < a2 → mzCl d 1 [mzR 0, mzI (-1000001)] m1 (mzQi fun r18 m17 => q r18 m17))) ∧ (a2 < 0 → mzCl d 1 [mzR 0, mzI (-1000007)] m1 (mzQi fun r20 m19 => q r20 m19))) ∧ (a1 ≠ 32 → mzCl d 1 [mzR 0, mzI (-1000001)] m1 (mzQi fun r22 m21 => q r22 m21)))))))) : mzCl (d + 1) 83 [mzR 0, mzI a0, mzI a1, mzI a2] μ (mzQi q) :=
  show mzWp (d + 1) 83 0 [mzR 0, mzI a0, mzI a1, mzI a2, none] [] μ (mzQi q) from mzVg_ok (cd := k_83) (cuts := [(86, [true, true, false, false, true])]) (n := 36) gd_83 h
theorem g83_86 {d : Nat} {q : Int → mzM → Prop} (x1 : Int) (x4 : Int) (μ : mzM) (h : ((40 : Int) ≤ x4 → ((0 : Int) ≤ x1 ∧ (x1 : Int) < 4) ∧ (q (μ 12 x1.toNat) μ)) ∧ (x4 < 40 → ((0 : Int) ≤ mzW ((mzW (40 * x1)) + x4) ∧ (mzW ((mzW (40 * x1)) + x4) : Int) < 160) ∧ (mzWp (d + 1) 83 86 [mzR 0, mzI x1, none, none, mzI (mzW (x4 + 1))] [] (mzS μ 13 ((mzW ((mzW (40 * x1)) + x4)).toNat) 0) (mzQi q)))) : mzWp (d + 1) 83 86 [mzR 0, mzI x1, none, none, mzI x4] [] μ (mzQi q) :=
  show mzWp (d + 1) 83 86 [mzR 0, mzI x1, none, none, mzI x4] [] μ (mzQi q) from mzVg_ok (cd := k_83) (cuts := [(86, [true, true, false, false, true])]) (n := 16) gd_83 h
-- MeltPinsModel.write 
theorem g84_e {d : Nat} {q : Int → mzM → Prop} (a0 : Int) (a1 : Int) (a2 : Int) (μ : mzM) (h : mzCl d 76 [mzI a0] μ (mzQi fun r2 m1 => (r2 ≠ 0 → ((0 : Int) ≤ a0 ∧ (a0 : Int) < 4) ∧ ((m1 11 a0.toNat ≠ 0 → ((0 : Int) ≤ a0 ∧ (a0 : Int) < 4) ∧ (mzCl d 2 [mzL a1, mzL 0, mzL (mzW ((m1 12 a0.toNat) - 1))] m1 (mzQi fun r4 m3 => (r4 ≠ 0 → ((0 : Int) ≤ a0 ∧ (a0 : Int) < 4) ∧ ((m3 11 a0.toNat ≠ 8 → ((0 : Int) ≤ a0 ∧ (a0 : Int) < 4) ∧ ((m3 11 a0.toNat ≠ 16 → ((0 : Int) ≤ mzW ((mzW (40 * a0)) + a1) ∧ (mzW ((mzW (40 * a0)) + a1) : Int) < 160) ∧ (q 1 (mzS m3 13 ((mzW ((mzW (40 * a0)) + a1)).toNat) a2))) ∧ (m3 11 a0.toNat = 16 → ((0 : Int) ≤ mzW ((mzW (40 * a0)) + a1) ∧ (mzW ((mzW (40 * a0)) + a1) : Int) < 160) ∧ (q 1 (mzS m3 13 ((mzW ((mzW (40 * a0)) + a1)).toNat) (mzB16 a2)))))) ∧ (m3 11 a0.toNat = 8 → ((0 : Int) ≤ mzW ((mzW (40 * a0)) + a1) ∧ (mzW ((mzW (40 * a0)) + a1) : Int) < 160) ∧ (q 1 (mzS m3 13 ((mzW ((mzW (40 * a0)) + a1)).toNat) (mzB8 a2)))))) ∧ (r4 = 0 → mzCl d 1 [mzR 0, mzI (-1000001)] m3 (mzQi fun r6 m5 => q r6 m5))))) ∧ (m1 11 a0.toNat = 0 → mzCl d 1 [mzR 0, mzI (-1000006)] m1 (mzQi fun r8 m7 => q r8 m7)))) ∧ (r2 = 0 → mzCl d 1 [mzR 0, mzI (-1000001)] m1 (mzQi fun r10 m9 => q r10 m9)))) : mzCl (d + 1) 84 [mzR 0, mzI a0, mzI a1, mzI a2] μ (mzQi q) :=
  show mzWp (d + 1) 84 0 [mzR 0, mzI a0, mzI a1, mzI a2] [] μ (mzQi q) from mzVg_ok (cd := k_84) (cuts := []) (n := 46) gd_84 h
-- MeltPinsModel.copy 
theorem g85_e {d : Nat} {q : Int → mzM → Prop} (a0 : Int) (a1 : Int) (a2 : Int) (a3 : Int) (a4 : Int) (μ : mzM) (h : mzCl d 76 [mzI a0] μ (mzQi fun r2 m1 => (r2 = 0 → mzCl d 1 [mzR 0, mzI (-1000001)] m1 (mzQi fun r4 m3 => q r4 m3)) ∧ (r2 ≠ 0 → mzCl d 76 [mzI a2] m1 (mzQi fun r6 m5 => (r6 ≠ 0 → ((0 : Int) ≤ a0 ∧ (a0 : Int) < 4) ∧ ((m5 11 a0.toNat = 0 → mzCl d 1 [mzR 0, mzI (-1000006)] m5 (mzQi fun r8 m7 => q r8 m7)) ∧ (m5 11 a0.toNat ≠ 0 → ((0 : Int) ≤ a2 ∧ (a2 : Int) < 4) ∧ ((m5 11 a2.toNat ≠ 0 → ((0 : Int) ≤ a0 ∧ (a0 : Int) < 4) ∧ (((0 : Int) ≤ a2 ∧ (a2 : Int) < 4) ∧ ((m5 11 a0.toNat = m5 11 a2.toNat → (a4 < 0 → mzCl d 1 [mzR 0, mzI (-1000001)] m5 (mzQi fun r10 m9 => q r10 m9)) ∧ ((0 : Int) ≤ a4 → (a1 < 0 → mzCl d 1 [mzR 0, mzI (-1000001)] m5 (mzQi fun r12 m11 => q r12 m11)) ∧ ((0 : Int) ≤ a1 → (a3 < 0 → mzCl d 1 [mzR 0, mzI (-1000001)] m5 (mzQi fun r14 m13 => q r14 m13)) ∧ ((0 : Int) ≤ a3 → ((0 : Int) ≤ a0 ∧ (a0 : Int) < 4) ∧ ((mzW ((m5 12 a0.toNat) - a1) < a4 → mzCl d 1 [mzR 0, mzI (-1000001)] m5 (mzQi fun r16 m15 => q r16 m15)) ∧ (a4 ≤ mzW ((m5 12 a0.toNat) - a1) → ((0 : Int) ≤ a2 ∧ (a2 : Int) < 4) ∧ ((a4 ≤ mzW ((m5 12 a2.toNat) - a3) → (a0 ≠ a2 → mzWp (d + 1) 85 139 [mzR 0, mzI a0, mzI a1, mzI a2, mzI a3, mzI a4, mzI 0, mzI 0, none] [] m5 (mzQi q)) ∧ (a0 = a2 → (a3 ≤ a1 → mzWp (d + 1) 85 139 [mzR 0, mzI a0, mzI a1, mzI a2, mzI a3, mzI a4, mzI 0, mzI 0, none] [] m5 (mzQi q)) ∧ (a1 < a3 → mzWp (d + 1) 85 139 [mzR 0, mzI a0, mzI a1, mzI a2, mzI a3, mzI a4, mzI 1, mzI 0, none] [] m5 (mzQi q)))) ∧ (mzW ((m5 12 a2.toNat) - a3) < a4 → mzCl d 1 [mzR 0, mzI (-1000001)] m5 (mzQi fun r18 m17 => q r18 m17))))))))) ∧ (m5 11 a0.toNat ≠ m5 11 a2.toNat → mzCl d 1 [mzR 0, mzI (-1000003)] m5 (mzQi fun r20 m19 => q r20 m19))))) ∧ (m5 11 a2.toNat = 0 → mzCl d 1 [mzR 0, mzI (-1000006)] m5 (mzQi fun r22 m21 => q r22 m21)))))) ∧ (r6 = 0 → mzCl d 1 [mzR 0, mzI (-1000001)] m5 (mzQi fun r24 m23 => q r24 m23)))))) : mzCl (d + 1) 85 [mzR 0, mzI a0, mzI a1, mzI a2, mzI a3, mzI a4] μ (mzQi q) :=
  show mzWp (d + 1) 85 0 [mzR 0, mzI a0, mzI a1, mzI a2, mzI a3, mzI a4, none, none, none] [] μ (mzQi q) from mzVg_ok (cd := k_85) (cuts := [(139, [true, true, true, true, true, true, true, true, false])]) (n := 60) gd_85 h
theorem g85_139 {d : Nat} {q : Int → mzM → Prop} (x1 : Int) (x2 : Int) (x3 : Int) (x4 : Int) (x5 : Int) (x6 : Int) (x7 : Int) (μ : mzM) (h : (x5 ≤ x7 → q x5 μ) ∧ (x7 < x5 → (x6 = 0 → ((0 : Int) ≤ mzW ((mzW ((mzW (40 * x1)) + x2)) + x7) ∧ (mzW ((mzW ((mzW (40 * x1)) + x2)) + x7) : Int) < 160) ∧ (((0 : Int) ≤ mzW ((mzW ((mzW (40 * x3)) + x4)) + x7) ∧ (mzW ((mzW ((mzW (40 * x3)) + x4)) + x7) : Int) < 160) ∧ (mzWp (d + 1) 85 139 [mzR 0, mzI x1, mzI x2, mzI x3, mzI x4, mzI x5, mzI x6, mzI (mzW (x7 + 1)), none] [] (mzS μ 13 ((mzW ((mzW ((mzW (40 * x3)) + x4)) + x7)).toNat) (μ 13 ((mzW ((mzW ((mzW (40 * x1)) + x2)) + x7)).toNat))) (mzQi q)))) ∧ (x6 ≠ 0 → ((0 : Int) ≤ mzW ((mzW ((mzW (40 * x1)) + x2)) + (mzW ((mzW (x5 - 1)) - x7))) ∧ (mzW ((mzW ((mzW (40 * x1)) + x2)) + (mzW ((mzW (x5 - 1)) - x7))) : Int) < 160) ∧ (((0 : Int) ≤ mzW ((mzW ((mzW (40 * x3)) + x4)) + (mzW ((mzW (x5 - 1)) - x7))) ∧ (mzW ((mzW ((mzW (40 * x3)) + x4)) + (mzW ((mzW (x5 - 1)) - x7))) : Int) < 160) ∧ (mzWp (d + 1) 85 139 [mzR 0, mzI x1, mzI x2, mzI x3, mzI x4, mzI x5, mzI x6, mzI (mzW (x7 + 1)), none] [] (mzS μ 13 ((mzW ((mzW ((mzW (40 * x3)) + x4)) + (mzW ((mzW (x5 - 1)) - x7)))).toNat) (μ 13 ((mzW ((mzW ((mzW (40 * x1)) + x2)) + (mzW ((mzW (x5 - 1)) - x7)))).toNat))) (mzQi q)))))) : mzWp (d + 1) 85 139 [mzR 0, mzI x1, mzI x2, mzI x3, mzI x4, mzI x5, mzI x6, mzI x7, none] [] μ (mzQi q) :=
  show mzWp (d + 1) 85 139 [mzR 0, mzI x1, mzI x2, mzI x3, mzI x4, mzI x5, mzI x6, mzI x7, none] [] μ (mzQi q) from mzVg_ok (cd := k_85) (cuts := [(139, [true, true, true, true, true, true, true, true, false])]) (n := 36) gd_85 h
-- MeltPinsModel.image 
theorem g86_e {d : Nat} {q : Int → mzM → Prop}  (μ : mzM) (h : mzWp d 86 2 [mzR 0, mzI 0] [] μ (mzQi q)) : mzCl d 86 [mzR 0] μ (mzQi q) :=
  show mzWp d 86 0 [mzR 0, none] [] μ (mzQi q) from mzVg_ok (cd := k_86) (cuts := [(2, [true, true])]) (n := 4) gd_86 h
theorem g86_2 {d : Nat} {q : Int → mzM → Prop} (x1 : Int) (μ : mzM) (h : ((318 : Int) ≤ x1 → ((1 : Int) = 0 ∨ (1 : Int) = 1) ∧ (q 1 (mzS μ 0 2 1))) ∧ (x1 < 318 → ((0 : Int) ≤ x1 ∧ (x1 : Int) < 318) ∧ (((0 : Int) ≤ x1 ∧ (x1 : Int) < 318) ∧ (mzWp d 86 2 [mzR 0, mzI (mzW (x1 + 1))] [] (mzS μ 2 x1.toNat (μ 1 x1.toNat)) (mzQi q))))) : mzWp d 86 2 [mzR 0, mzI x1] [] μ (mzQi q) :=
  show mzWp d 86 2 [mzR 0, mzI x1] [] μ (mzQi q) from mzVg_ok (cd := k_86) (cuts := [(2, [true, true])]) (n := 15) gd_86 h
-- MeltPinsModel.undo 
theorem g87_e {d : Nat} {q : Int → mzM → Prop}  (μ : mzM) (h : (μ 0 2 ≠ 0 → mzWp (d + 1) 87 16 [mzR 0, mzI 0] [] μ (mzQi q)) ∧ (μ 0 2 = 0 → mzCl d 1 [mzR 0, mzI (-1000004)] μ (mzQi fun r2 m1 => q r2 m1))) : mzCl (d + 1) 87 [mzR 0] μ (mzQi q) :=
  show mzWp (d + 1) 87 0 [mzR 0, none] [] μ (mzQi q) from mzVg_ok (cd := k_87) (cuts := [(16, [true, true])]) (n := 8) gd_87 h
theorem g87_16 {d : Nat} {q : Int → mzM → Prop} (x1 : Int) (μ : mzM) (h : ((318 : Int) ≤ x1 → ((0 : Int) = 0 ∨ (0 : Int) = 1) ∧ (((0 : Int) ≤ 0 ∧ (0 : Int) < 318) ∧ (q (μ 1 0) (mzS μ 0 4 0)))) ∧ (x1 < 318 → ((0 : Int) ≤ x1 ∧ (x1 : Int) < 318) ∧ (((0 : Int) ≤ x1 ∧ (x1 : Int) < 318) ∧ (mzWp (d + 1) 87 16 [mzR 0, mzI (mzW (x1 + 1))] [] (mzS μ 1 x1.toNat (μ 2 x1.toNat)) (mzQi q))))) : mzWp (d + 1) 87 16 [mzR 0, mzI x1] [] μ (mzQi q) :=
  show mzWp (d + 1) 87 16 [mzR 0, mzI x1] [] μ (mzQi q) from mzVg_ok (cd := k_87) (cuts := [(16, [true, true])]) (n := 15) gd_87 h
-- MeltPinsModel.tear 
theorem g88_e {d : Nat} {q : Int → mzM → Prop}  (μ : mzM) (h : (μ 0 2 = 0 → ((0 : Int) = 0 ∨ (0 : Int) = 1) ∧ (q 0 (mzS μ 0 2 0))) ∧ (μ 0 2 ≠ 0 → ((0 : Int) = 0 ∨ (0 : Int) = 1) ∧ (q 1 (mzS μ 0 2 0)))) : mzCl d 88 [mzR 0] μ (mzQi q) :=
  show mzWp d 88 0 [mzR 0, none] [] μ (mzQi q) from mzVg_ok (cd := k_88) (cuts := []) (n := 12) gd_88 h
-- MeltPinsModel.count 
theorem g89_e {d : Nat} {q : Int → mzM → Prop} (a0 : Int) (μ : mzM) (h : (((a0 : Int) = 0 → ((0 : Int) ≤ a0 ∧ (a0 : Int) < 318) ∧ (q (μ 1 a0.toNat) μ)) ∧ ((a0 : Int) = 1 → ((0 : Int) ≤ a0 ∧ (a0 : Int) < 318) ∧ (q (μ 1 a0.toNat) μ)) ∧ ((a0 : Int) = 2 → ((0 : Int) ≤ a0 ∧ (a0 : Int) < 318) ∧ (q (μ 1 a0.toNat) μ)) ∧ ((a0 : Int) = 3 → mzCl d 32 [mzR 0] μ (mzQi fun r2 m1 => mzCl d 4 [mzI r2] m1 (mzQi fun r4 m3 => q r4 m3))) ∧ ((a0 : Int) = 4 → q (μ 0 6) μ) ∧ ((a0 : Int) = 5 → ((0 : Int) ≤ 3 ∧ (3 : Int) < 318) ∧ (q (μ 1 3) μ)) ∧ ((a0 : Int) = 6 → mzWp (d + 1) 89 73 [mzR 0, none, mzI 0, mzI 0] [] μ (mzQi q)) ∧ True) ∧ (((a0 : Int) < 0 ∨ (6 : Int) < a0) → mzCl d 1 [mzR 0, mzI (-1000001)] μ (mzQi fun r6 m5 => q r6 m5))) : mzCl (d + 1) 89 [mzR 0, mzI a0] μ (mzQi q) :=
  show mzWp (d + 1) 89 0 [mzR 0, mzI a0, none, none] [] μ (mzQi q) from mzVg_ok (cd := k_89) (cuts := [(73, [true, false, true, true])]) (n := 10) gd_89 h
theorem g89_73 {d : Nat} {q : Int → mzM → Prop} (x2 : Int) (x3 : Int) (μ : mzM) (h : ((10 : Int) ≤ x3 → q x2 μ) ∧ (x3 < 10 → ((0 : Int) ≤ mzW (308 + x3) ∧ (mzW (308 + x3) : Int) < 318) ∧ ((μ 1 ((mzW (308 + x3)).toNat) < 0 → mzWp (d + 1) 89 73 [mzR 0, none, mzI (mzW (x2 + 0)), mzI (mzW (x3 + 1))] [] μ (mzQi q)) ∧ ((0 : Int) ≤ μ 1 ((mzW (308 + x3)).toNat) → mzWp (d + 1) 89 73 [mzR 0, none, mzI (mzW (x2 + 1)), mzI (mzW (x3 + 1))] [] μ (mzQi q))))) : mzWp (d + 1) 89 73 [mzR 0, none, mzI x2, mzI x3] [] μ (mzQi q) :=
  show mzWp (d + 1) 89 73 [mzR 0, none, mzI x2, mzI x3] [] μ (mzQi q) from mzVg_ok (cd := k_89) (cuts := [(73, [true, false, true, true])]) (n := 19) gd_89 h
-- MeltPinsModel.status 
theorem g90_e {d : Nat} {q : Int → mzM → Prop} (a0 : Int) (μ : mzM) (h : mzCl d 2 [mzL a0, mzL (-1), mzL 6] μ (mzQi fun r2 m1 => (r2 ≠ 0 → mzWp (d + 1) 90 25 [mzR 0, mzI a0, mzI 0, mzI 0] [] m1 (mzQi q)) ∧ (r2 = 0 → mzCl d 1 [mzR 0, mzI (-1000001)] m1 (mzQi fun r4 m3 => q r4 m3)))) : mzCl (d + 1) 90 [mzR 0, mzI a0] μ (mzQi q) :=
  show mzWp (d + 1) 90 0 [mzR 0, mzI a0, none, none] [] μ (mzQi q) from mzVg_ok (cd := k_90) (cuts := [(25, [true, true, true, true])]) (n := 12) gd_90 h
theorem g90_25 {d : Nat} {q : Int → mzM → Prop} (x1 : Int) (x2 : Int) (x3 : Int) (μ : mzM) (h : ((7 : Int) ≤ x3 → q x2 μ) ∧ (x3 < 7 → (x1 < 0 → ((0 : Int) ≤ x3 ∧ (x3 : Int) < 7) ∧ (mzWp (d + 1) 90 25 [mzR 0, mzI x1, mzI (mzW (x2 + (μ 3 x3.toNat))), mzI (mzW (x3 + 1))] [] μ (mzQi q))) ∧ ((0 : Int) ≤ x1 → (x1 ≠ x3 → mzWp (d + 1) 90 25 [mzR 0, mzI x1, mzI (mzW (x2 + 0)), mzI (mzW (x3 + 1))] [] μ (mzQi q)) ∧ (x1 = x3 → ((0 : Int) ≤ x3 ∧ (x3 : Int) < 7) ∧ (mzWp (d + 1) 90 25 [mzR 0, mzI x1, mzI (mzW (x2 + (μ 3 x3.toNat))), mzI (mzW (x3 + 1))] [] μ (mzQi q)))))) : mzWp (d + 1) 90 25 [mzR 0, mzI x1, mzI x2, mzI x3] [] μ (mzQi q) :=
  show mzWp (d + 1) 90 25 [mzR 0, mzI x1, mzI x2, mzI x3] [] μ (mzQi q) from mzVg_ok (cd := k_90) (cuts := [(25, [true, true, true, true])]) (n := 20) gd_90 h
end
section
-- MeltPins$Sheet.lowestBits 
theorem g91_e {d : Nat} {q : Int → mzM → Prop} (o0 : Nat) (a0 : Int) (μ : mzM) (h : (o0 < 4) ∧ (((μ (44 + o0) 0 : Int) = 8 → q (mzB8 a0) μ) ∧ ((μ (44 + o0) 0 : Int) ≠ 8 → ((μ (44 + o0) 0 : Int) = 16 → q (mzB16 a0) μ) ∧ ((μ (44 + o0) 0 : Int) ≠ 16 → q a0 μ)))) : mzCl d 91 [mzP 44 o0, mzI a0] μ (mzQi q) :=
  show mzWp d 91 0 [mzP 44 o0, mzI a0] [] μ (mzQi q) from mzVg_ok (cd := k_91) (cuts := []) (n := 7) gd_91 h
-- MeltPins$Sheet.hasRow 
theorem g92_e {d : Nat} {q : Int → mzM → Prop} (o0 : Nat) (a0 : Int) (a1 : Int) (μ : mzM) (h : (a0 < 0 → ((0 : Int) = 0 ∨ (0 : Int) = 1) ∧ (q 0 μ)) ∧ ((0 : Int) ≤ a0 → (a1 < 0 → ((0 : Int) = 0 ∨ (0 : Int) = 1) ∧ (q 0 μ)) ∧ ((0 : Int) ≤ a1 → (o0 < 4) ∧ ((μ (44 + o0) 1 < a0 → ((0 : Int) = 0 ∨ (0 : Int) = 1) ∧ (q 0 μ)) ∧ (a0 ≤ μ (44 + o0) 1 → (o0 < 4) ∧ ((mzW ((μ (44 + o0) 1) - a0) < a1 → ((0 : Int) = 0 ∨ (0 : Int) = 1) ∧ (q 0 μ)) ∧ (a1 ≤ mzW ((μ (44 + o0) 1) - a0) → ((1 : Int) = 0 ∨ (1 : Int) = 1) ∧ (q 1 μ)))))))) : mzCl d 92 [mzP 44 o0, mzI a0, mzI a1] μ (mzQi q) :=
  show mzWp d 92 0 [mzP 44 o0, mzI a0, mzI a1] [] μ (mzQi q) from mzVg_ok (cd := k_92) (cuts := []) (n := 18) gd_92 h
-- MeltPins$Melt.survey 
theorem g102_e {d : Nat} {q : mzM → Prop}  (μ : mzM) (h : mzCl d 103 [mzR 16, mzI 0] μ (mzQv fun m1 => mzWp (d + 1) 102 7 [mzR 16, mzI 0, none, none, none, none] [] m1 (mzQv q))) : mzCl (d + 1) 102 [mzR 16] μ (mzQv q) :=
  show mzWp (d + 1) 102 0 [mzR 16, none, none, none, none, none] [] μ (mzQv q) from mzVg_ok (cd := k_102) (cuts := [(7, [true, true, false, false, false, false]), (25, [true, true, true, true, true, false])]) (n := 7) gd_102 h
theorem g102_7 {d : Nat} {q : mzM → Prop} (x1 : Int) (μ : mzM) (h : (μ 26 0 ≤ x1 → q μ) ∧ (x1 < μ 26 0 → mzWp (d + 1) 102 25 [mzR 16, mzI x1, mzI 0, mzI 0, mzI 0, none] [] μ (mzQv q))) : mzWp (d + 1) 102 7 [mzR 16, mzI x1, none, none, none, none] [] μ (mzQv q) :=
  show mzWp (d + 1) 102 7 [mzR 16, mzI x1, none, none, none, none] [] μ (mzQv q) from mzVg_ok (cd := k_102) (cuts := [(7, [true, true, false, false, false, false]), (25, [true, true, true, true, true, false])]) (n := 13) gd_102 h
theorem g102_25 {d : Nat} {q : mzM → Prop} (x1 : Int) (x2 : Int) (x3 : Int) (x4 : Int) (μ : mzM) (h : (μ 26 0 ≤ x4 → ((0 : Int) ≤ x1 ∧ (x1 : Int) < 12) ∧ (((0 : Int) ≤ x1 ∧ (x1 : Int) < 12) ∧ (mzWp (d + 1) 102 7 [mzR 16, mzI (mzW (x1 + 1)), none, none, none, none] [] (mzS (mzS μ 19 x1.toNat x2) 18 x1.toNat x3) (mzQv q)))) ∧ (x4 < μ 26 0 → ((0 : Int) ≤ x4 ∧ (x4 : Int) < 12) ∧ ((x4.toNat < 12 ∧ (0 : Int) ≤ x1 ∧ (x1 : Int) < 12) ∧ ((μ (88 + x4.toNat) x1.toNat ≤ 0 → mzWp (d + 1) 102 25 [mzR 16, mzI x1, mzI x2, mzI x3, mzI (mzW (x4 + 1)), none] [] μ (mzQv q)) ∧ ((0 : Int) < μ (88 + x4.toNat) x1.toNat → ((0 : Int) ≤ x1 ∧ (x1 : Int) < 12) ∧ ((x1.toNat < 12 ∧ (0 : Int) ≤ x2 ∧ (x2 : Int) < 12) ∧ (((0 : Int) ≤ x1 ∧ (x1 : Int) < 12) ∧ ((x1.toNat < 12 ∧ (0 : Int) ≤ x2 ∧ (x2 : Int) < 12) ∧ (mzWp (d + 1) 102 25 [mzR 16, mzI x1, mzI (mzW (x2 + 1)), mzI (mzOr x3 (mzShl 1 x4)), mzI (mzW (x4 + 1)), none] [] (mzS (mzS μ (124 + x1.toNat) x2.toNat x4) (136 + x1.toNat) x2.toNat (μ (88 + x4.toNat) x1.toNat)) (mzQv q)))))))))) : mzWp (d + 1) 102 25 [mzR 16, mzI x1, mzI x2, mzI x3, mzI x4, none] [] μ (mzQv q) :=
  show mzWp (d + 1) 102 25 [mzR 16, mzI x1, mzI x2, mzI x3, mzI x4, none] [] μ (mzQv q) from mzVg_ok (cd := k_102) (cuts := [(7, [true, true, false, false, false, false]), (25, [true, true, true, true, true, false])]) (n := 40) gd_102 h
-- MeltPins$Melt.lowerBars 
theorem g103_e {d : Nat} {q : mzM → Prop} (a0 : Int) (μ : mzM) (h : mzWp (d + 1) 103 2 [mzR 16, mzI a0, mzI 0] [] μ (mzQv q)) : mzCl (d + 1) 103 [mzR 16, mzI a0] μ (mzQv q) :=
  show mzWp (d + 1) 103 0 [mzR 16, mzI a0, none] [] μ (mzQv q) from mzVg_ok (cd := k_103) (cuts := [(2, [true, true, true])]) (n := 4) gd_103 h
theorem g103_2 {d : Nat} {q : mzM → Prop} (x1 : Int) (x2 : Int) (μ : mzM) (h : (μ 26 0 ≤ x2 → q μ) ∧ (x2 < μ 26 0 → ((0 : Int) ≤ x2 ∧ (x2 : Int) < 12) ∧ ((x2.toNat < 12 ∧ (0 : Int) ≤ 1 ∧ (1 : Int) < 9) ∧ (mzCl d 104 [mzR 16, mzI x2, mzI (mzMx 1 (mzW ((μ (52 + x2.toNat) 1) - x1)))] μ (mzQv fun m1 => mzWp (d + 1) 103 2 [mzR 16, mzI x1, mzI (mzW (x2 + 1))] [] m1 (mzQv q)))))) : mzWp (d + 1) 103 2 [mzR 16, mzI x1, mzI x2] [] μ (mzQv q) :=
  show mzWp (d + 1) 103 2 [mzR 16, mzI x1, mzI x2] [] μ (mzQv q) from mzVg_ok (cd := k_103) (cuts := [(2, [true, true, true])]) (n := 23) gd_103 h
-- MeltPins$Melt.takeBar 
theorem g104_e {d : Nat} {q : mzM → Prop} (a0 : Int) (a1 : Int) (μ : mzM) (h : mzCl d 97 [mzR 26, mzI a0, mzI a1] μ (mzQi fun r2 m1 => ((0 : Int) ≤ a0 ∧ (a0 : Int) < 12) ∧ (q (mzS m1 17 a0.toNat r2)))) : mzCl (d + 1) 104 [mzR 16, mzI a0, mzI a1] μ (mzQv q) :=
  show mzWp (d + 1) 104 0 [mzR 16, mzI a0, mzI a1] [] μ (mzQv q) from mzVg_ok (cd := k_104) (cuts := []) (n := 11) gd_104 h
-- MeltPins$Melt.mustBePushed 
theorem g105_e {d : Nat} {q : Int → mzM → Prop}  (μ : mzM) (h : mzWp (d + 1) 105 4 [mzR 16, mzI 0, mzI 0] [] μ (mzQi q)) : mzCl (d + 1) 105 [mzR 16] μ (mzQi q) :=
  show mzWp (d + 1) 105 0 [mzR 16, none, none] [] μ (mzQi q) from mzVg_ok (cd := k_105) (cuts := [(4, [true, true, true])]) (n := 6) gd_105 h
theorem g105_4 {d : Nat} {q : Int → mzM → Prop} (x1 : Int) (x2 : Int) (μ : mzM) (h : (μ 26 0 ≤ x2 → q x1 μ) ∧ (x2 < μ 26 0 → mzCl d 94 [mzR 26] μ (mzQi fun r2 m1 => mzCl d 112 [mzR 16, mzI x2, mzI r2] m1 (mzQi fun r4 m3 => ((0 : Int) ≤ x2 ∧ (x2 : Int) < 12) ∧ ((m3 17 x2.toNat ≤ r4 → mzWp (d + 1) 105 4 [mzR 16, mzI x1, mzI (mzW (x2 + 1))] [] m3 (mzQi q)) ∧ (r4 < m3 17 x2.toNat → mzWp (d + 1) 105 4 [mzR 16, mzI (mzOr x1 (mzShl 1 x2)), mzI (mzW (x2 + 1))] [] m3 (mzQi q))))))) : mzWp (d + 1) 105 4 [mzR 16, mzI x1, mzI x2] [] μ (mzQi q) :=
  show mzWp (d + 1) 105 4 [mzR 16, mzI x1, mzI x2] [] μ (mzQi q) from mzVg_ok (cd := k_105) (cuts := [(4, [true, true, true])]) (n := 26) gd_105 h
-- MeltPins$Melt.standsAll 
theorem g106_e {d : Nat} {q : Int → mzM → Prop} (a0 : Int) (μ : mzM) (h : mzCl d 107 [mzR 16, mzI a0, mzI (μ 26 3)] μ (mzQi fun r2 m1 => mzCl d 94 [mzR 26] m1 (mzQi fun r4 m3 => (r2 ≠ r4 → ((0 : Int) = 0 ∨ (0 : Int) = 1) ∧ (q 0 m3)) ∧ (r2 = r4 → ((1 : Int) = 0 ∨ (1 : Int) = 1) ∧ (q 1 m3))))) : mzCl (d + 1) 106 [mzR 16, mzI a0] μ (mzQi q) :=
  show mzWp (d + 1) 106 0 [mzR 16, mzI a0] [] μ (mzQi q) from mzVg_ok (cd := k_106) (cuts := []) (n := 14) gd_106 h
-- MeltPins$Melt.standOf 
theorem g107_e {d : Nat} {q : Int → mzM → Prop} (a0 : Int) (a1 : Int) (μ : mzM) (h : mzCl d 108 [mzR 16, mzI a1] μ (mzQv fun m1 => mzCl d 109 [mzR 16, mzI a0] m1 (mzQi fun r3 m2 => mzWp (d + 1) 107 14 [mzR 16, none, none, mzI r3, mzI 1] [] m2 (mzQi q)))) : mzCl (d + 1) 107 [mzR 16, mzI a0, mzI a1] μ (mzQi q) :=
  show mzWp (d + 1) 107 0 [mzR 16, mzI a0, mzI a1, none, none] [] μ (mzQi q) from mzVg_ok (cd := k_107) (cuts := [(14, [true, false, false, true, true])]) (n := 11) gd_107 h
theorem g107_14 {d : Nat} {q : Int → mzM → Prop} (x3 : Int) (x4 : Int) (μ : mzM) (h : ((24 : Int) ≤ x4 → q (μ 16 7) μ) ∧ (x4 < 24 → (x3 = 0 → q (μ 16 7) μ) ∧ (x3 ≠ 0 → mzCl d 109 [mzR 16, mzI 0] μ (mzQi fun r2 m1 => mzWp (d + 1) 107 14 [mzR 16, none, none, mzI r2, mzI (mzW (x4 + 1))] [] m1 (mzQi q))))) : mzWp (d + 1) 107 14 [mzR 16, none, none, mzI x3, mzI x4] [] μ (mzQi q) :=
  show mzWp (d + 1) 107 14 [mzR 16, none, none, mzI x3, mzI x4] [] μ (mzQi q) from mzVg_ok (cd := k_107) (cuts := [(14, [true, false, false, true, true])]) (n := 13) gd_107 h
-- MeltPins$Melt.begin 
theorem g108_e {d : Nat} {q : mzM → Prop} (a0 : Int) (μ : mzM) (h : mzCl d 191 [mzR 22, mzI 0] (mzS (mzS (mzS μ 16 7 0) 16 8 0) 16 9 a0) (mzQv fun m1 => q m1)) : mzCl (d + 1) 108 [mzR 16, mzI a0] μ (mzQv q) :=
  show mzWp (d + 1) 108 0 [mzR 16, mzI a0] [] μ (mzQv q) from mzVg_ok (cd := k_108) (cuts := []) (n := 15) gd_108 h
-- MeltPins$Melt.passYear 
theorem g109_e {d : Nat} {q : Int → mzM → Prop} (a0 : Int) (μ : mzM) (h : (a0 = 0 → mzWp (d + 1) 109 48 [mzR 16, mzI a0, mzI (μ 16 7), mzI (mzOr (μ 16 7) (mzAnd (mzAnd a0 (mzXor (μ 16 9) (-1))) (mzXor (μ 16 8) (-1)))), mzI 0, mzI 0, none] [] (mzS μ 16 7 (mzOr (μ 16 7) (mzAnd (mzAnd a0 (mzXor (μ 16 9) (-1))) (mzXor (μ 16 8) (-1))))) (mzQi q)) ∧ (a0 ≠ 0 → mzWp (d + 1) 109 48 [mzR 16, mzI a0, mzI (μ 16 7), mzI (mzOr (μ 16 7) (mzAnd (mzAnd a0 (mzXor (μ 16 9) (-1))) (mzXor (μ 16 8) (-1)))), mzI 1, mzI 0, none] [] (mzS μ 16 7 (mzOr (μ 16 7) (mzAnd (mzAnd a0 (mzXor (μ 16 9) (-1))) (mzXor (μ 16 8) (-1))))) (mzQi q))) : mzCl (d + 1) 109 [mzR 16, mzI a0] μ (mzQi q) :=
  show mzWp (d + 1) 109 0 [mzR 16, mzI a0, none, none, none, none, none] [] μ (mzQi q) from mzVg_ok (cd := k_109) (cuts := [(48, [true, true, true, true, true, true, false])]) (n := 31) gd_109 h
theorem g109_48 {d : Nat} {q : Int → mzM → Prop} (x1 : Int) (x2 : Int) (x3 : Int) (x4 : Int) (x5 : Int) (μ : mzM) (h : (μ 26 0 ≤ x5 → mzCl d 111 [mzR 16, mzI (mzAnd (μ 16 7) (mzXor x2 (-1)))] μ (mzQv fun m1 => ((x4 : Int) = 0 ∨ (x4 : Int) = 1) ∧ (q x4 m1))) ∧ (x5 < μ 26 0 → (mzAnd x3 (mzShl 1 x5) = 0 → (mzAnd (mzOr (μ 16 9) (μ 16 8)) (mzShl 1 x5) ≠ 0 → mzWp (d + 1) 109 48 [mzR 16, mzI x1, mzI x2, mzI x3, mzI x4, mzI (mzW (x5 + 1)), none] [] μ (mzQi q)) ∧ (mzAnd (mzOr (μ 16 9) (μ 16 8)) (mzShl 1 x5) = 0 → mzCl d 113 [mzR 16, mzI x5, mzI x3] μ (mzQi fun r3 m2 => mzCl d 110 [mzR 16, mzI x5, mzI r3] m2 (mzQi fun r5 m4 => (r5 = 0 → mzWp (d + 1) 109 48 [mzR 16, mzI x1, mzI x2, mzI x3, mzI x4, mzI (mzW (x5 + 1)), none] [] m4 (mzQi q)) ∧ (r5 ≠ 0 → mzWp (d + 1) 109 48 [mzR 16, mzI x1, mzI x2, mzI x3, mzI 1, mzI (mzW (x5 + 1)), none] [] m4 (mzQi q)))))) ∧ (mzAnd x3 (mzShl 1 x5) ≠ 0 → (mzAnd x1 (mzShl 1 x5) ≠ 0 → mzWp (d + 1) 109 48 [mzR 16, mzI x1, mzI x2, mzI x3, mzI x4, mzI (mzW (x5 + 1)), none] [] μ (mzQi q)) ∧ (mzAnd x1 (mzShl 1 x5) = 0 → mzCl d 114 [mzR 16, mzI x5, mzI x3] μ (mzQi fun r7 m6 => (r7 = 0 → mzWp (d + 1) 109 48 [mzR 16, mzI x1, mzI x2, mzI x3, mzI x4, mzI (mzW (x5 + 1)), none] [] m6 (mzQi q)) ∧ (r7 ≠ 0 → ((0 : Int) ≤ x5 ∧ (x5 : Int) < 12) ∧ (mzWp (d + 1) 109 48 [mzR 16, mzI x1, mzI x2, mzI x3, mzI 1, mzI (mzW (x5 + 1)), none] [] (mzS (mzS m6 16 7 (mzAnd (m6 16 7) (mzXor (mzShl 1 x5) (-1)))) 22 x5.toNat 0) (mzQi q)))))))) : mzWp (d + 1) 109 48 [mzR 16, mzI x1, mzI x2, mzI x3, mzI x4, mzI x5, none] [] μ (mzQi q) :=
  show mzWp (d + 1) 109 48 [mzR 16, mzI x1, mzI x2, mzI x3, mzI x4, mzI x5, none] [] μ (mzQi q) from mzVg_ok (cd := k_109) (cuts := [(48, [true, true, true, true, true, true, false])]) (n := 42) gd_109 h
-- MeltPins$Melt.walk 
theorem g110_e {d : Nat} {q : Int → mzM → Prop} (a0 : Int) (a1 : Int) (μ : mzM) (h : ((0 : Int) ≤ a0 ∧ (a0 : Int) < 12) ∧ ((a1 ≠ 0 → ((0 : Int) ≤ a0 ∧ (a0 : Int) < 12) ∧ (((0 : Int) ≤ a0 ∧ (a0 : Int) < 12) ∧ (((0 : Int) ≤ a0 ∧ (a0 : Int) < 12) ∧ (((0 : Int) ≤ a0 ∧ (a0 : Int) < 12) ∧ ((a0.toNat < 12 ∧ (0 : Int) ≤ 3 ∧ (3 : Int) < 9) ∧ (((mzS μ 22 a0.toNat (mzW ((μ 22 a0.toNat) + 1))) 22 a0.toNat ≤ (mzS μ 22 a0.toNat (mzW ((μ 22 a0.toNat) + 1))) (52 + a0.toNat) 3 → ((1 : Int) = 0 ∨ (1 : Int) = 1) ∧ (q 1 (mzS μ 22 a0.toNat (mzW ((μ 22 a0.toNat) + 1))))) ∧ ((mzS μ 22 a0.toNat (mzW ((μ 22 a0.toNat) + 1))) (52 + a0.toNat) 3 < (mzS μ 22 a0.toNat (mzW ((μ 22 a0.toNat) + 1))) 22 a0.toNat → ((1 : Int) = 0 ∨ (1 : Int) = 1) ∧ (q 1 (mzS (mzS μ 22 a0.toNat (mzW ((μ 22 a0.toNat) + 1))) 16 7 (mzOr (μ 16 7) (mzShl 1 a0))))))))))) ∧ (a1 = 0 → ((0 : Int) ≤ a0 ∧ (a0 : Int) < 12) ∧ ((μ 22 a0.toNat = 0 → ((0 : Int) = 0 ∨ (0 : Int) = 1) ∧ (q 0 (mzS μ 22 a0.toNat 0))) ∧ (μ 22 a0.toNat ≠ 0 → ((1 : Int) = 0 ∨ (1 : Int) = 1) ∧ (q 1 (mzS μ 22 a0.toNat 0))))))) : mzCl d 110 [mzR 16, mzI a0, mzI a1] μ (mzQi q) :=
  show mzWp d 110 0 [mzR 16, mzI a0, mzI a1, none] [] μ (mzQi q) from mzVg_ok (cd := k_110) (cuts := []) (n := 38) gd_110 h
-- MeltPins$Melt.drownSpoilt 
theorem g111_e {d : Nat} {q : mzM → Prop} (a0 : Int) (μ : mzM) (h : mzWp d 111 4 [mzR 16, mzI a0, mzI 0, mzI 0, none] [] μ (mzQv q)) : mzCl d 111 [mzR 16, mzI a0] μ (mzQv q) :=
  show mzWp d 111 0 [mzR 16, mzI a0, none, none, none] [] μ (mzQv q) from mzVg_ok (cd := k_111) (cuts := [(4, [true, true, true, true, false]), (94, [true, false, true, true, false])]) (n := 6) gd_111 h
theorem g111_4 {d : Nat} {q : mzM → Prop} (x1 : Int) (x2 : Int) (x3 : Int) (μ : mzM) (h : (μ 26 0 ≤ x3 → mzWp d 111 94 [mzR 16, none, mzI x2, mzI 0, none] [] (mzS (mzS μ 16 8 (mzOr (μ 16 8) x2)) 16 7 (mzAnd (μ 16 7) (mzXor x2 (-1)))) (mzQv q)) ∧ (x3 < μ 26 0 → ((0 : Int) ≤ x3 ∧ (x3 : Int) < 12) ∧ ((x3.toNat < 12 ∧ (0 : Int) ≤ 7 ∧ (7 : Int) < 9) ∧ ((mzAnd (mzShr x1 x3) 1 = 0 → mzWp d 111 4 [mzR 16, mzI x1, mzI x2, mzI (mzW (x3 + 1)), none] [] μ (mzQv q)) ∧ (mzAnd (mzShr x1 x3) 1 ≠ 0 → ((0 : Int) ≤ x3 ∧ (x3 : Int) < 12) ∧ ((x3.toNat < 12 ∧ (0 : Int) ≤ 0 ∧ (0 : Int) < 9) ∧ ((μ (52 + x3.toNat) 0 ≠ 4 → mzWp d 111 4 [mzR 16, mzI x1, mzI x2, mzI (mzW (x3 + 1)), none] [] μ (mzQv q)) ∧ (μ (52 + x3.toNat) 0 = 4 → (μ (52 + x3.toNat) 7 < 0 → mzWp d 111 4 [mzR 16, mzI x1, mzI x2, mzI (mzW (x3 + 1)), none] [] μ (mzQv q)) ∧ ((0 : Int) ≤ μ (52 + x3.toNat) 7 → mzWp d 111 4 [mzR 16, mzI x1, mzI (mzOr x2 (mzShl 1 (μ (52 + x3.toNat) 7))), mzI (mzW (x3 + 1)), none] [] μ (mzQv q)))))))))) : mzWp d 111 4 [mzR 16, mzI x1, mzI x2, mzI x3, none] [] μ (mzQv q) :=
  show mzWp d 111 4 [mzR 16, mzI x1, mzI x2, mzI x3, none] [] μ (mzQv q) from mzVg_ok (cd := k_111) (cuts := [(4, [true, true, true, true, false]), (94, [true, false, true, true, false])]) (n := 40) gd_111 h
theorem g111_94 {d : Nat} {q : mzM → Prop} (x2 : Int) (x3 : Int) (μ : mzM) (h : (μ 26 0 ≤ x3 → q μ) ∧ (x3 < μ 26 0 → (mzAnd (mzShr x2 x3) 1 = 0 → mzWp d 111 94 [mzR 16, none, mzI x2, mzI (mzW (x3 + 1)), none] [] μ (mzQv q)) ∧ (mzAnd (mzShr x2 x3) 1 ≠ 0 → ((0 : Int) ≤ x3 ∧ (x3 : Int) < 12) ∧ (mzWp d 111 94 [mzR 16, none, mzI x2, mzI (mzW (x3 + 1)), none] [] (mzS μ 22 x3.toNat 0) (mzQv q))))) : mzWp d 111 94 [mzR 16, none, mzI x2, mzI x3, none] [] μ (mzQv q) :=
  show mzWp d 111 94 [mzR 16, none, mzI x2, mzI x3, none] [] μ (mzQv q) from mzVg_ok (cd := k_111) (cuts := [(4, [true, true, true, true, false]), (94, [true, false, true, true, false])]) (n := 20) gd_111 h
-- MeltPins$Melt.gets 
theorem g112_e {d : Nat} {q : Int → mzM → Prop} (a0 : Int) (a1 : Int) (μ : mzM) (h : mzWp d 112 5 [mzR 16, mzI a0, mzI a1, mzI 0, mzI 0] [] μ (mzQi q)) : mzCl d 112 [mzR 16, mzI a0, mzI a1] μ (mzQi q) :=
  show mzWp d 112 0 [mzR 16, mzI a0, mzI a1, none, none] [] μ (mzQi q) from mzVg_ok (cd := k_112) (cuts := [(5, [true, true, true, true, true])]) (n := 6) gd_112 h
theorem g112_5 {d : Nat} {q : Int → mzM → Prop} (x1 : Int) (x2 : Int) (x3 : Int) (x4 : Int) (μ : mzM) (h : ((0 : Int) ≤ x1 ∧ (x1 : Int) < 12) ∧ ((μ 19 x1.toNat ≤ x4 → q x3 μ) ∧ (x4 < μ 19 x1.toNat → ((0 : Int) ≤ x1 ∧ (x1 : Int) < 12) ∧ ((x1.toNat < 12 ∧ (0 : Int) ≤ x4 ∧ (x4 : Int) < 12) ∧ ((mzAnd (mzShr x2 (μ (124 + x1.toNat) x4.toNat)) 1 = 0 → mzWp d 112 5 [mzR 16, mzI x1, mzI x2, mzI x3, mzI (mzW (x4 + 1))] [] μ (mzQi q)) ∧ (mzAnd (mzShr x2 (μ (124 + x1.toNat) x4.toNat)) 1 ≠ 0 → ((0 : Int) ≤ x1 ∧ (x1 : Int) < 12) ∧ ((x1.toNat < 12 ∧ (0 : Int) ≤ x4 ∧ (x4 : Int) < 12) ∧ (mzWp d 112 5 [mzR 16, mzI x1, mzI x2, mzI (mzW (x3 + (μ (136 + x1.toNat) x4.toNat))), mzI (mzW (x4 + 1))] [] μ (mzQi q))))))))) : mzWp d 112 5 [mzR 16, mzI x1, mzI x2, mzI x3, mzI x4] [] μ (mzQi q) :=
  show mzWp d 112 5 [mzR 16, mzI x1, mzI x2, mzI x3, mzI x4] [] μ (mzQi q) from mzVg_ok (cd := k_112) (cuts := [(5, [true, true, true, true, true])]) (n := 30) gd_112 h
-- MeltPins$Melt.goes 
theorem g113_e {d : Nat} {q : Int → mzM → Prop} (a0 : Int) (a1 : Int) (μ : mzM) (h : mzCl d 112 [mzR 16, mzI a0, mzI a1] μ (mzQi fun r2 m1 => ((0 : Int) ≤ a0 ∧ (a0 : Int) < 12) ∧ ((m1 17 a0.toNat ≤ r2 → ((0 : Int) ≤ a0 ∧ (a0 : Int) < 12) ∧ ((a0.toNat < 12 ∧ (0 : Int) ≤ 0 ∧ (0 : Int) < 9) ∧ ((m1 (52 + a0.toNat) 0 ≠ 3 → ((1 : Int) = 0 ∨ (1 : Int) = 1) ∧ (q 1 m1)) ∧ (m1 (52 + a0.toNat) 0 = 3 → ((0 : Int) ≤ a0 ∧ (a0 : Int) < 12) ∧ (mzCl d 190 [mzI (mzAnd a1 (m1 18 a0.toNat))] m1 (mzQi fun r4 m3 => (r4 < 2 → ((0 : Int) = 0 ∨ (0 : Int) = 1) ∧ (q 0 m3)) ∧ ((2 : Int) ≤ r4 → ((1 : Int) = 0 ∨ (1 : Int) = 1) ∧ (q 1 m3)))))))) ∧ (r2 < m1 17 a0.toNat → ((0 : Int) = 0 ∨ (0 : Int) = 1) ∧ (q 0 m1))))) : mzCl (d + 1) 113 [mzR 16, mzI a0, mzI a1] μ (mzQi q) :=
  show mzWp (d + 1) 113 0 [mzR 16, mzI a0, mzI a1] [] μ (mzQi q) from mzVg_ok (cd := k_113) (cuts := []) (n := 31) gd_113 h
-- MeltPins$Melt.falls 
theorem g114_e {d : Nat} {q : Int → mzM → Prop} (a0 : Int) (a1 : Int) (μ : mzM) (h : ((0 : Int) ≤ a0 ∧ (a0 : Int) < 12) ∧ ((a0.toNat < 12 ∧ (0 : Int) ≤ 0 ∧ (0 : Int) < 9) ∧ (((μ (52 + a0.toNat) 0 : Int) = 2 → mzCl d 112 [mzR 16, mzI a0, mzI a1] μ (mzQi fun r4 m3 => (a0.toNat < 12 ∧ (0 : Int) ≤ 2 ∧ (2 : Int) < 9) ∧ ((m3 (52 + a0.toNat) 2 ≤ r4 → ((0 : Int) = 0 ∨ (0 : Int) = 1) ∧ (q 0 m3)) ∧ (r4 < m3 (52 + a0.toNat) 2 → ((1 : Int) = 0 ∨ (1 : Int) = 1) ∧ (q 1 m3))))) ∧ ((μ (52 + a0.toNat) 0 : Int) ≠ 2 → ((μ (52 + a0.toNat) 0 : Int) = 5 → (a0.toNat < 12 ∧ (0 : Int) ≤ 8 ∧ (8 : Int) < 9) ∧ ((μ (52 + a0.toNat) 8 ≠ 0 → ((0 : Int) = 0 ∨ (0 : Int) = 1) ∧ (q 0 μ)) ∧ (μ (52 + a0.toNat) 8 = 0 → mzCl d 112 [mzR 16, mzI a0, mzI a1] μ (mzQi fun r2 m1 => (a0.toNat < 12 ∧ (0 : Int) ≤ 2 ∧ (2 : Int) < 9) ∧ ((m1 (52 + a0.toNat) 2 ≤ r2 → ((0 : Int) = 0 ∨ (0 : Int) = 1) ∧ (q 0 m1)) ∧ (r2 < m1 (52 + a0.toNat) 2 → ((1 : Int) = 0 ∨ (1 : Int) = 1) ∧ (q 1 m1))))))) ∧ ((μ (52 + a0.toNat) 0 : Int) ≠ 5 → ((0 : Int) = 0 ∨ (0 : Int) = 1) ∧ (q 0 μ)))))) : mzCl (d + 1) 114 [mzR 16, mzI a0, mzI a1] μ (mzQi q) :=
  show mzWp (d + 1) 114 0 [mzR 16, mzI a0, mzI a1, none] [] μ (mzQi q) from mzVg_ok (cd := k_114) (cuts := []) (n := 26) gd_114 h
-- MeltPins$Tape.append 
theorem g115_e {d : Nat} {q : mzM → Prop} (a0 : Int) (μ : mzM) (h : ((120 : Int) ≤ μ 23 1 → q μ) ∧ (μ 23 1 < 120 → ((0 : Int) ≤ μ 23 1 ∧ (μ 23 1 : Int) < 120) ∧ (q (mzS (mzS μ 24 ((μ 23 1).toNat) (mzAnd a0 255)) 23 1 (mzW ((μ 23 1) + 1)))))) : mzCl d 115 [mzR 23, mzI a0] μ (mzQv q) :=
  show mzWp d 115 0 [mzR 23, mzI a0] [] μ (mzQv q) from mzVg_ok (cd := k_115) (cuts := []) (n := 20) gd_115 h
-- MeltPins$Tape.readText 
theorem g116_e {d : Nat} {q : Int → mzM → Prop}  (μ : mzM) (h : mzCl d 119 [mzR 23] (mzS μ 23 4 0) (mzQv fun m1 => mzWp (d + 1) 116 11 [mzR 23, mzR 28, mzI 0, none] [] m1 (mzQi q))) : mzCl (d + 1) 116 [mzR 23, mzR 28] μ (mzQi q) :=
  show mzWp (d + 1) 116 0 [mzR 23, mzR 28, none, none] [] μ (mzQi q) from mzVg_ok (cd := k_116) (cuts := [(11, [true, true, true, false])]) (n := 9) gd_116 h
theorem g116_11 {d : Nat} {q : Int → mzM → Prop} (x2 : Int) (μ : mzM) (h : ((120 : Int) < x2 → q (μ 23 3) μ) ∧ (x2 ≤ 120 → (μ 23 2 ≠ 2 → mzCl d 117 [mzR 23, mzR 28] μ (mzQi fun r2 m1 => (r2 ≠ 0 → (m1 23 2 ≠ 0 → (m1 23 2 = 3 → mzCl d 119 [mzR 23] m1 (mzQv fun m3 => mzWp (d + 1) 116 11 [mzR 23, mzR 28, mzI (mzW (x2 + 1)), none] [] m3 (mzQi q))) ∧ (m1 23 2 ≠ 3 → q (m1 23 3) m1)) ∧ (m1 23 2 = 0 → q (-1) m1)) ∧ (r2 = 0 → q (m1 23 3) m1))) ∧ (μ 23 2 = 2 → mzCl d 118 [mzR 23, mzR 28] μ (mzQi fun r5 m4 => (r5 ≠ 0 → (m4 23 2 ≠ 0 → (m4 23 2 = 3 → mzCl d 119 [mzR 23] m4 (mzQv fun m6 => mzWp (d + 1) 116 11 [mzR 23, mzR 28, mzI (mzW (x2 + 1)), none] [] m6 (mzQi q))) ∧ (m4 23 2 ≠ 3 → q (m4 23 3) m4)) ∧ (m4 23 2 = 0 → q (-1) m4)) ∧ (r5 = 0 → q (m4 23 3) m4))))) : mzWp (d + 1) 116 11 [mzR 23, mzR 28, mzI x2, none] [] μ (mzQi q) :=
  show mzWp (d + 1) 116 11 [mzR 23, mzR 28, mzI x2, none] [] μ (mzQi q) from mzVg_ok (cd := k_116) (cuts := [(11, [true, true, true, false])]) (n := 27) gd_116 h
-- MeltPins$Tape.readPlace 
theorem g117_e {d : Nat} {q : Int → mzM → Prop}  (μ : mzM) (h : mzCl d 125 [mzR 23] μ (mzQi fun r2 m1 => (r2 < 0 → ((0 : Int) = 0 ∨ (0 : Int) = 1) ∧ (q 0 m1)) ∧ ((0 : Int) ≤ r2 → (m1 28 0 < 12 → mzCl d 119 [mzR 23] m1 (mzQv fun m3 => mzCl d 123 [mzR 23, mzI 1, mzI 99] m3 (mzQi fun r5 m4 => (r5 ≠ 0 → mzCl d 95 [mzR 28, mzI r2, mzI (m4 23 5)] m4 (mzQr fun p7 r8 m6 => p7 = 76 ∧ (mzCl d 119 [mzR 23] m6 (mzQv fun m9 => mzWp (d + 1) 117 53 [mzR 23, none, none, mzP 76 r8, mzI 0, none] [] m9 (mzQi q))))) ∧ (r5 = 0 → ((0 : Int) = 0 ∨ (0 : Int) = 1) ∧ (q 0 m4))))) ∧ ((12 : Int) ≤ m1 28 0 → ((0 : Int) = 0 ∨ (0 : Int) = 1) ∧ (q 0 m1))))) : mzCl (d + 1) 117 [mzR 23, mzR 28] μ (mzQi q) :=
  show mzWp (d + 1) 117 0 [mzR 23, mzR 28, none, none, none, none] [] μ (mzQi q) from mzVg_ok (cd := k_117) (cuts := [(53, [true, false, false, true, true, false])]) (n := 28) gd_117 h
theorem g117_53 {d : Nat} {q : Int → mzM → Prop} (x3 : Nat) (x4 : Int) (μ : mzM) (h : ((120 : Int) < x4 → ((1 : Int) = 0 ∨ (1 : Int) = 1) ∧ (q 1 μ)) ∧ (x4 ≤ 120 → (μ 23 2 ≠ 1 → ((1 : Int) = 0 ∨ (1 : Int) = 1) ∧ (q 1 μ)) ∧ (μ 23 2 = 1 → mzCl d 126 [mzR 23] μ (mzQi fun r2 m1 => ((0 : Int) ≤ r2 → mzCl d 119 [mzR 23] m1 (mzQv fun m3 => ((0 : Int) ≤ r2 ∧ (r2 : Int) < 9) ∧ (((0 : Int) ≤ r2 ∧ (r2 : Int) < 9) ∧ (mzCl d 123 [mzR 23, mzI (mzCst 201 r2.toNat), mzI (mzCst 202 r2.toNat)] m3 (mzQi fun r5 m4 => (r5 ≠ 0 → (x3 < 12 ∧ (0 : Int) ≤ r2 ∧ (r2 : Int) < 9) ∧ (mzCl d 119 [mzR 23] (mzS m4 (76 + x3) r2.toNat (m4 23 5)) (mzQv fun m6 => mzWp (d + 1) 117 53 [mzR 23, none, none, mzP 76 x3, mzI (mzW (x4 + 1)), none] [] m6 (mzQi q)))) ∧ (r5 = 0 → ((0 : Int) = 0 ∨ (0 : Int) = 1) ∧ (q 0 m4))))))) ∧ (r2 < 0 → ((0 : Int) = 0 ∨ (0 : Int) = 1) ∧ (q 0 m1)))))) : mzWp (d + 1) 117 53 [mzR 23, none, none, mzP 76 x3, mzI x4, none] [] μ (mzQi q) :=
  show mzWp (d + 1) 117 53 [mzR 23, none, none, mzP 76 x3, mzI x4, none] [] μ (mzQi q) from mzVg_ok (cd := k_117) (cuts := [(53, [true, false, false, true, true, false])]) (n := 34) gd_117 h
-- MeltPins$Tape.readTie 
theorem g118_e {d : Nat} {q : Int → mzM → Prop}  (μ : mzM) (h : mzCl d 123 [mzR 23, mzI 0, mzI (mzW ((μ 28 0) - 1))] μ (mzQi fun r2 m1 => (r2 = 0 → ((0 : Int) = 0 ∨ (0 : Int) = 1) ∧ (q 0 m1)) ∧ (r2 ≠ 0 → (m1 28 1 < 40 → mzCl d 119 [mzR 23] m1 (mzQv fun m3 => mzCl d 124 [mzR 23, mzP 300 0] m3 (mzQi fun r5 m4 => (r5 ≠ 0 → mzWp (d + 1) 118 45 [mzR 23, mzR 28, mzI (m1 23 5), none] [] m4 (mzQi q)) ∧ (r5 = 0 → ((0 : Int) = 0 ∨ (0 : Int) = 1) ∧ (q 0 m4))))) ∧ ((40 : Int) ≤ m1 28 1 → ((0 : Int) = 0 ∨ (0 : Int) = 1) ∧ (q 0 m1))))) : mzCl (d + 1) 118 [mzR 23, mzR 28] μ (mzQi q) :=
  show mzWp (d + 1) 118 0 [mzR 23, mzR 28, none, none] [] μ (mzQi q) from mzVg_ok (cd := k_118) (cuts := [(45, [true, true, true, false]), (87, [true, true, true, false])]) (n := 24) gd_118 h
theorem g118_45 {d : Nat} {q : Int → mzM → Prop} (x2 : Int) (μ : mzM) (h : mzCl d 119 [mzR 23] μ (mzQv fun m1 => mzCl d 123 [mzR 23, mzI 0, mzI (mzW ((m1 28 0) - 1))] m1 (mzQi fun r3 m2 => (r3 = 0 → ((0 : Int) = 0 ∨ (0 : Int) = 1) ∧ (q 0 m2)) ∧ (r3 ≠ 0 → (m2 23 5 = x2 → ((0 : Int) = 0 ∨ (0 : Int) = 1) ∧ (q 0 m2)) ∧ (m2 23 5 ≠ x2 → ((0 : Int) ≤ x2 ∧ (x2 : Int) < 12) ∧ ((x2.toNat < 12 ∧ (0 : Int) ≤ m2 23 5 ∧ (m2 23 5 : Int) < 12) ∧ ((m2 (112 + x2.toNat) ((m2 23 5).toNat) = 0 → mzWp (d + 1) 118 87 [mzR 23, mzR 28, mzI x2, none] [] m2 (mzQi q)) ∧ (m2 (112 + x2.toNat) ((m2 23 5).toNat) ≠ 0 → ((0 : Int) = 0 ∨ (0 : Int) = 1) ∧ (q 0 m2))))))))) : mzWp (d + 1) 118 45 [mzR 23, mzR 28, mzI x2, none] [] μ (mzQi q) :=
  show mzWp (d + 1) 118 45 [mzR 23, mzR 28, mzI x2, none] [] μ (mzQi q) from mzVg_ok (cd := k_118) (cuts := [(45, [true, true, true, false]), (87, [true, true, true, false])]) (n := 25) gd_118 h
theorem g118_87 {d : Nat} {q : Int → mzM → Prop} (x2 : Int) (μ : mzM) (h : mzCl d 119 [mzR 23] μ (mzQv fun m1 => mzCl d 124 [mzR 23, mzP 300 1] m1 (mzQi fun r3 m2 => (r3 ≠ 0 → mzCl d 119 [mzR 23] m2 (mzQv fun m4 => mzCl d 123 [mzR 23, mzI 1, mzI 99] m4 (mzQi fun r6 m5 => (r6 ≠ 0 → mzCl d 96 [mzR 28, mzI x2, mzI (μ 23 5), mzI (m5 23 5)] m5 (mzQv fun m7 => mzCl d 119 [mzR 23] m7 (mzQv fun m8 => ((1 : Int) = 0 ∨ (1 : Int) = 1) ∧ (q 1 m8)))) ∧ (r6 = 0 → ((0 : Int) = 0 ∨ (0 : Int) = 1) ∧ (q 0 m5))))) ∧ (r3 = 0 → ((0 : Int) = 0 ∨ (0 : Int) = 1) ∧ (q 0 m2))))) : mzWp (d + 1) 118 87 [mzR 23, mzR 28, mzI x2, none] [] μ (mzQi q) :=
  show mzWp (d + 1) 118 87 [mzR 23, mzR 28, mzI x2, none] [] μ (mzQi q) from mzVg_ok (cd := k_118) (cuts := [(45, [true, true, true, false]), (87, [true, true, true, false])]) (n := 27) gd_118 h
-- MeltPins$Tape.nextToken 
theorem g119_e {d : Nat} {q : mzM → Prop}  (μ : mzM) (h : mzWp (d + 1) 119 8 [mzR 23] [] (mzS μ 23 3 (μ 23 4)) (mzQv q)) : mzCl (d + 1) 119 [mzR 23] μ (mzQv q) :=
  show mzWp (d + 1) 119 0 [mzR 23] [] μ (mzQv q) from mzVg_ok (cd := k_119) (cuts := [(8, [true]), (46, [true]), (93, [true])]) (n := 6) gd_119 h
theorem g119_8 {d : Nat} {q : mzM → Prop}  (μ : mzM) (h : (μ 23 1 ≤ μ 23 3 → mzWp (d + 1) 119 46 [mzR 23] [] μ (mzQv q)) ∧ (μ 23 3 < μ 23 1 → ((0 : Int) ≤ μ 23 3 ∧ (μ 23 3 : Int) < 120) ∧ ((μ 24 ((μ 23 3).toNat) ≠ 32 → mzWp (d + 1) 119 46 [mzR 23] [] μ (mzQv q)) ∧ (μ 24 ((μ 23 3).toNat) = 32 → mzWp (d + 1) 119 8 [mzR 23] [] (mzS μ 23 3 (mzW ((μ 23 3) + 1))) (mzQv q))))) : mzWp (d + 1) 119 8 [mzR 23] [] μ (mzQv q) :=
  show mzWp (d + 1) 119 8 [mzR 23] [] μ (mzQv q) from mzVg_ok (cd := k_119) (cuts := [(8, [true]), (46, [true]), (93, [true])]) (n := 21) gd_119 h
theorem g119_46 {d : Nat} {q : mzM → Prop}  (μ : mzM) (h : (μ 23 3 < μ 23 1 → ((0 : Int) ≤ μ 23 3 ∧ (μ 23 3 : Int) < 120) ∧ (mzCl d 121 [mzI (μ 24 ((μ 23 3).toNat))] (mzS μ 23 4 (μ 23 3)) (mzQi fun r2 m1 => (r2 = 0 → ((0 : Int) ≤ m1 23 3 ∧ (m1 23 3 : Int) < 120) ∧ (mzCl d 122 [mzI (m1 24 ((m1 23 3).toNat))] m1 (mzQi fun r4 m3 => (r4 = 0 → ((0 : Int) ≤ m3 23 3 ∧ (m3 23 3 : Int) < 120) ∧ ((m3 24 ((m3 23 3).toNat) ≠ 59 → q (mzS (mzS m3 23 2 4) 23 4 (mzW ((m3 23 4) + 1)))) ∧ (m3 24 ((m3 23 3).toNat) = 59 → q (mzS (mzS m3 23 2 3) 23 4 (mzW ((m3 23 4) + 1)))))) ∧ (r4 ≠ 0 → mzCl d 120 [mzR 23] (mzS m3 23 2 2) (mzQv fun m5 => q m5))))) ∧ (r2 ≠ 0 → mzWp (d + 1) 119 93 [mzR 23] [] (mzS m1 23 2 1) (mzQv q))))) ∧ (μ 23 1 ≤ μ 23 3 → q (mzS (mzS μ 23 4 (μ 23 3)) 23 2 0))) : mzWp (d + 1) 119 46 [mzR 23] [] μ (mzQv q) :=
  show mzWp (d + 1) 119 46 [mzR 23] [] μ (mzQv q) from mzVg_ok (cd := k_119) (cuts := [(8, [true]), (46, [true]), (93, [true])]) (n := 42) gd_119 h
theorem g119_93 {d : Nat} {q : mzM → Prop}  (μ : mzM) (h : (μ 23 1 ≤ μ 23 4 → q μ) ∧ (μ 23 4 < μ 23 1 → ((0 : Int) ≤ μ 23 4 ∧ (μ 23 4 : Int) < 120) ∧ (mzCl d 121 [mzI (μ 24 ((μ 23 4).toNat))] μ (mzQi fun r2 m1 => (r2 = 0 → q m1) ∧ (r2 ≠ 0 → mzWp (d + 1) 119 93 [mzR 23] [] (mzS m1 23 4 (mzW ((m1 23 4) + 1))) (mzQv q)))))) : mzWp (d + 1) 119 93 [mzR 23] [] μ (mzQv q) :=
  show mzWp (d + 1) 119 93 [mzR 23] [] μ (mzQv q) from mzVg_ok (cd := k_119) (cuts := [(8, [true]), (46, [true]), (93, [true])]) (n := 21) gd_119 h
-- MeltPins$Tape.takeNumber 
theorem g120_e {d : Nat} {q : mzM → Prop}  (μ : mzM) (h : mzWp (d + 1) 120 5 [mzR 23] [] (mzS μ 23 5 0) (mzQv q)) : mzCl (d + 1) 120 [mzR 23] μ (mzQv q) :=
  show mzWp (d + 1) 120 0 [mzR 23] [] μ (mzQv q) from mzVg_ok (cd := k_120) (cuts := [(5, [true])]) (n := 5) gd_120 h
theorem g120_5 {d : Nat} {q : mzM → Prop}  (μ : mzM) (h : (μ 23 1 ≤ μ 23 4 → q μ) ∧ (μ 23 4 < μ 23 1 → ((0 : Int) ≤ μ 23 4 ∧ (μ 23 4 : Int) < 120) ∧ (mzCl d 122 [mzI (μ 24 ((μ 23 4).toNat))] μ (mzQi fun r2 m1 => (r2 = 0 → q m1) ∧ (r2 ≠ 0 → ((0 : Int) ≤ m1 23 4 ∧ (m1 23 4 : Int) < 120) ∧ (mzWp (d + 1) 120 5 [mzR 23] [] (mzS (mzS m1 23 5 (mzMn 10000 (mzW ((mzW ((mzW ((m1 23 5) * 10)) + (m1 24 ((m1 23 4).toNat)))) - 48)))) 23 4 (mzW ((m1 23 4) + 1))) (mzQv q))))))) : mzWp (d + 1) 120 5 [mzR 23] [] μ (mzQv q) :=
  show mzWp (d + 1) 120 5 [mzR 23] [] μ (mzQv q) from mzVg_ok (cd := k_120) (cuts := [(5, [true])]) (n := 37) gd_120 h
-- MeltPins$Tape.isLetter 
theorem g121_e {d : Nat} {q : Int → mzM → Prop} (a0 : Int) (μ : mzM) (h : (a0 < 97 → ((0 : Int) = 0 ∨ (0 : Int) = 1) ∧ (q 0 μ)) ∧ ((97 : Int) ≤ a0 → ((122 : Int) < a0 → ((0 : Int) = 0 ∨ (0 : Int) = 1) ∧ (q 0 μ)) ∧ (a0 ≤ 122 → ((1 : Int) = 0 ∨ (1 : Int) = 1) ∧ (q 1 μ)))) : mzCl d 121 [mzI a0] μ (mzQi q) :=
  show mzWp d 121 0 [mzI a0] [] μ (mzQi q) from mzVg_ok (cd := k_121) (cuts := []) (n := 10) gd_121 h
-- MeltPins$Tape.isDigit 
theorem g122_e {d : Nat} {q : Int → mzM → Prop} (a0 : Int) (μ : mzM) (h : (a0 < 48 → ((0 : Int) = 0 ∨ (0 : Int) = 1) ∧ (q 0 μ)) ∧ ((48 : Int) ≤ a0 → ((57 : Int) < a0 → ((0 : Int) = 0 ∨ (0 : Int) = 1) ∧ (q 0 μ)) ∧ (a0 ≤ 57 → ((1 : Int) = 0 ∨ (1 : Int) = 1) ∧ (q 1 μ)))) : mzCl d 122 [mzI a0] μ (mzQi q) :=
  show mzWp d 122 0 [mzI a0] [] μ (mzQi q) from mzVg_ok (cd := k_122) (cuts := []) (n := 10) gd_122 h
-- MeltPins$Tape.isNumber 
theorem g123_e {d : Nat} {q : Int → mzM → Prop} (a0 : Int) (a1 : Int) (μ : mzM) (h : (μ 23 2 ≠ 2 → ((0 : Int) = 0 ∨ (0 : Int) = 1) ∧ (q 0 μ)) ∧ (μ 23 2 = 2 → (μ 23 5 < a0 → ((0 : Int) = 0 ∨ (0 : Int) = 1) ∧ (q 0 μ)) ∧ (a0 ≤ μ 23 5 → (a1 < μ 23 5 → ((0 : Int) = 0 ∨ (0 : Int) = 1) ∧ (q 0 μ)) ∧ (μ 23 5 ≤ a1 → ((1 : Int) = 0 ∨ (1 : Int) = 1) ∧ (q 1 μ))))) : mzCl d 123 [mzR 23, mzI a0, mzI a1] μ (mzQi q) :=
  show mzWp d 123 0 [mzR 23, mzI a0, mzI a1] [] μ (mzQi q) from mzVg_ok (cd := k_123) (cuts := []) (n := 16) gd_123 h
-- MeltPins$Tape.isWord 
theorem g124_e {d : Nat} {q : Int → mzM → Prop} (o0 : Nat) (μ : mzM) (h : (μ 23 2 ≠ 1 → ((0 : Int) = 0 ∨ (0 : Int) = 1) ∧ (q 0 μ)) ∧ (μ 23 2 = 1 → (o0 < 14) ∧ ((mzW ((μ 23 4) - (μ 23 3)) = mzSl o0 → mzWp (d + 1) 124 28 [mzR 23, mzP 300 o0, mzI 0] [] μ (mzQi q)) ∧ (mzW ((μ 23 4) - (μ 23 3)) ≠ mzSl o0 → ((0 : Int) = 0 ∨ (0 : Int) = 1) ∧ (q 0 μ))))) : mzCl (d + 1) 124 [mzR 23, mzP 300 o0] μ (mzQi q) :=
  show mzWp (d + 1) 124 0 [mzR 23, mzP 300 o0, none] [] μ (mzQi q) from mzVg_ok (cd := k_124) (cuts := [(28, [true, true, true])]) (n := 16) gd_124 h
theorem g124_28 {d : Nat} {q : Int → mzM → Prop} (x1 : Nat) (x2 : Int) (μ : mzM) (h : (x1 < 14) ∧ ((mzSl x1 ≤ x2 → ((1 : Int) = 0 ∨ (1 : Int) = 1) ∧ (q 1 μ)) ∧ (x2 < mzSl x1 → ((0 : Int) ≤ mzW ((μ 23 3) + x2) ∧ (mzW ((μ 23 3) + x2) : Int) < 120) ∧ ((x1 < 14 ∧ (0 : Int) ≤ x2 ∧ x2 < mzSl x1) ∧ ((μ 24 ((mzW ((μ 23 3) + x2)).toNat) = mzSc x1 x2.toNat → mzWp (d + 1) 124 28 [mzR 23, mzP 300 x1, mzI (mzW (x2 + 1))] [] μ (mzQi q)) ∧ (μ 24 ((mzW ((μ 23 3) + x2)).toNat) ≠ mzSc x1 x2.toNat → ((0 : Int) = 0 ∨ (0 : Int) = 1) ∧ (q 0 μ))))))) : mzWp (d + 1) 124 28 [mzR 23, mzP 300 x1, mzI x2] [] μ (mzQi q) :=
  show mzWp (d + 1) 124 28 [mzR 23, mzP 300 x1, mzI x2] [] μ (mzQi q) from mzVg_ok (cd := k_124) (cuts := [(28, [true, true, true])]) (n := 19) gd_124 h
-- MeltPins$Tape.kindHere 
theorem g125_e {d : Nat} {q : Int → mzM → Prop}  (μ : mzM) (h : mzWp (d + 1) 125 2 [mzR 23, mzI 0] [] μ (mzQi q)) : mzCl (d + 1) 125 [mzR 23] μ (mzQi q) :=
  show mzWp (d + 1) 125 0 [mzR 23, none] [] μ (mzQi q) from mzVg_ok (cd := k_125) (cuts := [(2, [true, true])]) (n := 4) gd_125 h
theorem g125_2 {d : Nat} {q : Int → mzM → Prop} (x1 : Int) (μ : mzM) (h : ((7 : Int) ≤ x1 → q (-1) μ) ∧ (x1 < 7 → mzCl d 127 [mzI x1] μ (mzQr fun p2 r3 m1 => p2 = 300 ∧ (mzCl d 124 [mzR 23, mzP 300 r3] m1 (mzQi fun r5 m4 => (r5 = 0 → mzWp (d + 1) 125 2 [mzR 23, mzI (mzW (x1 + 1))] [] m4 (mzQi q)) ∧ (r5 ≠ 0 → q x1 m4)))))) : mzWp (d + 1) 125 2 [mzR 23, mzI x1] [] μ (mzQi q) :=
  show mzWp (d + 1) 125 2 [mzR 23, mzI x1] [] μ (mzQi q) from mzVg_ok (cd := k_125) (cuts := [(2, [true, true])]) (n := 12) gd_125 h
-- MeltPins$Tape.traitHere 
theorem g126_e {d : Nat} {q : Int → mzM → Prop}  (μ : mzM) (h : mzWp (d + 1) 126 2 [mzR 23, mzI 2] [] μ (mzQi q)) : mzCl (d + 1) 126 [mzR 23] μ (mzQi q) :=
  show mzWp (d + 1) 126 0 [mzR 23, none] [] μ (mzQi q) from mzVg_ok (cd := k_126) (cuts := [(2, [true, true])]) (n := 4) gd_126 h
theorem g126_2 {d : Nat} {q : Int → mzM → Prop} (x1 : Int) (μ : mzM) (h : ((6 : Int) < x1 → q (-1) μ) ∧ (x1 ≤ 6 → mzCl d 128 [mzI x1] μ (mzQr fun p2 r3 m1 => p2 = 300 ∧ (mzCl d 124 [mzR 23, mzP 300 r3] m1 (mzQi fun r5 m4 => (r5 = 0 → mzWp (d + 1) 126 2 [mzR 23, mzI (mzW (x1 + 1))] [] m4 (mzQi q)) ∧ (r5 ≠ 0 → q x1 m4)))))) : mzWp (d + 1) 126 2 [mzR 23, mzI x1] [] μ (mzQi q) :=
  show mzWp (d + 1) 126 2 [mzR 23, mzI x1] [] μ (mzQi q) from mzVg_ok (cd := k_126) (cuts := [(2, [true, true])]) (n := 12) gd_126 h
-- MeltPins$Tape.kindName 
theorem g127_e {d : Nat} {q : Nat → Nat → mzM → Prop} (a0 : Int) (μ : mzM) (h : (((a0 : Int) = 0 → q 300 2 μ) ∧ ((a0 : Int) = 1 → q 300 3 μ) ∧ ((a0 : Int) = 2 → q 300 4 μ) ∧ ((a0 : Int) = 3 → q 300 5 μ) ∧ ((a0 : Int) = 4 → q 300 6 μ) ∧ ((a0 : Int) = 5 → q 300 7 μ) ∧ True) ∧ (((a0 : Int) < 0 ∨ (5 : Int) < a0) → q 300 8 μ)) : mzCl d 127 [mzI a0] μ (mzQr q) :=
  show mzWp d 127 0 [mzI a0] [] μ (mzQr q) from mzVg_ok (cd := k_127) (cuts := []) (n := 5) gd_127 h
-- MeltPins$Tape.traitName 
theorem g128_e {d : Nat} {q : Nat → Nat → mzM → Prop} (a0 : Int) (μ : mzM) (h : (((a0 : Int) = 2 → q 300 9 μ) ∧ ((a0 : Int) = 3 → q 300 10 μ) ∧ ((a0 : Int) = 4 → q 300 11 μ) ∧ ((a0 : Int) = 5 → q 300 12 μ) ∧ True) ∧ (((a0 : Int) < 2 ∨ (5 : Int) < a0) → q 300 13 μ)) : mzCl d 128 [mzI a0] μ (mzQr q) :=
  show mzWp d 128 0 [mzI a0] [] μ (mzQr q) from mzVg_ok (cd := k_128) (cuts := []) (n := 5) gd_128 h
-- MeltPins.feed 
theorem g129_e {d : Nat} {q : Int → mzM → Prop} (a0 : Int) (a1 : Int) (μ : mzM) (h : (a1 < 1 → mzCl d 173 [mzR 14, mzI (-1000001)] μ (mzQi fun r2 m1 => q r2 m1)) ∧ ((1 : Int) ≤ a1 → (a1 ≤ 4 → (mzW ((μ 23 1) + a1) ≤ 120 → mzWp (d + 1) 129 42 [mzR 14, mzI a0, none, mzI (mzW (a1 - 1))] [] μ (mzQi q)) ∧ ((120 : Int) < mzW ((μ 23 1) + a1) → mzCl d 173 [mzR 14, mzI (-1000002)] μ (mzQi fun r4 m3 => q r4 m3))) ∧ ((4 : Int) < a1 → mzCl d 173 [mzR 14, mzI (-1000001)] μ (mzQi fun r6 m5 => q r6 m5)))) : mzCl (d + 1) 129 [mzR 14, mzI a0, mzI a1] μ (mzQi q) :=
  show mzWp (d + 1) 129 0 [mzR 14, mzI a0, mzI a1, none] [] μ (mzQi q) from mzVg_ok (cd := k_129) (cuts := [(42, [true, true, false, true])]) (n := 19) gd_129 h
theorem g129_42 {d : Nat} {q : Int → mzM → Prop} (x1 : Int) (x3 : Int) (μ : mzM) (h : (x3 < 0 → q (μ 23 1) μ) ∧ ((0 : Int) ≤ x3 → mzCl d 115 [mzR 23, mzI (mzShr x1 (mzW (8 * x3)))] μ (mzQv fun m1 => mzWp (d + 1) 129 42 [mzR 14, mzI x1, none, mzI (mzW (x3 + (-1)))] [] m1 (mzQi q)))) : mzWp (d + 1) 129 42 [mzR 14, mzI x1, none, mzI x3] [] μ (mzQi q) :=
  show mzWp (d + 1) 129 42 [mzR 14, mzI x1, none, mzI x3] [] μ (mzQi q) from mzVg_ok (cd := k_129) (cuts := [(42, [true, true, false, true])]) (n := 14) gd_129 h
-- MeltPins.wipe 
theorem g130_e {d : Nat} {q : Int → mzM → Prop}  (μ : mzM) (h : q (μ 23 1) (mzS μ 23 1 0)) : mzCl d 130 [mzR 14] μ (mzQi q) :=
  show mzWp d 130 0 [mzR 14, none] [] μ (mzQi q) from mzVg_ok (cd := k_130) (cuts := []) (n := 11) gd_130 h
-- MeltPins.world 
theorem g131_e {d : Nat} {q : Int → mzM → Prop}  (μ : mzM) (h : mzCl d 93 [mzR 28, mzR 26] μ (mzQv fun m1 => mzCl d 116 [mzR 23, mzR 28] m1 (mzQi fun r3 m2 => (r3 < 0 → mzCl d 93 [mzR 26, mzR 28] (mzS m2 23 1 0) (mzQv fun m4 => q (m4 26 0) m4)) ∧ ((0 : Int) ≤ r3 → q (mzW ((-1) - r3)) (mzS m2 23 1 0))))) : mzCl (d + 1) 131 [mzR 14] μ (mzQi q) :=
  show mzWp (d + 1) 131 0 [mzR 14, none] [] μ (mzQi q) from mzVg_ok (cd := k_131) (cuts := []) (n := 27) gd_131 h
-- MeltPins.placeOf 
theorem g132_e {d : Nat} {q : Int → mzM → Prop} (a0 : Int) (a1 : Int) (μ : mzM) (h : mzCl d 174 [mzR 14, mzI a0] μ (mzQi fun r2 m1 => (r2 = 0 → mzCl d 173 [mzR 14, mzI (-1000001)] m1 (mzQi fun r4 m3 => q r4 m3)) ∧ (r2 ≠ 0 → (a1 < 0 → mzCl d 173 [mzR 14, mzI (-1000001)] m1 (mzQi fun r6 m5 => q r6 m5)) ∧ ((0 : Int) ≤ a1 → (a1 ≤ 10 → (a1 ≠ 9 → (a1 ≠ 10 → ((0 : Int) ≤ a0 ∧ (a0 : Int) < 12) ∧ ((a0.toNat < 12 ∧ (0 : Int) ≤ a1 ∧ (a1 : Int) < 9) ∧ (q (m1 (52 + a0.toNat) a1.toNat) m1))) ∧ (a1 = 10 → q (mzAnd (mzShr (m1 26 3) a0) 1) m1)) ∧ (a1 = 9 → ((0 : Int) ≤ a0 ∧ (a0 : Int) < 12) ∧ ((a0.toNat < 12 ∧ (0 : Int) ≤ 1 ∧ (1 : Int) < 9) ∧ (mzCl d 97 [mzR 26, mzI a0, mzI (m1 (52 + a0.toNat) 1)] m1 (mzQi fun r8 m7 => q r8 m7))))) ∧ ((10 : Int) < a1 → mzCl d 173 [mzR 14, mzI (-1000001)] m1 (mzQi fun r10 m9 => q r10 m9)))))) : mzCl (d + 1) 132 [mzR 14, mzI a0, mzI a1] μ (mzQi q) :=
  show mzWp (d + 1) 132 0 [mzR 14, mzI a0, mzI a1] [] μ (mzQi q) from mzVg_ok (cd := k_132) (cuts := []) (n := 25) gd_132 h
-- MeltPins.change 
theorem g133_e {d : Nat} {q : Int → mzM → Prop} (a0 : Int) (a1 : Int) (a2 : Int) (μ : mzM) (h : mzCl d 174 [mzR 14, mzI a0] μ (mzQi fun r2 m1 => (r2 = 0 → mzCl d 173 [mzR 14, mzI (-1000001)] m1 (mzQi fun r4 m3 => q r4 m3)) ∧ (r2 ≠ 0 → (a1 < 1 → mzCl d 173 [mzR 14, mzI (-1000001)] m1 (mzQi fun r6 m5 => q r6 m5)) ∧ ((1 : Int) ≤ a1 → ((7 : Int) < a1 → mzCl d 173 [mzR 14, mzI (-1000001)] m1 (mzQi fun r8 m7 => q r8 m7)) ∧ (a1 ≤ 7 → ((0 : Int) ≤ a1 ∧ (a1 : Int) < 9) ∧ ((a2 < mzCst 201 a1.toNat → mzCl d 173 [mzR 14, mzI (-1000001)] m1 (mzQi fun r10 m9 => q r10 m9)) ∧ (mzCst 201 a1.toNat ≤ a2 → ((0 : Int) ≤ a1 ∧ (a1 : Int) < 9) ∧ ((a2 ≤ mzCst 202 a1.toNat → (a1 ≠ 7 → ((0 : Int) ≤ a0 ∧ (a0 : Int) < 12) ∧ ((a0.toNat < 12 ∧ (0 : Int) ≤ a1 ∧ (a1 : Int) < 9) ∧ (((0 : Int) ≤ a0 ∧ (a0 : Int) < 12) ∧ ((a0.toNat < 12 ∧ (0 : Int) ≤ a1 ∧ (a1 : Int) < 9) ∧ (q (m1 (52 + a0.toNat) a1.toNat) (mzS m1 (52 + a0.toNat) a1.toNat a2)))))) ∧ (a1 = 7 → (a2 = a0 → mzCl d 173 [mzR 14, mzI (-1000001)] m1 (mzQi fun r12 m11 => q r12 m11)) ∧ (a2 ≠ a0 → (a2 < m1 26 0 → ((0 : Int) ≤ a0 ∧ (a0 : Int) < 12) ∧ ((a0.toNat < 12 ∧ (0 : Int) ≤ a1 ∧ (a1 : Int) < 9) ∧ (((0 : Int) ≤ a0 ∧ (a0 : Int) < 12) ∧ ((a0.toNat < 12 ∧ (0 : Int) ≤ a1 ∧ (a1 : Int) < 9) ∧ (q (m1 (52 + a0.toNat) a1.toNat) (mzS m1 (52 + a0.toNat) a1.toNat a2)))))) ∧ (m1 26 0 ≤ a2 → mzCl d 173 [mzR 14, mzI (-1000001)] m1 (mzQi fun r14 m13 => q r14 m13))))) ∧ (mzCst 202 a1.toNat < a2 → mzCl d 173 [mzR 14, mzI (-1000001)] m1 (mzQi fun r16 m15 => q r16 m15)))))))))) : mzCl (d + 1) 133 [mzR 14, mzI a0, mzI a1, mzI a2] μ (mzQi q) :=
  show mzWp (d + 1) 133 0 [mzR 14, mzI a0, mzI a1, mzI a2, none] [] μ (mzQi q) from mzVg_ok (cd := k_133) (cuts := []) (n := 50) gd_133 h
-- MeltPins.step 
theorem g134_e {d : Nat} {q : Int → mzM → Prop} (a0 : Int) (μ : mzM) (h : mzCl d 174 [mzR 14, mzI a0] μ (mzQi fun r2 m1 => (r2 ≠ 0 → ((0 : Int) ≤ a0 ∧ (a0 : Int) < 12) ∧ ((a0.toNat < 12 ∧ (0 : Int) ≤ 8 ∧ (8 : Int) < 9) ∧ ((m1 (52 + a0.toNat) 8 < 9 → ((0 : Int) ≤ a0 ∧ (a0 : Int) < 12) ∧ ((a0.toNat < 12 ∧ (0 : Int) ≤ 8 ∧ (8 : Int) < 9) ∧ ((a0.toNat < 12 ∧ (0 : Int) ≤ 8 ∧ (8 : Int) < 9) ∧ (((0 : Int) ≤ a0 ∧ (a0 : Int) < 12) ∧ ((a0.toNat < 12 ∧ (0 : Int) ≤ 8 ∧ (8 : Int) < 9) ∧ (q ((mzS m1 (52 + a0.toNat) 8 (mzW ((m1 (52 + a0.toNat) 8) + 1))) (52 + a0.toNat) 8) (mzS m1 (52 + a0.toNat) 8 (mzW ((m1 (52 + a0.toNat) 8) + 1))))))))) ∧ ((9 : Int) ≤ m1 (52 + a0.toNat) 8 → mzCl d 173 [mzR 14, mzI (-1000002)] m1 (mzQi fun r4 m3 => q r4 m3))))) ∧ (r2 = 0 → mzCl d 173 [mzR 14, mzI (-1000001)] m1 (mzQi fun r6 m5 => q r6 m5)))) : mzCl (d + 1) 134 [mzR 14, mzI a0] μ (mzQi q) :=
  show mzWp (d + 1) 134 0 [mzR 14, mzI a0] [] μ (mzQi q) from mzVg_ok (cd := k_134) (cuts := []) (n := 33) gd_134 h
-- MeltPins.tie 
theorem g135_e {d : Nat} {q : Int → mzM → Prop} (a0 : Int) (a1 : Int) (a2 : Int) (μ : mzM) (h : mzCl d 174 [mzR 14, mzI a0] μ (mzQi fun r2 m1 => (r2 = 0 → mzCl d 173 [mzR 14, mzI (-1000001)] m1 (mzQi fun r4 m3 => q r4 m3)) ∧ (r2 ≠ 0 → mzCl d 174 [mzR 14, mzI a1] m1 (mzQi fun r6 m5 => (r6 = 0 → mzCl d 173 [mzR 14, mzI (-1000001)] m5 (mzQi fun r8 m7 => q r8 m7)) ∧ (r6 ≠ 0 → (a0 = a1 → mzCl d 173 [mzR 14, mzI (-1000001)] m5 (mzQi fun r10 m9 => q r10 m9)) ∧ (a0 ≠ a1 → (a2 < 1 → mzCl d 173 [mzR 14, mzI (-1000001)] m5 (mzQi fun r12 m11 => q r12 m11)) ∧ ((1 : Int) ≤ a2 → (a2 ≤ 99 → ((0 : Int) ≤ a0 ∧ (a0 : Int) < 12) ∧ ((a0.toNat < 12 ∧ (0 : Int) ≤ a1 ∧ (a1 : Int) < 12) ∧ ((m5 (88 + a0.toNat) a1.toNat ≠ 0 → mzCl d 96 [mzR 26, mzI a0, mzI a1, mzI a2] m5 (mzQv fun m13 => q (m5 (88 + a0.toNat) a1.toNat) m13)) ∧ (m5 (88 + a0.toNat) a1.toNat = 0 → (m5 26 1 < 40 → mzCl d 96 [mzR 26, mzI a0, mzI a1, mzI a2] m5 (mzQv fun m14 => q (m5 (88 + a0.toNat) a1.toNat) m14)) ∧ ((40 : Int) ≤ m5 26 1 → mzCl d 173 [mzR 14, mzI (-1000002)] m5 (mzQi fun r16 m15 => q r16 m15)))))) ∧ ((99 : Int) < a2 → mzCl d 173 [mzR 14, mzI (-1000001)] m5 (mzQi fun r18 m17 => q r18 m17))))))))) : mzCl (d + 1) 135 [mzR 14, mzI a0, mzI a1, mzI a2] μ (mzQi q) :=
  show mzWp (d + 1) 135 0 [mzR 14, mzI a0, mzI a1, mzI a2, none] [] μ (mzQi q) from mzVg_ok (cd := k_135) (cuts := []) (n := 41) gd_135 h
-- MeltPins.tieOf 
theorem g136_e {d : Nat} {q : Int → mzM → Prop} (a0 : Int) (a1 : Int) (μ : mzM) (h : mzCl d 174 [mzR 14, mzI a0] μ (mzQi fun r2 m1 => (r2 = 0 → mzCl d 173 [mzR 14, mzI (-1000001)] m1 (mzQi fun r4 m3 => q r4 m3)) ∧ (r2 ≠ 0 → mzCl d 174 [mzR 14, mzI a1] m1 (mzQi fun r6 m5 => (r6 ≠ 0 → ((0 : Int) ≤ a0 ∧ (a0 : Int) < 12) ∧ ((a0.toNat < 12 ∧ (0 : Int) ≤ a1 ∧ (a1 : Int) < 12) ∧ (q (m5 (88 + a0.toNat) a1.toNat) m5))) ∧ (r6 = 0 → mzCl d 173 [mzR 14, mzI (-1000001)] m5 (mzQi fun r8 m7 => q r8 m7)))))) : mzCl (d + 1) 136 [mzR 14, mzI a0, mzI a1] μ (mzQi q) :=
  show mzWp (d + 1) 136 0 [mzR 14, mzI a0, mzI a1] [] μ (mzQi q) from mzVg_ok (cd := k_136) (cuts := []) (n := 17) gd_136 h
-- MeltPins.cut 
theorem g137_e {d : Nat} {q : Int → mzM → Prop} (a0 : Int) (a1 : Int) (μ : mzM) (h : mzCl d 174 [mzR 14, mzI a0] μ (mzQi fun r2 m1 => (r2 = 0 → mzCl d 173 [mzR 14, mzI (-1000001)] m1 (mzQi fun r4 m3 => q r4 m3)) ∧ (r2 ≠ 0 → mzCl d 174 [mzR 14, mzI a1] m1 (mzQi fun r6 m5 => (r6 ≠ 0 → ((0 : Int) ≤ a0 ∧ (a0 : Int) < 12) ∧ ((a0.toNat < 12 ∧ (0 : Int) ≤ a1 ∧ (a1 : Int) < 12) ∧ ((m5 (88 + a0.toNat) a1.toNat ≠ 0 → ((0 : Int) ≤ a0 ∧ (a0 : Int) < 12) ∧ ((a0.toNat < 12 ∧ (0 : Int) ≤ a1 ∧ (a1 : Int) < 12) ∧ (q (mzW (((mzS m5 (88 + a0.toNat) a1.toNat 0) 26 1) - 1)) (mzS (mzS m5 (88 + a0.toNat) a1.toNat 0) 26 1 (mzW (((mzS m5 (88 + a0.toNat) a1.toNat 0) 26 1) - 1)))))) ∧ (m5 (88 + a0.toNat) a1.toNat = 0 → mzCl d 173 [mzR 14, mzI (-1000004)] m5 (mzQi fun r8 m7 => q r8 m7))))) ∧ (r6 = 0 → mzCl d 173 [mzR 14, mzI (-1000001)] m5 (mzQi fun r10 m9 => q r10 m9)))))) : mzCl (d + 1) 137 [mzR 14, mzI a0, mzI a1] μ (mzQi q) :=
  show mzWp (d + 1) 137 0 [mzR 14, mzI a0, mzI a1] [] μ (mzQi q) from mzVg_ok (cd := k_137) (cuts := []) (n := 36) gd_137 h
-- MeltPins.hold 
theorem g138_e {d : Nat} {q : Int → mzM → Prop} (a0 : Int) (a1 : Int) (μ : mzM) (h : mzCl d 174 [mzR 14, mzI a0] μ (mzQi fun r2 m1 => (r2 ≠ 0 → (a1 = 0 → q (mzAnd (mzShr (m1 26 3) a0) 1) (mzS m1 26 3 (mzAnd (m1 26 3) (mzXor (mzShl 1 a0) (-1))))) ∧ (a1 ≠ 0 → q (mzAnd (mzShr (m1 26 3) a0) 1) (mzS m1 26 3 (mzOr (m1 26 3) (mzShl 1 a0))))) ∧ (r2 = 0 → mzCl d 173 [mzR 14, mzI (-1000001)] m1 (mzQi fun r4 m3 => q r4 m3)))) : mzCl (d + 1) 138 [mzR 14, mzI a0, mzI a1] μ (mzQi q) :=
  show mzWp (d + 1) 138 0 [mzR 14, mzI a0, mzI a1, none] [] μ (mzQi q) from mzVg_ok (cd := k_138) (cuts := []) (n := 29) gd_138 h
-- MeltPins.push 
theorem g139_e {d : Nat} {q : Int → mzM → Prop} (a0 : Int) (a1 : Int) (μ : mzM) (h : (a0 < 0 → mzCl d 173 [mzR 14, mzI (-1000001)] μ (mzQi fun r2 m1 => q r2 m1)) ∧ ((0 : Int) ≤ a0 → ((49 : Int) < a0 → mzCl d 173 [mzR 14, mzI (-1000001)] μ (mzQi fun r4 m3 => q r4 m3)) ∧ (a0 ≤ 49 → mzCl d 174 [mzR 14, mzI a1] μ (mzQi fun r6 m5 => (r6 ≠ 0 → mzCl d 98 [mzR 26, mzI a0] m5 (mzQi fun r8 m7 => (mzAnd (mzShr r8 a1) 1 = 0 → (m7 26 2 < 20 → ((0 : Int) ≤ m7 26 2 ∧ (m7 26 2 : Int) < 20) ∧ (((0 : Int) ≤ m7 26 2 ∧ (m7 26 2 : Int) < 20) ∧ (q (mzW ((m7 26 2) + 1)) (mzS (mzS (mzS m7 35 ((m7 26 2).toNat) a0) 38 ((m7 26 2).toNat) a1) 26 2 (mzW ((m7 26 2) + 1)))))) ∧ ((20 : Int) ≤ m7 26 2 → mzCl d 173 [mzR 14, mzI (-1000002)] m7 (mzQi fun r10 m9 => q r10 m9))) ∧ (mzAnd (mzShr r8 a1) 1 ≠ 0 → mzCl d 173 [mzR 14, mzI (-1000005)] m7 (mzQi fun r12 m11 => q r12 m11)))) ∧ (r6 = 0 → mzCl d 173 [mzR 14, mzI (-1000001)] m5 (mzQi fun r14 m13 => q r14 m13)))))) : mzCl (d + 1) 139 [mzR 14, mzI a0, mzI a1] μ (mzQi q) :=
  show mzWp (d + 1) 139 0 [mzR 14, mzI a0, mzI a1] [] μ (mzQi q) from mzVg_ok (cd := k_139) (cuts := []) (n := 51) gd_139 h
-- MeltPins.pushOf 
theorem g140_e {d : Nat} {q : Int → mzM → Prop} (a0 : Int) (a1 : Int) (μ : mzM) (h : (a0 < 0 → mzCl d 173 [mzR 14, mzI (-1000001)] μ (mzQi fun r2 m1 => q r2 m1)) ∧ ((0 : Int) ≤ a0 → (μ 26 2 ≤ a0 → mzCl d 173 [mzR 14, mzI (-1000001)] μ (mzQi fun r4 m3 => q r4 m3)) ∧ (a0 < μ 26 2 → (a1 < 0 → mzCl d 173 [mzR 14, mzI (-1000001)] μ (mzQi fun r6 m5 => q r6 m5)) ∧ ((0 : Int) ≤ a1 → (a1 ≤ 1 → (a1 ≠ 0 → ((0 : Int) ≤ a0 ∧ (a0 : Int) < 20) ∧ (q (μ 38 a0.toNat) μ)) ∧ (a1 = 0 → ((0 : Int) ≤ a0 ∧ (a0 : Int) < 20) ∧ (q (μ 35 a0.toNat) μ))) ∧ ((1 : Int) < a1 → mzCl d 173 [mzR 14, mzI (-1000001)] μ (mzQi fun r8 m7 => q r8 m7)))))) : mzCl (d + 1) 140 [mzR 14, mzI a0, mzI a1] μ (mzQi q) :=
  show mzWp (d + 1) 140 0 [mzR 14, mzI a0, mzI a1] [] μ (mzQi q) from mzVg_ok (cd := k_140) (cuts := []) (n := 22) gd_140 h
-- MeltPins.clear 
theorem g141_e {d : Nat} {q : Int → mzM → Prop}  (μ : mzM) (h : q (μ 26 2) (mzS μ 26 2 0)) : mzCl d 141 [mzR 14] μ (mzQi q) :=
  show mzWp d 141 0 [mzR 14, none] [] μ (mzQi q) from mzVg_ok (cd := k_141) (cuts := []) (n := 11) gd_141 h
-- MeltPins.run 
theorem g142_e {d : Nat} {q : Int → mzM → Prop} (a0 : Int) (a1 : Int) (μ : mzM) (h : (a0 < 0 → mzCl d 173 [mzR 14, mzI (-1000001)] μ (mzQi fun r2 m1 => q r2 m1)) ∧ ((0 : Int) ≤ a0 → ((99 : Int) < a0 → mzCl d 173 [mzR 14, mzI (-1000001)] μ (mzQi fun r4 m3 => q r4 m3)) ∧ (a0 ≤ 99 → (a1 < 0 → mzCl d 173 [mzR 14, mzI (-1000001)] μ (mzQi fun r6 m5 => q r6 m5)) ∧ ((0 : Int) ≤ a1 → (a1 ≤ 1 → mzCl d 178 [mzR 14, mzI a0] μ (mzQv fun m7 => (a1 ≠ 0 → q (m7 16 8) m7) ∧ (a1 = 0 → q (m7 16 7) m7))) ∧ ((1 : Int) < a1 → mzCl d 173 [mzR 14, mzI (-1000001)] μ (mzQi fun r9 m8 => q r9 m8)))))) : mzCl (d + 1) 142 [mzR 14, mzI a0, mzI a1] μ (mzQi q) :=
  show mzWp (d + 1) 142 0 [mzR 14, mzI a0, mzI a1] [] μ (mzQi q) from mzVg_ok (cd := k_142) (cuts := []) (n := 21) gd_142 h
-- MeltPins.runOf 
theorem g143_e {d : Nat} {q : Int → mzM → Prop} (a0 : Int) (a1 : Int) (a2 : Int) (μ : mzM) (h : (a0 < 0 → mzCl d 173 [mzR 14, mzI (-1000001)] μ (mzQi fun r2 m1 => q r2 m1)) ∧ ((0 : Int) ≤ a0 → ((99 : Int) < a0 → mzCl d 173 [mzR 14, mzI (-1000001)] μ (mzQi fun r4 m3 => q r4 m3)) ∧ (a0 ≤ 99 → mzCl d 174 [mzR 14, mzI a1] μ (mzQi fun r6 m5 => (r6 = 0 → mzCl d 173 [mzR 14, mzI (-1000001)] m5 (mzQi fun r8 m7 => q r8 m7)) ∧ (r6 ≠ 0 → (a2 < 0 → mzCl d 173 [mzR 14, mzI (-1000001)] m5 (mzQi fun r10 m9 => q r10 m9)) ∧ ((0 : Int) ≤ a2 → (a2 ≤ 1 → mzCl d 178 [mzR 14, mzI a0] m5 (mzQv fun m11 => (a2 ≠ 0 → mzCl d 112 [mzR 16, mzI a1, mzI (m11 16 7)] m11 (mzQi fun r13 m12 => q r13 m12)) ∧ (a2 = 0 → ((0 : Int) ≤ a1 ∧ (a1 : Int) < 12) ∧ (q (m11 22 a1.toNat) m11)))) ∧ ((1 : Int) < a2 → mzCl d 173 [mzR 14, mzI (-1000001)] m5 (mzQi fun r15 m14 => q r15 m14)))))))) : mzCl (d + 1) 143 [mzR 14, mzI a0, mzI a1, mzI a2] μ (mzQi q) :=
  show mzWp (d + 1) 143 0 [mzR 14, mzI a0, mzI a1, mzI a2] [] μ (mzQi q) from mzVg_ok (cd := k_143) (cuts := []) (n := 28) gd_143 h
-- MeltPins.when 
theorem g144_e {d : Nat} {q : Int → mzM → Prop} (a0 : Int) (μ : mzM) (h : mzCl d 174 [mzR 14, mzI a0] μ (mzQi fun r2 m1 => (r2 ≠ 0 → mzCl d 178 [mzR 14, mzI 0] m1 (mzQv fun m3 => mzWp (d + 1) 144 22 [mzR 14, mzI a0, mzI 1] [] m3 (mzQi q))) ∧ (r2 = 0 → mzCl d 173 [mzR 14, mzI (-1000001)] m1 (mzQi fun r5 m4 => q r5 m4)))) : mzCl (d + 1) 144 [mzR 14, mzI a0] μ (mzQi q) :=
  show mzWp (d + 1) 144 0 [mzR 14, mzI a0, none] [] μ (mzQi q) from mzVg_ok (cd := k_144) (cuts := [(22, [true, true, true])]) (n := 11) gd_144 h
theorem g144_22 {d : Nat} {q : Int → mzM → Prop} (x1 : Int) (x2 : Int) (μ : mzM) (h : ((99 : Int) < x2 → mzCl d 173 [mzR 14, mzI (-1000004)] μ (mzQi fun r2 m1 => q r2 m1)) ∧ (x2 ≤ 99 → mzCl d 98 [mzR 26, mzI (mzW (x2 - 1))] μ (mzQi fun r4 m3 => mzCl d 109 [mzR 16, mzI r4] m3 (mzQi fun r6 m5 => (mzAnd (mzShr (m5 16 7) x1) 1 = 0 → mzWp (d + 1) 144 22 [mzR 14, mzI x1, mzI (mzW (x2 + 1))] [] m5 (mzQi q)) ∧ (mzAnd (mzShr (m5 16 7) x1) 1 ≠ 0 → q x2 m5))))) : mzWp (d + 1) 144 22 [mzR 14, mzI x1, mzI x2] [] μ (mzQi q) :=
  show mzWp (d + 1) 144 22 [mzR 14, mzI x1, mzI x2] [] μ (mzQi q) from mzVg_ok (cd := k_144) (cuts := [(22, [true, true, true])]) (n := 25) gd_144 h
-- MeltPins.settles 
theorem g145_e {d : Nat} {q : Int → mzM → Prop}  (μ : mzM) (h : mzCl d 178 [mzR 14, mzI 0] μ (mzQv fun m1 => mzWp (d + 1) 145 9 [mzR 14, mzI 0, mzI 1, none, none] [] m1 (mzQi q))) : mzCl (d + 1) 145 [mzR 14] μ (mzQi q) :=
  show mzWp (d + 1) 145 0 [mzR 14, none, none, none, none] [] μ (mzQi q) from mzVg_ok (cd := k_145) (cuts := [(9, [true, true, true, false, false])]) (n := 9) gd_145 h
theorem g145_9 {d : Nat} {q : Int → mzM → Prop} (x1 : Int) (x2 : Int) (μ : mzM) (h : ((99 : Int) < x2 → q x1 μ) ∧ (x2 ≤ 99 → mzCl d 98 [mzR 26, mzI (mzW (x2 - 1))] μ (mzQi fun r2 m1 => mzCl d 109 [mzR 16, mzI r2] m1 (mzQi fun r4 m3 => (m3 16 7 ≠ μ 16 7 → mzWp (d + 1) 145 9 [mzR 14, mzI x2, mzI (mzW (x2 + 1)), none, none] [] m3 (mzQi q)) ∧ (m3 16 7 = μ 16 7 → (m3 16 8 = μ 16 8 → mzWp (d + 1) 145 9 [mzR 14, mzI x1, mzI (mzW (x2 + 1)), none, none] [] m3 (mzQi q)) ∧ (m3 16 8 ≠ μ 16 8 → mzWp (d + 1) 145 9 [mzR 14, mzI x2, mzI (mzW (x2 + 1)), none, none] [] m3 (mzQi q))))))) : mzWp (d + 1) 145 9 [mzR 14, mzI x1, mzI x2, none, none] [] μ (mzQi q) :=
  show mzWp (d + 1) 145 9 [mzR 14, mzI x1, mzI x2, none, none] [] μ (mzQi q) from mzVg_ok (cd := k_145) (cuts := [(9, [true, true, true, false, false])]) (n := 37) gd_145 h
-- MeltPins.stand 
theorem g146_e {d : Nat} {q : Int → mzM → Prop} (a0 : Int) (μ : mzM) (h : mzCl d 175 [mzR 14, mzI a0] μ (mzQi fun r2 m1 => (r2 ≠ 0 → mzCl d 102 [mzR 16] m1 (mzQv fun m3 => mzCl d 107 [mzR 16, mzI a0, mzI (m3 26 3)] m3 (mzQi fun r5 m4 => q r5 m4))) ∧ (r2 = 0 → mzCl d 173 [mzR 14, mzI (-1000001)] m1 (mzQi fun r7 m6 => q r7 m6)))) : mzCl (d + 1) 146 [mzR 14, mzI a0] μ (mzQi q) :=
  show mzWp (d + 1) 146 0 [mzR 14, mzI a0] [] μ (mzQi q) from mzVg_ok (cd := k_146) (cuts := []) (n := 16) gd_146 h
-- MeltPins.late 
theorem g147_e {d : Nat} {q : Int → mzM → Prop} (a0 : Int) (μ : mzM) (h : mzCl d 175 [mzR 14, mzI a0] μ (mzQi fun r2 m1 => (r2 ≠ 0 → mzCl d 102 [mzR 16] m1 (mzQv fun m3 => mzCl d 108 [mzR 16, mzI (m3 26 3)] m3 (mzQv fun m4 => mzWp (d + 1) 147 38 [mzR 14, mzI a0, mzI 1] [] m4 (mzQi q)))) ∧ (r2 = 0 → mzCl d 173 [mzR 14, mzI (-1000001)] m1 (mzQi fun r6 m5 => q r6 m5)))) : mzCl (d + 1) 147 [mzR 14, mzI a0] μ (mzQi q) :=
  show mzWp (d + 1) 147 0 [mzR 14, mzI a0, none] [] μ (mzQi q) from mzVg_ok (cd := k_147) (cuts := [(38, [true, true, true])]) (n := 17) gd_147 h
theorem g147_38 {d : Nat} {q : Int → mzM → Prop} (x1 : Int) (x2 : Int) (μ : mzM) (h : ((24 : Int) < x2 → mzCl d 173 [mzR 14, mzI (-1000004)] μ (mzQi fun r2 m1 => q r2 m1)) ∧ (x2 ≤ 24 → (x2 ≠ 1 → mzCl d 109 [mzR 16, mzI 0] μ (mzQi fun r4 m3 => mzCl d 94 [mzR 26] m3 (mzQi fun r6 m5 => (m3 16 7 ≠ r6 → mzWp (d + 1) 147 38 [mzR 14, mzI x1, mzI (mzW (x2 + 1))] [] m5 (mzQi q)) ∧ (m3 16 7 = r6 → q x2 m5)))) ∧ (x2 = 1 → mzCl d 109 [mzR 16, mzI x1] μ (mzQi fun r8 m7 => mzCl d 94 [mzR 26] m7 (mzQi fun r10 m9 => (m7 16 7 ≠ r10 → mzWp (d + 1) 147 38 [mzR 14, mzI x1, mzI (mzW (x2 + 1))] [] m9 (mzQi q)) ∧ (m7 16 7 = r10 → q x2 m9)))))) : mzWp (d + 1) 147 38 [mzR 14, mzI x1, mzI x2] [] μ (mzQi q) :=
  show mzWp (d + 1) 147 38 [mzR 14, mzI x1, mzI x2] [] μ (mzQi q) from mzVg_ok (cd := k_147) (cuts := [(38, [true, true, true])]) (n := 23) gd_147 h
-- MeltPins.fewest 
theorem g148_e {d : Nat} {q : Int → mzM → Prop} (a0 : Int) (μ : mzM) (h : (a0 < 0 → mzCl d 173 [mzR 14, mzI (-1000001)] μ (mzQi fun r2 m1 => q r2 m1)) ∧ ((0 : Int) ≤ a0 → (a0 ≤ 2 → mzCl d 179 [mzR 14, mzI 1] μ (mzQi fun r4 m3 => mzCl d 180 [mzR 14, mzI r4, mzI a0] m3 (mzQi fun r6 m5 => q r6 m5))) ∧ ((2 : Int) < a0 → mzCl d 173 [mzR 14, mzI (-1000001)] μ (mzQi fun r8 m7 => q r8 m7)))) : mzCl (d + 1) 148 [mzR 14, mzI a0] μ (mzQi q) :=
  show mzWp (d + 1) 148 0 [mzR 14, mzI a0] [] μ (mzQi q) from mzVg_ok (cd := k_148) (cuts := []) (n := 13) gd_148 h
-- MeltPins.cheapest 
theorem g149_e {d : Nat} {q : Int → mzM → Prop} (a0 : Int) (μ : mzM) (h : (a0 < 0 → mzCl d 173 [mzR 14, mzI (-1000001)] μ (mzQi fun r2 m1 => q r2 m1)) ∧ ((0 : Int) ≤ a0 → (a0 ≤ 2 → mzCl d 179 [mzR 14, mzI 0] μ (mzQi fun r4 m3 => mzCl d 180 [mzR 14, mzI r4, mzI a0] m3 (mzQi fun r6 m5 => q r6 m5))) ∧ ((2 : Int) < a0 → mzCl d 173 [mzR 14, mzI (-1000001)] μ (mzQi fun r8 m7 => q r8 m7)))) : mzCl (d + 1) 149 [mzR 14, mzI a0] μ (mzQi q) :=
  show mzWp (d + 1) 149 0 [mzR 14, mzI a0] [] μ (mzQi q) from mzVg_ok (cd := k_149) (cuts := []) (n := 13) gd_149 h
-- MeltPins.most 
theorem g150_e {d : Nat} {q : Int → mzM → Prop} (a0 : Int) (a1 : Int) (μ : mzM) (h : (a0 < 0 → mzCl d 173 [mzR 14, mzI (-1000001)] μ (mzQi fun r2 m1 => q r2 m1)) ∧ ((0 : Int) ≤ a0 → (a1 < 0 → mzCl d 173 [mzR 14, mzI (-1000001)] μ (mzQi fun r4 m3 => q r4 m3)) ∧ ((0 : Int) ≤ a1 → (a1 ≤ 1 → (a0 ≤ μ 26 0 → mzCl d 102 [mzR 16] μ (mzQv fun m5 => mzWp (d + 1) 150 53 [mzR 14, mzI a0, mzI a1, mzI 0, mzI (-1), mzI 0, none] [] m5 (mzQi q))) ∧ (μ 26 0 < a0 → mzCl d 173 [mzR 14, mzI (-1000004)] μ (mzQi fun r7 m6 => q r7 m6))) ∧ ((1 : Int) < a1 → mzCl d 173 [mzR 14, mzI (-1000001)] μ (mzQi fun r9 m8 => q r9 m8))))) : mzCl (d + 1) 150 [mzR 14, mzI a0, mzI a1] μ (mzQi q) :=
  show mzWp (d + 1) 150 0 [mzR 14, mzI a0, mzI a1, none, none, none, none] [] μ (mzQi q) from mzVg_ok (cd := k_150) (cuts := [(53, [true, true, true, true, true, true, false])]) (n := 23) gd_150 h
theorem g150_53 {d : Nat} {q : Int → mzM → Prop} (x1 : Int) (x2 : Int) (x3 : Int) (x4 : Int) (x5 : Int) (μ : mzM) (h : mzCl d 94 [mzR 26] μ (mzQi fun r2 m1 => (r2 < x5 → (x2 ≠ 0 → q x4 m1) ∧ (x2 = 0 → q x3 m1)) ∧ (x5 ≤ r2 → mzCl d 190 [mzI x5] m1 (mzQi fun r4 m3 => (r4 ≠ x1 → mzWp (d + 1) 150 53 [mzR 14, mzI x1, mzI x2, mzI x3, mzI x4, mzI (mzW (x5 + 1)), none] [] m3 (mzQi q)) ∧ (r4 = x1 → mzCl d 107 [mzR 16, mzI x5, mzI (m3 26 3)] m3 (mzQi fun r6 m5 => mzCl d 190 [mzI r6] m5 (mzQi fun r8 m7 => (r8 ≤ x4 → mzWp (d + 1) 150 53 [mzR 14, mzI x1, mzI x2, mzI x3, mzI x4, mzI (mzW (x5 + 1)), none] [] m7 (mzQi q)) ∧ (x4 < r8 → mzWp (d + 1) 150 53 [mzR 14, mzI x1, mzI x2, mzI x5, mzI r8, mzI (mzW (x5 + 1)), none] [] m7 (mzQi q))))))))) : mzWp (d + 1) 150 53 [mzR 14, mzI x1, mzI x2, mzI x3, mzI x4, mzI x5, none] [] μ (mzQi q) :=
  show mzWp (d + 1) 150 53 [mzR 14, mzI x1, mzI x2, mzI x3, mzI x4, mzI x5, none] [] μ (mzQi q) from mzVg_ok (cd := k_150) (cuts := [(53, [true, true, true, true, true, true, false])]) (n := 29) gd_150 h
-- MeltPins.must 
theorem g151_e {d : Nat} {q : Int → mzM → Prop}  (μ : mzM) (h : mzCl d 102 [mzR 16] μ (mzQv fun m1 => mzCl d 105 [mzR 16] m1 (mzQi fun r3 m2 => q r3 m2))) : mzCl (d + 1) 151 [mzR 14] μ (mzQi q) :=
  show mzWp (d + 1) 151 0 [mzR 14] [] μ (mzQi q) from mzVg_ok (cd := k_151) (cuts := []) (n := 8) gd_151 h
-- MeltPins.order 
theorem g152_e {d : Nat} {q : Int → mzM → Prop} (a0 : Int) (a1 : Int) (a2 : Int) (μ : mzM) (h : mzCl d 175 [mzR 14, mzI a0] μ (mzQi fun r2 m1 => (r2 = 0 → ((0 : Int) < 1 → mzCl d 173 [mzR 14, mzI (-1000001)] m1 (mzQi fun r4 m3 => q r4 m3)) ∧ ((1 : Int) ≤ 0 → ((4 : Int) < 0 → mzCl d 173 [mzR 14, mzI (-1000001)] m1 (mzQi fun r6 m5 => q r6 m5)) ∧ ((0 : Int) ≤ 4 → (a1 < 0 → mzCl d 173 [mzR 14, mzI (-1000001)] m1 (mzQi fun r8 m7 => q r8 m7)) ∧ ((0 : Int) ≤ a1 → ((5 : Int) < a1 → mzCl d 173 [mzR 14, mzI (-1000001)] m1 (mzQi fun r10 m9 => q r10 m9)) ∧ (a1 ≤ 5 → (a2 < 0 → mzCl d 173 [mzR 14, mzI (-1000001)] m1 (mzQi fun r12 m11 => q r12 m11)) ∧ ((0 : Int) ≤ a2 → (a2 ≤ 1 → mzCl d 102 [mzR 16] m1 (mzQv fun m13 => mzWp (d + 1) 152 68 [mzR 14, mzI a0, mzI a1, mzI a2, mzI 0, mzI 1, mzI 0, none, none, none] [] m13 (mzQi q))) ∧ ((1 : Int) < a2 → mzCl d 173 [mzR 14, mzI (-1000001)] m1 (mzQi fun r15 m14 => q r15 m14)))))))) ∧ (r2 ≠ 0 → mzCl d 190 [mzI a0] m1 (mzQi fun r17 m16 => (r17 < 1 → mzCl d 173 [mzR 14, mzI (-1000001)] m16 (mzQi fun r19 m18 => q r19 m18)) ∧ ((1 : Int) ≤ r17 → ((4 : Int) < r17 → mzCl d 173 [mzR 14, mzI (-1000001)] m16 (mzQi fun r21 m20 => q r21 m20)) ∧ (r17 ≤ 4 → (a1 < 0 → mzCl d 173 [mzR 14, mzI (-1000001)] m16 (mzQi fun r23 m22 => q r23 m22)) ∧ ((0 : Int) ≤ a1 → ((5 : Int) < a1 → mzCl d 173 [mzR 14, mzI (-1000001)] m16 (mzQi fun r25 m24 => q r25 m24)) ∧ (a1 ≤ 5 → (a2 < 0 → mzCl d 173 [mzR 14, mzI (-1000001)] m16 (mzQi fun r27 m26 => q r27 m26)) ∧ ((0 : Int) ≤ a2 → (a2 ≤ 1 → mzCl d 102 [mzR 16] m16 (mzQv fun m28 => mzWp (d + 1) 152 68 [mzR 14, mzI a0, mzI a1, mzI a2, mzI r17, mzI 1, mzI 0, none, none, none] [] m28 (mzQi q))) ∧ ((1 : Int) < a2 → mzCl d 173 [mzR 14, mzI (-1000001)] m16 (mzQi fun r30 m29 => q r30 m29))))))))))) : mzCl (d + 1) 152 [mzR 14, mzI a0, mzI a1, mzI a2] μ (mzQi q) :=
  show mzWp (d + 1) 152 0 [mzR 14, mzI a0, mzI a1, mzI a2, none, none, none, none, none, none] [] μ (mzQi q) from mzVg_ok (cd := k_152) (cuts := [(68, [true, true, true, true, true, true, true, false, false, false]), (98, [true, true, true, true, true, true, true, true, true, false])]) (n := 33) gd_152 h
theorem g152_68 {d : Nat} {q : Int → mzM → Prop} (x1 : Int) (x2 : Int) (x3 : Int) (x4 : Int) (x5 : Int) (x6 : Int) (μ : mzM) (h : (x4 ≤ x6 → mzWp (d + 1) 152 98 [mzR 14, mzI x1, mzI x2, mzI x3, mzI x4, mzI x5, mzI (-1), mzI 50, mzI 0, none] [] μ (mzQi q)) ∧ (x6 < x4 → mzWp (d + 1) 152 68 [mzR 14, mzI x1, mzI x2, mzI x3, mzI x4, mzI (mzW (x5 * 12)), mzI (mzW (x6 + 1)), none, none, none] [] μ (mzQi q))) : mzWp (d + 1) 152 68 [mzR 14, mzI x1, mzI x2, mzI x3, mzI x4, mzI x5, mzI x6, none, none, none] [] μ (mzQi q) :=
  show mzWp (d + 1) 152 68 [mzR 14, mzI x1, mzI x2, mzI x3, mzI x4, mzI x5, mzI x6, none, none, none] [] μ (mzQi q) from mzVg_ok (cd := k_152) (cuts := [(68, [true, true, true, true, true, true, true, false, false, false]), (98, [true, true, true, true, true, true, true, true, true, false])]) (n := 11) gd_152 h
theorem g152_98 {d : Nat} {q : Int → mzM → Prop} (x1 : Int) (x2 : Int) (x3 : Int) (x4 : Int) (x5 : Int) (x6 : Int) (x7 : Int) (x8 : Int) (μ : mzM) (h : (x5 ≤ x8 → ((0 : Int) ≤ x6 → (x3 ≠ 0 → q x6 μ) ∧ (x3 = 0 → q x7 μ)) ∧ (x6 < 0 → mzCl d 173 [mzR 14, mzI (-1000004)] μ (mzQi fun r2 m1 => q r2 m1))) ∧ (x8 < x5 → mzCl d 181 [mzI x8, mzI x4] μ (mzQi fun r4 m3 => (r4 ≠ x1 → mzWp (d + 1) 152 98 [mzR 14, mzI x1, mzI x2, mzI x3, mzI x4, mzI x5, mzI x6, mzI x7, mzI (mzW (x8 + 1)), none] [] m3 (mzQi q)) ∧ (r4 = x1 → mzCl d 182 [mzR 14, mzI x8, mzI x4, mzI x2] m3 (mzQi fun r6 m5 => (x7 ≤ r6 → mzWp (d + 1) 152 98 [mzR 14, mzI x1, mzI x2, mzI x3, mzI x4, mzI x5, mzI x6, mzI x7, mzI (mzW (x8 + 1)), none] [] m5 (mzQi q)) ∧ (r6 < x7 → mzWp (d + 1) 152 98 [mzR 14, mzI x1, mzI x2, mzI x3, mzI x4, mzI x5, mzI x8, mzI r6, mzI (mzW (x8 + 1)), none] [] m5 (mzQi q))))))) : mzWp (d + 1) 152 98 [mzR 14, mzI x1, mzI x2, mzI x3, mzI x4, mzI x5, mzI x6, mzI x7, mzI x8, none] [] μ (mzQi q) :=
  show mzWp (d + 1) 152 98 [mzR 14, mzI x1, mzI x2, mzI x3, mzI x4, mzI x5, mzI x6, mzI x7, mzI x8, none] [] μ (mzQi q) from mzVg_ok (cd := k_152) (cuts := [(68, [true, true, true, true, true, true, true, false, false, false]), (98, [true, true, true, true, true, true, true, true, true, false])]) (n := 25) gd_152 h
-- MeltPins.stop 
theorem g153_e {d : Nat} {q : Int → mzM → Prop} (a0 : Int) (a1 : Int) (μ : mzM) (h : mzCl d 175 [mzR 14, mzI a0] μ (mzQi fun r2 m1 => (r2 = 0 → mzCl d 173 [mzR 14, mzI (-1000001)] m1 (mzQi fun r4 m3 => q r4 m3)) ∧ (r2 ≠ 0 → (a1 < 0 → mzCl d 173 [mzR 14, mzI (-1000001)] m1 (mzQi fun r6 m5 => q r6 m5)) ∧ ((0 : Int) ≤ a1 → (a1 ≤ 1 → mzCl d 102 [mzR 16] m1 (mzQv fun m7 => mzCl d 94 [mzR 26] m7 (mzQi fun r9 m8 => mzWp (d + 1) 153 63 [mzR 14, mzI a0, mzI a1, mzI (mzAnd (mzAnd r9 (mzXor a0 (-1))) (mzXor (m8 26 3) (-1))), mzI (mzAnd (mzAnd r9 (mzXor a0 (-1))) (mzXor (m8 26 3) (-1))), mzI 100000000, mzI 0, none] [] m8 (mzQi q)))) ∧ ((1 : Int) < a1 → mzCl d 173 [mzR 14, mzI (-1000001)] m1 (mzQi fun r11 m10 => q r11 m10)))))) : mzCl (d + 1) 153 [mzR 14, mzI a0, mzI a1] μ (mzQi q) :=
  show mzWp (d + 1) 153 0 [mzR 14, mzI a0, mzI a1, none, none, none, none, none] [] μ (mzQi q) from mzVg_ok (cd := k_153) (cuts := [(63, [true, true, true, true, true, true, true, false])]) (n := 34) gd_153 h
theorem g153_63 {d : Nat} {q : Int → mzM → Prop} (x1 : Int) (x2 : Int) (x3 : Int) (x4 : Int) (x5 : Int) (x6 : Int) (μ : mzM) (h : (x3 < x6 → (x2 ≠ 0 → mzCl d 99 [mzR 26, mzI x4, mzI 5] μ (mzQi fun r2 m1 => q r2 m1)) ∧ (x2 = 0 → q x4 μ)) ∧ (x6 ≤ x3 → (mzAnd x6 (mzXor x3 (-1)) ≠ 0 → mzWp (d + 1) 153 63 [mzR 14, mzI x1, mzI x2, mzI x3, mzI x4, mzI x5, mzI (mzW (x6 + 1)), none] [] μ (mzQi q)) ∧ (mzAnd x6 (mzXor x3 (-1)) = 0 → mzCl d 190 [mzI x6] μ (mzQi fun r4 m3 => mzCl d 99 [mzR 26, mzI x6, mzI 5] m3 (mzQi fun r6 m5 => (x5 ≤ mzW ((mzW (r4 * 10000)) + r6) → mzWp (d + 1) 153 63 [mzR 14, mzI x1, mzI x2, mzI x3, mzI x4, mzI x5, mzI (mzW (x6 + 1)), none] [] m5 (mzQi q)) ∧ (mzW ((mzW (r4 * 10000)) + r6) < x5 → mzCl d 107 [mzR 16, mzI x1, mzI (mzOr (m5 26 3) x6)] m5 (mzQi fun r8 m7 => (mzAnd r8 (mzXor x1 (-1)) ≠ 0 → mzWp (d + 1) 153 63 [mzR 14, mzI x1, mzI x2, mzI x3, mzI x4, mzI x5, mzI (mzW (x6 + 1)), none] [] m7 (mzQi q)) ∧ (mzAnd r8 (mzXor x1 (-1)) = 0 → mzWp (d + 1) 153 63 [mzR 14, mzI x1, mzI x2, mzI x3, mzI x6, mzI (mzW ((mzW (r4 * 10000)) + r6)), mzI (mzW (x6 + 1)), none] [] m7 (mzQi q))))))))) : mzWp (d + 1) 153 63 [mzR 14, mzI x1, mzI x2, mzI x3, mzI x4, mzI x5, mzI x6, none] [] μ (mzQi q) :=
  show mzWp (d + 1) 153 63 [mzR 14, mzI x1, mzI x2, mzI x3, mzI x4, mzI x5, mzI x6, none] [] μ (mzQi q) from mzVg_ok (cd := k_153) (cuts := [(63, [true, true, true, true, true, true, true, false])]) (n := 45) gd_153 h
-- MeltPins.near 
theorem g154_e {d : Nat} {q : Int → mzM → Prop} (a0 : Int) (μ : mzM) (h : mzCl d 175 [mzR 14, mzI a0] μ (mzQi fun r2 m1 => (r2 ≠ 0 → mzCl d 102 [mzR 16] m1 (mzQv fun m3 => mzWp (d + 1) 154 24 [mzR 14, mzI a0, mzI 0] [] m3 (mzQi q))) ∧ (r2 = 0 → mzCl d 173 [mzR 14, mzI (-1000001)] m1 (mzQi fun r5 m4 => q r5 m4)))) : mzCl (d + 1) 154 [mzR 14, mzI a0] μ (mzQi q) :=
  show mzWp (d + 1) 154 0 [mzR 14, mzI a0, none] [] μ (mzQi q) from mzVg_ok (cd := k_154) (cuts := [(24, [true, true, true])]) (n := 11) gd_154 h
theorem g154_24 {d : Nat} {q : Int → mzM → Prop} (x1 : Int) (x2 : Int) (μ : mzM) (h : ((98 : Int) < x2 → mzCl d 173 [mzR 14, mzI (-1000004)] μ (mzQi fun r2 m1 => q r2 m1)) ∧ (x2 ≤ 98 → mzCl d 103 [mzR 16, mzI x2] μ (mzQv fun m3 => mzCl d 106 [mzR 16, mzI x1] m3 (mzQi fun r5 m4 => (r5 = 0 → mzWp (d + 1) 154 24 [mzR 14, mzI x1, mzI (mzW (x2 + 1))] [] m4 (mzQi q)) ∧ (r5 ≠ 0 → q x2 m4))))) : mzWp (d + 1) 154 24 [mzR 14, mzI x1, mzI x2] [] μ (mzQi q) :=
  show mzWp (d + 1) 154 24 [mzR 14, mzI x1, mzI x2] [] μ (mzQi q) from mzVg_ok (cd := k_154) (cuts := [(24, [true, true, true])]) (n := 16) gd_154 h
-- MeltPins.look 
theorem g155_e {d : Nat} {q : Int → mzM → Prop}  (μ : mzM) (h : (μ 26 0 ≠ 0 → mzCl d 102 [mzR 16] μ (mzQv fun m1 => mzWp (d + 1) 155 30 [mzR 14, mzI 0, mzI (-1), mzI 0, none] [] m1 (mzQi q))) ∧ (μ 26 0 = 0 → mzCl d 173 [mzR 14, mzI (-1000004)] μ (mzQi fun r3 m2 => q r3 m2))) : mzCl (d + 1) 155 [mzR 14] μ (mzQi q) :=
  show mzWp (d + 1) 155 0 [mzR 14, none, none, none, none] [] μ (mzQi q) from mzVg_ok (cd := k_155) (cuts := [(30, [true, true, true, true, false])]) (n := 15) gd_155 h
theorem g155_30 {d : Nat} {q : Int → mzM → Prop} (x1 : Int) (x2 : Int) (x3 : Int) (μ : mzM) (h : (μ 26 0 ≤ x3 → q x1 μ) ∧ (x3 < μ 26 0 → mzCl d 107 [mzR 16, mzI (mzShl 1 x3), mzI (μ 26 3)] μ (mzQi fun r2 m1 => mzCl d 190 [mzI r2] m1 (mzQi fun r4 m3 => (r4 ≤ x2 → mzWp (d + 1) 155 30 [mzR 14, mzI x1, mzI x2, mzI (mzW (x3 + 1)), none] [] m3 (mzQi q)) ∧ (x2 < r4 → mzWp (d + 1) 155 30 [mzR 14, mzI x3, mzI r4, mzI (mzW (x3 + 1)), none] [] m3 (mzQi q)))))) : mzWp (d + 1) 155 30 [mzR 14, mzI x1, mzI x2, mzI x3, none] [] μ (mzQi q) :=
  show mzWp (d + 1) 155 30 [mzR 14, mzI x1, mzI x2, mzI x3, none] [] μ (mzQi q) from mzVg_ok (cd := k_155) (cuts := [(30, [true, true, true, true, false])]) (n := 27) gd_155 h
-- MeltPins.edge 
theorem g156_e {d : Nat} {q : Int → mzM → Prop} (a0 : Int) (a1 : Int) (μ : mzM) (h : mzCl d 175 [mzR 14, mzI a0] μ (mzQi fun r2 m1 => (r2 = 0 → mzCl d 173 [mzR 14, mzI (-1000001)] m1 (mzQi fun r4 m3 => q r4 m3)) ∧ (r2 ≠ 0 → mzCl d 174 [mzR 14, mzI a1] m1 (mzQi fun r6 m5 => (r6 ≠ 0 → mzCl d 102 [mzR 16] m5 (mzQv fun m7 => mzWp (d + 1) 156 33 [mzR 14, mzI a0, mzI a1, mzI 99] [] m7 (mzQi q))) ∧ (r6 = 0 → mzCl d 173 [mzR 14, mzI (-1000001)] m5 (mzQi fun r9 m8 => q r9 m8)))))) : mzCl (d + 1) 156 [mzR 14, mzI a0, mzI a1] μ (mzQi q) :=
  show mzWp (d + 1) 156 0 [mzR 14, mzI a0, mzI a1, none] [] μ (mzQi q) from mzVg_ok (cd := k_156) (cuts := [(33, [true, true, true, true])]) (n := 15) gd_156 h
theorem g156_33 {d : Nat} {q : Int → mzM → Prop} (x1 : Int) (x2 : Int) (x3 : Int) (μ : mzM) (h : (x3 < 1 → mzCl d 173 [mzR 14, mzI (-1000004)] μ (mzQi fun r2 m1 => q r2 m1)) ∧ ((1 : Int) ≤ x3 → mzCl d 104 [mzR 16, mzI x2, mzI x3] μ (mzQv fun m3 => mzCl d 106 [mzR 16, mzI x1] m3 (mzQi fun r5 m4 => (r5 = 0 → mzWp (d + 1) 156 33 [mzR 14, mzI x1, mzI x2, mzI (mzW (x3 + (-1)))] [] m4 (mzQi q)) ∧ (r5 ≠ 0 → q x3 m4))))) : mzWp (d + 1) 156 33 [mzR 14, mzI x1, mzI x2, mzI x3] [] μ (mzQi q) :=
  show mzWp (d + 1) 156 33 [mzR 14, mzI x1, mzI x2, mzI x3] [] μ (mzQi q) from mzVg_ok (cd := k_156) (cuts := [(33, [true, true, true, true])]) (n := 17) gd_156 h
-- MeltPins.likely 
theorem g157_e {d : Nat} {q : Int → mzM → Prop}  (μ : mzM) (h : mzCl d 102 [mzR 16] μ (mzQv fun m1 => mzCl d 105 [mzR 16] m1 (mzQi fun r3 m2 => mzWp (d + 1) 157 20 [mzR 14, mzI r3, mzL 0, none, mzI 0, none, none] [] m2 (mzQj q)))) : mzCl (d + 1) 157 [mzR 14] μ (mzQj q) :=
  show mzWp (d + 1) 157 0 [mzR 14, none, none, none, none, none, none] [] μ (mzQj q) from mzVg_ok (cd := k_157) (cuts := [(20, [true, true, true, false, true, false, false])]) (n := 13) gd_157 h
theorem g157_20 {d : Nat} {q : Int → mzM → Prop} (x1 : Int) (x2 : Int) (x4 : Int) (μ : mzM) (h : mzCl d 94 [mzR 26] μ (mzQi fun r2 m1 => (r2 < x4 → q x2 m1) ∧ (x4 ≤ r2 → (mzAnd x4 x1 ≠ x1 → mzWp (d + 1) 157 20 [mzR 14, mzI x1, mzL x2, none, mzI (mzW (x4 + 1)), none, none] [] m1 (mzQj q)) ∧ (mzAnd x4 x1 = x1 → mzCl d 184 [mzR 14, mzI x4] m1 (mzQj fun r4 m3 => (mzCmp r4 0 ≤ 0 → mzWp (d + 1) 157 20 [mzR 14, mzI x1, mzL x2, none, mzI (mzW (x4 + 1)), none, none] [] m3 (mzQj q)) ∧ ((0 : Int) < mzCmp r4 0 → mzCl d 106 [mzR 16, mzI x4] m3 (mzQi fun r6 m5 => (r6 = 0 → mzWp (d + 1) 157 20 [mzR 14, mzI x1, mzL x2, none, mzI (mzW (x4 + 1)), none, none] [] m5 (mzQj q)) ∧ (r6 ≠ 0 → mzWp (d + 1) 157 20 [mzR 14, mzI x1, mzL (mzX (x2 + r4)), none, mzI (mzW (x4 + 1)), none, none] [] m5 (mzQj q))))))))) : mzWp (d + 1) 157 20 [mzR 14, mzI x1, mzL x2, none, mzI x4, none, none] [] μ (mzQj q) :=
  show mzWp (d + 1) 157 20 [mzR 14, mzI x1, mzL x2, none, mzI x4, none, none] [] μ (mzQj q) from mzVg_ok (cd := k_157) (cuts := [(20, [true, true, true, false, true, false, false])]) (n := 31) gd_157 h
-- MeltPins.century 
theorem g158_e {d : Nat} {q : Int → mzM → Prop} (a0 : Int) (μ : mzM) (h : (a0 < 1 → mzCl d 173 [mzR 14, mzI (-1000001)] μ (mzQi fun r2 m1 => q r2 m1)) ∧ ((1 : Int) ≤ a0 → (a0 ≤ 50 → mzCl d 102 [mzR 16] μ (mzQv fun m3 => mzWp (d + 1) 158 29 [mzR 14, mzI a0, mzI 0, mzI 0] [] m3 (mzQi q))) ∧ ((50 : Int) < a0 → mzCl d 173 [mzR 14, mzI (-1000001)] μ (mzQi fun r5 m4 => q r5 m4)))) : mzCl (d + 1) 158 [mzR 14, mzI a0] μ (mzQi q) :=
  show mzWp (d + 1) 158 0 [mzR 14, mzI a0, none, none] [] μ (mzQi q) from mzVg_ok (cd := k_158) (cuts := [(29, [true, true, true, true])]) (n := 15) gd_158 h
theorem g158_29 {d : Nat} {q : Int → mzM → Prop} (x1 : Int) (x2 : Int) (x3 : Int) (μ : mzM) (h : (x1 ≤ x3 → q x2 μ) ∧ (x3 < x1 → mzCl d 185 [mzR 14] μ (mzQi fun r2 m1 => mzCl d 106 [mzR 16, mzI r2] m1 (mzQi fun r4 m3 => (r4 = 0 → mzWp (d + 1) 158 29 [mzR 14, mzI x1, mzI x2, mzI (mzW (x3 + 1))] [] m3 (mzQi q)) ∧ (r4 ≠ 0 → mzWp (d + 1) 158 29 [mzR 14, mzI x1, mzI (mzW (x2 + 1)), mzI (mzW (x3 + 1))] [] m3 (mzQi q)))))) : mzWp (d + 1) 158 29 [mzR 14, mzI x1, mzI x2, mzI x3] [] μ (mzQi q) :=
  show mzWp (d + 1) 158 29 [mzR 14, mzI x1, mzI x2, mzI x3] [] μ (mzQi q) from mzVg_ok (cd := k_158) (cuts := [(29, [true, true, true, true])]) (n := 14) gd_158 h
-- MeltPins.seed 
theorem g159_e {d : Nat} {q : Int → mzM → Prop} (a0 : Int) (μ : mzM) (h : q (μ 26 4) (mzS μ 26 4 a0)) : mzCl d 159 [mzR 14, mzI a0] μ (mzQi q) :=
  show mzWp d 159 0 [mzR 14, mzI a0, none] [] μ (mzQi q) from mzVg_ok (cd := k_159) (cuts := []) (n := 11) gd_159 h
-- MeltPins.game 
theorem g160_e {d : Nat} {q : Int → mzM → Prop} (a0 : Int) (a1 : Int) (μ : mzM) (h : (a0 < 1 → mzCl d 173 [mzR 14, mzI (-1000001)] μ (mzQi fun r2 m1 => q r2 m1)) ∧ ((1 : Int) ≤ a0 → ((2 : Int) < a0 → mzCl d 173 [mzR 14, mzI (-1000001)] μ (mzQi fun r4 m3 => q r4 m3)) ∧ (a0 ≤ 2 → (a1 < 0 → mzCl d 173 [mzR 14, mzI (-1000001)] μ (mzQi fun r6 m5 => q r6 m5)) ∧ ((0 : Int) ≤ a1 → (a1 ≤ 1 → mzCl d 102 [mzR 16] μ (mzQv fun m7 => mzCl d 94 [mzR 26] m7 (mzQi fun r9 m8 => mzWp (d + 1) 160 60 [mzR 14, mzI a0, mzI a1, mzI (mzAnd r9 (mzXor (m8 26 3) (-1))), mzI (-1), mzI (-1), mzI 0, none] [] m8 (mzQi q)))) ∧ ((1 : Int) < a1 → mzCl d 173 [mzR 14, mzI (-1000001)] μ (mzQi fun r11 m10 => q r11 m10)))))) : mzCl (d + 1) 160 [mzR 14, mzI a0, mzI a1] μ (mzQi q) :=
  show mzWp (d + 1) 160 0 [mzR 14, mzI a0, mzI a1, none, none, none, none, none] [] μ (mzQi q) from mzVg_ok (cd := k_160) (cuts := [(60, [true, true, true, true, true, true, true, false])]) (n := 32) gd_160 h
theorem g160_60 {d : Nat} {q : Int → mzM → Prop} (x1 : Int) (x2 : Int) (x3 : Int) (x4 : Int) (x5 : Int) (x6 : Int) (μ : mzM) (h : (μ 26 0 ≤ x6 → (x2 ≠ 1 → q (mzMx x4 0) μ) ∧ (x2 = 1 → q x5 μ)) ∧ (x6 < μ 26 0 → (mzAnd (mzShr x3 x6) 1 = 0 → mzWp (d + 1) 160 60 [mzR 14, mzI x1, mzI x2, mzI x3, mzI x4, mzI x5, mzI (mzW (x6 + 1)), none] [] μ (mzQi q)) ∧ (mzAnd (mzShr x3 x6) 1 ≠ 0 → mzCl d 187 [mzR 14, mzI x1, mzI (mzShl 1 x6), mzI (μ 26 3), mzI x4, mzI 12] μ (mzQi fun r2 m1 => (r2 ≤ x4 → mzWp (d + 1) 160 60 [mzR 14, mzI x1, mzI x2, mzI x3, mzI x4, mzI x5, mzI (mzW (x6 + 1)), none] [] m1 (mzQi q)) ∧ (x4 < r2 → mzWp (d + 1) 160 60 [mzR 14, mzI x1, mzI x2, mzI x3, mzI r2, mzI x6, mzI (mzW (x6 + 1)), none] [] m1 (mzQi q)))))) : mzWp (d + 1) 160 60 [mzR 14, mzI x1, mzI x2, mzI x3, mzI x4, mzI x5, mzI x6, none] [] μ (mzQi q) :=
  show mzWp (d + 1) 160 60 [mzR 14, mzI x1, mzI x2, mzI x3, mzI x4, mzI x5, mzI x6, none] [] μ (mzQi q) from mzVg_ok (cd := k_160) (cuts := [(60, [true, true, true, true, true, true, true, false])]) (n := 34) gd_160 h
-- MeltPins.first 
theorem g161_e {d : Nat} {q : Int → mzM → Prop} (a0 : Int) (μ : mzM) (h : mzCl d 176 [mzI a0] μ (mzQi fun r2 m1 => (r2 ≠ 0 → ((0 : Int) ≤ a0 ∧ (a0 : Int) < 4) ∧ ((a0.toNat < 4) ∧ ((m1 (44 + a0.toNat) 0 ≠ 0 → (a0.toNat < 4) ∧ ((m1 (44 + a0.toNat) 1 = m1 26 0 → mzCl d 102 [mzR 16] m1 (mzQv fun m3 => mzWp (d + 1) 161 72 [mzR 14, none, mzP 44 a0.toNat, mzI (-1), mzI 13, mzI 0, none] [] m3 (mzQi q))) ∧ (m1 (44 + a0.toNat) 1 ≠ m1 26 0 → mzCl d 173 [mzR 14, mzI (-1000004)] m1 (mzQi fun r5 m4 => q r5 m4)))) ∧ (m1 (44 + a0.toNat) 0 = 0 → mzCl d 173 [mzR 14, mzI (-1000006)] m1 (mzQi fun r7 m6 => q r7 m6))))) ∧ (r2 = 0 → mzCl d 173 [mzR 14, mzI (-1000001)] m1 (mzQi fun r9 m8 => q r9 m8)))) : mzCl (d + 1) 161 [mzR 14, mzI a0] μ (mzQi q) :=
  show mzWp (d + 1) 161 0 [mzR 14, mzI a0, none, none, none, none, none] [] μ (mzQi q) from mzVg_ok (cd := k_161) (cuts := [(72, [true, false, true, true, true, true, false])]) (n := 28) gd_161 h
theorem g161_72 {d : Nat} {q : Int → mzM → Prop} (x2 : Nat) (x3 : Int) (x4 : Int) (x5 : Int) (μ : mzM) (h : mzCl d 94 [mzR 26] μ (mzQi fun r2 m1 => (r2 < x5 → ((0 : Int) ≤ x3 → q x3 m1) ∧ (x3 < 0 → mzCl d 173 [mzR 14, mzI (-1000004)] m1 (mzQi fun r4 m3 => q r4 m3))) ∧ (x5 ≤ r2 → mzCl d 190 [mzI x5] m1 (mzQi fun r6 m5 => (x4 ≤ r6 → mzWp (d + 1) 161 72 [mzR 14, none, mzP 44 x2, mzI x3, mzI x4, mzI (mzW (x5 + 1)), none] [] m5 (mzQi q)) ∧ (r6 < x4 → mzCl d 188 [mzR 14, mzI x5, mzP 44 x2] m5 (mzQi fun r8 m7 => (r8 = 0 → mzWp (d + 1) 161 72 [mzR 14, none, mzP 44 x2, mzI x3, mzI x4, mzI (mzW (x5 + 1)), none] [] m7 (mzQi q)) ∧ (r8 ≠ 0 → mzWp (d + 1) 161 72 [mzR 14, none, mzP 44 x2, mzI x5, mzI r6, mzI (mzW (x5 + 1)), none] [] m7 (mzQi q)))))))) : mzWp (d + 1) 161 72 [mzR 14, none, mzP 44 x2, mzI x3, mzI x4, mzI x5, none] [] μ (mzQi q) :=
  show mzWp (d + 1) 161 72 [mzR 14, none, mzP 44 x2, mzI x3, mzI x4, mzI x5, none] [] μ (mzQi q) from mzVg_ok (cd := k_161) (cuts := [(72, [true, false, true, true, true, true, false])]) (n := 24) gd_161 h
-- MeltPins.judge 
theorem g162_e {d : Nat} {q : Int → mzM → Prop} (a0 : Int) (μ : mzM) (h : mzCl d 176 [mzI a0] μ (mzQi fun r2 m1 => (r2 ≠ 0 → ((0 : Int) ≤ a0 ∧ (a0 : Int) < 4) ∧ ((a0.toNat < 4) ∧ ((m1 (44 + a0.toNat) 0 ≠ 0 → mzCl d 178 [mzR 14, mzI 0] m1 (mzQv fun m3 => mzWp (d + 1) 162 42 [mzR 14, none, mzP 44 a0.toNat, mzI 0] [] m3 (mzQi q))) ∧ (m1 (44 + a0.toNat) 0 = 0 → mzCl d 173 [mzR 14, mzI (-1000006)] m1 (mzQi fun r5 m4 => q r5 m4))))) ∧ (r2 = 0 → mzCl d 173 [mzR 14, mzI (-1000001)] m1 (mzQi fun r7 m6 => q r7 m6)))) : mzCl (d + 1) 162 [mzR 14, mzI a0] μ (mzQi q) :=
  show mzWp (d + 1) 162 0 [mzR 14, mzI a0, none, none] [] μ (mzQi q) from mzVg_ok (cd := k_162) (cuts := [(42, [true, false, true, true])]) (n := 18) gd_162 h
theorem g162_42 {d : Nat} {q : Int → mzM → Prop} (x2 : Nat) (x3 : Int) (μ : mzM) (h : (x2 < 4) ∧ ((μ (44 + x2) 1 ≤ x3 → q 0 μ) ∧ (x3 < μ (44 + x2) 1 → mzCl d 98 [mzR 26, mzI x3] μ (mzQi fun r2 m1 => mzCl d 109 [mzR 16, mzI r2] m1 (mzQi fun r4 m3 => (x2 < 4) ∧ ((x2 < 4 ∧ (0 : Int) ≤ x3 ∧ (x3 : Int) < 40) ∧ (mzCl d 190 [mzI (m3 16 7)] m3 (mzQi fun r6 m5 => (m3 (48 + x2) x3.toNat = r6 → mzWp (d + 1) 162 42 [mzR 14, none, mzP 44 x2, mzI (mzW (x3 + 1))] [] m5 (mzQi q)) ∧ (m3 (48 + x2) x3.toNat ≠ r6 → q (mzW (1 + x3)) m5))))))))) : mzWp (d + 1) 162 42 [mzR 14, none, mzP 44 x2, mzI x3] [] μ (mzQi q) :=
  show mzWp (d + 1) 162 42 [mzR 14, none, mzP 44 x2, mzI x3] [] μ (mzQi q) from mzVg_ok (cd := k_162) (cuts := [(42, [true, false, true, true])]) (n := 26) gd_162 h
-- MeltPins.spot 
theorem g163_e {d : Nat} {q : Int → mzM → Prop} (a0 : Int) (a1 : Int) (μ : mzM) (h : (a0 < 0 → mzCl d 173 [mzR 14, mzI (-1000001)] μ (mzQi fun r2 m1 => q r2 m1)) ∧ ((0 : Int) ≤ a0 → ((10 : Int) ≤ a0 → mzCl d 173 [mzR 14, mzI (-1000001)] μ (mzQi fun r4 m3 => q r4 m3)) ∧ (a0 < 10 → (a1 = (-1) → ((0 : Int) ≤ a0 ∧ (a0 : Int) < 10) ∧ (q 1 (mzS μ 41 a0.toNat a1))) ∧ (a1 ≠ (-1) → mzCl d 174 [mzR 14, mzI a1] μ (mzQi fun r6 m5 => (r6 ≠ 0 → ((0 : Int) ≤ a0 ∧ (a0 : Int) < 10) ∧ (q 1 (mzS m5 41 a0.toNat a1))) ∧ (r6 = 0 → mzCl d 173 [mzR 14, mzI (-1000001)] m5 (mzQi fun r8 m7 => q r8 m7))))))) : mzCl (d + 1) 163 [mzR 14, mzI a0, mzI a1] μ (mzQi q) :=
  show mzWp (d + 1) 163 0 [mzR 14, mzI a0, mzI a1] [] μ (mzQi q) from mzVg_ok (cd := k_163) (cuts := []) (n := 21) gd_163 h
-- MeltPins.as 
theorem g164_e {d : Nat} {q : Int → mzM → Prop} (a0 : Int) (a1 : Int) (μ : mzM) (h : (a0 < 0 → mzCl d 173 [mzR 14, mzI (-1000001)] μ (mzQi fun r2 m1 => q r2 m1)) ∧ ((0 : Int) ≤ a0 → ((10 : Int) ≤ a0 → mzCl d 173 [mzR 14, mzI (-1000001)] μ (mzQi fun r4 m3 => q r4 m3)) ∧ (a0 < 10 → (a1 < 0 → mzCl d 173 [mzR 14, mzI (-1000001)] μ (mzQi fun r6 m5 => q r6 m5)) ∧ ((0 : Int) ≤ a1 → (a1 < 7 → ((0 : Int) ≤ a0 ∧ (a0 : Int) < 10) ∧ (mzCl d 174 [mzR 14, mzI (μ 41 a0.toNat)] μ (mzQi fun r8 m7 => (r8 ≠ 0 → ((0 : Int) ≤ μ 41 a0.toNat ∧ (μ 41 a0.toNat : Int) < 12) ∧ (((μ 41 a0.toNat).toNat < 12 ∧ (0 : Int) ≤ 0 ∧ (0 : Int) < 9) ∧ (mzCl d 177 [mzI (m7 (52 + ((μ 41 a0.toNat).toNat)) 0), mzI a1] m7 (mzQi fun r10 m9 => (r10 = 0 → mzCl d 173 [mzR 14, mzI (-1000003)] m9 (mzQi fun r12 m11 => q r12 m11)) ∧ (r10 ≠ 0 → q (μ 41 a0.toNat) m9))))) ∧ (r8 = 0 → mzCl d 173 [mzR 14, mzI (-1000006)] m7 (mzQi fun r14 m13 => q r14 m13))))) ∧ ((7 : Int) ≤ a1 → mzCl d 173 [mzR 14, mzI (-1000001)] μ (mzQi fun r16 m15 => q r16 m15)))))) : mzCl (d + 1) 164 [mzR 14, mzI a0, mzI a1] μ (mzQi q) :=
  show mzWp (d + 1) 164 0 [mzR 14, mzI a0, mzI a1, none] [] μ (mzQi q) from mzVg_ok (cd := k_164) (cuts := []) (n := 35) gd_164 h
-- MeltPins.sheet 
theorem g165_e {d : Nat} {q : Int → mzM → Prop} (a0 : Int) (a1 : Int) (a2 : Int) (μ : mzM) (h : mzCl d 176 [mzI a0] μ (mzQi fun r2 m1 => (r2 = 0 → mzCl d 173 [mzR 14, mzI (-1000001)] m1 (mzQi fun r4 m3 => q r4 m3)) ∧ (r2 ≠ 0 → (a1 = 0 → ((0 : Int) ≤ a2 → (a2 ≤ 40 → ((0 : Int) ≤ a0 ∧ (a0 : Int) < 4) ∧ ((a0.toNat < 4) ∧ ((a1 ≠ 0 → (a0.toNat < 4) ∧ ((a0.toNat < 4) ∧ (mzCl d 191 [mzP 48 a0.toNat, mzI 0] (mzS (mzS m1 (44 + a0.toNat) 0 a1) (44 + a0.toNat) 1 a2) (mzQv fun m5 => (a0.toNat < 4) ∧ (q (m5 (44 + a0.toNat) 1) m5))))) ∧ (a1 = 0 → (a0.toNat < 4) ∧ ((a0.toNat < 4) ∧ (mzCl d 191 [mzP 48 a0.toNat, mzI 0] (mzS (mzS m1 (44 + a0.toNat) 0 a1) (44 + a0.toNat) 1 0) (mzQv fun m6 => (a0.toNat < 4) ∧ (q (m6 (44 + a0.toNat) 1) m6)))))))) ∧ ((40 : Int) < a2 → mzCl d 173 [mzR 14, mzI (-1000001)] m1 (mzQi fun r8 m7 => q r8 m7))) ∧ (a2 < 0 → mzCl d 173 [mzR 14, mzI (-1000007)] m1 (mzQi fun r10 m9 => q r10 m9))) ∧ (a1 ≠ 0 → (a1 = 8 → ((0 : Int) ≤ a2 → (a2 ≤ 40 → ((0 : Int) ≤ a0 ∧ (a0 : Int) < 4) ∧ ((a0.toNat < 4) ∧ ((a1 ≠ 0 → (a0.toNat < 4) ∧ ((a0.toNat < 4) ∧ (mzCl d 191 [mzP 48 a0.toNat, mzI 0] (mzS (mzS m1 (44 + a0.toNat) 0 a1) (44 + a0.toNat) 1 a2) (mzQv fun m11 => (a0.toNat < 4) ∧ (q (m11 (44 + a0.toNat) 1) m11))))) ∧ (a1 = 0 → (a0.toNat < 4) ∧ ((a0.toNat < 4) ∧ (mzCl d 191 [mzP 48 a0.toNat, mzI 0] (mzS (mzS m1 (44 + a0.toNat) 0 a1) (44 + a0.toNat) 1 0) (mzQv fun m12 => (a0.toNat < 4) ∧ (q (m12 (44 + a0.toNat) 1) m12)))))))) ∧ ((40 : Int) < a2 → mzCl d 173 [mzR 14, mzI (-1000001)] m1 (mzQi fun r14 m13 => q r14 m13))) ∧ (a2 < 0 → mzCl d 173 [mzR 14, mzI (-1000007)] m1 (mzQi fun r16 m15 => q r16 m15))) ∧ (a1 ≠ 8 → (a1 = 16 → ((0 : Int) ≤ a2 → (a2 ≤ 40 → ((0 : Int) ≤ a0 ∧ (a0 : Int) < 4) ∧ ((a0.toNat < 4) ∧ ((a1 ≠ 0 → (a0.toNat < 4) ∧ ((a0.toNat < 4) ∧ (mzCl d 191 [mzP 48 a0.toNat, mzI 0] (mzS (mzS m1 (44 + a0.toNat) 0 a1) (44 + a0.toNat) 1 a2) (mzQv fun m17 => (a0.toNat < 4) ∧ (q (m17 (44 + a0.toNat) 1) m17))))) ∧ (a1 = 0 → (a0.toNat < 4) ∧ ((a0.toNat < 4) ∧ (mzCl d 191 [mzP 48 a0.toNat, mzI 0] (mzS (mzS m1 (44 + a0.toNat) 0 a1) (44 + a0.toNat) 1 0) (mzQv fun m18 => (a0.toNat < 4) ∧ (q (m18 (44 + a0.toNat) 1) m18)))))))) ∧ ((40 : Int) < a2 → mzCl d 173 [mzR 14, mzI (-1000001)] m1 (mzQi fun r20 m19 => q r20 m19))) ∧ (a2 < 0 → mzCl d 173 [mzR 14, mzI (-1000007)] m1 (mzQi fun r22 m21 => q r22 m21))) ∧ (a1 ≠ 16 → (a1 = 32 → ((0 : Int) ≤ a2 → (a2 ≤ 40 → ((0 : Int) ≤ a0 ∧ (a0 : Int) < 4) ∧ ((a0.toNat < 4) ∧ ((a1 ≠ 0 → (a0.toNat < 4) ∧ ((a0.toNat < 4) ∧ (mzCl d 191 [mzP 48 a0.toNat, mzI 0] (mzS (mzS m1 (44 + a0.toNat) 0 a1) (44 + a0.toNat) 1 a2) (mzQv fun m23 => (a0.toNat < 4) ∧ (q (m23 (44 + a0.toNat) 1) m23))))) ∧ (a1 = 0 → (a0.toNat < 4) ∧ ((a0.toNat < 4) ∧ (mzCl d 191 [mzP 48 a0.toNat, mzI 0] (mzS (mzS m1 (44 + a0.toNat) 0 a1) (44 + a0.toNat) 1 0) (mzQv fun m24 => (a0.toNat < 4) ∧ (q (m24 (44 + a0.toNat) 1) m24)))))))) ∧ ((40 : Int) < a2 → mzCl d 173 [mzR 14, mzI (-1000001)] m1 (mzQi fun r26 m25 => q r26 m25))) ∧ (a2 < 0 → mzCl d 173 [mzR 14, mzI (-1000007)] m1 (mzQi fun r28 m27 => q r28 m27))) ∧ (a1 ≠ 32 → mzCl d 173 [mzR 14, mzI (-1000001)] m1 (mzQi fun r30 m29 => q r30 m29)))))))) : mzCl (d + 1) 165 [mzR 14, mzI a0, mzI a1, mzI a2] μ (mzQi q) :=
  show mzWp (d + 1) 165 0 [mzR 14, mzI a0, mzI a1, mzI a2, none] [] μ (mzQi q) from mzVg_ok (cd := k_165) (cuts := []) (n := 41) gd_165 h
-- MeltPins.write 
theorem g166_e {d : Nat} {q : Int → mzM → Prop} (a0 : Int) (a1 : Int) (a2 : Int) (μ : mzM) (h : mzCl d 176 [mzI a0] μ (mzQi fun r2 m1 => (r2 ≠ 0 → ((0 : Int) ≤ a0 ∧ (a0 : Int) < 4) ∧ ((a0.toNat < 4) ∧ ((m1 (44 + a0.toNat) 0 ≠ 0 → (a1 < 0 → mzCl d 173 [mzR 14, mzI (-1000001)] m1 (mzQi fun r4 m3 => q r4 m3)) ∧ ((0 : Int) ≤ a1 → (a0.toNat < 4) ∧ ((a1 < m1 (44 + a0.toNat) 1 → (a0.toNat < 4) ∧ ((a0.toNat < 4) ∧ (mzCl d 91 [mzP 44 a0.toNat, mzI a2] m1 (mzQi fun r6 m5 => (a0.toNat < 4 ∧ (0 : Int) ≤ a1 ∧ (a1 : Int) < 40) ∧ (q 1 (mzS m5 (48 + a0.toNat) a1.toNat r6)))))) ∧ (m1 (44 + a0.toNat) 1 ≤ a1 → mzCl d 173 [mzR 14, mzI (-1000001)] m1 (mzQi fun r8 m7 => q r8 m7))))) ∧ (m1 (44 + a0.toNat) 0 = 0 → mzCl d 173 [mzR 14, mzI (-1000006)] m1 (mzQi fun r10 m9 => q r10 m9))))) ∧ (r2 = 0 → mzCl d 173 [mzR 14, mzI (-1000001)] m1 (mzQi fun r12 m11 => q r12 m11)))) : mzCl (d + 1) 166 [mzR 14, mzI a0, mzI a1, mzI a2] μ (mzQi q) :=
  show mzWp (d + 1) 166 0 [mzR 14, mzI a0, mzI a1, mzI a2, none] [] μ (mzQi q) from mzVg_ok (cd := k_166) (cuts := []) (n := 27) gd_166 h
-- MeltPins.copy 
theorem g167_e {d : Nat} {q : Int → mzM → Prop} (a0 : Int) (a1 : Int) (a2 : Int) (a3 : Int) (a4 : Int) (μ : mzM) (h : mzCl d 176 [mzI a0] μ (mzQi fun r2 m1 => (r2 = 0 → mzCl d 173 [mzR 14, mzI (-1000001)] m1 (mzQi fun r4 m3 => q r4 m3)) ∧ (r2 ≠ 0 → mzCl d 176 [mzI a2] m1 (mzQi fun r6 m5 => (r6 ≠ 0 → ((0 : Int) ≤ a0 ∧ (a0 : Int) < 4) ∧ (((0 : Int) ≤ a2 ∧ (a2 : Int) < 4) ∧ ((a0.toNat < 4) ∧ ((m5 (44 + a0.toNat) 0 = 0 → mzCl d 173 [mzR 14, mzI (-1000006)] m5 (mzQi fun r8 m7 => q r8 m7)) ∧ (m5 (44 + a0.toNat) 0 ≠ 0 → (a2.toNat < 4) ∧ ((m5 (44 + a2.toNat) 0 ≠ 0 → (a0.toNat < 4) ∧ ((a2.toNat < 4) ∧ ((m5 (44 + a0.toNat) 0 = m5 (44 + a2.toNat) 0 → (a0.toNat < 4) ∧ (mzCl d 92 [mzP 44 a0.toNat, mzI a1, mzI a4] m5 (mzQi fun r10 m9 => (r10 = 0 → mzCl d 173 [mzR 14, mzI (-1000001)] m9 (mzQi fun r12 m11 => q r12 m11)) ∧ (r10 ≠ 0 → (a2.toNat < 4) ∧ (mzCl d 92 [mzP 44 a2.toNat, mzI a3, mzI a4] m9 (mzQi fun r14 m13 => (r14 ≠ 0 → (a0.toNat < 4) ∧ ((a2.toNat < 4) ∧ ((a0.toNat < 4) ∧ ((a2.toNat < 4) ∧ (((0 : Int) ≤ a1 ∧ (0 : Int) ≤ a3 ∧ (0 : Int) ≤ a4 ∧ (a1 + a4 : Int) ≤ 40 ∧ (a3 + a4 : Int) ≤ 40) ∧ (q a4 (mzCp m13 (48 + a0.toNat) a1.toNat (48 + a2.toNat) a3.toNat a4.toNat))))))) ∧ (r14 = 0 → mzCl d 173 [mzR 14, mzI (-1000001)] m13 (mzQi fun r16 m15 => q r16 m15)))))))) ∧ (m5 (44 + a0.toNat) 0 ≠ m5 (44 + a2.toNat) 0 → mzCl d 173 [mzR 14, mzI (-1000003)] m5 (mzQi fun r18 m17 => q r18 m17))))) ∧ (m5 (44 + a2.toNat) 0 = 0 → mzCl d 173 [mzR 14, mzI (-1000006)] m5 (mzQi fun r20 m19 => q r20 m19)))))))) ∧ (r6 = 0 → mzCl d 173 [mzR 14, mzI (-1000001)] m5 (mzQi fun r22 m21 => q r22 m21)))))) : mzCl (d + 1) 167 [mzR 14, mzI a0, mzI a1, mzI a2, mzI a3, mzI a4] μ (mzQi q) :=
  show mzWp (d + 1) 167 0 [mzR 14, mzI a0, mzI a1, mzI a2, mzI a3, mzI a4, none, none] [] μ (mzQi q) from mzVg_ok (cd := k_167) (cuts := []) (n := 48) gd_167 h
-- MeltPins.image 
theorem g168_e {d : Nat} {q : Int → mzM → Prop}  (μ : mzM) (h : mzCl d 93 [mzR 27, mzR 26] μ (mzQv fun m1 => ((1 : Int) = 0 ∨ (1 : Int) = 1) ∧ (q 1 (mzS m1 14 7 1)))) : mzCl (d + 1) 168 [mzR 14] μ (mzQi q) :=
  show mzWp (d + 1) 168 0 [mzR 14] [] μ (mzQi q) from mzVg_ok (cd := k_168) (cuts := []) (n := 11) gd_168 h
-- MeltPins.undo 
theorem g169_e {d : Nat} {q : Int → mzM → Prop}  (μ : mzM) (h : (μ 14 7 ≠ 0 → mzCl d 93 [mzR 26, mzR 27] μ (mzQv fun m1 => q (m1 26 0) m1)) ∧ (μ 14 7 = 0 → mzCl d 173 [mzR 14, mzI (-1000004)] μ (mzQi fun r3 m2 => q r3 m2))) : mzCl (d + 1) 169 [mzR 14] μ (mzQi q) :=
  show mzWp (d + 1) 169 0 [mzR 14] [] μ (mzQi q) from mzVg_ok (cd := k_169) (cuts := []) (n := 13) gd_169 h
-- MeltPins.tear 
theorem g170_e {d : Nat} {q : Int → mzM → Prop}  (μ : mzM) (h : (μ 14 7 = 0 → ((0 : Int) = 0 ∨ (0 : Int) = 1) ∧ (q 0 (mzS μ 14 7 0))) ∧ (μ 14 7 ≠ 0 → ((0 : Int) = 0 ∨ (0 : Int) = 1) ∧ (q 1 (mzS μ 14 7 0)))) : mzCl d 170 [mzR 14] μ (mzQi q) :=
  show mzWp d 170 0 [mzR 14, none] [] μ (mzQi q) from mzVg_ok (cd := k_170) (cuts := []) (n := 12) gd_170 h
-- MeltPins.count 
theorem g171_e {d : Nat} {q : Int → mzM → Prop} (a0 : Int) (μ : mzM) (h : (((a0 : Int) = 0 → q (μ 26 0) μ) ∧ ((a0 : Int) = 1 → q (μ 26 1) μ) ∧ ((a0 : Int) = 2 → q (μ 26 2) μ) ∧ ((a0 : Int) = 3 → mzCl d 190 [mzI (μ 26 3)] μ (mzQi fun r2 m1 => q r2 m1)) ∧ ((a0 : Int) = 4 → q (μ 23 1) μ) ∧ ((a0 : Int) = 5 → q (μ 26 4) μ) ∧ ((a0 : Int) = 6 → mzCl d 100 [mzR 26] μ (mzQi fun r4 m3 => q r4 m3)) ∧ True) ∧ (((a0 : Int) < 0 ∨ (6 : Int) < a0) → mzCl d 173 [mzR 14, mzI (-1000001)] μ (mzQi fun r6 m5 => q r6 m5))) : mzCl (d + 1) 171 [mzR 14, mzI a0] μ (mzQi q) :=
  show mzWp (d + 1) 171 0 [mzR 14, mzI a0] [] μ (mzQi q) from mzVg_ok (cd := k_171) (cuts := []) (n := 8) gd_171 h
-- MeltPins.status 
theorem g172_e {d : Nat} {q : Int → mzM → Prop} (a0 : Int) (μ : mzM) (h : (a0 < (-1) → mzCl d 173 [mzR 14, mzI (-1000001)] μ (mzQi fun r2 m1 => q r2 m1)) ∧ (((-1) : Int) ≤ a0 → (a0 < 7 → (a0 < 0 → mzWp (d + 1) 172 33 [mzR 14, none, mzI 0, mzI 0] [] μ (mzQi q)) ∧ ((0 : Int) ≤ a0 → ((0 : Int) ≤ a0 ∧ (a0 : Int) < 7) ∧ (q (μ 15 a0.toNat) μ))) ∧ ((7 : Int) ≤ a0 → mzCl d 173 [mzR 14, mzI (-1000001)] μ (mzQi fun r4 m3 => q r4 m3)))) : mzCl (d + 1) 172 [mzR 14, mzI a0] μ (mzQi q) :=
  show mzWp (d + 1) 172 0 [mzR 14, mzI a0, none, none] [] μ (mzQi q) from mzVg_ok (cd := k_172) (cuts := [(33, [true, false, true, true])]) (n := 14) gd_172 h
theorem g172_33 {d : Nat} {q : Int → mzM → Prop} (x2 : Int) (x3 : Int) (μ : mzM) (h : ((7 : Int) ≤ x3 → q x2 μ) ∧ (x3 < 7 → ((0 : Int) ≤ x3 ∧ (x3 : Int) < 7) ∧ (mzWp (d + 1) 172 33 [mzR 14, none, mzI (mzW (x2 + (μ 15 x3.toNat))), mzI (mzW (x3 + 1))] [] μ (mzQi q)))) : mzWp (d + 1) 172 33 [mzR 14, none, mzI x2, mzI x3] [] μ (mzQi q) :=
  show mzWp (d + 1) 172 33 [mzR 14, none, mzI x2, mzI x3] [] μ (mzQi q) from mzVg_ok (cd := k_172) (cuts := [(33, [true, false, true, true])]) (n := 14) gd_172 h
-- MeltPins.finding 
theorem g173_e {d : Nat} {q : Int → mzM → Prop} (a0 : Int) (μ : mzM) (h : (mzW ((-1000001) - a0) < 0 → q a0 μ) ∧ ((0 : Int) ≤ mzW ((-1000001) - a0) → ((7 : Int) ≤ mzW ((-1000001) - a0) → q a0 μ) ∧ (mzW ((-1000001) - a0) < 7 → ((0 : Int) ≤ mzW ((-1000001) - a0) ∧ (mzW ((-1000001) - a0) : Int) < 7) ∧ (((0 : Int) ≤ mzW ((-1000001) - a0) ∧ (mzW ((-1000001) - a0) : Int) < 7) ∧ (q a0 (mzS μ 15 ((mzW ((-1000001) - a0)).toNat) (mzW ((μ 15 ((mzW ((-1000001) - a0)).toNat)) + 1)))))))) : mzCl d 173 [mzR 14, mzI a0] μ (mzQi q) :=
  show mzWp d 173 0 [mzR 14, mzI a0, none] [] μ (mzQi q) from mzVg_ok (cd := k_173) (cuts := []) (n := 20) gd_173 h
-- MeltPins.isPlace 
theorem g174_e {d : Nat} {q : Int → mzM → Prop} (a0 : Int) (μ : mzM) (h : (a0 < 0 → ((0 : Int) = 0 ∨ (0 : Int) = 1) ∧ (q 0 μ)) ∧ ((0 : Int) ≤ a0 → (μ 26 0 ≤ a0 → ((0 : Int) = 0 ∨ (0 : Int) = 1) ∧ (q 0 μ)) ∧ (a0 < μ 26 0 → ((1 : Int) = 0 ∨ (1 : Int) = 1) ∧ (q 1 μ)))) : mzCl d 174 [mzR 14, mzI a0] μ (mzQi q) :=
  show mzWp d 174 0 [mzR 14, mzI a0] [] μ (mzQi q) from mzVg_ok (cd := k_174) (cuts := []) (n := 11) gd_174 h
-- MeltPins.isSet 
theorem g175_e {d : Nat} {q : Int → mzM → Prop} (a0 : Int) (μ : mzM) (h : (a0 < 0 → ((0 : Int) = 0 ∨ (0 : Int) = 1) ∧ (q 0 μ)) ∧ ((0 : Int) ≤ a0 → mzCl d 94 [mzR 26] μ (mzQi fun r2 m1 => (r2 < a0 → ((0 : Int) = 0 ∨ (0 : Int) = 1) ∧ (q 0 m1)) ∧ (a0 ≤ r2 → ((1 : Int) = 0 ∨ (1 : Int) = 1) ∧ (q 1 m1))))) : mzCl (d + 1) 175 [mzR 14, mzI a0] μ (mzQi q) :=
  show mzWp (d + 1) 175 0 [mzR 14, mzI a0] [] μ (mzQi q) from mzVg_ok (cd := k_175) (cuts := []) (n := 11) gd_175 h
-- MeltPins.isSheet 
theorem g176_e {d : Nat} {q : Int → mzM → Prop} (a0 : Int) (μ : mzM) (h : (a0 < 0 → ((0 : Int) = 0 ∨ (0 : Int) = 1) ∧ (q 0 μ)) ∧ ((0 : Int) ≤ a0 → ((4 : Int) ≤ a0 → ((0 : Int) = 0 ∨ (0 : Int) = 1) ∧ (q 0 μ)) ∧ (a0 < 4 → ((1 : Int) = 0 ∨ (1 : Int) = 1) ∧ (q 1 μ)))) : mzCl d 176 [mzI a0] μ (mzQi q) :=
  show mzWp d 176 0 [mzI a0] [] μ (mzQi q) from mzVg_ok (cd := k_176) (cuts := []) (n := 9) gd_176 h
-- MeltPins.isOfKind 
theorem g177_e {d : Nat} {q : Int → mzM → Prop} (a0 : Int) (a1 : Int) (μ : mzM) (h : mzWp d 177 4 [none, mzI a1, mzI a0, mzI 0] [] μ (mzQi q)) : mzCl d 177 [mzI a0, mzI a1] μ (mzQi q) :=
  show mzWp d 177 0 [mzI a0, mzI a1, none, none] [] μ (mzQi q) from mzVg_ok (cd := k_177) (cuts := [(4, [false, true, true, true])]) (n := 6) gd_177 h
theorem g177_4 {d : Nat} {q : Int → mzM → Prop} (x1 : Int) (x2 : Int) (x3 : Int) (μ : mzM) (h : ((7 : Int) ≤ x3 → ((0 : Int) = 0 ∨ (0 : Int) = 1) ∧ (q 0 μ)) ∧ (x3 < 7 → (x2 < 0 → ((0 : Int) = 0 ∨ (0 : Int) = 1) ∧ (q 0 μ)) ∧ ((0 : Int) ≤ x2 → (x2 ≠ x1 → ((0 : Int) ≤ x2 ∧ (x2 : Int) < 7) ∧ (mzWp d 177 4 [none, mzI x1, mzI (mzCst 200 x2.toNat), mzI (mzW (x3 + 1))] [] μ (mzQi q))) ∧ (x2 = x1 → ((1 : Int) = 0 ∨ (1 : Int) = 1) ∧ (q 1 μ))))) : mzWp d 177 4 [none, mzI x1, mzI x2, mzI x3] [] μ (mzQi q) :=
  show mzWp d 177 4 [none, mzI x1, mzI x2, mzI x3] [] μ (mzQi q) from mzVg_ok (cd := k_177) (cuts := [(4, [false, true, true, true])]) (n := 16) gd_177 h
-- MeltPins.passPlan 
theorem g178_e {d : Nat} {q : mzM → Prop} (a0 : Int) (μ : mzM) (h : mzCl d 102 [mzR 16] μ (mzQv fun m1 => mzCl d 108 [mzR 16, mzI (m1 26 3)] m1 (mzQv fun m2 => mzWp (d + 1) 178 23 [mzR 14, mzI a0, mzI 0] [] m2 (mzQv q)))) : mzCl (d + 1) 178 [mzR 14, mzI a0] μ (mzQv q) :=
  show mzWp (d + 1) 178 0 [mzR 14, mzI a0, none] [] μ (mzQv q) from mzVg_ok (cd := k_178) (cuts := [(23, [true, true, true])]) (n := 13) gd_178 h
theorem g178_23 {d : Nat} {q : mzM → Prop} (x1 : Int) (x2 : Int) (μ : mzM) (h : (x1 ≤ x2 → q μ) ∧ (x2 < x1 → mzCl d 98 [mzR 26, mzI x2] μ (mzQi fun r2 m1 => mzCl d 109 [mzR 16, mzI r2] m1 (mzQi fun r4 m3 => mzWp (d + 1) 178 23 [mzR 14, mzI x1, mzI (mzW (x2 + 1))] [] m3 (mzQv q))))) : mzWp (d + 1) 178 23 [mzR 14, mzI x1, mzI x2] [] μ (mzQv q) :=
  show mzWp (d + 1) 178 23 [mzR 14, mzI x1, mzI x2] [] μ (mzQv q) from mzVg_ok (cd := k_178) (cuts := [(23, [true, true, true])]) (n := 15) gd_178 h
-- MeltPins.leastThatStands 
theorem g179_e {d : Nat} {q : Int → mzM → Prop} (a0 : Int) (μ : mzM) (h : mzCl d 102 [mzR 16] μ (mzQv fun m1 => mzCl d 105 [mzR 16] m1 (mzQi fun r3 m2 => mzWp (d + 1) 179 24 [mzR 14, mzI a0, mzI r3, mzI (-1), mzI 100000000, mzI 0, none, none, none] [] m2 (mzQi q)))) : mzCl (d + 1) 179 [mzR 14, mzI a0] μ (mzQi q) :=
  show mzWp (d + 1) 179 0 [mzR 14, mzI a0, none, none, none, none, none, none, none] [] μ (mzQi q) from mzVg_ok (cd := k_179) (cuts := [(24, [true, true, true, true, true, true, false, false, false])]) (n := 15) gd_179 h
theorem g179_24 {d : Nat} {q : Int → mzM → Prop} (x1 : Int) (x2 : Int) (x3 : Int) (x4 : Int) (x5 : Int) (μ : mzM) (h : mzCl d 94 [mzR 26] μ (mzQi fun r2 m1 => (r2 < x5 → q x3 m1) ∧ (x5 ≤ r2 → (mzAnd x5 x2 ≠ x2 → mzWp (d + 1) 179 24 [mzR 14, mzI x1, mzI x2, mzI x3, mzI x4, mzI (mzW (x5 + 1)), none, none, none] [] m1 (mzQi q)) ∧ (mzAnd x5 x2 = x2 → mzCl d 190 [mzI x5] m1 (mzQi fun r4 m3 => mzCl d 99 [mzR 26, mzI x5, mzI 4] m3 (mzQi fun r6 m5 => (x1 = 0 → (x4 ≤ mzW ((mzW (r6 * 10000)) + r4) → mzWp (d + 1) 179 24 [mzR 14, mzI x1, mzI x2, mzI x3, mzI x4, mzI (mzW (x5 + 1)), none, none, none] [] m5 (mzQi q)) ∧ (mzW ((mzW (r6 * 10000)) + r4) < x4 → mzCl d 106 [mzR 16, mzI x5] m5 (mzQi fun r8 m7 => (r8 = 0 → mzWp (d + 1) 179 24 [mzR 14, mzI x1, mzI x2, mzI x3, mzI x4, mzI (mzW (x5 + 1)), none, none, none] [] m7 (mzQi q)) ∧ (r8 ≠ 0 → mzWp (d + 1) 179 24 [mzR 14, mzI x1, mzI x2, mzI x5, mzI (mzW ((mzW (r6 * 10000)) + r4)), mzI (mzW (x5 + 1)), none, none, none] [] m7 (mzQi q))))) ∧ (x1 ≠ 0 → (x4 ≤ mzW ((mzW (r4 * 10000)) + r6) → mzWp (d + 1) 179 24 [mzR 14, mzI x1, mzI x2, mzI x3, mzI x4, mzI (mzW (x5 + 1)), none, none, none] [] m5 (mzQi q)) ∧ (mzW ((mzW (r4 * 10000)) + r6) < x4 → mzCl d 106 [mzR 16, mzI x5] m5 (mzQi fun r10 m9 => (r10 = 0 → mzWp (d + 1) 179 24 [mzR 14, mzI x1, mzI x2, mzI x3, mzI x4, mzI (mzW (x5 + 1)), none, none, none] [] m9 (mzQi q)) ∧ (r10 ≠ 0 → mzWp (d + 1) 179 24 [mzR 14, mzI x1, mzI x2, mzI x5, mzI (mzW ((mzW (r4 * 10000)) + r6)), mzI (mzW (x5 + 1)), none, none, none] [] m9 (mzQi q))))))))))) : mzWp (d + 1) 179 24 [mzR 14, mzI x1, mzI x2, mzI x3, mzI x4, mzI x5, none, none, none] [] μ (mzQi q) :=
  show mzWp (d + 1) 179 24 [mzR 14, mzI x1, mzI x2, mzI x3, mzI x4, mzI x5, none, none, none] [] μ (mzQi q) from mzVg_ok (cd := k_179) (cuts := [(24, [true, true, true, true, true, true, false, false, false])]) (n := 44) gd_179 h
-- MeltPins.tellOfSet 
theorem g180_e {d : Nat} {q : Int → mzM → Prop} (a0 : Int) (a1 : Int) (μ : mzM) (h : ((0 : Int) ≤ a0 → ((a1 : Int) = 0 → q a0 μ) ∧ ((a1 : Int) ≠ 0 → ((a1 : Int) = 1 → mzCl d 190 [mzI a0] μ (mzQi fun r4 m3 => q r4 m3)) ∧ ((a1 : Int) ≠ 1 → mzCl d 99 [mzR 26, mzI a0, mzI 4] μ (mzQi fun r2 m1 => q r2 m1)))) ∧ (a0 < 0 → mzCl d 173 [mzR 14, mzI (-1000004)] μ (mzQi fun r6 m5 => q r6 m5))) : mzCl (d + 1) 180 [mzR 14, mzI a0, mzI a1] μ (mzQi q) :=
  show mzWp (d + 1) 180 0 [mzR 14, mzI a0, mzI a1] [] μ (mzQi q) from mzVg_ok (cd := k_180) (cuts := []) (n := 11) gd_180 h
-- MeltPins.digitSet 
theorem g181_e {d : Nat} {q : Int → mzM → Prop} (a0 : Int) (a1 : Int) (μ : mzM) (h : mzWp d 181 7 [none, mzI a1, mzI 0, mzI a0, mzI 0] [] μ (mzQi q)) : mzCl d 181 [mzI a0, mzI a1] μ (mzQi q) :=
  show mzWp d 181 0 [mzI a0, mzI a1, none, none, none] [] μ (mzQi q) from mzVg_ok (cd := k_181) (cuts := [(7, [false, true, true, true, true])]) (n := 8) gd_181 h
theorem g181_7 {d : Nat} {q : Int → mzM → Prop} (x1 : Int) (x2 : Int) (x3 : Int) (x4 : Int) (μ : mzM) (h : (x1 ≤ x4 → q x2 μ) ∧ (x4 < x1 → ((12 : Int) ≠ 0) ∧ (((12 : Int) ≠ 0) ∧ (mzWp d 181 7 [none, mzI x1, mzI (mzOr x2 (mzShl 1 (mzRem x3 12))), mzI (mzDiv x3 12), mzI (mzW (x4 + 1))] [] μ (mzQi q))))) : mzWp d 181 7 [none, mzI x1, mzI x2, mzI x3, mzI x4] [] μ (mzQi q) :=
  show mzWp d 181 7 [none, mzI x1, mzI x2, mzI x3, mzI x4] [] μ (mzQi q) from mzVg_ok (cd := k_181) (cuts := [(7, [false, true, true, true, true])]) (n := 19) gd_181 h
-- MeltPins.orderYears 
theorem g182_e {d : Nat} {q : Int → mzM → Prop} (a0 : Int) (a1 : Int) (a2 : Int) (μ : mzM) (h : mzCl d 108 [mzR 16, mzI (μ 26 3)] μ (mzQv fun m1 => mzWp (d + 1) 182 17 [mzR 14, mzI a0, mzI a1, mzI a2, mzI 1] [] m1 (mzQi q))) : mzCl (d + 1) 182 [mzR 14, mzI a0, mzI a1, mzI a2] μ (mzQi q) :=
  show mzWp (d + 1) 182 0 [mzR 14, mzI a0, mzI a1, mzI a2, none] [] μ (mzQi q) from mzVg_ok (cd := k_182) (cuts := [(17, [true, true, true, true, true])]) (n := 10) gd_182 h
theorem g182_17 {d : Nat} {q : Int → mzM → Prop} (x1 : Int) (x2 : Int) (x3 : Int) (x4 : Int) (μ : mzM) (h : ((49 : Int) < x4 → q 50 μ) ∧ (x4 ≤ 49 → mzCl d 183 [mzI x1, mzI x2, mzI x3, mzI (mzW (x4 - 1))] μ (mzQi fun r2 m1 => mzCl d 109 [mzR 16, mzI r2] m1 (mzQi fun r4 m3 => mzCl d 94 [mzR 26] m3 (mzQi fun r6 m5 => (m3 16 7 ≠ r6 → mzWp (d + 1) 182 17 [mzR 14, mzI x1, mzI x2, mzI x3, mzI (mzW (x4 + 1))] [] m5 (mzQi q)) ∧ (m3 16 7 = r6 → q x4 m5)))))) : mzWp (d + 1) 182 17 [mzR 14, mzI x1, mzI x2, mzI x3, mzI x4] [] μ (mzQi q) :=
  show mzWp (d + 1) 182 17 [mzR 14, mzI x1, mzI x2, mzI x3, mzI x4] [] μ (mzQi q) from mzVg_ok (cd := k_182) (cuts := [(17, [true, true, true, true, true])]) (n := 25) gd_182 h
-- MeltPins.orderPushes 
theorem g183_e {d : Nat} {q : Int → mzM → Prop} (a0 : Int) (a1 : Int) (a2 : Int) (a3 : Int) (μ : mzM) (h : mzWp d 183 11 [none, none, mzI a2, mzI a3, mzI 0, mzI a0, mzI (mzW (a1 - 1))] [] μ (mzQi q)) : mzCl d 183 [mzI a0, mzI a1, mzI a2, mzI a3] μ (mzQi q) :=
  show mzWp d 183 0 [mzI a0, mzI a1, mzI a2, mzI a3, none, none, none] [] μ (mzQi q) from mzVg_ok (cd := k_183) (cuts := [(11, [false, false, true, true, true, true, true])]) (n := 10) gd_183 h
theorem g183_11 {d : Nat} {q : Int → mzM → Prop} (x2 : Int) (x3 : Int) (x4 : Int) (x5 : Int) (x6 : Int) (μ : mzM) (h : (x6 < 0 → q x4 μ) ∧ ((0 : Int) ≤ x6 → (mzW (x6 * x2) ≠ x3 → ((12 : Int) ≠ 0) ∧ (mzWp d 183 11 [none, none, mzI x2, mzI x3, mzI x4, mzI (mzDiv x5 12), mzI (mzW (x6 + (-1)))] [] μ (mzQi q))) ∧ (mzW (x6 * x2) = x3 → ((12 : Int) ≠ 0) ∧ (((12 : Int) ≠ 0) ∧ (mzWp d 183 11 [none, none, mzI x2, mzI x3, mzI (mzOr x4 (mzShl 1 (mzRem x5 12))), mzI (mzDiv x5 12), mzI (mzW (x6 + (-1)))] [] μ (mzQi q)))))) : mzWp d 183 11 [none, none, mzI x2, mzI x3, mzI x4, mzI x5, mzI x6] [] μ (mzQi q) :=
  show mzWp d 183 11 [none, none, mzI x2, mzI x3, mzI x4, mzI x5, mzI x6] [] μ (mzQi q) from mzVg_ok (cd := k_183) (cuts := [(11, [false, false, true, true, true, true, true])]) (n := 23) gd_183 h
-- MeltPins.chanceOf 
theorem g184_e {d : Nat} {q : Int → mzM → Prop} (a0 : Int) (μ : mzM) (h : mzWp d 184 5 [mzR 14, mzI a0, mzL 1, none, mzI 0, none] [] μ (mzQj q)) : mzCl d 184 [mzR 14, mzI a0] μ (mzQj q) :=
  show mzWp d 184 0 [mzR 14, mzI a0, none, none, none, none] [] μ (mzQj q) from mzVg_ok (cd := k_184) (cuts := [(5, [true, true, true, false, true, false])]) (n := 6) gd_184 h
theorem g184_5 {d : Nat} {q : Int → mzM → Prop} (x1 : Int) (x2 : Int) (x4 : Int) (μ : mzM) (h : (μ 26 0 ≤ x4 → q x2 μ) ∧ (x4 < μ 26 0 → ((0 : Int) ≤ x4 ∧ (x4 : Int) < 12) ∧ ((x4.toNat < 12 ∧ (0 : Int) ≤ 6 ∧ (6 : Int) < 9) ∧ ((mzAnd (mzShr x1 x4) 1 = 0 → mzWp d 184 5 [mzR 14, mzI x1, mzL (mzX (x2 * (mzW (10 - (μ (52 + x4.toNat) 6))))), none, mzI (mzW (x4 + 1)), none] [] μ (mzQj q)) ∧ (mzAnd (mzShr x1 x4) 1 ≠ 0 → mzWp d 184 5 [mzR 14, mzI x1, mzL (mzX (x2 * (μ (52 + x4.toNat) 6))), none, mzI (mzW (x4 + 1)), none] [] μ (mzQj q)))))) : mzWp d 184 5 [mzR 14, mzI x1, mzL x2, none, mzI x4, none] [] μ (mzQj q) :=
  show mzWp d 184 5 [mzR 14, mzI x1, mzL x2, none, mzI x4, none] [] μ (mzQj q) from mzVg_ok (cd := k_184) (cuts := [(5, [true, true, true, false, true, false])]) (n := 30) gd_184 h
-- MeltPins.drawnSet 
theorem g185_e {d : Nat} {q : Int → mzM → Prop}  (μ : mzM) (h : mzWp (d + 1) 185 4 [mzR 14, mzI 0, mzI 0] [] μ (mzQi q)) : mzCl (d + 1) 185 [mzR 14] μ (mzQi q) :=
  show mzWp (d + 1) 185 0 [mzR 14, none, none] [] μ (mzQi q) from mzVg_ok (cd := k_185) (cuts := [(4, [true, true, true])]) (n := 6) gd_185 h
theorem g185_4 {d : Nat} {q : Int → mzM → Prop} (x1 : Int) (x2 : Int) (μ : mzM) (h : (μ 26 0 ≤ x2 → q x1 μ) ∧ (x2 < μ 26 0 → mzCl d 101 [mzR 26] μ (mzQi fun r2 m1 => ((10 : Int) ≠ 0) ∧ (((0 : Int) ≤ x2 ∧ (x2 : Int) < 12) ∧ ((x2.toNat < 12 ∧ (0 : Int) ≤ 6 ∧ (6 : Int) < 9) ∧ ((m1 (52 + x2.toNat) 6 ≤ mzRem r2 10 → mzWp (d + 1) 185 4 [mzR 14, mzI x1, mzI (mzW (x2 + 1))] [] m1 (mzQi q)) ∧ (mzRem r2 10 < m1 (52 + x2.toNat) 6 → mzWp (d + 1) 185 4 [mzR 14, mzI (mzOr x1 (mzShl 1 x2)), mzI (mzW (x2 + 1))] [] m1 (mzQi q)))))))) : mzWp (d + 1) 185 4 [mzR 14, mzI x1, mzI x2] [] μ (mzQi q) :=
  show mzWp (d + 1) 185 4 [mzR 14, mzI x1, mzI x2] [] μ (mzQi q) from mzVg_ok (cd := k_185) (cuts := [(4, [true, true, true])]) (n := 28) gd_185 h
-- MeltPins.bestPush 
theorem g186_e {d : Nat} {q : Int → mzM → Prop} (a0 : Int) (a1 : Int) (a2 : Int) (a3 : Int) (a4 : Int) (μ : mzM) (h : ((0 : Int) < a0 → mzCl d 94 [mzR 26] μ (mzQi fun r2 m1 => (mzAnd (mzAnd r2 (mzXor a1 (-1))) (mzXor a2 (-1)) ≠ 0 → mzWp (d + 1) 186 57 [mzR 14, mzI a0, mzI a1, mzI a2, mzI a3, mzI a4, mzI (mzAnd (mzAnd r2 (mzXor a1 (-1))) (mzXor a2 (-1))), mzI (-1), mzI 0] [] m1 (mzQi q)) ∧ (mzAnd (mzAnd r2 (mzXor a1 (-1))) (mzXor a2 (-1)) = 0 → mzCl d 187 [mzR 14, mzI a0, mzI a1, mzI a2, mzI a3, mzI a4] m1 (mzQi fun r4 m3 => q r4 m3)))) ∧ (a0 ≤ 0 → mzCl d 107 [mzR 16, mzI a1, mzI a2] μ (mzQi fun r6 m5 => mzCl d 190 [mzI r6] m5 (mzQi fun r8 m7 => q r8 m7)))) : mzCl (d + 1) 186 [mzR 14, mzI a0, mzI a1, mzI a2, mzI a3, mzI a4] μ (mzQi q) :=
  show mzWp (d + 1) 186 0 [mzR 14, mzI a0, mzI a1, mzI a2, mzI a3, mzI a4, none, none, none] [] μ (mzQi q) from mzVg_ok (cd := k_186) (cuts := [(57, [true, true, true, true, true, true, true, true, true])]) (n := 25) gd_186 h
theorem g186_57 {d : Nat} {q : Int → mzM → Prop} (x1 : Int) (x2 : Int) (x3 : Int) (x4 : Int) (x5 : Int) (x6 : Int) (x7 : Int) (x8 : Int) (μ : mzM) (h : (μ 26 0 ≤ x8 → q x7 μ) ∧ (x8 < μ 26 0 → (x5 ≤ x7 → q x7 μ) ∧ (x7 < x5 → (mzAnd (mzShr x6 x8) 1 = 0 → mzWp (d + 1) 186 57 [mzR 14, mzI x1, mzI x2, mzI x3, mzI x4, mzI x5, mzI x6, mzI x7, mzI (mzW (x8 + 1))] [] μ (mzQi q)) ∧ (mzAnd (mzShr x6 x8) 1 ≠ 0 → mzCl d 187 [mzR 14, mzI x1, mzI (mzOr x2 (mzShl 1 x8)), mzI x3, mzI (mzMx x4 x7), mzI x5] μ (mzQi fun r2 m1 => mzWp (d + 1) 186 57 [mzR 14, mzI x1, mzI x2, mzI x3, mzI x4, mzI x5, mzI x6, mzI (mzMx x7 r2), mzI (mzW (x8 + 1))] [] m1 (mzQi q)))))) : mzWp (d + 1) 186 57 [mzR 14, mzI x1, mzI x2, mzI x3, mzI x4, mzI x5, mzI x6, mzI x7, mzI x8] [] μ (mzQi q) :=
  show mzWp (d + 1) 186 57 [mzR 14, mzI x1, mzI x2, mzI x3, mzI x4, mzI x5, mzI x6, mzI x7, mzI x8] [] μ (mzQi q) from mzVg_ok (cd := k_186) (cuts := [(57, [true, true, true, true, true, true, true, true, true])]) (n := 34) gd_186 h
-- MeltPins.bestHold 
theorem g187_e {d : Nat} {q : Int → mzM → Prop} (a0 : Int) (a1 : Int) (a2 : Int) (a3 : Int) (a4 : Int) (μ : mzM) (h : mzCl d 94 [mzR 26] μ (mzQi fun r2 m1 => (mzAnd (mzAnd r2 (mzXor a1 (-1))) (mzXor a2 (-1)) ≠ 0 → mzWp (d + 1) 187 43 [mzR 14, mzI a0, mzI a1, mzI a2, mzI a3, mzI a4, mzI (mzAnd (mzAnd r2 (mzXor a1 (-1))) (mzXor a2 (-1))), mzI 13, mzI 0] [] m1 (mzQi q)) ∧ (mzAnd (mzAnd r2 (mzXor a1 (-1))) (mzXor a2 (-1)) = 0 → mzCl d 186 [mzR 14, mzI (mzW (a0 - 1)), mzI a1, mzI a2, mzI a3, mzI a4] m1 (mzQi fun r4 m3 => q r4 m3)))) : mzCl (d + 1) 187 [mzR 14, mzI a0, mzI a1, mzI a2, mzI a3, mzI a4] μ (mzQi q) :=
  show mzWp (d + 1) 187 0 [mzR 14, mzI a0, mzI a1, mzI a2, mzI a3, mzI a4, none, none, none] [] μ (mzQi q) from mzVg_ok (cd := k_187) (cuts := [(43, [true, true, true, true, true, true, true, true, true])]) (n := 25) gd_187 h
theorem g187_43 {d : Nat} {q : Int → mzM → Prop} (x1 : Int) (x2 : Int) (x3 : Int) (x4 : Int) (x5 : Int) (x6 : Int) (x7 : Int) (x8 : Int) (μ : mzM) (h : (μ 26 0 ≤ x8 → q x7 μ) ∧ (x8 < μ 26 0 → (x7 ≤ x4 → q x7 μ) ∧ (x4 < x7 → (mzAnd (mzShr x6 x8) 1 = 0 → mzWp (d + 1) 187 43 [mzR 14, mzI x1, mzI x2, mzI x3, mzI x4, mzI x5, mzI x6, mzI x7, mzI (mzW (x8 + 1))] [] μ (mzQi q)) ∧ (mzAnd (mzShr x6 x8) 1 ≠ 0 → mzCl d 186 [mzR 14, mzI (mzW (x1 - 1)), mzI x2, mzI (mzOr x3 (mzShl 1 x8)), mzI x4, mzI (mzMn x5 x7)] μ (mzQi fun r2 m1 => mzWp (d + 1) 187 43 [mzR 14, mzI x1, mzI x2, mzI x3, mzI x4, mzI x5, mzI x6, mzI (mzMn x7 r2), mzI (mzW (x8 + 1))] [] m1 (mzQi q)))))) : mzWp (d + 1) 187 43 [mzR 14, mzI x1, mzI x2, mzI x3, mzI x4, mzI x5, mzI x6, mzI x7, mzI x8] [] μ (mzQi q) :=
  show mzWp (d + 1) 187 43 [mzR 14, mzI x1, mzI x2, mzI x3, mzI x4, mzI x5, mzI x6, mzI x7, mzI x8] [] μ (mzQi q) from mzVg_ok (cd := k_187) (cuts := [(43, [true, true, true, true, true, true, true, true, true])]) (n := 36) gd_187 h
-- MeltPins.bringsLayers 
theorem g188_e {d : Nat} {q : Int → mzM → Prop} (a0 : Int) (o0 : Nat) (μ : mzM) (h : mzCl d 108 [mzR 16, mzI (μ 26 3)] μ (mzQv fun m1 => mzWp (d + 1) 188 19 [mzR 14, mzI a0, mzP 44 o0, mzI 0, mzI 1] [] m1 (mzQi q))) : mzCl (d + 1) 188 [mzR 14, mzI a0, mzP 44 o0] μ (mzQi q) :=
  show mzWp (d + 1) 188 0 [mzR 14, mzI a0, mzP 44 o0, none, none] [] μ (mzQi q) from mzVg_ok (cd := k_188) (cuts := [(19, [true, true, true, true, true])]) (n := 12) gd_188 h
theorem g188_19 {d : Nat} {q : Int → mzM → Prop} (x1 : Int) (x2 : Nat) (x3 : Int) (x4 : Int) (μ : mzM) (h : ((24 : Int) < x4 → mzCl d 94 [mzR 26] μ (mzQi fun r2 m1 => mzCl d 189 [mzR 14, mzI (mzAnd r2 (mzXor x3 (-1))), mzP 44 x2, mzI 0] m1 (mzQi fun r4 m3 => ((r4 : Int) = 0 ∨ (r4 : Int) = 1) ∧ (q r4 m3)))) ∧ (x4 ≤ 24 → (x4 ≠ 1 → mzCl d 109 [mzR 16, mzI 0] μ (mzQi fun r6 m5 => mzCl d 189 [mzR 14, mzI (mzAnd (m5 16 7) (mzXor x3 (-1))), mzP 44 x2, mzI x4] m5 (mzQi fun r8 m7 => (r8 ≠ 0 → mzWp (d + 1) 188 19 [mzR 14, mzI x1, mzP 44 x2, mzI (mzOr x3 (m7 16 7)), mzI (mzW (x4 + 1))] [] m7 (mzQi q)) ∧ (r8 = 0 → ((0 : Int) = 0 ∨ (0 : Int) = 1) ∧ (q 0 m7))))) ∧ (x4 = 1 → mzCl d 109 [mzR 16, mzI x1] μ (mzQi fun r10 m9 => mzCl d 189 [mzR 14, mzI (mzAnd (m9 16 7) (mzXor x3 (-1))), mzP 44 x2, mzI x4] m9 (mzQi fun r12 m11 => (r12 ≠ 0 → mzWp (d + 1) 188 19 [mzR 14, mzI x1, mzP 44 x2, mzI (mzOr x3 (m11 16 7)), mzI (mzW (x4 + 1))] [] m11 (mzQi q)) ∧ (r12 = 0 → ((0 : Int) = 0 ∨ (0 : Int) = 1) ∧ (q 0 m11))))))) : mzWp (d + 1) 188 19 [mzR 14, mzI x1, mzP 44 x2, mzI x3, mzI x4] [] μ (mzQi q) :=
  show mzWp (d + 1) 188 19 [mzR 14, mzI x1, mzP 44 x2, mzI x3, mzI x4] [] μ (mzQi q) from mzVg_ok (cd := k_188) (cuts := [(19, [true, true, true, true, true])]) (n := 34) gd_188 h
-- MeltPins.areAll 
theorem g189_e {d : Nat} {q : Int → mzM → Prop} (a0 : Int) (o0 : Nat) (a1 : Int) (μ : mzM) (h : mzWp d 189 3 [mzR 14, mzI a0, mzP 44 o0, mzI a1, mzI 0] [] μ (mzQi q)) : mzCl d 189 [mzR 14, mzI a0, mzP 44 o0, mzI a1] μ (mzQi q) :=
  show mzWp d 189 0 [mzR 14, mzI a0, mzP 44 o0, mzI a1, none] [] μ (mzQi q) from mzVg_ok (cd := k_189) (cuts := [(3, [true, true, true, true, true])]) (n := 4) gd_189 h
theorem g189_3 {d : Nat} {q : Int → mzM → Prop} (x1 : Int) (x2 : Nat) (x3 : Int) (x4 : Int) (μ : mzM) (h : (μ 26 0 ≤ x4 → ((1 : Int) = 0 ∨ (1 : Int) = 1) ∧ (q 1 μ)) ∧ (x4 < μ 26 0 → (mzAnd (mzShr x1 x4) 1 = 0 → mzWp d 189 3 [mzR 14, mzI x1, mzP 44 x2, mzI x3, mzI (mzW (x4 + 1))] [] μ (mzQi q)) ∧ (mzAnd (mzShr x1 x4) 1 ≠ 0 → (x2 < 4) ∧ ((x2 < 4 ∧ (0 : Int) ≤ x4 ∧ (x4 : Int) < 40) ∧ ((μ (48 + x2) x4.toNat = x3 → mzWp d 189 3 [mzR 14, mzI x1, mzP 44 x2, mzI x3, mzI (mzW (x4 + 1))] [] μ (mzQi q)) ∧ (μ (48 + x2) x4.toNat ≠ x3 → ((0 : Int) = 0 ∨ (0 : Int) = 1) ∧ (q 0 μ))))))) : mzWp d 189 3 [mzR 14, mzI x1, mzP 44 x2, mzI x3, mzI x4] [] μ (mzQi q) :=
  show mzWp d 189 3 [mzR 14, mzI x1, mzP 44 x2, mzI x3, mzI x4] [] μ (mzQi q) from mzVg_ok (cd := k_189) (cuts := [(3, [true, true, true, true, true])]) (n := 21) gd_189 h
-- MeltPins$World.all 
theorem g94_e {d : Nat} {q : Int → mzM → Prop}  (μ : mzM) (h : q (mzW ((mzShl 1 (μ 26 0)) - 1)) μ) : mzCl d 94 [mzR 26] μ (mzQi q) :=
  show mzWp d 94 0 [mzR 26] [] μ (mzQi q) from mzVg_ok (cd := k_94) (cuts := []) (n := 8) gd_94 h
-- MeltPins$World.heightOf 
theorem g97_e {d : Nat} {q : Int → mzM → Prop} (a0 : Int) (a1 : Int) (μ : mzM) (h : ((0 : Int) ≤ a0 ∧ (a0 : Int) < 12) ∧ ((a0.toNat < 12 ∧ (0 : Int) ≤ 0 ∧ (0 : Int) < 9) ∧ (((μ (52 + a0.toNat) 0 : Int) = 5 → ((0 : Int) ≤ a0 ∧ (a0 : Int) < 12) ∧ ((a0.toNat < 12 ∧ (0 : Int) ≤ 8 ∧ (8 : Int) < 9) ∧ (q (mzMx 1 (mzW (a1 - (mzW (10 * (μ (52 + a0.toNat) 8)))))) μ))) ∧ ((μ (52 + a0.toNat) 0 : Int) ≠ 5 → ((μ (52 + a0.toNat) 0 : Int) = 6 → ((2 : Int) ≠ 0) ∧ (q (mzMx 1 (mzDiv a1 2)) μ)) ∧ ((μ (52 + a0.toNat) 0 : Int) ≠ 6 → q a1 μ))))) : mzCl (d + 1) 97 [mzR 26, mzI a0, mzI a1] μ (mzQi q) :=
  show mzWp (d + 1) 97 0 [mzR 26, mzI a0, mzI a1] [] μ (mzQi q) from mzVg_ok (cd := k_97) (cuts := []) (n := 21) gd_97 h
-- MeltPins$World.pushedIn 
theorem g98_e {d : Nat} {q : Int → mzM → Prop} (a0 : Int) (μ : mzM) (h : mzWp d 98 4 [mzR 26, mzI a0, mzI 0, mzI 0] [] μ (mzQi q)) : mzCl d 98 [mzR 26, mzI a0] μ (mzQi q) :=
  show mzWp d 98 0 [mzR 26, mzI a0, none, none] [] μ (mzQi q) from mzVg_ok (cd := k_98) (cuts := [(4, [true, true, true, true])]) (n := 6) gd_98 h
theorem g98_4 {d : Nat} {q : Int → mzM → Prop} (x1 : Int) (x2 : Int) (x3 : Int) (μ : mzM) (h : (μ 26 2 ≤ x3 → q x2 μ) ∧ (x3 < μ 26 2 → ((0 : Int) ≤ x3 ∧ (x3 : Int) < 20) ∧ ((μ 35 x3.toNat ≠ x1 → mzWp d 98 4 [mzR 26, mzI x1, mzI x2, mzI (mzW (x3 + 1))] [] μ (mzQi q)) ∧ (μ 35 x3.toNat = x1 → ((0 : Int) ≤ x3 ∧ (x3 : Int) < 20) ∧ (mzWp d 98 4 [mzR 26, mzI x1, mzI (mzOr x2 (mzShl 1 (μ 38 x3.toNat))), mzI (mzW (x3 + 1))] [] μ (mzQi q)))))) : mzWp d 98 4 [mzR 26, mzI x1, mzI x2, mzI x3] [] μ (mzQi q) :=
  show mzWp d 98 4 [mzR 26, mzI x1, mzI x2, mzI x3] [] μ (mzQi q) from mzVg_ok (cd := k_98) (cuts := [(4, [true, true, true, true])]) (n := 23) gd_98 h
-- MeltPins$World.sumOf 
theorem g99_e {d : Nat} {q : Int → mzM → Prop} (a0 : Int) (a1 : Int) (μ : mzM) (h : mzWp d 99 5 [mzR 26, mzI a0, mzI a1, mzI 0, mzI 0] [] μ (mzQi q)) : mzCl d 99 [mzR 26, mzI a0, mzI a1] μ (mzQi q) :=
  show mzWp d 99 0 [mzR 26, mzI a0, mzI a1, none, none] [] μ (mzQi q) from mzVg_ok (cd := k_99) (cuts := [(5, [true, true, true, true, true])]) (n := 6) gd_99 h
theorem g99_5 {d : Nat} {q : Int → mzM → Prop} (x1 : Int) (x2 : Int) (x3 : Int) (x4 : Int) (μ : mzM) (h : (μ 26 0 ≤ x4 → q x3 μ) ∧ (x4 < μ 26 0 → (mzAnd (mzShr x1 x4) 1 = 0 → mzWp d 99 5 [mzR 26, mzI x1, mzI x2, mzI x3, mzI (mzW (x4 + 1))] [] μ (mzQi q)) ∧ (mzAnd (mzShr x1 x4) 1 ≠ 0 → ((0 : Int) ≤ x4 ∧ (x4 : Int) < 12) ∧ ((x4.toNat < 12 ∧ (0 : Int) ≤ x2 ∧ (x2 : Int) < 9) ∧ (mzWp d 99 5 [mzR 26, mzI x1, mzI x2, mzI (mzW (x3 + (μ (52 + x4.toNat) x2.toNat))), mzI (mzW (x4 + 1))] [] μ (mzQi q)))))) : mzWp d 99 5 [mzR 26, mzI x1, mzI x2, mzI x3, mzI x4] [] μ (mzQi q) :=
  show mzWp d 99 5 [mzR 26, mzI x1, mzI x2, mzI x3, mzI x4] [] μ (mzQi q) from mzVg_ok (cd := k_99) (cuts := [(5, [true, true, true, true, true])]) (n := 23) gd_99 h
-- MeltPins$World.fullSpots 
theorem g100_e {d : Nat} {q : Int → mzM → Prop}  (μ : mzM) (h : mzWp d 100 4 [mzR 26, mzI 0, mzI 0] [] μ (mzQi q)) : mzCl d 100 [mzR 26] μ (mzQi q) :=
  show mzWp d 100 0 [mzR 26, none, none] [] μ (mzQi q) from mzVg_ok (cd := k_100) (cuts := [(4, [true, true, true])]) (n := 6) gd_100 h
theorem g100_4 {d : Nat} {q : Int → mzM → Prop} (x1 : Int) (x2 : Int) (μ : mzM) (h : ((10 : Int) ≤ x2 → q x1 μ) ∧ (x2 < 10 → ((0 : Int) ≤ x2 ∧ (x2 : Int) < 10) ∧ ((μ 41 x2.toNat = (-1) → mzWp d 100 4 [mzR 26, mzI x1, mzI (mzW (x2 + 1))] [] μ (mzQi q)) ∧ (μ 41 x2.toNat ≠ (-1) → mzWp d 100 4 [mzR 26, mzI (mzW (x1 + 1)), mzI (mzW (x2 + 1))] [] μ (mzQi q))))) : mzWp d 100 4 [mzR 26, mzI x1, mzI x2] [] μ (mzQi q) :=
  show mzWp d 100 4 [mzR 26, mzI x1, mzI x2] [] μ (mzQi q) from mzVg_ok (cd := k_100) (cuts := [(4, [true, true, true])]) (n := 14) gd_100 h
-- MeltPins$World.draw 
theorem g101_e {d : Nat} {q : Int → mzM → Prop}  (μ : mzM) (h : q (mzUsh (mzW ((mzW ((μ 26 4) * 1103515245)) + 12345)) 8) (mzS μ 26 4 (mzW ((mzW ((μ 26 4) * 1103515245)) + 12345)))) : mzCl d 101 [mzR 26] μ (mzQi q) :=
  show mzWp d 101 0 [mzR 26] [] μ (mzQi q) from mzVg_ok (cd := k_101) (cuts := []) (n := 14) gd_101 h
-- MeltPins$World.addPlace 
theorem g95_e {d : Nat} {q : Nat → Nat → mzM → Prop} (a0 : Int) (a1 : Int) (μ : mzM) (h : ((0 : Int) ≤ μ 28 0 ∧ (μ 28 0 : Int) < 12) ∧ (mzCl d 191 [mzP 76 ((μ 28 0).toNat), mzI 0] (mzS μ 28 0 (mzW ((μ 28 0) + 1))) (mzQv fun m1 => ((μ 28 0).toNat < 12 ∧ (0 : Int) ≤ 0 ∧ (0 : Int) < 9) ∧ (((μ 28 0).toNat < 12 ∧ (0 : Int) ≤ 1 ∧ (1 : Int) < 9) ∧ (((μ 28 0).toNat < 12 ∧ (0 : Int) ≤ 4 ∧ (4 : Int) < 9) ∧ (((μ 28 0).toNat < 12 ∧ (0 : Int) ≤ 5 ∧ (5 : Int) < 9) ∧ (((μ 28 0).toNat < 12 ∧ (0 : Int) ≤ 7 ∧ (7 : Int) < 9) ∧ (q 76 ((μ 28 0).toNat) (mzS (mzS (mzS (mzS (mzS m1 (76 + ((μ 28 0).toNat)) 0 a0) (76 + ((μ 28 0).toNat)) 1 a1) (76 + ((μ 28 0).toNat)) 4 1) (76 + ((μ 28 0).toNat)) 5 1) (76 + ((μ 28 0).toNat)) 7 (-1)))))))))) : mzCl (d + 1) 95 [mzR 28, mzI a0, mzI a1] μ (mzQr q) :=
  show mzWp (d + 1) 95 0 [mzR 28, mzI a0, mzI a1, none] [] μ (mzQr q) from mzVg_ok (cd := k_95) (cuts := []) (n := 38) gd_95 h
-- MeltPins$World.putTie 
theorem g96_e {d : Nat} {q : mzM → Prop} (a0 : Int) (a1 : Int) (a2 : Int) (μ : mzM) (h : ((0 : Int) ≤ a0 ∧ (a0 : Int) < 12) ∧ ((a0.toNat < 12 ∧ (0 : Int) ≤ a1 ∧ (a1 : Int) < 12) ∧ ((μ (88 + a0.toNat) a1.toNat ≠ 0 → ((0 : Int) ≤ a0 ∧ (a0 : Int) < 12) ∧ ((a0.toNat < 12 ∧ (0 : Int) ≤ a1 ∧ (a1 : Int) < 12) ∧ (q (mzS μ (88 + a0.toNat) a1.toNat a2)))) ∧ (μ (88 + a0.toNat) a1.toNat = 0 → ((0 : Int) ≤ a0 ∧ (a0 : Int) < 12) ∧ ((a0.toNat < 12 ∧ (0 : Int) ≤ a1 ∧ (a1 : Int) < 12) ∧ (q (mzS (mzS μ 26 1 (mzW ((μ 26 1) + 1))) (88 + a0.toNat) a1.toNat a2))))))) : mzCl d 96 [mzR 26, mzI a0, mzI a1, mzI a2] μ (mzQv q) :=
  show mzWp d 96 0 [mzR 26, mzI a0, mzI a1, mzI a2] [] μ (mzQv q) from mzVg_ok (cd := k_96) (cuts := []) (n := 22) gd_96 h
-- MeltPins$World.putTie d
theorem g96d_e {d : Nat} {q : mzM → Prop} (a0 : Int) (a1 : Int) (a2 : Int) (μ : mzM) (h : ((0 : Int) ≤ a0 ∧ (a0 : Int) < 12) ∧ ((a0.toNat < 12 ∧ (0 : Int) ≤ a1 ∧ (a1 : Int) < 12) ∧ ((μ (112 + a0.toNat) a1.toNat ≠ 0 → ((0 : Int) ≤ a0 ∧ (a0 : Int) < 12) ∧ ((a0.toNat < 12 ∧ (0 : Int) ≤ a1 ∧ (a1 : Int) < 12) ∧ (q (mzS μ (112 + a0.toNat) a1.toNat a2)))) ∧ (μ (112 + a0.toNat) a1.toNat = 0 → ((0 : Int) ≤ a0 ∧ (a0 : Int) < 12) ∧ ((a0.toNat < 12 ∧ (0 : Int) ≤ a1 ∧ (a1 : Int) < 12) ∧ (q (mzS (mzS μ 28 1 (mzW ((μ 28 1) + 1))) (112 + a0.toNat) a1.toNat a2))))))) : mzCl d 96 [mzR 28, mzI a0, mzI a1, mzI a2] μ (mzQv q) :=
  show mzWp d 96 0 [mzR 28, mzI a0, mzI a1, mzI a2] [] μ (mzQv q) from mzVg_ok (cd := k_96) (cuts := []) (n := 22) gd_96 h
-- MeltPins$World.become a
theorem g93a_e {d : Nat} {q : mzM → Prop}  (μ : mzM) (h : mzWp (d + 1) 93 42 [mzR 28, mzR 26, mzI 0] [] (mzS (mzS (mzS (mzS (mzS μ 28 0 (μ 26 0)) 28 1 (μ 26 1)) 28 2 (μ 26 2)) 28 3 (μ 26 3)) 28 4 (μ 26 4)) (mzQv q)) : mzCl (d + 1) 93 [mzR 28, mzR 26] μ (mzQv q) :=
  show mzWp (d + 1) 93 0 [mzR 28, mzR 26, none] [] μ (mzQv q) from mzVg_ok (cd := k_93) (cuts := [(42, [true, true, true])]) (n := 24) gd_93 h
theorem g93a_42 {d : Nat} {q : mzM → Prop} (x2 : Int) (μ : mzM) (h : ((12 : Int) ≤ x2 → ((0 : Int) ≤ 0 ∧ (0 : Int) ≤ 0 ∧ (0 : Int) ≤ 20 ∧ (0 + 20 : Int) ≤ 20 ∧ (0 + 20 : Int) ≤ 20) ∧ (((0 : Int) ≤ 0 ∧ (0 : Int) ≤ 0 ∧ (0 : Int) ≤ 20 ∧ (0 + 20 : Int) ≤ 20 ∧ (0 + 20 : Int) ≤ 20) ∧ (((0 : Int) ≤ 0 ∧ (0 : Int) ≤ 0 ∧ (0 : Int) ≤ 10 ∧ (0 + 10 : Int) ≤ 10 ∧ (0 + 10 : Int) ≤ 10) ∧ (q (mzCp (mzCp (mzCp μ 35 0 37 0 20) 38 0 40 0 20) 41 0 43 0 10))))) ∧ (x2 < 12 → ((0 : Int) ≤ x2 ∧ (x2 : Int) < 12) ∧ (((0 : Int) ≤ x2 ∧ (x2 : Int) < 12) ∧ ((x2.toNat < 12) ∧ ((x2.toNat < 12) ∧ (((0 : Int) ≤ 0 ∧ (0 : Int) ≤ 0 ∧ (0 : Int) ≤ 9 ∧ (0 + 9 : Int) ≤ 9 ∧ (0 + 9 : Int) ≤ 9) ∧ (((0 : Int) ≤ x2 ∧ (x2 : Int) < 12) ∧ (((0 : Int) ≤ x2 ∧ (x2 : Int) < 12) ∧ ((x2.toNat < 12) ∧ ((x2.toNat < 12) ∧ (((0 : Int) ≤ 0 ∧ (0 : Int) ≤ 0 ∧ (0 : Int) ≤ 12 ∧ (0 + 12 : Int) ≤ 12 ∧ (0 + 12 : Int) ≤ 12) ∧ (mzWp (d + 1) 93 42 [mzR 28, mzR 26, mzI (mzW (x2 + 1))] [] (mzCp (mzCp μ (52 + x2.toNat) 0 (76 + x2.toNat) 0 9) (88 + x2.toNat) 0 (112 + x2.toNat) 0 12) (mzQv q))))))))))))) : mzWp (d + 1) 93 42 [mzR 28, mzR 26, mzI x2] [] μ (mzQv q) :=
  show mzWp (d + 1) 93 42 [mzR 28, mzR 26, mzI x2] [] μ (mzQv q) from mzVg_ok (cd := k_93) (cuts := [(42, [true, true, true])]) (n := 31) gd_93 h
-- MeltPins$World.become b
theorem g93b_e {d : Nat} {q : mzM → Prop}  (μ : mzM) (h : mzWp (d + 1) 93 42 [mzR 26, mzR 28, mzI 0] [] (mzS (mzS (mzS (mzS (mzS μ 26 0 (μ 28 0)) 26 1 (μ 28 1)) 26 2 (μ 28 2)) 26 3 (μ 28 3)) 26 4 (μ 28 4)) (mzQv q)) : mzCl (d + 1) 93 [mzR 26, mzR 28] μ (mzQv q) :=
  show mzWp (d + 1) 93 0 [mzR 26, mzR 28, none] [] μ (mzQv q) from mzVg_ok (cd := k_93) (cuts := [(42, [true, true, true])]) (n := 24) gd_93 h
theorem g93b_42 {d : Nat} {q : mzM → Prop} (x2 : Int) (μ : mzM) (h : ((12 : Int) ≤ x2 → ((0 : Int) ≤ 0 ∧ (0 : Int) ≤ 0 ∧ (0 : Int) ≤ 20 ∧ (0 + 20 : Int) ≤ 20 ∧ (0 + 20 : Int) ≤ 20) ∧ (((0 : Int) ≤ 0 ∧ (0 : Int) ≤ 0 ∧ (0 : Int) ≤ 20 ∧ (0 + 20 : Int) ≤ 20 ∧ (0 + 20 : Int) ≤ 20) ∧ (((0 : Int) ≤ 0 ∧ (0 : Int) ≤ 0 ∧ (0 : Int) ≤ 10 ∧ (0 + 10 : Int) ≤ 10 ∧ (0 + 10 : Int) ≤ 10) ∧ (q (mzCp (mzCp (mzCp μ 37 0 35 0 20) 40 0 38 0 20) 43 0 41 0 10))))) ∧ (x2 < 12 → ((0 : Int) ≤ x2 ∧ (x2 : Int) < 12) ∧ (((0 : Int) ≤ x2 ∧ (x2 : Int) < 12) ∧ ((x2.toNat < 12) ∧ ((x2.toNat < 12) ∧ (((0 : Int) ≤ 0 ∧ (0 : Int) ≤ 0 ∧ (0 : Int) ≤ 9 ∧ (0 + 9 : Int) ≤ 9 ∧ (0 + 9 : Int) ≤ 9) ∧ (((0 : Int) ≤ x2 ∧ (x2 : Int) < 12) ∧ (((0 : Int) ≤ x2 ∧ (x2 : Int) < 12) ∧ ((x2.toNat < 12) ∧ ((x2.toNat < 12) ∧ (((0 : Int) ≤ 0 ∧ (0 : Int) ≤ 0 ∧ (0 : Int) ≤ 12 ∧ (0 + 12 : Int) ≤ 12 ∧ (0 + 12 : Int) ≤ 12) ∧ (mzWp (d + 1) 93 42 [mzR 26, mzR 28, mzI (mzW (x2 + 1))] [] (mzCp (mzCp μ (76 + x2.toNat) 0 (52 + x2.toNat) 0 9) (112 + x2.toNat) 0 (88 + x2.toNat) 0 12) (mzQv q))))))))))))) : mzWp (d + 1) 93 42 [mzR 26, mzR 28, mzI x2] [] μ (mzQv q) :=
  show mzWp (d + 1) 93 42 [mzR 26, mzR 28, mzI x2] [] μ (mzQv q) from mzVg_ok (cd := k_93) (cuts := [(42, [true, true, true])]) (n := 31) gd_93 h
-- MeltPins$World.become c
theorem g93c_e {d : Nat} {q : mzM → Prop}  (μ : mzM) (h : mzWp (d + 1) 93 42 [mzR 27, mzR 26, mzI 0] [] (mzS (mzS (mzS (mzS (mzS μ 27 0 (μ 26 0)) 27 1 (μ 26 1)) 27 2 (μ 26 2)) 27 3 (μ 26 3)) 27 4 (μ 26 4)) (mzQv q)) : mzCl (d + 1) 93 [mzR 27, mzR 26] μ (mzQv q) :=
  show mzWp (d + 1) 93 0 [mzR 27, mzR 26, none] [] μ (mzQv q) from mzVg_ok (cd := k_93) (cuts := [(42, [true, true, true])]) (n := 24) gd_93 h
theorem g93c_42 {d : Nat} {q : mzM → Prop} (x2 : Int) (μ : mzM) (h : ((12 : Int) ≤ x2 → ((0 : Int) ≤ 0 ∧ (0 : Int) ≤ 0 ∧ (0 : Int) ≤ 20 ∧ (0 + 20 : Int) ≤ 20 ∧ (0 + 20 : Int) ≤ 20) ∧ (((0 : Int) ≤ 0 ∧ (0 : Int) ≤ 0 ∧ (0 : Int) ≤ 20 ∧ (0 + 20 : Int) ≤ 20 ∧ (0 + 20 : Int) ≤ 20) ∧ (((0 : Int) ≤ 0 ∧ (0 : Int) ≤ 0 ∧ (0 : Int) ≤ 10 ∧ (0 + 10 : Int) ≤ 10 ∧ (0 + 10 : Int) ≤ 10) ∧ (q (mzCp (mzCp (mzCp μ 35 0 36 0 20) 38 0 39 0 20) 41 0 42 0 10))))) ∧ (x2 < 12 → ((0 : Int) ≤ x2 ∧ (x2 : Int) < 12) ∧ (((0 : Int) ≤ x2 ∧ (x2 : Int) < 12) ∧ ((x2.toNat < 12) ∧ ((x2.toNat < 12) ∧ (((0 : Int) ≤ 0 ∧ (0 : Int) ≤ 0 ∧ (0 : Int) ≤ 9 ∧ (0 + 9 : Int) ≤ 9 ∧ (0 + 9 : Int) ≤ 9) ∧ (((0 : Int) ≤ x2 ∧ (x2 : Int) < 12) ∧ (((0 : Int) ≤ x2 ∧ (x2 : Int) < 12) ∧ ((x2.toNat < 12) ∧ ((x2.toNat < 12) ∧ (((0 : Int) ≤ 0 ∧ (0 : Int) ≤ 0 ∧ (0 : Int) ≤ 12 ∧ (0 + 12 : Int) ≤ 12 ∧ (0 + 12 : Int) ≤ 12) ∧ (mzWp (d + 1) 93 42 [mzR 27, mzR 26, mzI (mzW (x2 + 1))] [] (mzCp (mzCp μ (52 + x2.toNat) 0 (64 + x2.toNat) 0 9) (88 + x2.toNat) 0 (100 + x2.toNat) 0 12) (mzQv q))))))))))))) : mzWp (d + 1) 93 42 [mzR 27, mzR 26, mzI x2] [] μ (mzQv q) :=
  show mzWp (d + 1) 93 42 [mzR 27, mzR 26, mzI x2] [] μ (mzQv q) from mzVg_ok (cd := k_93) (cuts := [(42, [true, true, true])]) (n := 31) gd_93 h
-- MeltPins$World.become e
theorem g93e_e {d : Nat} {q : mzM → Prop}  (μ : mzM) (h : mzWp (d + 1) 93 42 [mzR 26, mzR 27, mzI 0] [] (mzS (mzS (mzS (mzS (mzS μ 26 0 (μ 27 0)) 26 1 (μ 27 1)) 26 2 (μ 27 2)) 26 3 (μ 27 3)) 26 4 (μ 27 4)) (mzQv q)) : mzCl (d + 1) 93 [mzR 26, mzR 27] μ (mzQv q) :=
  show mzWp (d + 1) 93 0 [mzR 26, mzR 27, none] [] μ (mzQv q) from mzVg_ok (cd := k_93) (cuts := [(42, [true, true, true])]) (n := 24) gd_93 h
theorem g93e_42 {d : Nat} {q : mzM → Prop} (x2 : Int) (μ : mzM) (h : ((12 : Int) ≤ x2 → ((0 : Int) ≤ 0 ∧ (0 : Int) ≤ 0 ∧ (0 : Int) ≤ 20 ∧ (0 + 20 : Int) ≤ 20 ∧ (0 + 20 : Int) ≤ 20) ∧ (((0 : Int) ≤ 0 ∧ (0 : Int) ≤ 0 ∧ (0 : Int) ≤ 20 ∧ (0 + 20 : Int) ≤ 20 ∧ (0 + 20 : Int) ≤ 20) ∧ (((0 : Int) ≤ 0 ∧ (0 : Int) ≤ 0 ∧ (0 : Int) ≤ 10 ∧ (0 + 10 : Int) ≤ 10 ∧ (0 + 10 : Int) ≤ 10) ∧ (q (mzCp (mzCp (mzCp μ 36 0 35 0 20) 39 0 38 0 20) 42 0 41 0 10))))) ∧ (x2 < 12 → ((0 : Int) ≤ x2 ∧ (x2 : Int) < 12) ∧ (((0 : Int) ≤ x2 ∧ (x2 : Int) < 12) ∧ ((x2.toNat < 12) ∧ ((x2.toNat < 12) ∧ (((0 : Int) ≤ 0 ∧ (0 : Int) ≤ 0 ∧ (0 : Int) ≤ 9 ∧ (0 + 9 : Int) ≤ 9 ∧ (0 + 9 : Int) ≤ 9) ∧ (((0 : Int) ≤ x2 ∧ (x2 : Int) < 12) ∧ (((0 : Int) ≤ x2 ∧ (x2 : Int) < 12) ∧ ((x2.toNat < 12) ∧ ((x2.toNat < 12) ∧ (((0 : Int) ≤ 0 ∧ (0 : Int) ≤ 0 ∧ (0 : Int) ≤ 12 ∧ (0 + 12 : Int) ≤ 12 ∧ (0 + 12 : Int) ≤ 12) ∧ (mzWp (d + 1) 93 42 [mzR 26, mzR 27, mzI (mzW (x2 + 1))] [] (mzCp (mzCp μ (64 + x2.toNat) 0 (52 + x2.toNat) 0 9) (100 + x2.toNat) 0 (88 + x2.toNat) 0 12) (mzQv q))))))))))))) : mzWp (d + 1) 93 42 [mzR 26, mzR 27, mzI x2] [] μ (mzQv q) :=
  show mzWp (d + 1) 93 42 [mzR 26, mzR 27, mzI x2] [] μ (mzQv q) from mzVg_ok (cd := k_93) (cuts := [(42, [true, true, true])]) (n := 31) gd_93 h
-- java/lang/Integer.bitCount 
theorem g190_e {d : Nat} {q : Int → mzM → Prop} (a0 : Int) (μ : mzM) (h : q (mzAnd (mzW ((mzW ((mzAnd (mzW ((mzW ((mzAnd (mzW (a0 - (mzAnd (mzUsh a0 1) 1431655765))) 858993459) + (mzAnd (mzUsh (mzW (a0 - (mzAnd (mzUsh a0 1) 1431655765))) 2) 858993459))) + (mzUsh (mzW ((mzAnd (mzW (a0 - (mzAnd (mzUsh a0 1) 1431655765))) 858993459) + (mzAnd (mzUsh (mzW (a0 - (mzAnd (mzUsh a0 1) 1431655765))) 2) 858993459))) 4))) 252645135) + (mzUsh (mzAnd (mzW ((mzW ((mzAnd (mzW (a0 - (mzAnd (mzUsh a0 1) 1431655765))) 858993459) + (mzAnd (mzUsh (mzW (a0 - (mzAnd (mzUsh a0 1) 1431655765))) 2) 858993459))) + (mzUsh (mzW ((mzAnd (mzW (a0 - (mzAnd (mzUsh a0 1) 1431655765))) 858993459) + (mzAnd (mzUsh (mzW (a0 - (mzAnd (mzUsh a0 1) 1431655765))) 2) 858993459))) 4))) 252645135) 8))) + (mzUsh (mzW ((mzAnd (mzW ((mzW ((mzAnd (mzW (a0 - (mzAnd (mzUsh a0 1) 1431655765))) 858993459) + (mzAnd (mzUsh (mzW (a0 - (mzAnd (mzUsh a0 1) 1431655765))) 2) 858993459))) + (mzUsh (mzW ((mzAnd (mzW (a0 - (mzAnd (mzUsh a0 1) 1431655765))) 858993459) + (mzAnd (mzUsh (mzW (a0 - (mzAnd (mzUsh a0 1) 1431655765))) 2) 858993459))) 4))) 252645135) + (mzUsh (mzAnd (mzW ((mzW ((mzAnd (mzW (a0 - (mzAnd (mzUsh a0 1) 1431655765))) 858993459) + (mzAnd (mzUsh (mzW (a0 - (mzAnd (mzUsh a0 1) 1431655765))) 2) 858993459))) + (mzUsh (mzW ((mzAnd (mzW (a0 - (mzAnd (mzUsh a0 1) 1431655765))) 858993459) + (mzAnd (mzUsh (mzW (a0 - (mzAnd (mzUsh a0 1) 1431655765))) 2) 858993459))) 4))) 252645135) 8))) 16))) 63) μ) : mzCl d 190 [mzI a0] μ (mzQi q) :=
  show mzWp d 190 0 [mzI a0] [] μ (mzQi q) from mzVg_ok (cd := k_190) (cuts := []) (n := 43) gd_190 h
-- java/util/Arrays.fill w
theorem g191w_e {d : Nat} {q : mzM → Prop} (a0 : Int) (μ : mzM) (h : mzWp d 191 5 [mzR 22, mzI a0, mzI 0, mzI 12] [] μ (mzQv q)) : mzCl d 191 [mzR 22, mzI a0] μ (mzQv q) :=
  show mzWp d 191 0 [mzR 22, mzI a0, none, none] [] μ (mzQv q) from mzVg_ok (cd := k_191) (cuts := [(5, [true, true, true, true])]) (n := 7) gd_191 h
theorem g191w_5 {d : Nat} {q : mzM → Prop} (x1 : Int) (x2 : Int) (x3 : Int) (μ : mzM) (h : (x3 ≤ x2 → q μ) ∧ (x2 < x3 → ((0 : Int) ≤ x2 ∧ (x2 : Int) < 12) ∧ (mzWp d 191 5 [mzR 22, mzI x1, mzI (mzW (x2 + 1)), mzI x3] [] (mzS μ 22 x2.toNat x1) (mzQv q)))) : mzWp d 191 5 [mzR 22, mzI x1, mzI x2, mzI x3] [] μ (mzQv q) :=
  show mzWp d 191 5 [mzR 22, mzI x1, mzI x2, mzI x3] [] μ (mzQv q) from mzVg_ok (cd := k_191) (cuts := [(5, [true, true, true, true])]) (n := 11) gd_191 h
-- java/util/Arrays.fill r
theorem g191r_e {d : Nat} {q : mzM → Prop} (o0 : Nat) (a0 : Int) (μ : mzM) (h : (o0 < 12) ∧ (mzWp d 191 5 [mzP 76 o0, mzI a0, mzI 0, mzI 9] [] μ (mzQv q))) : mzCl d 191 [mzP 76 o0, mzI a0] μ (mzQv q) :=
  show mzWp d 191 0 [mzP 76 o0, mzI a0, none, none] [] μ (mzQv q) from mzVg_ok (cd := k_191) (cuts := [(5, [true, true, true, true])]) (n := 7) gd_191 h
theorem g191r_5 {d : Nat} {q : mzM → Prop} (x0 : Nat) (x1 : Int) (x2 : Int) (x3 : Int) (μ : mzM) (h : (x3 ≤ x2 → q μ) ∧ (x2 < x3 → (x0 < 12 ∧ (0 : Int) ≤ x2 ∧ (x2 : Int) < 9) ∧ (mzWp d 191 5 [mzP 76 x0, mzI x1, mzI (mzW (x2 + 1)), mzI x3] [] (mzS μ (76 + x0) x2.toNat x1) (mzQv q)))) : mzWp d 191 5 [mzP 76 x0, mzI x1, mzI x2, mzI x3] [] μ (mzQv q) :=
  show mzWp d 191 5 [mzP 76 x0, mzI x1, mzI x2, mzI x3] [] μ (mzQv q) from mzVg_ok (cd := k_191) (cuts := [(5, [true, true, true, true])]) (n := 11) gd_191 h
-- java/util/Arrays.fill n
theorem g191n_e {d : Nat} {q : mzM → Prop} (o0 : Nat) (a0 : Int) (μ : mzM) (h : (o0 < 4) ∧ (mzWp d 191 5 [mzP 48 o0, mzI a0, mzI 0, mzI 40] [] μ (mzQv q))) : mzCl d 191 [mzP 48 o0, mzI a0] μ (mzQv q) :=
  show mzWp d 191 0 [mzP 48 o0, mzI a0, none, none] [] μ (mzQv q) from mzVg_ok (cd := k_191) (cuts := [(5, [true, true, true, true])]) (n := 7) gd_191 h
theorem g191n_5 {d : Nat} {q : mzM → Prop} (x0 : Nat) (x1 : Int) (x2 : Int) (x3 : Int) (μ : mzM) (h : (x3 ≤ x2 → q μ) ∧ (x2 < x3 → (x0 < 4 ∧ (0 : Int) ≤ x2 ∧ (x2 : Int) < 40) ∧ (mzWp d 191 5 [mzP 48 x0, mzI x1, mzI (mzW (x2 + 1)), mzI x3] [] (mzS μ (48 + x0) x2.toNat x1) (mzQv q)))) : mzWp d 191 5 [mzP 48 x0, mzI x1, mzI x2, mzI x3] [] μ (mzQv q) :=
  show mzWp d 191 5 [mzP 48 x0, mzI x1, mzI x2, mzI x3] [] μ (mzQv q) from mzVg_ok (cd := k_191) (cuts := [(5, [true, true, true, true])]) (n := 11) gd_191 h
end
section
/-! CONTRACTS: leaves. q is what is to hold of the answer and the memory -/
theorem or10 : ((1 : Int) = 0 ∨ (1 : Int) = 1) := Or.inr rfl
theorem or00 : ((0 : Int) = 0 ∨ (0 : Int) = 1) := Or.inl rfl
theorem cmp_lt {a b : Int} : mzCmp a b < 0 ↔ a < b := by
  unfold mzCmp
  split
  · constructor
    · intro h; omega
    · intro h; omega
  · split
    · constructor
      · intro h; omega
      · intro h; omega
    · constructor
      · intro h; omega
      · intro h; omega
theorem cmp_gt {a b : Int} : 0 < mzCmp a b ↔ b < a := by
  unfold mzCmp
  split
  · constructor
    · intro h; omega
    · intro h; omega
  · split
    · constructor
      · intro h; omega
      · intro h; omega
    · constructor
      · intro h; omega
      · intro h; omega
theorem c_in {d : Nat} {q : Int → mzM → Prop} {a b c : Int} {μ : mzM} (h1 : b ≤ a → a ≤ c → q 1 μ) (h0 : a < b ∨ c < a → q 0 μ) : mzCl d 2 [mzL a, mzL b, mzL c] μ (mzQi q) := by
  refine g2_e _ _ _ _ ⟨fun h => ⟨or00, h0 (Or.inl (cmp_lt.mp h))⟩, fun h => ⟨fun h2 => ⟨or00, h0 (Or.inr (cmp_gt.mp h2))⟩, fun h2 => ⟨or10, h1 ?_ ?_⟩⟩⟩
  · have := mt cmp_lt.mpr (Int.not_lt.mpr h)
    omega
  · have := mt cmp_gt.mpr (Int.not_lt.mpr h2)
    omega
theorem c_has {d : Nat} {q : Int → mzM → Prop} {a p : Nat} {μ : mzM} (ha : a < 2147483648) (hp : p < 32) (h1 : a.testBit p = true → q 1 μ) (h0 : a.testBit p = false → q 0 μ) : mzCl d 3 [mzI a, mzI p] μ (mzQi q) := by
  refine g3_e _ _ _ ?_
  rw [nBit ha hp]
  cases h : a.testBit p with
  | true => exact ⟨fun z => absurd rfl z, fun _ => ⟨or10, h1 h⟩⟩
  | false => exact ⟨fun _ => ⟨or00, h0 h⟩, fun z => by simp at z⟩
theorem c_finds {d : Nat} {q : Int → mzM → Prop} {f : Int} {μ : mzM} (hf : -1000007 ≤ f ∧ f ≤ -1000001) (h : ∀ v j, q f (mzS μ 3 j v)) : mzCl d 1 [mzR 0, mzI f] μ (mzQi q) := by
  have e : mzW (-1000001 - f) = -1000001 - f := wid (by omega) (by omega)
  refine g1_e _ _ ⟨?_, ?_, h _ _⟩
  · rw [e]; omega
  · rw [e]; omega
theorem c_of {d : Nat} {q : Int → mzM → Prop} {p t : Nat} {μ : mzM} (hp : p < 12) (ht : t < 10) (h : q (μ 1 (4 + 10 * p + t)) μ) : mzCl d 5 [mzR 0, mzI p, mzI t] μ (mzQi q) := by
  have e : mzW ((mzW (4 + (mzW (10 * (p : Int))))) + (t : Int)) = ((4 + 10 * p + t : Nat) : Int) := by unfold mzW; omega
  refine g5_e _ _ _ ?_
  rw [e]
  exact ⟨⟨by omega, by omega⟩, h⟩
theorem c_isPlace {d : Nat} {q : Int → mzM → Prop} {a : Int} {n : Nat} {μ : mzM} (hn : μ 1 0 = n) (hn2 : n ≤ 12) (h1 : 0 ≤ a → a < n → q 1 μ) (h0 : a < 0 ∨ (n : Int) ≤ a → q 0 μ) : mzCl (d + 1) 6 [mzR 0, mzI a] μ (mzQi q) := by
  have e : mzW (μ 1 0 - 1) = (n : Int) - 1 := by rw [hn]; exact wid (by omega) (by omega)
  refine g6_e _ _ ⟨⟨by omega, by omega⟩, ?_⟩
  rw [e]
  exact c_in (fun z1 z2 => ⟨or10, h1 z1 (by omega)⟩) (fun z => ⟨or00, h0 (by omega)⟩)
theorem pow12 {n : Nat} (h : n ≤ 12) : 2 ^ n ≤ 4096 := Nat.pow_le_pow_right (n := 2) (by omega) h
theorem c_every {d : Nat} {q : Int → mzM → Prop} {n : Nat} {μ : mzM} (hn : μ 1 0 = n) (hn2 : n ≤ 12) (h : q ((2 ^ n - 1 : Nat) : Int) μ) : mzCl d 7 [mzR 0] μ (mzQi q) := by
  refine g7_e _ ⟨⟨by omega, by omega⟩, ?_⟩
  have h1 := pow12 hn2
  have h2 : 0 < 2 ^ n := Nat.pow_pos (by omega)
  have e : mzW (mzShl 1 (μ 1 0) - 1) = ((2 ^ n - 1 : Nat) : Int) := by
    rw [hn, nPow (by omega)]
    rw [wid (by omega) (by omega)]
    omega
  rw [e]
  exact h
theorem c_isSet {d : Nat} {q : Int → mzM → Prop} {a : Int} {n : Nat} {μ : mzM} (hn : μ 1 0 = n) (hn2 : n ≤ 12) (h1 : ∀ s : Nat, a = s → s < 2 ^ n → q 1 μ) (h0 : a < 0 ∨ ((2 ^ n : Nat) : Int) ≤ a → q 0 μ) : mzCl (d + 1) 8 [mzR 0, mzI a] μ (mzQi q) := by
  refine g8_e _ _ (c_every hn hn2 ?_)
  have h2 : 0 < 2 ^ n := Nat.pow_pos (by omega)
  exact c_in (fun z1 z2 => ⟨or10, h1 a.toNat (by omega) (by omega)⟩) (fun z => ⟨or00, h0 (by omega)⟩)
/-- how many of the first k are in a set -/
def cnt (a : Nat) : Nat → Nat
  | 0 => 0
  | k + 1 => cnt a k + if a.testBit k then 1 else 0
theorem cnt_le (a k : Nat) : cnt a k ≤ k := by
  induction k with
  | zero => exact Nat.le_refl _
  | succ k ih => unfold cnt; split <;> omega
theorem many_l {d : Nat} {q : Int → mzM → Prop} {a : Nat} {μ : mzM} (ha : a < 2147483648) (h : q (cnt a 12) μ) : ∀ (n i : Nat) (x1 x2 : Int), i + n = 12 → x2 = i → x1 = cnt a i → mzWp d 4 4 [mzI a, mzI x1, mzI x2] [] μ (mzQi q) := by
  intro n
  induction n with
  | zero =>
    intro i x1 x2 hi h2 h1
    have : i = 12 := by omega
    subst this
    subst h1
    exact g4_4 _ _ _ _ ⟨fun _ => h, fun z => by omega⟩
  | succ n ih =>
    intro i x1 x2 hi h2 h1
    subst h2
    have hc := cnt_le a i
    refine g4_4 _ _ _ _ ⟨fun z => by omega, fun _ => ih (i + 1) _ _ (by omega) ?_ ?_⟩
    · rw [wid (by omega) (by omega)]; omega
    · rw [nBit ha (by omega), h1]
      show _ = ((cnt a i + (if a.testBit i then 1 else 0) : Nat) : Int)
      cases a.testBit i
      · simp; rw [wid (by omega) (by omega)]
      · simp; rw [wid (by omega) (by omega)]
theorem c_many {d : Nat} {q : Int → mzM → Prop} {a : Nat} {μ : mzM} (ha : a < 2147483648) (h : q (cnt a 12) μ) : mzCl d 4 [mzI a] μ (mzQi q) := g4_e _ _ (many_l ha h 12 0 _ _ rfl rfl rfl)
theorem c_isDigit {d : Nat} {q : Int → mzM → Prop} {a : Int} {μ : mzM} (h1 : 48 ≤ a → a ≤ 57 → q 1 μ) (h0 : a < 48 ∨ 57 < a → q 0 μ) : mzCl (d + 1) 11 [mzI a] μ (mzQi q) := g11_e _ _ (c_in (fun z1 z2 => ⟨or10, h1 z1 z2⟩) (fun z => ⟨or00, h0 z⟩))
theorem c_isLetter {d : Nat} {q : Int → mzM → Prop} {a : Int} {μ : mzM} (h1 : 97 ≤ a → a ≤ 122 → q 1 μ) (h0 : a < 97 ∨ 122 < a → q 0 μ) : mzCl (d + 1) 12 [mzI a] μ (mzQi q) := g12_e _ _ (c_in (fun z1 z2 => ⟨or10, h1 z1 z2⟩) (fun z => ⟨or00, h0 z⟩))
end
section
/-! TOKENS: what both readers make of the bytes -/
theorem S_eq {μ : mzM} {k j : Nat} {v : Int} : mzS μ k j v k j = v := by unfold mzS; simp
theorem S_ne {μ : mzM} {k j a b : Nat} {v : Int} (h : a ≠ k ∨ b ≠ j) : mzS μ k j v a b = μ a b := by
  unfold mzS
  rw [if_neg]
  intro z
  rcases h with h | h
  · exact h z.1
  · exact h z.2
def isL (x : Int) : Bool := decide (97 ≤ x ∧ x ≤ 122)
def isD (x : Int) : Bool := decide (48 ≤ x ∧ x ≤ 57)
def isB (x : Int) : Bool := decide (x = 32)
/-- on while P holds -/
def rn (P : Int → Bool) (b : Nat → Int) (len : Nat) : Nat → Nat → Nat
  | 0, i => i
  | f + 1, i => if i < len ∧ P (b i) = true then rn P b len f (i + 1) else i
theorem rn_ge (P : Int → Bool) (b : Nat → Int) (len : Nat) : ∀ f i, i ≤ rn P b len f i := by
  intro f
  induction f with
  | zero => intro i; exact Nat.le_refl _
  | succ f ih =>
    intro i
    unfold rn
    split
    · exact Nat.le_trans (Nat.le_succ i) (ih (i + 1))
    · exact Nat.le_refl _
theorem rn_le (P : Int → Bool) (b : Nat → Int) (len : Nat) : ∀ f i, i ≤ len → rn P b len f i ≤ len := by
  intro f
  induction f with
  | zero => intro i h; exact h
  | succ f ih =>
    intro i h
    unfold rn
    split
    · next c => exact ih (i + 1) c.1
    · exact h
/-- the value of k digits from s on, 10000 at most -/
def vl (b : Nat → Int) (s : Nat) : Nat → Nat
  | 0 => 0
  | k + 1 => min 10000 (10 * vl b s k + (b (s + k) - 48).toNat)
theorem vl_le (b : Nat → Int) (s k : Nat) : vl b s k ≤ 10000 := by
  cases k with
  | zero => exact Nat.zero_le _
  | succ k => unfold vl; omega
/-- the token behind a place: its sort, where it begins, where it ends, its value -/
def tk (b : Nat → Int) (len pos : Nat) : Nat × Nat × Nat × Nat :=
  let s := rn isB b len (len - pos) pos
  if s < len then
    if isL (b s) then (1, s, rn isL b len (len - s) s, 0)
    else if isD (b s) then (2, s, rn isD b len (len - s) s, vl b s (rn isD b len (len - s) s - s))
    else if b s = 59 then (3, s, s + 1, 0)
    else (4, s, s + 1, 0)
  else (0, s, s, 0)
-- the reference's reader
def TpM (μ : mzM) (b : Nat → Int) (len : Nat) : Prop := μ 0 6 = len ∧ ∀ i, i < len → μ 4 i = b i
def TkM (μ : mzM) (t : Nat × Nat × Nat × Nat) : Prop := μ 0 7 = t.1 ∧ μ 0 8 = t.2.1 ∧ μ 0 9 = t.2.2.1 ∧ (t.1 = 2 → 0 ≤ μ 0 10 ∧ (μ 0 10 ≤ 9999 → (t.2.2.2 : Int) = μ 0 10) ∧ (9999 < μ 0 10 → t.2.2.2 = 10000))
/-- only the token's numbers differ -/
def XtM (μ μ' : mzM) : Prop := ∀ k j, (k ≠ 0 ∨ j < 7 ∨ 10 < j) → μ' k j = μ k j
theorem XtM.rf {μ : mzM} : XtM μ μ := fun _ _ _ => rfl
theorem XtM.st {μ μ' : mzM} {j : Nat} {v : Int} (h : XtM μ μ') (hj : 7 ≤ j ∧ j ≤ 10) : XtM μ (mzS μ' 0 j v) := fun a b hab => by
  rw [S_ne (by omega)]
  exact h a b hab
theorem XtM.tp {μ μ' : mzM} {b : Nat → Int} {len : Nat} (h : XtM μ μ') (ht : TpM μ b len) : TpM μ' b len := ⟨by rw [h 0 6 (by omega)]; exact ht.1, fun i hi => by rw [h 4 i (by omega)]; exact ht.2 i hi⟩
theorem XtM.tr {μ μ' μ'' : mzM} (h : XtM μ μ') (h2 : XtM μ' μ'') : XtM μ μ'' := fun a b hab => (h2 a b hab).trans (h a b hab)
theorem nx_skip {d : Nat} {q : mzM → Prop} {b : Nat → Int} {len : Nat} (hl : len ≤ 120) : ∀ (n i : Nat) (μ : mzM), i + n = len → μ 0 8 = i → TpM μ b len → (∀ μ', XtM μ μ' → μ' 0 8 = rn isB b len n i → mzWp (d + 1) 13 46 [mzR 0, none] [] μ' (mzQv q)) → mzWp (d + 1) 13 8 [mzR 0, none] [] μ (mzQv q) := by
  intro n
  induction n with
  | zero =>
    intro i μ hi h8 ht h
    refine g13_8 _ ⟨fun _ => h μ XtM.rf h8, fun z => ?_⟩
    rw [h8, ht.1] at z
    omega
  | succ n ih =>
    intro i μ hi h8 ht h
    refine g13_8 _ ⟨fun z => ?_, fun z => ⟨?_, fun z2 => ?_, fun z2 => ?_⟩⟩
    · rw [h8, ht.1] at z
      omega
    · rw [h8]; omega
    · refine h μ XtM.rf ?_
      rw [h8, Int.toNat_natCast, ht.2 i (by omega)] at z2
      have e : rn isB b len (n + 1) i = i := by
        unfold rn
        rw [if_neg]
        intro c
        have := of_decide_eq_true c.2
        exact z2 this
      rw [h8, e]
    · rw [h8, Int.toNat_natCast, ht.2 i (by omega)] at z2
      have hx : XtM μ (mzS μ 0 8 (mzW (μ 0 8 + 1))) := XtM.rf.st (by omega)
      refine ih (i + 1) _ (by omega) ?_ (hx.tp ht) (fun μ' h1 h2 => h μ' (hx.tr h1) ?_)
      · rw [S_eq, h8, wid (by omega) (by omega)]; omega
      · rw [h2]
        conv => rhs; unfold rn
        rw [if_pos ⟨by omega, decide_eq_true z2⟩]
theorem nx_word {d : Nat} {q : mzM → Prop} {b : Nat → Int} {len : Nat} (hl : len ≤ 120) : ∀ (n i : Nat) (μ : mzM), i + n = len → μ 0 9 = i → μ 0 7 = 1 → TpM μ b len → (∀ μ', XtM μ μ' → μ' 0 7 = 1 → μ' 0 8 = μ 0 8 → μ' 0 9 = rn isL b len n i → q μ') → mzWp (d + 2) 13 141 [mzR 0, none] [] μ (mzQv q) := by
  have fin : ∀ (μ : mzM), μ 0 7 = 1 → q μ → mzWp (d + 2) 13 188 [mzR 0, none] [] μ (mzQv q) := fun μ h7 h => g13_188 _ ⟨fun _ => h, fun z => by rw [h7] at z; omega⟩
  intro n
  induction n with
  | zero =>
    intro i μ hi h9 h7 ht h
    refine g13_141 _ ⟨fun z => absurd h7 z, fun _ => ⟨fun _ => fin μ h7 (h μ XtM.rf h7 rfl h9), fun z => ?_⟩⟩
    rw [h9, ht.1] at z
    omega
  | succ n ih =>
    intro i μ hi h9 h7 ht h
    refine g13_141 _ ⟨fun z => absurd h7 z, fun _ => ⟨fun z => ?_, fun z => ⟨?_, c_isLetter (fun l1 l2 => ⟨fun z => absurd z (by decide), fun _ => ?_⟩) (fun l0 => ⟨fun _ => ?_, fun z => absurd rfl z⟩)⟩⟩⟩
    · rw [h9, ht.1] at z
      omega
    · rw [h9]; omega
    · have hx : XtM μ (mzS μ 0 9 (mzW (μ 0 9 + 1))) := XtM.rf.st (by omega)
      rw [h9, Int.toNat_natCast, ht.2 i (by omega)] at l1 l2
      refine ih (i + 1) _ (by omega) ?_ (by rw [S_ne (by omega)]; exact h7) (hx.tp ht) (fun μ' h1 h2 h3 h4 => h μ' (hx.tr h1) h2 (by rw [h3, S_ne (by omega)]) ?_)
      · rw [S_eq, h9, wid (by omega) (by omega)]; omega
      · rw [h4]
        conv => rhs; unfold rn
        rw [if_pos ⟨by omega, decide_eq_true ⟨l1, l2⟩⟩]
    · rw [h9, Int.toNat_natCast, ht.2 i (by omega)] at l0
      refine fin μ h7 (h μ XtM.rf h7 rfl ?_)
      unfold rn
      rw [if_neg]
      · exact h9
      · intro c
        have := of_decide_eq_true c.2
        omega
def vrel (x : Int) (v : Nat) : Prop := 0 ≤ x ∧ x ≤ 100000 ∧ (x ≤ 9999 → (v : Int) = x) ∧ (9999 < x → v = 10000)
theorem nx_num {d : Nat} {q : mzM → Prop} {b : Nat → Int} {len s : Nat} (hl : len ≤ 120) : ∀ (n i : Nat) (μ : mzM), i + n = len → s ≤ i → μ 0 9 = i → μ 0 7 = 2 → vrel (μ 0 10) (vl b s (i - s)) → TpM μ b len → (∀ μ', XtM μ μ' → μ' 0 7 = 2 → μ' 0 8 = μ 0 8 → μ' 0 9 = rn isD b len n i → vrel (μ' 0 10) (vl b s (rn isD b len n i - s)) → q μ') → mzWp (d + 2) 13 188 [mzR 0, none] [] μ (mzQv q) := by
  intro n
  induction n with
  | zero =>
    intro i μ hi hs h9 h7 hv ht h
    refine g13_188 _ ⟨fun z => absurd h7 z, fun _ => ⟨fun _ => h μ XtM.rf h7 rfl h9 hv, fun z => ?_⟩⟩
    rw [h9, ht.1] at z
    omega
  | succ n ih =>
    intro i μ hi hs h9 h7 hv ht h
    have hb : μ 4 (μ 0 9).toNat = b i := by rw [h9, Int.toNat_natCast]; exact ht.2 i (by omega)
    refine g13_188 _ ⟨fun z => absurd h7 z, fun _ => ⟨fun z => ?_, fun z => ⟨?_, c_isDigit (fun l1 l2 => ⟨fun z => absurd z (by decide), fun _ => ⟨fun z9 => ⟨?_, ?_⟩, fun z9 => ?_⟩⟩) (fun l0 => ⟨fun _ => ?_, fun z => absurd rfl z⟩)⟩⟩⟩
    · rw [h9, ht.1] at z
      omega
    · rw [h9]; omega
    · rw [h9]; omega
    · rw [hb] at l1 l2 ⊢
      have e : rn isD b len (n + 1) i = rn isD b len n (i + 1) := by
        conv => lhs; unfold rn
        rw [if_pos ⟨by omega, decide_eq_true ⟨l1, l2⟩⟩]
      have hx : XtM μ (mzS (mzS μ 0 10 (mzW (mzW (mzW (10 * μ 0 10) + b i) - 48))) 0 9 (mzW (μ 0 9 + 1))) := (XtM.rf.st (by omega)).st (by omega)
      rw [e] at h
      obtain ⟨v1, v2, v3, v4⟩ := hv
      have ew : mzW (mzW (mzW (10 * μ 0 10) + b i) - 48) = 10 * μ 0 10 + b i - 48 := by unfold mzW; omega
      refine ih (i + 1) _ (by omega) (by omega) ?_ ?_ ?_ (hx.tp ht) (fun μ' g1 g2 g3 g4 g5 => h μ' (hx.tr g1) g2 (by rw [g3, S_ne (by omega), S_ne (by omega)]) g4 g5)
      · rw [S_eq, h9, wid (by omega) (by omega)]; omega
      · rw [S_ne (by omega), S_ne (by omega)]; exact h7
      · rw [S_ne (by omega), S_eq, ew, show i + 1 - s = (i - s) + 1 by omega]
        unfold vl
        rw [show s + (i - s) = i by omega]
        have := v3 z9
        refine ⟨by omega, by omega, fun q1 => ?_, fun q1 => ?_⟩
        · omega
        · omega
    · rw [hb] at l1 l2
      have e : rn isD b len (n + 1) i = rn isD b len n (i + 1) := by
        conv => lhs; unfold rn
        rw [if_pos ⟨by omega, decide_eq_true ⟨l1, l2⟩⟩]
      have hx : XtM μ (mzS (mzS μ 0 10 (μ 0 10)) 0 9 (mzW (μ 0 9 + 1))) := (XtM.rf.st (by omega)).st (by omega)
      rw [e] at h
      obtain ⟨v1, v2, v3, v4⟩ := hv
      refine ih (i + 1) _ (by omega) (by omega) ?_ ?_ ?_ (hx.tp ht) (fun μ' g1 g2 g3 g4 g5 => h μ' (hx.tr g1) g2 (by rw [g3, S_ne (by omega), S_ne (by omega)]) g4 g5)
      · rw [S_eq, h9, wid (by omega) (by omega)]; omega
      · rw [S_ne (by omega), S_ne (by omega)]; exact h7
      · rw [S_ne (by omega), S_eq, show i + 1 - s = (i - s) + 1 by omega]
        unfold vl
        rw [show s + (i - s) = i by omega]
        have := v4 z9
        refine ⟨by omega, by omega, fun q1 => ?_, fun q1 => ?_⟩
        · omega
        · omega
    · rw [hb] at l0
      have e : rn isD b len (n + 1) i = i := by
        unfold rn
        rw [if_neg]
        intro c
        have := of_decide_eq_true c.2
        omega
      rw [e] at h
      exact h μ XtM.rf h7 rfl h9 hv
end
section
theorem tk_0 {b : Nat → Int} {len pos : Nat} (h : ¬ rn isB b len (len - pos) pos < len) : tk b len pos = (0, rn isB b len (len - pos) pos, rn isB b len (len - pos) pos, 0) := by
  unfold tk
  simp only [h, if_false]
theorem tk_1 {b : Nat → Int} {len pos s : Nat} (hs : rn isB b len (len - pos) pos = s) (h : s < len) (hL : isL (b s) = true) : tk b len pos = (1, s, rn isL b len (len - s) s, 0) := by
  unfold tk
  simp only [hs, h, if_true, hL]
theorem tk_2 {b : Nat → Int} {len pos s : Nat} (hs : rn isB b len (len - pos) pos = s) (h : s < len) (hL : isL (b s) = false) (hD : isD (b s) = true) : tk b len pos = (2, s, rn isD b len (len - s) s, vl b s (rn isD b len (len - s) s - s)) := by
  unfold tk
  simp [hs, h, hL, hD]
theorem tk_3 {b : Nat → Int} {len pos s : Nat} (hs : rn isB b len (len - pos) pos = s) (h : s < len) (hL : isL (b s) = false) (hD : isD (b s) = false) (h9 : b s = 59) : tk b len pos = (3, s, s + 1, 0) := by
  unfold tk
  rw [h9] at hL hD
  simp [hs, h, hL, hD, h9]
theorem tk_4 {b : Nat → Int} {len pos s : Nat} (hs : rn isB b len (len - pos) pos = s) (h : s < len) (hL : isL (b s) = false) (hD : isD (b s) = false) (h9 : b s ≠ 59) : tk b len pos = (4, s, s + 1, 0) := by
  unfold tk
  simp [hs, h, hL, hD, h9]
theorem isL_t {x : Int} (h1 : 97 ≤ x) (h2 : x ≤ 122) : isL x = true := decide_eq_true ⟨h1, h2⟩
theorem isL_f {x : Int} (h : x < 97 ∨ 122 < x) : isL x = false := decide_eq_false (by omega)
theorem isD_t {x : Int} (h1 : 48 ≤ x) (h2 : x ≤ 57) : isD x = true := decide_eq_true ⟨h1, h2⟩
theorem isD_f {x : Int} (h : x < 48 ∨ 57 < x) : isD x = false := decide_eq_false (by omega)
/-- the token that the reference holds -/
def TkM' (μ : mzM) (t : Nat × Nat × Nat × Nat) : Prop := μ 0 7 = t.1 ∧ μ 0 8 = t.2.1 ∧ μ 0 9 = t.2.2.1 ∧ (t.1 = 2 → vrel (μ 0 10) t.2.2.2)
theorem c_next {d : Nat} {q : mzM → Prop} {b : Nat → Int} {len pos : Nat} {μ : mzM} (hl : len ≤ 120) (hp : pos ≤ len) (h9 : μ 0 9 = pos) (ht : TpM μ b len) (h : ∀ μ', XtM μ μ' → TkM' μ' (tk b len pos) → q μ') : mzCl (d + 2) 13 [mzR 0] μ (mzQv q) := by
  have hx0 : XtM μ (mzS μ 0 8 (μ 0 9)) := XtM.rf.st (by omega)
  refine g13_e _ (nx_skip hl (len - pos) pos _ (by omega) (by rw [S_eq]; exact h9) (hx0.tp ht) (fun μ1 x1 e8 => ?_))
  have hx1 := hx0.tr x1
  have t1 := hx1.tp ht
  generalize hs : rn isB b len (len - pos) pos = s at e8
  have hsl : s ≤ len := by rw [← hs]; exact rn_le _ _ _ _ _ hp
  refine g13_46 _ ⟨fun z => ⟨?_, ?_⟩, fun z => ?_⟩
  · rw [e8, t1.1] at z
    rw [e8]
    omega
  · rw [e8, t1.1] at z
    have hlt : s < len := by omega
    have hb : μ1 4 (μ1 0 8).toNat = b s := by rw [e8, Int.toNat_natCast]; exact t1.2 s hlt
    rw [hb]
    have x2 : XtM μ1 (mzS (mzS μ1 0 9 (μ1 0 8)) 0 10 0) := (XtM.rf.st (by omega)).st (by omega)
    have r8 : (mzS (mzS μ1 0 9 (μ1 0 8)) 0 10 0) 0 8 = s := by rw [S_ne (by omega), S_ne (by omega)]; exact e8
    have r9 : (mzS (mzS μ1 0 9 (μ1 0 8)) 0 10 0) 0 9 = s := by rw [S_ne (by omega), S_eq]; exact e8
    have r10 : (mzS (mzS μ1 0 9 (μ1 0 8)) 0 10 0) 0 10 = 0 := S_eq
    generalize mzS (mzS μ1 0 9 (μ1 0 8)) 0 10 0 = μ2 at x2 r8 r9 r10
    have hx2 := hx1.tr x2
    have t2 := hx2.tp ht
    refine c_isLetter (fun l1 l2 => ⟨fun z => absurd z (by decide), fun _ => ⟨fun _ => ?_, fun z => absurd z (by decide)⟩⟩) (fun l0 => ⟨fun _ => ?_, fun z => absurd rfl z⟩)
    · have x3 : XtM μ2 (mzS μ2 0 7 1) := XtM.rf.st (by omega)
      refine nx_word hl (len - s) s _ (by omega) (by rw [S_ne (by omega)]; exact r9) S_eq (x3.tp t2) (fun μ' y1 y2 y3 y4 => h μ' ((hx2.tr x3).tr y1) ?_)
      rw [tk_1 hs hlt (isL_t l1 l2)]
      exact ⟨y2, by rw [y3, S_ne (by omega)]; exact r8, y4, fun z => by simp at z⟩
    · refine c_isDigit (fun k1 k2 => ⟨fun z => absurd z (by decide), fun _ => ⟨fun _ => ?_, fun z => absurd z (by decide)⟩⟩) (fun k0 => ⟨fun _ => ⟨fun c9 => ⟨fun z => absurd z (by decide), fun _ => ?_⟩, fun c9 => ⟨fun z => absurd z (by decide), fun _ => ?_⟩⟩, fun z => absurd rfl z⟩)
      · have x3 : XtM μ2 (mzS μ2 0 7 2) := XtM.rf.st (by omega)
        have f2 : (mzS μ2 0 7 2) 0 7 = 2 := S_eq
        refine g13_141 _ ⟨fun _ => ?_, fun z => by rw [f2] at z; omega⟩
        refine nx_num hl (len - s) s _ (s := s) (by omega) (Nat.le_refl _) (by rw [S_ne (by omega)]; exact r9) f2 ?_ (x3.tp t2) (fun μ' y1 y2 y3 y4 y5 => h μ' ((hx2.tr x3).tr y1) ?_)
        · rw [S_ne (by omega), r10, Nat.sub_self]
          exact ⟨by omega, by omega, fun _ => rfl, fun z => by omega⟩
        · rw [tk_2 hs hlt (isL_f l0) (isD_t k1 k2)]
          exact ⟨y2, by rw [y3, S_ne (by omega)]; exact r8, y4, fun _ => y5⟩
      · have x3 : XtM μ2 (mzS (mzS μ2 0 7 4) 0 9 (mzW (μ2 0 9 + 1))) := (XtM.rf.st (by omega)).st (by omega)
        have f7 : (mzS (mzS μ2 0 7 4) 0 9 (mzW (μ2 0 9 + 1))) 0 7 = 4 := by rw [S_ne (by omega), S_eq]
        refine g13_141 _ ⟨fun _ => g13_188 _ ⟨fun _ => h _ (hx2.tr x3) ?_, fun z => by rw [f7] at z; omega⟩, fun z => by rw [f7] at z; omega⟩
        rw [tk_4 hs hlt (isL_f l0) (isD_f k0) c9]
        refine ⟨f7, by rw [S_ne (by omega), S_ne (by omega)]; exact r8, ?_, fun z => by simp at z⟩
        rw [S_eq, r9, wid (by omega) (by omega)]; rfl
      · have x3 : XtM μ2 (mzS (mzS μ2 0 7 3) 0 9 (mzW (μ2 0 9 + 1))) := (XtM.rf.st (by omega)).st (by omega)
        have f7 : (mzS (mzS μ2 0 7 3) 0 9 (mzW (μ2 0 9 + 1))) 0 7 = 3 := by rw [S_ne (by omega), S_eq]
        refine g13_141 _ ⟨fun _ => g13_188 _ ⟨fun _ => h _ (hx2.tr x3) ?_, fun z => by rw [f7] at z; omega⟩, fun z => by rw [f7] at z; omega⟩
        rw [tk_3 hs hlt (isL_f l0) (isD_f k0) c9]
        refine ⟨f7, by rw [S_ne (by omega), S_ne (by omega)]; exact r8, ?_, fun z => by simp at z⟩
        rw [S_eq, r9, wid (by omega) (by omega)]; rfl
  · rw [e8, t1.1] at z
    have hse : ¬ rn isB b len (len - pos) pos < len := by rw [hs]; omega
    refine h _ (((hx1.st (j := 9) (by omega)).st (j := 10) (by omega)).st (j := 7) (by omega)) ?_
    rw [tk_0 hse, hs]
    exact ⟨S_eq, by rw [S_ne (by omega), S_ne (by omega), S_ne (by omega)]; exact e8, by rw [S_ne (by omega), S_ne (by omega), S_eq]; exact e8, fun z => by simp at z⟩
-- the class's reader
def TpC (μ : mzM) (b : Nat → Int) (len : Nat) : Prop := μ 23 1 = len ∧ ∀ i, i < len → μ 24 i = b i
def TkC (μ : mzM) (t : Nat × Nat × Nat × Nat) : Prop := μ 23 2 = t.1 ∧ μ 23 3 = t.2.1 ∧ μ 23 4 = t.2.2.1 ∧ (t.1 = 2 → μ 23 5 = t.2.2.2)
def XtC (μ μ' : mzM) : Prop := ∀ k j, (k ≠ 23 ∨ j < 2 ∨ 5 < j) → μ' k j = μ k j
theorem XtC.rf {μ : mzM} : XtC μ μ := fun _ _ _ => rfl
theorem XtC.st {μ μ' : mzM} {j : Nat} {v : Int} (h : XtC μ μ') (hj : 2 ≤ j ∧ j ≤ 5) : XtC μ (mzS μ' 23 j v) := fun a b hab => by
  rw [S_ne (by omega)]
  exact h a b hab
theorem XtC.tp {μ μ' : mzM} {b : Nat → Int} {len : Nat} (h : XtC μ μ') (ht : TpC μ b len) : TpC μ' b len := ⟨by rw [h 23 1 (by omega)]; exact ht.1, fun i hi => by rw [h 24 i (by omega)]; exact ht.2 i hi⟩
theorem XtC.tr {μ μ' μ'' : mzM} (h : XtC μ μ') (h2 : XtC μ' μ'') : XtC μ μ'' := fun a b hab => (h2 a b hab).trans (h a b hab)
theorem k_isLetter {d : Nat} {q : Int → mzM → Prop} {a : Int} {μ : mzM} (h1 : 97 ≤ a → a ≤ 122 → q 1 μ) (h0 : a < 97 ∨ 122 < a → q 0 μ) : mzCl d 121 [mzI a] μ (mzQi q) :=
  g121_e _ _ ⟨fun z => ⟨or00, h0 (Or.inl z)⟩, fun z => ⟨fun z2 => ⟨or00, h0 (Or.inr z2)⟩, fun z2 => ⟨or10, h1 z z2⟩⟩⟩
theorem k_isDigit {d : Nat} {q : Int → mzM → Prop} {a : Int} {μ : mzM} (h1 : 48 ≤ a → a ≤ 57 → q 1 μ) (h0 : a < 48 ∨ 57 < a → q 0 μ) : mzCl d 122 [mzI a] μ (mzQi q) :=
  g122_e _ _ ⟨fun z => ⟨or00, h0 (Or.inl z)⟩, fun z => ⟨fun z2 => ⟨or00, h0 (Or.inr z2)⟩, fun z2 => ⟨or10, h1 z z2⟩⟩⟩
theorem kx_skip {d : Nat} {q : mzM → Prop} {b : Nat → Int} {len : Nat} (hl : len ≤ 120) : ∀ (n i : Nat) (μ : mzM), i + n = len → μ 23 3 = i → TpC μ b len → (∀ μ', XtC μ μ' → μ' 23 3 = rn isB b len n i → mzWp (d + 1) 119 46 [mzR 23] [] μ' (mzQv q)) → mzWp (d + 1) 119 8 [mzR 23] [] μ (mzQv q) := by
  intro n
  induction n with
  | zero =>
    intro i μ hi h8 ht h
    refine g119_8 _ ⟨fun _ => h μ XtC.rf h8, fun z => ?_⟩
    rw [h8, ht.1] at z
    omega
  | succ n ih =>
    intro i μ hi h8 ht h
    refine g119_8 _ ⟨fun z => ?_, fun z => ⟨?_, fun z2 => ?_, fun z2 => ?_⟩⟩
    · rw [h8, ht.1] at z
      omega
    · rw [h8]; omega
    · refine h μ XtC.rf ?_
      rw [h8, Int.toNat_natCast, ht.2 i (by omega)] at z2
      have e : rn isB b len (n + 1) i = i := by
        unfold rn
        rw [if_neg]
        intro c
        have := of_decide_eq_true c.2
        exact z2 this
      rw [h8, e]
    · rw [h8, Int.toNat_natCast, ht.2 i (by omega)] at z2
      have hx : XtC μ (mzS μ 23 3 (mzW (μ 23 3 + 1))) := XtC.rf.st (by omega)
      refine ih (i + 1) _ (by omega) ?_ (hx.tp ht) (fun μ' h1 h2 => h μ' (hx.tr h1) ?_)
      · rw [S_eq, h8, wid (by omega) (by omega)]; omega
      · rw [h2]
        conv => rhs; unfold rn
        rw [if_pos ⟨by omega, decide_eq_true z2⟩]
theorem kx_word {d : Nat} {q : mzM → Prop} {b : Nat → Int} {len : Nat} (hl : len ≤ 120) : ∀ (n i : Nat) (μ : mzM), i + n = len → μ 23 4 = i → TpC μ b len → (∀ μ', XtC μ μ' → μ' 23 2 = μ 23 2 → μ' 23 3 = μ 23 3 → μ' 23 4 = rn isL b len n i → q μ') → mzWp (d + 1) 119 93 [mzR 23] [] μ (mzQv q) := by
  intro n
  induction n with
  | zero =>
    intro i μ hi h9 ht h
    refine g119_93 _ ⟨fun _ => h μ XtC.rf rfl rfl h9, fun z => ?_⟩
    rw [h9, ht.1] at z
    omega
  | succ n ih =>
    intro i μ hi h9 ht h
    refine g119_93 _ ⟨fun z => ?_, fun z => ⟨?_, k_isLetter (fun l1 l2 => ⟨fun z => absurd z (by decide), fun _ => ?_⟩) (fun l0 => ⟨fun _ => ?_, fun z => absurd rfl z⟩)⟩⟩
    · rw [h9, ht.1] at z
      omega
    · rw [h9]; omega
    · have hx : XtC μ (mzS μ 23 4 (mzW (μ 23 4 + 1))) := XtC.rf.st (by omega)
      rw [h9, Int.toNat_natCast, ht.2 i (by omega)] at l1 l2
      refine ih (i + 1) _ (by omega) ?_ (hx.tp ht) (fun μ' h1 h2 h3 h4 => h μ' (hx.tr h1) (by rw [h2, S_ne (by omega)]) (by rw [h3, S_ne (by omega)]) ?_)
      · rw [S_eq, h9, wid (by omega) (by omega)]; omega
      · rw [h4]
        conv => rhs; unfold rn
        rw [if_pos ⟨by omega, decide_eq_true ⟨l1, l2⟩⟩]
    · rw [h9, Int.toNat_natCast, ht.2 i (by omega)] at l0
      refine h μ XtC.rf rfl rfl ?_
      unfold rn
      rw [if_neg]
      · exact h9
      · intro c
        have := of_decide_eq_true c.2
        omega
theorem kx_num {d : Nat} {q : mzM → Prop} {b : Nat → Int} {len s : Nat} (hl : len ≤ 120) : ∀ (n i : Nat) (μ : mzM), i + n = len → s ≤ i → μ 23 4 = i → μ 23 5 = vl b s (i - s) → TpC μ b len → (∀ μ', XtC μ μ' → μ' 23 2 = μ 23 2 → μ' 23 3 = μ 23 3 → μ' 23 4 = rn isD b len n i → μ' 23 5 = vl b s (rn isD b len n i - s) → q μ') → mzWp (d + 1) 120 5 [mzR 23] [] μ (mzQv q) := by
  intro n
  induction n with
  | zero =>
    intro i μ hi hs h9 hv ht h
    refine g120_5 _ ⟨fun _ => h μ XtC.rf rfl rfl h9 hv, fun z => ?_⟩
    rw [h9, ht.1] at z
    omega
  | succ n ih =>
    intro i μ hi hs h9 hv ht h
    have hb : μ 24 (μ 23 4).toNat = b i := by rw [h9, Int.toNat_natCast]; exact ht.2 i (by omega)
    refine g120_5 _ ⟨fun z => ?_, fun z => ⟨?_, k_isDigit (fun l1 l2 => ⟨fun z => absurd z (by decide), fun _ => ⟨?_, ?_⟩⟩) (fun l0 => ⟨fun _ => ?_, fun z => absurd rfl z⟩)⟩⟩
    · rw [h9, ht.1] at z
      omega
    · rw [h9]; omega
    · rw [h9]; omega
    · rw [hb] at l1 l2 ⊢
      have e : rn isD b len (n + 1) i = rn isD b len n (i + 1) := by
        conv => lhs; unfold rn
        rw [if_pos ⟨by omega, decide_eq_true ⟨l1, l2⟩⟩]
      have hx : XtC μ (mzS (mzS μ 23 5 (mzMn 10000 (mzW (mzW (mzW (μ 23 5 * 10) + b i) - 48)))) 23 4 (mzW (μ 23 4 + 1))) := (XtC.rf.st (by omega)).st (by omega)
      rw [e] at h
      have hle := vl_le b s (i - s)
      have ew : mzW (mzW (mzW (μ 23 5 * 10) + b i) - 48) = μ 23 5 * 10 + b i - 48 := by unfold mzW; omega
      refine ih (i + 1) _ (by omega) (by omega) ?_ ?_ (hx.tp ht) (fun μ' g1 g2 g3 g4 g5 => h μ' (hx.tr g1) (by rw [g2, S_ne (by omega), S_ne (by omega)]) (by rw [g3, S_ne (by omega), S_ne (by omega)]) g4 g5)
      · rw [S_eq, h9, wid (by omega) (by omega)]; omega
      · rw [S_ne (by omega), S_eq, ew, show i + 1 - s = (i - s) + 1 by omega]
        unfold vl mzMn
        rw [show s + (i - s) = i by omega, hv]
        split <;> omega
    · rw [hb] at l0
      have e : rn isD b len (n + 1) i = i := by
        unfold rn
        rw [if_neg]
        intro c
        have := of_decide_eq_true c.2
        omega
      rw [e] at h
      exact h μ XtC.rf rfl rfl h9 hv
theorem k_next {d : Nat} {q : mzM → Prop} {b : Nat → Int} {len pos : Nat} {μ : mzM} (hl : len ≤ 120) (hp : pos ≤ len) (h9 : μ 23 4 = pos) (ht : TpC μ b len) (h : ∀ μ', XtC μ μ' → TkC μ' (tk b len pos) → q μ') : mzCl (d + 2) 119 [mzR 23] μ (mzQv q) := by
  have hx0 : XtC μ (mzS μ 23 3 (μ 23 4)) := XtC.rf.st (by omega)
  refine g119_e _ (kx_skip hl (len - pos) pos _ (by omega) (by rw [S_eq]; exact h9) (hx0.tp ht) (fun μ1 x1 e8 => ?_))
  have hx1 := hx0.tr x1
  have t1 := hx1.tp ht
  generalize hs : rn isB b len (len - pos) pos = s at e8
  have hsl : s ≤ len := by rw [← hs]; exact rn_le _ _ _ _ _ hp
  refine g119_46 _ ⟨fun z => ⟨?_, ?_⟩, fun z => ?_⟩
  · rw [e8, t1.1] at z
    rw [e8]
    omega
  · rw [e8, t1.1] at z
    have hlt : s < len := by omega
    have hb : μ1 24 (μ1 23 3).toNat = b s := by rw [e8, Int.toNat_natCast]; exact t1.2 s hlt
    rw [hb]
    have x2 : XtC μ1 (mzS μ1 23 4 (μ1 23 3)) := XtC.rf.st (by omega)
    have r8 : (mzS μ1 23 4 (μ1 23 3)) 23 3 = s := by rw [S_ne (by omega)]; exact e8
    have r9 : (mzS μ1 23 4 (μ1 23 3)) 23 4 = s := by rw [S_eq]; exact e8
    generalize mzS μ1 23 4 (μ1 23 3) = μ2 at x2 r8 r9
    have hx2 := hx1.tr x2
    have t2 := hx2.tp ht
    have hb2 : μ2 24 (μ2 23 3).toNat = b s := by rw [r8, Int.toNat_natCast]; exact t2.2 s hlt
    refine k_isLetter (fun l1 l2 => ⟨fun z => absurd z (by decide), fun _ => ?_⟩) (fun l0 => ⟨fun _ => ⟨by rw [r8]; omega, ?_⟩, fun z => absurd rfl z⟩)
    · have x3 : XtC μ2 (mzS μ2 23 2 1) := XtC.rf.st (by omega)
      refine kx_word hl (len - s) s _ (by omega) (by rw [S_ne (by omega)]; exact r9) (x3.tp t2) (fun μ' y1 y2 y3 y4 => h μ' ((hx2.tr x3).tr y1) ?_)
      rw [tk_1 hs hlt (isL_t l1 l2)]
      exact ⟨by rw [y2, S_eq]; rfl, by rw [y3, S_ne (by omega)]; exact r8, y4, fun z => by simp at z⟩
    · rw [hb2]
      refine k_isDigit (fun k1 k2 => ⟨fun z => absurd z (by decide), fun _ => ?_⟩) (fun k0 => ⟨fun _ => ⟨by rw [r8]; omega, fun c9 => ?_, fun c9 => ?_⟩, fun z => absurd rfl z⟩)
      · have x3 : XtC μ2 (mzS (mzS μ2 23 2 2) 23 5 0) := (XtC.rf.st (by omega)).st (by omega)
        refine g120_e _ (kx_num hl (len - s) s _ (s := s) (by omega) (Nat.le_refl _) (by rw [S_ne (by omega), S_ne (by omega)]; exact r9) (by rw [S_eq, Nat.sub_self]; rfl) (x3.tp t2) (fun μ' y1 y2 y3 y4 y5 => h μ' ((hx2.tr x3).tr y1) ?_))
        rw [tk_2 hs hlt (isL_f l0) (isD_t k1 k2)]
        exact ⟨by rw [y2, S_ne (by omega), S_eq]; rfl, by rw [y3, S_ne (by omega), S_ne (by omega)]; exact r8, y4, fun _ => y5⟩
      · rw [hb2] at c9
        refine h _ (hx2.tr ((XtC.rf.st (j := 2) (by omega)).st (j := 4) (by omega))) ?_
        rw [tk_4 hs hlt (isL_f l0) (isD_f k0) c9]
        refine ⟨by rw [S_ne (by omega), S_eq]; rfl, by rw [S_ne (by omega), S_ne (by omega)]; exact r8, ?_, fun z => by simp at z⟩
        rw [S_eq, r9, wid (by omega) (by omega)]; rfl
      · rw [hb2] at c9
        refine h _ (hx2.tr ((XtC.rf.st (j := 2) (by omega)).st (j := 4) (by omega))) ?_
        rw [tk_3 hs hlt (isL_f l0) (isD_f k0) c9]
        refine ⟨by rw [S_ne (by omega), S_eq]; rfl, by rw [S_ne (by omega), S_ne (by omega)]; exact r8, ?_, fun z => by simp at z⟩
        rw [S_eq, r9, wid (by omega) (by omega)]; rfl
  · rw [e8, t1.1] at z
    have hse : ¬ rn isB b len (len - pos) pos < len := by rw [hs]; omega
    refine h _ ((hx1.st (j := 4) (by omega)).st (j := 2) (by omega)) ?_
    rw [tk_0 hse, hs]
    exact ⟨S_eq, by rw [S_ne (by omega), S_ne (by omega)]; exact e8, by rw [S_ne (by omega), S_eq]; exact e8, fun z => by simp at z⟩
end
section
/-! TEXTS: what a text does to the places and ties -/
abbrev TT : Type := Nat × Nat × Nat × Nat
theorem rn_gt {P : Int → Bool} {b : Nat → Int} {len f i : Nat} (hf : 0 < f) (hi : i < len) (hP : P (b i) = true) : i < rn P b len f i := by
  cases f with
  | zero => omega
  | succ f =>
    unfold rn
    rw [if_pos ⟨hi, hP⟩]
    exact Nat.lt_of_lt_of_le (Nat.lt_succ_self i) (rn_ge _ _ _ _ _)
/-- where tokens lie -/
theorem tk_bd {b : Nat → Int} {len pos : Nat} (hp : pos ≤ len) : pos ≤ (tk b len pos).2.1 ∧ (tk b len pos).2.1 ≤ (tk b len pos).2.2.1 ∧ (tk b len pos).2.2.1 ≤ len ∧ ((tk b len pos).1 ≠ 0 → pos < (tk b len pos).2.2.1) ∧ ((tk b len pos).1 = 0 ∨ (tk b len pos).2.1 < (tk b len pos).2.2.1) ∧ (tk b len pos).2.2.2 ≤ 10000 ∧ (tk b len pos).1 ≤ 4 := by
  have h1 := rn_ge isB b len (len - pos) pos
  have h2 := rn_le isB b len (len - pos) pos hp
  generalize hs : rn isB b len (len - pos) pos = s at h1 h2
  by_cases h : s < len
  · cases hL : isL (b s) with
    | true =>
      rw [tk_1 hs h hL]
      have a1 := rn_gt (f := len - s) (by omega) h hL
      have a2 := rn_le isL b len (len - s) s (by omega)
      exact ⟨h1, Nat.le_of_lt a1, a2, fun _ => Nat.lt_of_le_of_lt h1 a1, Or.inr a1, Nat.zero_le _, (show 1 ≤ 4 by decide)⟩
    | false =>
      cases hD : isD (b s) with
      | true =>
        rw [tk_2 hs h hL hD]
        have a1 := rn_gt (f := len - s) (by omega) h hD
        have a2 := rn_le isD b len (len - s) s (by omega)
        exact ⟨h1, Nat.le_of_lt a1, a2, fun _ => Nat.lt_of_le_of_lt h1 a1, Or.inr a1, vl_le _ _ _, (show 2 ≤ 4 by decide)⟩
      | false =>
        by_cases h9 : b s = 59
        · rw [tk_3 hs h hL hD h9]
          exact ⟨h1, Nat.le_succ s, h, fun _ => Nat.lt_succ_of_le h1, Or.inr (Nat.lt_succ_self s), Nat.zero_le _, (show 3 ≤ 4 by decide)⟩
        · rw [tk_4 hs h hL hD h9]
          exact ⟨h1, Nat.le_succ s, h, fun _ => Nat.lt_succ_of_le h1, Or.inr (Nat.lt_succ_self s), Nat.zero_le _, (show 4 ≤ 4 by decide)⟩
  · rw [tk_0 (by rw [hs]; exact h), hs]
    exact ⟨h1, Nat.le_refl _, h2, fun z => absurd rfl z, Or.inl rfl, Nat.zero_le _, (show 0 ≤ 4 by decide)⟩
/-- the first k bytes behind s are text o's -/
def eqS (b : Nat → Int) (s o : Nat) : Nat → Bool
  | 0 => true
  | k + 1 => eqS b s o k && decide (b (s + k) = mzSc o k)
def wl (o : Nat) : Nat := (mzStrT.getD o []).length
theorem wl_sl (o : Nat) : mzSl o = (wl o : Int) := rfl
theorem wl_le : ∀ o, o < 14 → 1 ≤ wl o ∧ wl o ≤ 7 := by decide +kernel
def isWd (b : Nat → Int) (t : TT) (o : Nat) : Bool := decide (t.1 = 1) && (decide (t.2.2.1 - t.2.1 = wl o) && eqS b t.2.1 o (wl o))
theorem eqS_mono {b : Nat → Int} {s o : Nat} : ∀ {k j : Nat}, eqS b s o k = true → j < k → b (s + j) = mzSc o j := by
  intro k
  induction k with
  | zero => intro j _ h; omega
  | succ k ih =>
    intro j h hj
    unfold eqS at h
    simp only [Bool.and_eq_true, decide_eq_true_eq] at h
    by_cases e : j = k
    · subst e; exact h.2
    · exact ih h.1 (by omega)
theorem eqS_not {b : Nat → Int} {s o k j : Nat} (hj : j < k) (h : b (s + j) ≠ mzSc o j) : eqS b s o k = false := by
  cases e : eqS b s o k with
  | false => rfl
  | true => exact absurd (eqS_mono e hj) h
theorem isWd_1 {b : Nat → Int} {t : TT} {o : Nat} (h : isWd b t o = true) : t.1 = 1 := by
  unfold isWd at h
  simp only [Bool.and_eq_true, decide_eq_true_eq] at h
  exact h.1
-- the reference
theorem wd_l {d : Nat} {q : Int → mzM → Prop} {b : Nat → Int} {len : Nat} {t : TT} {o : Nat} {μ : mzM} (ho : o < 14) (hl : len ≤ 120) (ht : TpM μ b len) (h8 : μ 0 8 = t.2.1) (he : t.2.1 + wl o ≤ len) (h : q (if eqS b t.2.1 o (wl o) = true then 1 else 0) μ) :
    ∀ (n k : Nat) (x3 : Int), k + n = wl o → x3 = k → eqS b t.2.1 o k = true → mzWp (d + 1) 14 39 [mzR 0, mzP 300 o, mzI 1, mzI x3] [] μ (mzQi q) := by
  intro n
  induction n with
  | zero =>
    intro k x3 hk h3 hE
    have : k = wl o := by omega
    subst this
    refine g14_39 _ _ _ _ ⟨fun z => absurd z (by decide), fun _ => ⟨ho, fun _ => ⟨or10, ?_⟩, fun z => ?_⟩⟩
    · rw [if_pos hE] at h; exact h
    · rw [wl_sl, h3] at z; omega
  | succ n ih =>
    intro k x3 hk h3 hE
    have ew : mzW (μ 0 8 + x3) = ((t.2.1 + k : Nat) : Int) := by rw [h8, h3, wid (by omega) (by omega)]; omega
    have eb : μ 4 (mzW (μ 0 8 + x3)).toNat = b (t.2.1 + k) := by rw [ew, Int.toNat_natCast]; exact ht.2 _ (by omega)
    have ek : x3.toNat = k := by omega
    have e1 : mzW (x3 + 1) = ((k + 1 : Nat) : Int) := by rw [h3, wid (by have := (wl_le o ho).2; omega) (by have := (wl_le o ho).2; omega)]; omega
    refine g14_39 _ _ _ _ ⟨fun z => absurd z (by decide), fun _ => ⟨ho, fun z => ?_, fun z => ⟨?_, ⟨ho, by omega, z⟩, fun z2 => ?_, fun z2 => ?_⟩⟩⟩
    · rw [wl_sl, h3] at z; omega
    · rw [ew]; omega
    · rw [eb, ek] at z2
      refine g14_39 _ _ _ _ ⟨fun _ => ⟨or00, ?_⟩, fun z => absurd rfl z⟩
      rw [if_neg (by rw [eqS_not (by omega) z2]; decide)] at h
      exact h
    · rw [eb, ek] at z2
      refine ih (k + 1) _ (by omega) e1 ?_
      unfold eqS
      rw [hE, z2]
      simp
theorem c_isWord {d : Nat} {q : Int → mzM → Prop} {b : Nat → Int} {len : Nat} {t : TT} {o : Nat} {μ : mzM} (ho : o < 14) (hl : len ≤ 120) (ht : TpM μ b len) (hk : TkM' μ t) (hse : t.2.1 ≤ t.2.2.1) (hel : t.2.2.1 ≤ len) (hb : μ 0 11 = 0) (h1 : isWd b t o = true → q 1 μ) (h0 : isWd b t o = false → q 0 μ) : mzCl (d + 1) 14 [mzR 0, mzP 300 o] μ (mzQi q) := by
  have stop : isWd b t o = false → mzWp (d + 1) 14 39 [mzR 0, mzP 300 o, mzI 0, mzI 0] [] μ (mzQi q) := fun e => g14_39 _ _ _ _ ⟨fun _ => ⟨or00, h0 e⟩, fun z => absurd rfl z⟩
  obtain ⟨k7, k8, k9, -⟩ := hk
  have ew : mzW (μ 0 9 - μ 0 8) = ((t.2.2.1 - t.2.1 : Nat) : Int) := by rw [k8, k9, wid (by omega) (by omega)]; omega
  refine g14_e _ _ ⟨fun z => absurd hb z, fun _ => ⟨fun z => stop ?_, fun z => ⟨ho, fun z2 => stop ?_, fun z2 => ?_⟩⟩⟩
  · unfold isWd
    rw [decide_eq_false (by rw [k7] at z; omega)]
    rfl
  · rw [ew, wl_sl] at z2
    unfold isWd
    rw [decide_eq_false (p := t.2.2.1 - t.2.1 = wl o) (by omega)]
    simp
  · rw [ew, wl_sl] at z2
    refine wd_l ho hl ht k8 (by omega) ?_ (wl o) 0 _ (by omega) rfl rfl
    have e : isWd b t o = eqS b t.2.1 o (wl o) := by
      unfold isWd
      rw [decide_eq_true (show t.1 = 1 by rw [k7] at z; omega), decide_eq_true (show t.2.2.1 - t.2.1 = wl o by omega)]
      rfl
    by_cases c : eqS b t.2.1 o (wl o) = true
    · rw [if_pos c]; exact h1 (by rw [e]; exact c)
    · rw [if_neg c]; exact h0 (by rw [e]; simpa using c)
/-- the sort of place that a token tells -/
def kd (b : Nat → Int) (t : TT) : Option Nat := if isWd b t 2 then some 0 else if isWd b t 3 then some 1 else if isWd b t 4 then some 2 else if isWd b t 5 then some 3 else if isWd b t 6 then some 4 else if isWd b t 7 then some 5 else if isWd b t 8 then some 6 else none
theorem c_kindHere {d : Nat} {q : Int → mzM → Prop} {b : Nat → Int} {len : Nat} {t : TT} {μ : mzM} (hl : len ≤ 120) (ht : TpM μ b len) (hk : TkM' μ t) (hse : t.2.1 ≤ t.2.2.1) (hel : t.2.2.1 ≤ len) (hb : μ 0 11 = 0) (h1 : ∀ k, kd b t = some k → q k μ) (h0 : kd b t = none → q (-1) μ) : mzCl (d + 2) 17 [mzR 0] μ (mzQi q) := by
  have W : ∀ {o : Nat} {q' : Int → mzM → Prop}, o < 14 → (isWd b t o = true → q' 1 μ) → (isWd b t o = false → q' 0 μ) → mzCl (d + 1) 14 [mzR 0, mzP 300 o] μ (mzQi q') := fun ho a1 a0 => c_isWord ho hl ht hk hse hel hb a1 a0
  refine g17_e _ (W (by omega) (fun w0 => ⟨fun z => absurd z (by decide), fun _ => h1 0 (by simp [kd, w0])⟩) (fun w0 => ⟨fun _ => ?_, fun z => absurd rfl z⟩))
  refine W (by omega) (fun w1 => ⟨fun z => absurd z (by decide), fun _ => h1 1 (by simp [kd, w0, w1])⟩) (fun w1 => ⟨fun _ => ?_, fun z => absurd rfl z⟩)
  refine W (by omega) (fun w2 => ⟨fun z => absurd z (by decide), fun _ => h1 2 (by simp [kd, w0, w1, w2])⟩) (fun w2 => ⟨fun _ => ?_, fun z => absurd rfl z⟩)
  refine W (by omega) (fun w3 => ⟨fun z => absurd z (by decide), fun _ => h1 3 (by simp [kd, w0, w1, w2, w3])⟩) (fun w3 => ⟨fun _ => ?_, fun z => absurd rfl z⟩)
  refine W (by omega) (fun w4 => ⟨fun z => absurd z (by decide), fun _ => h1 4 (by simp [kd, w0, w1, w2, w3, w4])⟩) (fun w4 => ⟨fun _ => ?_, fun z => absurd rfl z⟩)
  refine W (by omega) (fun w5 => ⟨fun z => absurd z (by decide), fun _ => h1 5 (by simp [kd, w0, w1, w2, w3, w4, w5])⟩) (fun w5 => ⟨fun _ => ?_, fun z => absurd rfl z⟩)
  exact W (by omega) (fun w6 => ⟨fun z => absurd z (by decide), fun _ => h1 6 (by simp [kd, w0, w1, w2, w3, w4, w5, w6])⟩) (fun w6 => ⟨fun _ => h0 (by simp [kd, w0, w1, w2, w3, w4, w5, w6]), fun z => absurd rfl z⟩)
end
section
/-! WORLDS: the value that both sides hold -/
/-- places; traits (9: held); parts; ties; pushes: how many, years, places; z; spots -/
abbrev Wd : Type := Nat × (Nat → Nat → Int) × (Nat → Nat → Int) × Int × Nat × (Nat → Int) × (Nat → Int) × Int × (Nat → Int)
abbrev wN (w : Wd) : Nat := w.1
abbrev wT (w : Wd) : Nat → Nat → Int := w.2.1
abbrev wP (w : Wd) : Nat → Nat → Int := w.2.2.1
abbrev wE (w : Wd) : Int := w.2.2.2.1
abbrev wK (w : Wd) : Nat := w.2.2.2.2.1
abbrev wY (w : Wd) : Nat → Int := w.2.2.2.2.2.1
abbrev wL (w : Wd) : Nat → Int := w.2.2.2.2.2.2.1
abbrev wZ (w : Wd) : Int := w.2.2.2.2.2.2.2.1
abbrev wS (w : Wd) : Nat → Int := w.2.2.2.2.2.2.2.2
/-- the reference's array a holds w -/
def MW (μ : mzM) (a : Nat) (w : Wd) : Prop := μ a 0 = wN w ∧ μ a 1 = wE w ∧ μ a 2 = wK w ∧ μ a 3 = wZ w ∧ (∀ p t, p < wN w → t < 10 → μ a (4 + 10 * p + t) = wT w p t) ∧ (∀ f t, f < wN w → t < wN w → μ a (124 + 12 * f + t) = wP w f t) ∧ (∀ i, i < wK w → μ a (268 + 2 * i) = wY w i ∧ μ a (268 + 2 * i + 1) = wL w i) ∧ (∀ i, i < 10 → μ a (308 + i) = wS w i)
theorem MW.cg {μ μ' : mzM} {a : Nat} {w : Wd} (h : MW μ a w) (e : ∀ j, μ' a j = μ a j) : MW μ' a w := by
  unfold MW at h ⊢
  simp only [e]
  exact h
def row0 (k v : Int) : Nat → Int := fun t => if t = 0 then k else if t = 1 then v else if t = 4 then 1 else if t = 5 then 1 else if t = 7 then -1 else 0
def addW (w : Wd) (r : Nat → Int) : Wd := (wN w + 1, (fun p => if p = wN w then r else wT w p), (fun f t => if f = wN w ∨ t = wN w then 0 else wP w f t), w.2.2.2)
def tieW (w : Wd) (f t : Nat) (v : Int) : Wd := (wN w, wT w, (fun a c => if a = f ∧ c = t then v else wP w a c), wE w + 1, w.2.2.2.2)
/-- which trait a word tells -/
def td (b : Nat → Int) (t : TT) : Option Nat := if isWd b t 9 then some 2 else if isWd b t 10 then some 3 else if isWd b t 11 then some 4 else if isWd b t 12 then some 5 else if isWd b t 13 then some 6 else none
def lo (t : Nat) : Nat := if t = 4 ∨ t = 5 then 1 else 0
def hi (t : Nat) : Nat := if t = 3 then 9 else if t = 6 then 10 else 99
/-- what may stand behind a kind and its number -/
def opS (b : Nat → Int) (len : Nat) : Nat → Nat → (Nat → Int) → Bool × Nat × (Nat → Int)
  | 0, p, r => (false, p, r)
  | f + 1, p, r => match td b (tk b len p) with
    | none => (true, p, r)
    | some tr => if (tk b len (tk b len p).2.2.1).1 = 2 ∧ lo tr ≤ (tk b len (tk b len p).2.2.1).2.2.2 ∧ (tk b len (tk b len p).2.2.1).2.2.2 ≤ hi tr then
        opS b len f (tk b len (tk b len p).2.2.1).2.2.1 (fun t => if t = tr then ((tk b len (tk b len p).2.2.1).2.2.2 : Int) else r t)
      else (false, (tk b len p).2.2.1, r)
def plS (b : Nat → Int) (len : Nat) (w : Wd) (p : Nat) : Bool × Nat × Wd := match kd b (tk b len p) with
  | none => (false, p, w)
  | some k => if wN w = 12 then (false, p, w) else if (tk b len (tk b len p).2.2.1).1 = 2 ∧ 1 ≤ (tk b len (tk b len p).2.2.1).2.2.2 ∧ (tk b len (tk b len p).2.2.1).2.2.2 ≤ 99 then
      ((opS b len 121 (tk b len (tk b len p).2.2.1).2.2.1 (row0 k (tk b len (tk b len p).2.2.1).2.2.2)).1, (opS b len 121 (tk b len (tk b len p).2.2.1).2.2.1 (row0 k (tk b len (tk b len p).2.2.1).2.2.2)).2.1, addW w (opS b len 121 (tk b len (tk b len p).2.2.1).2.2.1 (row0 k (tk b len (tk b len p).2.2.1).2.2.2)).2.2)
    else (false, (tk b len p).2.2.1, w)
-- the reference: text and array
def XpM (μ μ' : mzM) : Prop := ∀ k j, (k ≠ 0 ∨ j < 7 ∨ 11 < j) → k ≠ 1 → μ' k j = μ k j
theorem XpM.rf {μ : mzM} : XpM μ μ := fun _ _ _ _ => rfl
theorem XpM.tr {μ μ' μ'' : mzM} (h : XpM μ μ') (h2 : XpM μ' μ'') : XpM μ μ'' := fun a b h1 hn => (h2 a b h1 hn).trans (h a b h1 hn)
theorem XpM.st {μ μ' : mzM} {j : Nat} {v : Int} (h : XpM μ μ') (hj : 7 ≤ j ∧ j ≤ 11) : XpM μ (mzS μ' 0 j v) := fun a b h1 hn => by
  rw [S_ne (by omega)]
  exact h a b h1 hn
theorem XpM.st1 {μ μ' : mzM} {j : Nat} {v : Int} (h : XpM μ μ') : XpM μ (mzS μ' 1 j v) := fun a b h1 hn => by
  rw [S_ne (by omega)]
  exact h a b h1 hn
theorem XpM.tp {μ μ' : mzM} {b : Nat → Int} {len : Nat} (h : XpM μ μ') (ht : TpM μ b len) : TpM μ' b len := ⟨by rw [h 0 6 (by omega) (by omega)]; exact ht.1, fun i hi => by rw [h 4 i (by omega) (by omega)]; exact ht.2 i hi⟩
theorem XtM.p {μ μ' : mzM} (h : XtM μ μ') : XpM μ μ' := fun k j h1 h2 => h k j (by omega)
theorem XtM.m {μ μ' : mzM} (h : XtM μ μ') (j : Nat) : μ' 1 j = μ 1 j := h 1 j (by omega)
theorem XtM.bad {μ μ' : mzM} (h : XtM μ μ') : μ' 0 11 = μ 0 11 := h 0 11 (by omega)
theorem TkM'.st {μ : mzM} {t : TT} {k j : Nat} {v : Int} (h : TkM' μ t) (hj : k ≠ 0 ∨ 10 < j) : TkM' (mzS μ k j v) t := by
  unfold TkM' at h ⊢
  rw [S_ne (by omega), S_ne (by omega), S_ne (by omega), S_ne (by omega)]
  exact h
theorem c_takes {d : Nat} {q : Int → mzM → Prop} {b : Nat → Int} {len : Nat} {t : TT} {o : Nat} {μ : mzM} (ho : o < 14) (hl : len ≤ 120) (ht : TpM μ b len) (hk : TkM' μ t) (hse : t.2.1 ≤ t.2.2.1) (hel : t.2.2.1 ≤ len) (hb : μ 0 11 = 0)
    (h1 : isWd b t o = true → ∀ μ', XtM μ μ' → TkM' μ' (tk b len t.2.2.1) → q 1 μ') (h0 : isWd b t o = false → q 0 μ) : mzCl (d + 3) 15 [mzR 0, mzP 300 o] μ (mzQi q) :=
  g15_e _ _ (c_isWord ho hl ht hk hse hel hb (fun w => ⟨fun _ => c_next hl hel hk.2.2.1 ht (fun μ' x1 x2 => ⟨or10, h1 w μ' x1 x2⟩), fun z => absurd z (by decide)⟩) (fun w => ⟨fun z => absurd rfl z, fun _ => ⟨or00, h0 w⟩⟩))
theorem c_number {d : Nat} {q : Int → mzM → Prop} {b : Nat → Int} {len : Nat} {t : TT} {l1 h2 : Int} {μ : mzM} (hl : len ≤ 120) (ht : TpM μ b len) (hk : TkM' μ t) (hel : t.2.2.1 ≤ len) (hb : μ 0 11 = 0) (hlo : 0 ≤ l1 ∧ l1 ≤ 9999) (hhi : h2 ≤ 9999)
    (h1 : t.1 = 2 → l1 ≤ (t.2.2.2 : Int) → (t.2.2.2 : Int) ≤ h2 → ∀ μ', XtM (mzS μ 0 11 0) μ' → TkM' μ' (tk b len t.2.2.1) → q t.2.2.2 μ') (h0 : ¬ (t.1 = 2 ∧ l1 ≤ (t.2.2.2 : Int) ∧ (t.2.2.2 : Int) ≤ h2) → ∀ v, q v (mzS μ 0 11 1)) : mzCl (d + 3) 16 [mzR 0, mzI l1, mzI h2] μ (mzQi q) := by
  have no : ¬ (t.1 = 2 ∧ l1 ≤ (t.2.2.2 : Int) ∧ (t.2.2.2 : Int) ≤ h2) → ((1 : Int) ≠ 0 → q (μ 0 10) (mzS μ 0 11 1)) ∧ ((1 : Int) = 0 → mzCl (d + 2) 13 [mzR 0] (mzS μ 0 11 1) (mzQv fun m1 => q (μ 0 10) m1)) := fun c => ⟨fun _ => h0 c _, fun z => absurd z (by decide)⟩
  refine g16_e _ _ _ ⟨fun z => absurd hb z, fun _ => ⟨fun z => ⟨or10, no (fun c => z (by rw [hk.1, c.1]; rfl))⟩, fun z => ?_⟩⟩
  have e2 : t.1 = 2 := by rw [hk.1] at z; omega
  obtain ⟨v1, v2, v3, v4⟩ := hk.2.2.2 e2
  refine c_in (fun z1 z2 => ⟨fun _ => ⟨or00, fun z => absurd rfl z, fun _ => ?_⟩, fun z => absurd z (by decide)⟩) (fun z => ⟨fun z => absurd rfl z, fun _ => ⟨or10, no (fun c => ?_)⟩⟩)
  · have ev := v3 (by omega)
    rw [← ev]
    have x1 : TpM (mzS μ 0 11 0) b len := ⟨by rw [S_ne (by omega)]; exact ht.1, fun i hi => by rw [S_ne (by omega)]; exact ht.2 i hi⟩
    exact c_next hl hel (by rw [S_ne (by omega)]; exact hk.2.2.1) x1 (fun μ' y1 y2 => h1 e2 (by omega) (by omega) μ' y1 y2)
  · by_cases c9 : μ 0 10 ≤ 9999
    · have := v3 c9
      omega
    · have := v4 (by omega)
      omega
end
section
/-! THE REFERENCE'S ITEMS -/
theorem opS_n {b : Nat → Int} {len f p : Nat} {r : Nat → Int} (h : td b (tk b len p) = none) : opS b len (f + 1) p r = (true, p, r) := by
  rw [opS, h]
theorem opS_s {b : Nat → Int} {len f p tr : Nat} {r : Nat → Int} (h : td b (tk b len p) = some tr) (h2 : (tk b len (tk b len p).2.2.1).1 = 2 ∧ lo tr ≤ (tk b len (tk b len p).2.2.1).2.2.2 ∧ (tk b len (tk b len p).2.2.1).2.2.2 ≤ hi tr) : opS b len (f + 1) p r = opS b len f (tk b len (tk b len p).2.2.1).2.2.1 (fun t => if t = tr then ((tk b len (tk b len p).2.2.1).2.2.2 : Int) else r t) := by
  rw [opS, h]
  exact if_pos h2
theorem opS_x {b : Nat → Int} {len f p tr : Nat} {r : Nat → Int} (h : td b (tk b len p) = some tr) (h2 : ¬ ((tk b len (tk b len p).2.2.1).1 = 2 ∧ lo tr ≤ (tk b len (tk b len p).2.2.1).2.2.2 ∧ (tk b len (tk b len p).2.2.1).2.2.2 ≤ hi tr)) : opS b len (f + 1) p r = (false, (tk b len p).2.2.1, r) := by
  rw [opS, h]
  exact if_neg h2
theorem lohi (t : Nat) : lo t ≤ 1 ∧ hi t ≤ 99 := ⟨by unfold lo; split <;> omega, by unfold hi; split; omega; split <;> omega⟩
theorem td_le {b : Nat → Int} {t : TT} {k : Nat} (h : td b t = some k) : 2 ≤ k ∧ k ≤ 6 := by
  unfold td at h
  repeat' split at h
  all_goals first | (injection h with h; omega) | (injection h)
theorem td_1 {b : Nat → Int} {t : TT} {k : Nat} (h : td b t = some k) : t.1 = 1 := by
  unfold td at h
  repeat' split at h
  all_goals first | (exact isWd_1 (by assumption)) | (injection h)
theorem kd_1 {b : Nat → Int} {t : TT} {k : Nat} (h : kd b t = some k) : t.1 = 1 := by
  unfold kd at h
  repeat' split at h
  all_goals first | (exact isWd_1 (by assumption)) | (injection h)
theorem kd_le {b : Nat → Int} {t : TT} {k : Nat} (h : kd b t = some k) : k ≤ 6 := by
  unfold kd at h
  repeat' split at h
  all_goals first | (injection h with h; omega) | (injection h)
/-- the row of a place that is being read -/
def RoM (μ : mzM) (n : Nat) (r : Nat → Int) : Prop := ∀ t, t < 10 → μ 1 (4 + 10 * n + t) = r t
theorem MW.wr {μ : mzM} {w : Wd} {t : Nat} {v : Int} (h : MW μ 1 w) (hn : wN w ≤ 11) (ht : t < 10) : MW (mzS μ 1 (4 + 10 * wN w + t) v) 1 w := by
  obtain ⟨h0, h1, h2, h3, h4, h5, h6, h7⟩ := h
  refine ⟨?_, ?_, ?_, ?_, fun p t' hp ht' => ?_, fun f t' hf ht' => ?_, fun i hi => ⟨?_, ?_⟩, fun i hi => ?_⟩
  · rw [S_ne (by omega)]; exact h0
  · rw [S_ne (by omega)]; exact h1
  · rw [S_ne (by omega)]; exact h2
  · rw [S_ne (by omega)]; exact h3
  · rw [S_ne (by omega)]; exact h4 p t' hp ht'
  · rw [S_ne (by omega)]; exact h5 f t' hf ht'
  · rw [S_ne (by omega)]; exact (h6 i hi).1
  · rw [S_ne (by omega)]; exact (h6 i hi).2
  · rw [S_ne (by omega)]; exact h7 i hi
theorem XtM.cg {μ μ' : mzM} {w : Wd} (x : XtM μ μ') (h : MW μ 1 w) : MW μ' 1 w := h.cg fun j => x 1 j (by omega)
theorem XtM.ro {μ μ' : mzM} {n : Nat} {r : Nat → Int} (x : XtM μ μ') (h : RoM μ n r) : RoM μ' n r := fun t ht => by rw [x 1 _ (by omega)]; exact h t ht
theorem RoM.wr {μ : mzM} {n tr : Nat} {r : Nat → Int} {v : Int} (h : RoM μ n r) : RoM (mzS μ 1 (4 + 10 * n + tr) v) n (fun t => if t = tr then v else r t) := fun t ht => by
  show _ = if t = tr then v else r t
  by_cases c : t = tr
  · rw [if_pos c, c, S_eq]
  · rw [if_neg c, S_ne (by omega)]; exact h t ht
theorem RoM.st0 {μ : mzM} {n j : Nat} {r : Nat → Int} {v : Int} (h : RoM μ n r) : RoM (mzS μ 0 j v) n r := fun t ht => by rw [S_ne (by omega)]; exact h t ht
theorem MW.st0 {μ : mzM} {w : Wd} {j : Nat} {v : Int} (h : MW μ 1 w) : MW (mzS μ 0 j v) 1 w := h.cg fun i => S_ne (by omega)
theorem TpM.st1 {μ : mzM} {b : Nat → Int} {len j : Nat} {v : Int} (h : TpM μ b len) : TpM (mzS μ 1 j v) b len := ⟨by rw [S_ne (by omega)]; exact h.1, fun i hi => by rw [S_ne (by omega)]; exact h.2 i hi⟩
theorem pl_opt {d : Nat} {q : mzM → Prop} {b : Nat → Int} {len : Nat} {w : Wd} (hl : len ≤ 120) (hn : wN w ≤ 11) {x2 : Int} (hx : x2 = ((4 + 10 * wN w : Nat) : Int)) : ∀ (f p : Nat) (r : Nat → Int) (μ : mzM), len - p < f → p ≤ len → TpM μ b len → TkM' μ (tk b len p) → μ 0 11 = 0 → MW μ 1 w → RoM μ (wN w) r →
    ((opS b len f p r).1 = true → ∀ μ', XpM μ μ' → μ' 0 11 = 0 → MW μ' 1 w → RoM μ' (wN w) (opS b len f p r).2.2 → TkM' μ' (tk b len (opS b len f p r).2.1) → mzWp (d + 4) 18 315 [mzR 0, none, none, none, mzI 0] [] μ' (mzQv q)) →
    ((opS b len f p r).1 = false → ∀ μ', XpM μ μ' → μ' 0 11 = 1 → μ' 1 0 = wN w → μ' 0 8 = (tk b len (opS b len f p r).2.1).2.1 → mzWp (d + 4) 18 315 [mzR 0, none, none, none, mzI 0] [] μ' (mzQv q)) →
    mzWp (d + 4) 18 160 [mzR 0, none, mzI x2, mzI 1, none] [] μ (mzQv q) := by
  intro f
  induction f with
  | zero => intro p r μ h; omega
  | succ f ih =>
    intro p r μ hf hp ht hk hb hw hr hok hno
    have bd := tk_bd (b := b) hp
    generalize hp1 : (tk b len p).2.2.1 = p1 at *
    have bd1 := tk_bd (b := b) (len := len) (pos := p1) (by omega)
    have one : ∀ (tr : Nat) (c a z : Int) (μ1 : mzM), td b (tk b len p) = some tr → c = (tr : Int) → a = lo tr → z = hi tr → XtM μ μ1 → TkM' μ1 (tk b len p1) →
        mzCl (d + 3) 16 [mzR 0, mzI a, mzI z] μ1 (mzQi fun v m => ((0 : Int) ≤ mzW (x2 + c) ∧ (mzW (x2 + c) : Int) < 318) ∧ (mzWp (d + 4) 18 160 [mzR 0, none, mzI x2, mzI 1, none] [] (mzS m 1 ((mzW (x2 + c)).toNat) v) (mzQv q))) := by
      intro tr c a z μ1 e hc ha hz x1 k1
      have b1 := td_le e
      have b2 := lohi tr
      have b3 := td_1 e
      have ew : mzW (x2 + c) = ((4 + 10 * wN w + tr : Nat) : Int) := by rw [wid (by omega) (by omega)]; omega
      rw [ew]
      rw [Int.toNat_natCast]
      have hb1 : μ1 0 11 = 0 := by rw [x1 0 11 (by omega)]; exact hb
      refine c_number (b := b) (len := len) (t := tk b len p1) hl (x1.tp ht) k1 bd1.2.2.1 hb1 (by omega) (by omega) (fun y1 y2 y3 μ' y4 y5 => ⟨⟨by omega, by omega⟩, ?_⟩) (fun y v => ⟨⟨by omega, by omega⟩, ?_⟩)
      · have e2 := opS_s (f := f) (r := r) e (by rw [hp1]; exact ⟨y1, by omega, by omega⟩)
        rw [hp1] at e2
        rw [e2] at hok hno
        have x4 : XpM μ (mzS μ' 1 (4 + 10 * wN w + tr) ((tk b len p1).2.2.2 : Int)) := ((x1.p.st (by omega)).tr y4.p).st1
        have p2 := bd.2.2.2.1 (by rw [b3]; decide)
        have p3 := bd1.2.2.2.1 (by rw [y1]; decide)
        refine ih _ _ _ (by omega) bd1.2.2.1 (x4.tp ht) (y5.st (by omega)) ?_ ((y4.cg ((x1.cg hw).st0)).wr hn (by omega)) ((y4.ro (x1.ro hr).st0).wr) (fun g μ2 z1 => hok g μ2 (x4.tr z1)) (fun g μ2 z1 => hno g μ2 (x4.tr z1))
        rw [S_ne (by omega), y4 0 11 (by omega), S_eq]
      · have e2 := opS_x (f := f) (r := r) e (by rw [hp1]; intro c; exact y ⟨c.1, by omega, by omega⟩)
        rw [hp1] at e2
        rw [e2] at hno
        refine g18_160 _ _ _ ⟨fun z => absurd z (by decide), fun _ => ⟨fun _ => ?_, fun z => ?_⟩⟩
        · refine hno rfl _ ((x1.p.st (by omega)).st1) ?_ ?_ ?_
          · rw [S_ne (by omega), S_eq]
          · rw [S_ne (by omega), S_ne (by omega), x1 1 0 (by omega)]; exact hw.1
          · rw [S_ne (by omega), S_ne (by omega)]; exact k1.2.1
        · rw [S_ne (by omega), S_eq] at z
          exact absurd z (by decide)
    have T : ∀ {o : Nat} {q' : Int → mzM → Prop}, o < 14 → (isWd b (tk b len p) o = true → ∀ μ', XtM μ μ' → TkM' μ' (tk b len p1) → q' 1 μ') → (isWd b (tk b len p) o = false → q' 0 μ) → mzCl (d + 3) 15 [mzR 0, mzP 300 o] μ (mzQi q') := fun ho a1 a0 => c_takes ho hl ht hk (by omega) (by omega) hb (fun u => by rw [hp1]; exact a1 u) a0
    refine g18_160 _ _ _ ⟨fun z => absurd z (by decide), fun _ => ⟨fun z => absurd hb z, fun _ => ?_⟩⟩
    refine T (by omega) (fun w0 μ1 x1 k1 => ⟨fun z => absurd z (by decide), fun _ => one 2 _ _ _ μ1 (by simp [td, w0]) rfl rfl rfl x1 k1⟩) (fun w0 => ⟨fun _ => ?_, fun z => absurd rfl z⟩)
    refine T (by omega) (fun w1 μ1 x1 k1 => ⟨fun z => absurd z (by decide), fun _ => one 3 _ _ _ μ1 (by simp [td, w0, w1]) rfl rfl rfl x1 k1⟩) (fun w1 => ⟨fun _ => ?_, fun z => absurd rfl z⟩)
    refine T (by omega) (fun w2 μ1 x1 k1 => ⟨fun z => absurd z (by decide), fun _ => one 4 _ _ _ μ1 (by simp [td, w0, w1, w2]) rfl rfl rfl x1 k1⟩) (fun w2 => ⟨fun _ => ?_, fun z => absurd rfl z⟩)
    refine T (by omega) (fun w3 μ1 x1 k1 => ⟨fun z => absurd z (by decide), fun _ => one 5 _ _ _ μ1 (by simp [td, w0, w1, w2, w3]) rfl rfl rfl x1 k1⟩) (fun w3 => ⟨fun _ => ?_, fun z => absurd rfl z⟩)
    refine T (by omega) (fun w4 μ1 x1 k1 => ⟨fun z => absurd z (by decide), fun _ => one 6 _ _ _ μ1 (by simp [td, w0, w1, w2, w3, w4]) rfl rfl rfl x1 k1⟩) (fun w4 => ⟨fun _ => ?_, fun z => absurd rfl z⟩)
    have e2 := opS_n (len := len) (f := f) (p := p) (r := r) (b := b) (by simp [td, w0, w1, w2, w3, w4])
    rw [e2] at hok
    exact g18_160 _ _ _ ⟨fun _ => hok rfl μ XpM.rf hb hw hr hk, fun z => absurd rfl z⟩
theorem pl_315 {d : Nat} {q : mzM → Prop} {μ0 : mzM} {n : Nat} (hn : n ≤ 11) (hn0 : μ0 1 0 = n) (h : ∀ μ', (∀ k j, k ≠ 1 → μ' k j = μ0 k j) → μ' 1 0 = ((n + 1 : Nat) : Int) → (∀ j, j ≠ 0 → (j < 124 ∨ 268 ≤ j) → μ' 1 j = μ0 1 j) → (∀ f t, f < 12 → t < 12 → μ' 1 (124 + 12 * f + t) = if f = n ∨ t = n then 0 else μ0 1 (124 + 12 * f + t)) → q μ') :
    ∀ (c i : Nat) (x4 : Int) (μ : mzM), i + c = 12 → x4 = i → (∀ k j, k ≠ 1 → μ k j = μ0 k j) → μ 1 0 = n → (∀ j, j ≠ 0 → (j < 124 ∨ 268 ≤ j) → μ 1 j = μ0 1 j) → (∀ f t, f < 12 → t < 12 → μ 1 (124 + 12 * f + t) = if (f = n ∧ t < i) ∨ (t = n ∧ f < i) then 0 else μ0 1 (124 + 12 * f + t)) → mzWp (d + 1) 18 315 [mzR 0, none, none, none, mzI x4] [] μ (mzQv q) := by
  intro c
  induction c with
  | zero =>
    intro i x4 μ hi hx h1 h2 h3 h4
    have : i = 12 := by omega
    subst this
    refine g18_315 _ _ ⟨fun _ => ⟨⟨by omega, by omega⟩, ⟨by omega, by omega⟩, h _ (fun k j hk => ?_) ?_ (fun j hj hj2 => ?_) (fun f t hf ht => ?_)⟩, fun z => by omega⟩
    · rw [S_ne (by omega)]; exact h1 k j hk
    · rw [S_eq, h2, wid (by omega) (by omega)]; omega
    · rw [S_ne (by omega)]; exact h3 j hj hj2
    · rw [S_ne (by omega), h4 f t hf ht]
      by_cases e : f = n ∨ t = n
      · rw [if_pos e, if_pos (by omega)]
      · rw [if_neg e, if_neg (by omega)]
  | succ c ih =>
    intro i x4 μ hi hx h1 h2 h3 h4
    subst hx
    have e1 : mzW ((mzW (124 + (mzW (12 * (μ 1 0))))) + (i : Int)) = ((124 + 12 * n + i : Nat) : Int) := by rw [h2]; unfold mzW; omega
    have e2 : ∀ v : Int, mzW ((mzW (124 + (mzW (12 * (i : Int))))) + ((mzS μ 1 (124 + 12 * n + i) v) 1 0)) = ((124 + 12 * i + n : Nat) : Int) := fun v => by rw [S_ne (by omega), h2]; unfold mzW; omega
    refine g18_315 _ _ ⟨fun z => by omega, fun _ => ?_⟩
    rw [e1, Int.toNat_natCast, e2, Int.toNat_natCast]
    refine ⟨⟨by omega, by omega⟩, ⟨by omega, by omega⟩, ⟨by omega, by omega⟩, ⟨by omega, by omega⟩, ih (i + 1) _ _ (by omega) (by rw [wid (by omega) (by omega)]; omega) (fun k j hk => ?_) ?_ (fun j hj hj2 => ?_) (fun f t hf ht => ?_)⟩
    · rw [S_ne (by omega), S_ne (by omega)]; exact h1 k j hk
    · rw [S_ne (by omega), S_ne (by omega)]; exact h2
    · rw [S_ne (by omega), S_ne (by omega)]; exact h3 j hj hj2
    · by_cases c1 : f = i ∧ t = n
      · rw [c1.1, c1.2, S_eq, if_pos (by omega)]
      · rw [S_ne (by omega)]
        by_cases c2 : f = n ∧ t = i
        · rw [c2.1, c2.2, S_eq, if_pos (by omega)]
        · rw [S_ne (by omega), h4 f t hf ht]
          by_cases e : (f = n ∧ t < i) ∨ (t = n ∧ f < i)
          · rw [if_pos e, if_pos (by omega)]
          · rw [if_neg e, if_neg (by omega)]
theorem w10 {n : Nat} (h : n ≤ 12) : mzW (4 + (mzW (10 * (n : Int)))) = ((4 + 10 * n : Nat) : Int) := by unfold mzW; omega
theorem w10c {n c : Nat} (h : n ≤ 12) (hc : c < 10) : mzW (((4 + 10 * n : Nat) : Int) + (c : Int)) = ((4 + 10 * n + c : Nat) : Int) := by unfold mzW; omega
theorem plS_n {b : Nat → Int} {len p : Nat} {w : Wd} (h : kd b (tk b len p) = none) : plS b len w p = (false, p, w) := by rw [plS, h]
theorem plS_f {b : Nat → Int} {len p k : Nat} {w : Wd} (h : kd b (tk b len p) = some k) (h2 : wN w = 12) : plS b len w p = (false, p, w) := by
  rw [plS, h]
  exact if_pos h2
theorem plS_x {b : Nat → Int} {len p k : Nat} {w : Wd} (h : kd b (tk b len p) = some k) (h2 : wN w ≠ 12) (h3 : ¬ ((tk b len (tk b len p).2.2.1).1 = 2 ∧ 1 ≤ (tk b len (tk b len p).2.2.1).2.2.2 ∧ (tk b len (tk b len p).2.2.1).2.2.2 ≤ 99)) : plS b len w p = (false, (tk b len p).2.2.1, w) := by
  rw [plS, h]
  exact (if_neg h2).trans (if_neg h3)
theorem plS_s {b : Nat → Int} {len p k : Nat} {w : Wd} (h : kd b (tk b len p) = some k) (h2 : wN w ≠ 12) (h3 : (tk b len (tk b len p).2.2.1).1 = 2 ∧ 1 ≤ (tk b len (tk b len p).2.2.1).2.2.2 ∧ (tk b len (tk b len p).2.2.1).2.2.2 ≤ 99) : plS b len w p = ((opS b len 121 (tk b len (tk b len p).2.2.1).2.2.1 (row0 k (tk b len (tk b len p).2.2.1).2.2.2)).1, (opS b len 121 (tk b len (tk b len p).2.2.1).2.2.1 (row0 k (tk b len (tk b len p).2.2.1).2.2.2)).2.1, addW w (opS b len 121 (tk b len (tk b len p).2.2.1).2.2.1 (row0 k (tk b len (tk b len p).2.2.1).2.2.2)).2.2) := by
  rw [plS, h]
  exact (if_neg h2).trans (if_pos h3)
theorem pl_82 {d : Nat} {q : mzM → Prop} {n : Nat} {m : mzM} (hn : n ≤ 12) (h : mzWp (d + 1) 18 160 [mzR 0, none, mzI ((4 + 10 * n : Nat) : Int), mzI 1, none] [] (mzS (mzS (mzS (mzS (mzS (mzS (mzS (mzS m 1 (4 + 10 * n + 2) 0) 1 (4 + 10 * n + 3) 0) 1 (4 + 10 * n + 4) 1) 1 (4 + 10 * n + 5) 1) 1 (4 + 10 * n + 6) 0) 1 (4 + 10 * n + 7) (-1)) 1 (4 + 10 * n + 8) 0) 1 (4 + 10 * n + 9) 0) (mzQv q)) : mzWp (d + 1) 18 82 [mzR 0, none, mzI ((4 + 10 * n : Nat) : Int), none, none] [] m (mzQv q) := by
  have e2 : mzW (((4 + 10 * n : Nat) : Int) + 2) = _ := w10c (c := 2) hn (by omega)
  have e3 : mzW (((4 + 10 * n : Nat) : Int) + 3) = _ := w10c (c := 3) hn (by omega)
  have e4 : mzW (((4 + 10 * n : Nat) : Int) + 4) = _ := w10c (c := 4) hn (by omega)
  have e5 : mzW (((4 + 10 * n : Nat) : Int) + 5) = _ := w10c (c := 5) hn (by omega)
  have e6 : mzW (((4 + 10 * n : Nat) : Int) + 6) = _ := w10c (c := 6) hn (by omega)
  have e7 : mzW (((4 + 10 * n : Nat) : Int) + 7) = _ := w10c (c := 7) hn (by omega)
  have e8 : mzW (((4 + 10 * n : Nat) : Int) + 8) = _ := w10c (c := 8) hn (by omega)
  have e9 : mzW (((4 + 10 * n : Nat) : Int) + 9) = _ := w10c (c := 9) hn (by omega)
  refine g18_82 _ _ ?_
  rw [e2, e3, e4, e5, e6, e7, e8, e9]
  simp only [Int.toNat_natCast]
  exact ⟨by omega, by omega, by omega, by omega, by omega, by omega, by omega, by omega, h⟩
theorem ro_row0 {m : mzM} {n : Nat} {k v : Int} (hk : m 1 (4 + 10 * n) = k) : RoM (mzS (mzS (mzS (mzS (mzS (mzS (mzS (mzS (mzS m 1 (4 + 10 * n + 1) v) 1 (4 + 10 * n + 2) 0) 1 (4 + 10 * n + 3) 0) 1 (4 + 10 * n + 4) 1) 1 (4 + 10 * n + 5) 1) 1 (4 + 10 * n + 6) 0) 1 (4 + 10 * n + 7) (-1)) 1 (4 + 10 * n + 8) 0) 1 (4 + 10 * n + 9) 0) n (row0 k v) := by
  intro t ht
  have c : t = 0 ∨ t = 1 ∨ t = 2 ∨ t = 3 ∨ t = 4 ∨ t = 5 ∨ t = 6 ∨ t = 7 ∨ t = 8 ∨ t = 9 := by omega
  rcases c with rfl | rfl | rfl | rfl | rfl | rfl | rfl | rfl | rfl | rfl <;> simp [mzS, row0, hk]
end
section
/-! THE REFERENCE'S ITEMS, two -/
theorem MW.wr8 {m : mzM} {w : Wd} {v : Int} (h : MW m 1 w) (hn : wN w ≤ 11) : MW (mzS (mzS (mzS (mzS (mzS (mzS (mzS (mzS (mzS m 1 (4 + 10 * wN w + 1) v) 1 (4 + 10 * wN w + 2) 0) 1 (4 + 10 * wN w + 3) 0) 1 (4 + 10 * wN w + 4) 1) 1 (4 + 10 * wN w + 5) 1) 1 (4 + 10 * wN w + 6) 0) 1 (4 + 10 * wN w + 7) (-1)) 1 (4 + 10 * wN w + 8) 0) 1 (4 + 10 * wN w + 9) 0) 1 w := ((((((((h.wr hn (by omega)).wr hn (by omega)).wr hn (by omega)).wr hn (by omega)).wr hn (by omega)).wr hn (by omega)).wr hn (by omega)).wr hn (by omega)).wr hn (by omega)
theorem XpM.wr8 {μ m : mzM} {n : Nat} {v : Int} (h : XpM μ m) : XpM μ (mzS (mzS (mzS (mzS (mzS (mzS (mzS (mzS (mzS m 1 (4 + 10 * n + 1) v) 1 (4 + 10 * n + 2) 0) 1 (4 + 10 * n + 3) 0) 1 (4 + 10 * n + 4) 1) 1 (4 + 10 * n + 5) 1) 1 (4 + 10 * n + 6) 0) 1 (4 + 10 * n + 7) (-1)) 1 (4 + 10 * n + 8) 0) 1 (4 + 10 * n + 9) 0) := h.st1.st1.st1.st1.st1.st1.st1.st1.st1
theorem k0_wr8 {m : mzM} {n j : Nat} {v : Int} : (mzS (mzS (mzS (mzS (mzS (mzS (mzS (mzS (mzS m 1 (4 + 10 * n + 1) v) 1 (4 + 10 * n + 2) 0) 1 (4 + 10 * n + 3) 0) 1 (4 + 10 * n + 4) 1) 1 (4 + 10 * n + 5) 1) 1 (4 + 10 * n + 6) 0) 1 (4 + 10 * n + 7) (-1)) 1 (4 + 10 * n + 8) 0) 1 (4 + 10 * n + 9) 0) 0 j = m 0 j := by simp [mzS]
theorem TkM'.wr8 {m : mzM} {n : Nat} {v : Int} {t : TT} (h : TkM' m t) : TkM' (mzS (mzS (mzS (mzS (mzS (mzS (mzS (mzS (mzS m 1 (4 + 10 * n + 1) v) 1 (4 + 10 * n + 2) 0) 1 (4 + 10 * n + 3) 0) 1 (4 + 10 * n + 4) 1) 1 (4 + 10 * n + 5) 1) 1 (4 + 10 * n + 6) 0) 1 (4 + 10 * n + 7) (-1)) 1 (4 + 10 * n + 8) 0) 1 (4 + 10 * n + 9) 0) t := by
  unfold TkM' at h ⊢
  simp only [k0_wr8]
  exact h
/-- behind the loop over the words, all well -/
theorem pl_end {d : Nat} {q : mzM → Prop} {w : Wd} {r : Nat → Int} {t : TT} {μ : mzM} (hn : wN w ≤ 11) (hK : wK w ≤ 20) (hw : MW μ 1 w) (hr : RoM μ (wN w) r) (hk : TkM' μ t) (h : ∀ μ', (∀ k j, k ≠ 1 → μ' k j = μ k j) → MW μ' 1 (addW w r) → TkM' μ' t → q μ') : mzWp (d + 1) 18 315 [mzR 0, none, none, none, mzI 0] [] μ (mzQv q) := by
  refine pl_315 hn hw.1 (fun μ' h1 h2 h3 h4 => h μ' h1 ?_ ?_) 12 0 0 μ rfl rfl (fun _ _ _ => rfl) hw.1 (fun _ _ _ => rfl) (fun f t hf ht => by rw [if_neg (by omega)])
  · obtain ⟨g0, g1, g2, g3, g4, g5, g6, g7⟩ := hw
    refine ⟨h2, ?_, ?_, ?_, fun p t hp ht => ?_, fun f t hf ht => ?_, fun i hi => ⟨?_, ?_⟩, fun i hi => ?_⟩
    · rw [h3 1 (by omega) (by omega)]; exact g1
    · rw [h3 2 (by omega) (by omega)]; exact g2
    · rw [h3 3 (by omega) (by omega)]; exact g3
    · have hp2 : p < wN w + 1 := hp
      rw [h3 _ (by omega) (by omega)]
      show _ = (if p = wN w then r else wT w p) t
      by_cases e : p = wN w
      · rw [if_pos e, e]; exact hr t ht
      · rw [if_neg e]; exact g4 p t (by omega) ht
    · have hf2 : f < wN w + 1 := hf
      have ht2 : t < wN w + 1 := ht
      rw [h4 f t (by omega) (by omega)]
      show _ = if f = wN w ∨ t = wN w then 0 else wP w f t
      by_cases e : f = wN w ∨ t = wN w
      · rw [if_pos e, if_pos e]
      · rw [if_neg e, if_neg e]; exact g5 f t (by omega) (by omega)
    · have hi2 : i < wK w := hi
      rw [h3 _ (by omega) (by omega)]; exact (g6 i hi2).1
    · have hi2 : i < wK w := hi
      rw [h3 _ (by omega) (by omega)]; exact (g6 i hi2).2
    · rw [h3 _ (by omega) (by omega)]; exact g7 i hi
  · unfold TkM' at hk ⊢
    rw [h1 0 7 (by omega), h1 0 8 (by omega), h1 0 9 (by omega), h1 0 10 (by omega)]
    exact hk
/-- behind the loop over the words, with a fault -/
theorem pl_bad {d : Nat} {q : mzM → Prop} {n : Nat} {μ : mzM} (hn : n ≤ 11) (h0 : μ 1 0 = n) (h : ∀ μ', (∀ k j, k ≠ 1 → μ' k j = μ k j) → q μ') : mzWp (d + 1) 18 315 [mzR 0, none, none, none, mzI 0] [] μ (mzQv q) :=
  pl_315 hn h0 (fun μ' h1 _ _ _ => h μ' h1) 12 0 0 μ rfl rfl (fun _ _ _ => rfl) h0 (fun _ _ _ => rfl) (fun f t hf ht => by rw [if_neg (by omega)])
theorem c_placeItem {d : Nat} {q : mzM → Prop} {b : Nat → Int} {len p : Nat} {w : Wd} {μ : mzM} (hl : len ≤ 120) (hp : p ≤ len) (hK : wK w ≤ 20) (ht : TpM μ b len) (hk : TkM' μ (tk b len p)) (hb : μ 0 11 = 0) (hw : MW μ 1 w) (hn : wN w ≤ 12)
    (hok : (plS b len w p).1 = true → ∀ μ', XpM μ μ' → μ' 0 11 = 0 → MW μ' 1 (plS b len w p).2.2 → TkM' μ' (tk b len (plS b len w p).2.1) → q μ')
    (hno : (plS b len w p).1 = false → ∀ μ', XpM μ μ' → μ' 0 11 = 1 → μ' 0 8 = (tk b len (plS b len w p).2.1).2.1 → q μ') : mzCl (d + 4) 18 [mzR 0] μ (mzQv q) := by
  have bd := tk_bd (b := b) hp
  have no : ∀ {k : Int}, plS b len w p = (false, p, w) → mzWp (d + 4) 18 36 [mzR 0, mzI k, none, none, none] [] (mzS μ 0 11 1) (mzQv q) := fun e => g18_36 _ _ ⟨fun z => absurd (S_eq.symm.trans z) (by decide), fun _ => hno (by rw [e]) _ (XpM.rf.st (by omega)) S_eq (by rw [e, S_ne (by omega)]; exact hk.2.1)⟩
  refine g18_e _ (c_kindHere hl ht hk (by omega) (by omega) hb (fun k hk0 => ⟨fun z => absurd hb z, fun _ => ⟨fun z => by omega, fun _ => ⟨⟨by omega, by omega⟩, fun z => ⟨or00, ?_⟩, fun z => ⟨or10, no (plS_f hk0 (by have := hw.1; omega))⟩⟩⟩⟩) (fun hk0 => ⟨fun z => absurd hb z, fun _ => ⟨fun _ => ⟨or10, no (plS_n hk0)⟩, fun z => absurd z (by decide)⟩⟩))
  have hn2 : wN w ≤ 11 := by have := hw.1; omega
  have hn3 : wN w ≠ 12 := by omega
  refine g18_36 _ _ ⟨fun _ => ?_, fun z => absurd S_eq z⟩
  have x0 : XpM μ (mzS μ 0 11 0) := XpM.rf.st (by omega)
  have bd1 := tk_bd (b := b) (len := len) (pos := (tk b len p).2.2.1) (by omega)
  refine c_next (pos := (tk b len p).2.2.1) hl (by omega) (by rw [S_ne (by omega)]; exact hk.2.2.1) (x0.tp ht) (fun m1 x1 k1 => ?_)
  have hw1 := x1.cg hw.st0
  have ew : mzW (4 + (mzW (10 * (m1 1 0)))) = ((4 + 10 * wN w : Nat) : Int) := by rw [hw1.1]; exact w10 hn
  have ew1 : mzW (((4 + 10 * wN w : Nat) : Int) + 1) = ((4 + 10 * wN w + 1 : Nat) : Int) := w10c (c := 1) hn (by omega)
  rw [ew, ew1, Int.toNat_natCast, Int.toNat_natCast]
  have x2 : XpM μ (mzS m1 1 (4 + 10 * wN w) k) := (x0.tr x1.p).st1
  have hw2 : MW (mzS m1 1 (4 + 10 * wN w) k) 1 w := hw1.wr (t := 0) hn2 (by omega)
  have b2 : mzS m1 1 (4 + 10 * wN w) k 0 11 = 0 := by rw [S_ne (by omega), x1 0 11 (by omega), S_eq]
  refine ⟨⟨by omega, by omega⟩, ⟨by omega, by omega⟩, ?_⟩
  refine c_number (b := b) (len := len) (t := tk b len (tk b len p).2.2.1) hl (x2.tp ht) (k1.st (by omega)) bd1.2.2.1 b2 (by omega) (by omega) (fun y1 y2 y3 m2 y4 y5 => ⟨⟨by omega, by omega⟩, pl_82 hn ?_⟩) (fun y v => ⟨⟨by omega, by omega⟩, pl_82 hn ?_⟩)
  · have e2 := plS_s hk0 hn3 ⟨y1, by omega, by omega⟩
    rw [e2] at hok hno
    have x3 : XpM μ m2 := (x2.st (by omega)).tr y4.p
    have x4 := x3.wr8 (n := wN w) (v := ((tk b len (tk b len p).2.2.1).2.2.2 : Int))
    have ek : m2 1 (4 + 10 * wN w) = k := by rw [y4 1 _ (by omega), S_ne (by omega), S_eq]
    refine pl_opt hl hn2 rfl 121 _ (row0 k (tk b len (tk b len p).2.2.1).2.2.2) _ (by omega) bd1.2.2.1 (x4.tp ht) y5.wr8 ?_ ((y4.cg hw2.st0).wr8 hn2) (ro_row0 ek) (fun g μ2 z1 z2 z3 z4 z5 => ?_) (fun g μ2 z1 z2 z3 z4 => ?_)
    · rw [k0_wr8, y4 0 11 (by omega), S_eq]
    · refine pl_end hn2 hK z3 z4 z5 (fun μ3 a1 a2 a3 => hok g μ3 (fun k j hkj hk1 => (a1 k j hk1).trans ((x4.tr z1) k j hkj hk1)) ?_ a2 a3)
      rw [a1 0 11 (by omega)]; exact z2
    · refine pl_bad hn2 z3 (fun μ3 a1 => hno g μ3 (fun k j hkj hk1 => (a1 k j hk1).trans ((x4.tr z1) k j hkj hk1)) ?_ ?_)
      · rw [a1 0 11 (by omega)]; exact z2
      · rw [a1 0 8 (by omega)]; exact z4
  · have e2 := plS_x hk0 hn3 (fun c => y ⟨c.1, by omega, by omega⟩)
    rw [e2] at hno
    have x3 := ((x2.st (by omega) : XpM μ (mzS (mzS m1 1 (4 + 10 * wN w) k) 0 11 1))).wr8 (n := wN w) (v := v)
    refine g18_160 _ _ _ ⟨fun z => absurd z (by decide), fun _ => ⟨fun _ => ?_, fun z => ?_⟩⟩
    · refine pl_bad hn2 ((hw2.st0.wr8 hn2).1) (fun μ3 a1 => hno rfl μ3 (fun k j hkj hk1 => (a1 k j hk1).trans (x3 k j hkj hk1)) ?_ ?_)
      · rw [a1 0 11 (by omega), k0_wr8, S_eq]
      · rw [a1 0 8 (by omega), k0_wr8, S_ne (by omega), S_ne (by omega)]; exact k1.2.1
    · rw [k0_wr8, S_eq] at z
      exact absurd z (by decide)
end
section
/-! THE REFERENCE'S TIES -/
abbrev nx (b : Nat → Int) (len p : Nat) : Nat := (tk b len p).2.2.1
abbrev tv (b : Nat → Int) (len p : Nat) : Nat := (tk b len p).2.2.2
def tieS (b : Nat → Int) (len : Nat) (w : Wd) (p : Nat) : Bool × Nat × Wd :=
  if wE w ≠ 40 ∧ (tk b len p).1 = 2 ∧ tv b len p < wN w then
    if isWd b (tk b len (nx b len p)) 0 = true then
      if (tk b len (nx b len (nx b len p))).1 = 2 ∧ tv b len (nx b len (nx b len p)) < wN w ∧ tv b len (nx b len (nx b len p)) ≠ tv b len p ∧ wP w (tv b len p) (tv b len (nx b len (nx b len p))) = 0 then
        if isWd b (tk b len (nx b len (nx b len (nx b len p)))) 1 = true then
          if (tk b len (nx b len (nx b len (nx b len (nx b len p))))).1 = 2 ∧ 1 ≤ tv b len (nx b len (nx b len (nx b len (nx b len p)))) ∧ tv b len (nx b len (nx b len (nx b len (nx b len p)))) ≤ 99 then
            (true, nx b len (nx b len (nx b len (nx b len (nx b len p)))), tieW w (tv b len p) (tv b len (nx b len (nx b len p))) (tv b len (nx b len (nx b len (nx b len (nx b len p))))))
          else (false, nx b len (nx b len (nx b len (nx b len p))), w)
        else (false, nx b len (nx b len (nx b len p)), w)
      else (false, nx b len (nx b len p), w)
    else (false, nx b len p, w)
  else (false, p, w)
theorem c_numberB {d : Nat} {q : Int → mzM → Prop} {l1 h2 : Int} {μ : mzM} (hb : μ 0 11 = 1) (h : ∀ v, q v (mzS μ 0 11 1)) : mzCl (d + 3) 16 [mzR 0, mzI l1, mzI h2] μ (mzQi q) := by
  refine g16_e _ _ _ ⟨fun _ => ⟨or10, fun _ => h _, fun z => absurd z (by decide)⟩, fun z => by rw [hb] at z; exact absurd z (by decide)⟩
theorem MW.tie {m : mzM} {w : Wd} {f t : Nat} {v : Int} (h : MW m 1 w) (hN : wN w ≤ 12) (hf : f < 12) (ht : t < 12) : MW (mzS (mzS m 1 (124 + 12 * f + t) v) 1 1 (wE w + 1)) 1 (tieW w f t v) := by
  obtain ⟨g0, g1, g2, g3, g4, g5, g6, g7⟩ := h
  refine ⟨?_, S_eq, ?_, ?_, fun p t' hp ht' => ?_, fun f' t' hf' ht' => ?_, fun i hi => ⟨?_, ?_⟩, fun i hi => ?_⟩
  · rw [S_ne (by omega), S_ne (by omega)]; exact g0
  · rw [S_ne (by omega), S_ne (by omega)]; exact g2
  · rw [S_ne (by omega), S_ne (by omega)]; exact g3
  · have hp2 : p < wN w := hp
    rw [S_ne (by omega), S_ne (by omega)]; exact g4 p t' hp ht'
  · have hf2 : f' < wN w := hf'
    have ht2 : t' < wN w := ht'
    show _ = if f' = f ∧ t' = t then v else wP w f' t'
    rw [S_ne (by omega)]
    by_cases e : f' = f ∧ t' = t
    · rw [if_pos e, e.1, e.2, S_eq]
    · rw [if_neg e, S_ne (by omega)]; exact g5 f' t' hf' ht'
  · rw [S_ne (by omega), S_ne (by omega)]; exact (g6 i hi).1
  · rw [S_ne (by omega), S_ne (by omega)]; exact (g6 i hi).2
  · rw [S_ne (by omega), S_ne (by omega)]; exact g7 i hi
theorem w12c {f t : Nat} (hf : f < 12) (ht : t < 12) : mzW ((mzW (124 + (mzW (12 * (f : Int))))) + (t : Int)) = ((124 + 12 * f + t : Nat) : Int) := by unfold mzW; omega
theorem c_tieItem {d : Nat} {q : mzM → Prop} {b : Nat → Int} {len p : Nat} {w : Wd} {μ : mzM} (hl : len ≤ 120) (hp : p ≤ len) (hE : 0 ≤ wE w ∧ wE w ≤ 40) (ht : TpM μ b len) (hk : TkM' μ (tk b len p)) (hb : μ 0 11 = 0) (hw : MW μ 1 w) (hn : wN w ≤ 12)
    (hok : (tieS b len w p).1 = true → ∀ μ', XpM μ μ' → μ' 0 11 = 0 → MW μ' 1 (tieS b len w p).2.2 → TkM' μ' (tk b len (tieS b len w p).2.1) → q μ')
    (hno : (tieS b len w p).1 = false → ∀ μ', XpM μ μ' → μ' 0 11 = 1 → μ' 0 8 = (tk b len (tieS b len w p).2.1).2.1 → q μ') : mzCl (d + 4) 19 [mzR 0] μ (mzQv q) := by
  have e1 : ∀ n : Nat, n ≤ 12 → mzW ((n : Int) - 1) = (n : Int) - 1 := fun n h => wid (by omega) (by omega)
  -- out of it with a fault, from 66 and from 173
  have no : ∀ {m : mzM} {P : Nat} {v : Int}, tieS b len w p = (false, P, w) → XpM μ m → m 0 8 = (tk b len P).2.1 → mzWp (d + 4) 19 66 [mzR 0, mzI v, none, none] [] (mzS m 0 11 1) (mzQv q) := fun e x z => g19_66 _ _ ⟨fun y => absurd (S_eq.symm.trans y) (by decide), fun _ => hno (by rw [e]) _ (x.st (by omega)) S_eq (by rw [e, S_ne (by omega)]; exact z)⟩
  have no2 : ∀ {m : mzM} {P : Nat} {u v : Int}, tieS b len w p = (false, P, w) → XpM μ m → m 0 8 = (tk b len P).2.1 → mzWp (d + 4) 19 173 [mzR 0, mzI u, mzI v, none] [] (mzS m 0 11 1) (mzQv q) := fun e x z => g19_173 _ _ _ ⟨fun y => absurd (S_eq.symm.trans y) (by decide), fun _ => hno (by rw [e]) _ (x.st (by omega)) S_eq (by rw [e, S_ne (by omega)]; exact z)⟩
  have no3 : ∀ {m : mzM} {P : Nat} {u : Int}, tieS b len w p = (false, P, w) → XpM μ m → m 0 8 = (tk b len P).2.1 → mzWp (d + 4) 19 134 [mzR 0, mzI u, none, none] [] (mzS m 0 11 1) (mzQv q) := fun e x z => g19_134 _ _ ⟨⟨by omega, by omega⟩, c_numberB S_eq (fun v => ⟨fun _ => ⟨or10, no2 e ((x.st (by omega)).st (by omega)) (by rw [S_ne (by omega), S_ne (by omega)]; exact z)⟩, fun y => absurd (S_eq.symm.trans y) (by decide)⟩)⟩
  have bd := tk_bd (b := b) hp
  have bd1 := tk_bd (b := b) (len := len) (pos := nx b len p) bd.2.2.1
  have bd2 := tk_bd (b := b) (len := len) (pos := nx b len (nx b len p)) bd1.2.2.1
  have bd3 := tk_bd (b := b) (len := len) (pos := nx b len (nx b len (nx b len p))) bd2.2.2.1
  have bd4 := tk_bd (b := b) (len := len) (pos := nx b len (nx b len (nx b len (nx b len p)))) bd3.2.2.1
  refine g19_e _ ⟨fun z => absurd hb z, fun _ => ⟨⟨by omega, by omega⟩, fun z => ⟨or00, ?_⟩, fun z => ⟨or10, ?_⟩⟩⟩
  · have hE2 : wE w ≠ 40 := by have := hw.2.1; omega
    have x0 : XpM μ (mzS μ 0 11 0) := XpM.rf.st (by omega)
    refine g19_27 _ ⟨⟨by omega, by omega⟩, ?_⟩
    rw [S_ne (by omega), hw.1, e1 _ hn]
    refine c_number (b := b) (len := len) (t := tk b len p) hl (x0.tp ht) (hk.st (by omega)) bd.2.2.1 S_eq (by omega) (by omega) (fun y1 y2 y3 m1 y4 y5 => ⟨fun z => ?_, fun _ => ?_⟩) (fun y v => ⟨fun _ => ⟨or10, no (P := p) ?_ ((x0.st (by omega))) ?_⟩, fun y => absurd (S_eq.symm.trans y) (by decide)⟩)
    · rw [y4 0 11 (by omega), S_eq] at z; exact absurd rfl z
    · have x1 : XpM μ m1 := (x0.st (by omega)).tr y4.p
      have w1 : MW m1 1 w := y4.cg hw.st0.st0
      have b1 : m1 0 11 = 0 := by rw [y4 0 11 (by omega), S_eq]
      have c0 : wE w ≠ 40 ∧ (tk b len p).1 = 2 ∧ tv b len p < wN w := ⟨hE2, y1, by show (tk b len p).2.2.2 < _; omega⟩
      refine c_isWord (d := d + 2) (b := b) (len := len) (by omega) hl (x1.tp ht) y5 bd1.2.1 bd1.2.2.1 b1 (fun u => ⟨fun _ => ⟨or00, ?_⟩, fun z => absurd z (by decide)⟩) (fun u => ⟨fun z => absurd rfl z, fun _ => ⟨or10, no (P := nx b len p) (by rw [tieS, if_pos c0, if_neg (by rw [u]; decide)]) x1 y5.2.1⟩⟩)
      refine g19_66 _ _ ⟨fun _ => ?_, fun z => absurd S_eq z⟩
      have x2 : XpM μ (mzS m1 0 11 0) := x1.st (by omega)
      refine c_next (pos := nx b len (nx b len p)) hl bd1.2.2.1 (by rw [S_ne (by omega)]; exact y5.2.2.1) (x2.tp ht) (fun m2 z1 z2 => ?_)
      have x3 : XpM μ m2 := x2.tr z1.p
      have w3 : MW m2 1 w := z1.cg w1.st0
      have F : ∀ {m : mzM}, ¬ ((tk b len (nx b len (nx b len p))).1 = 2 ∧ tv b len (nx b len (nx b len p)) < wN w ∧ tv b len (nx b len (nx b len p)) ≠ tv b len p ∧ wP w (tv b len p) (tv b len (nx b len (nx b len p))) = 0) → tieS b len w p = (false, nx b len (nx b len p), w) := fun c => by rw [tieS, if_pos c0, if_pos u, if_neg c]
      have fl : ¬ ((tk b len (nx b len (nx b len p))).1 = 2 ∧ tv b len (nx b len (nx b len p)) < wN w ∧ tv b len (nx b len (nx b len p)) ≠ tv b len p ∧ wP w (tv b len p) (tv b len (nx b len (nx b len p))) = 0) → mzWp (d + 4) 19 134 [mzR 0, mzI ((tk b len p).2.2.2 : Int), none, none] [] (mzS m2 0 11 1) (mzQv q) := fun c => no3 (F (m := m2) c) x3 z2.2.1
      refine ⟨fun c => ⟨or10, fl (fun c' => c (by rw [z2.1, c'.1]; rfl))⟩, fun c => ?_⟩
      have c2 : (tk b len (nx b len (nx b len p))).1 = 2 := by have := z2.1; omega
      obtain ⟨v1, v2, v3, v4⟩ := z2.2.2.2 c2
      have v5 : m2 0 10 < (wN w : Int) → (tv b len (nx b len (nx b len p)) : Int) = m2 0 10 := fun h => v3 (by omega)
      have v6 : ¬ m2 0 10 < (wN w : Int) → ¬ tv b len (nx b len (nx b len p)) < wN w := fun h => by
        by_cases c9 : m2 0 10 ≤ 9999
        · have := v3 c9
          show ¬ (tk b len (nx b len (nx b len p))).2.2.2 < _
          omega
        · have := v4 (by omega)
          show ¬ (tk b len (nx b len (nx b len p))).2.2.2 < _
          omega
      refine c_isPlace (d := d + 2) w3.1 hn (fun a1 a2 => ⟨fun z => absurd z (by decide), fun _ => ⟨fun c3 => ⟨or10, fl (fun c' => c'.2.2.1 ?_)⟩, fun c3 => ?_⟩⟩) (fun a => ⟨fun _ => ⟨or10, fl (fun c' => v6 (by omega) c'.2.1)⟩, fun z => absurd rfl z⟩)
      · have := v5 a2
        show (tk b len _).2.2.2 = (tk b len p).2.2.2
        have e : (tv b len (nx b len (nx b len p)) : Int) = ((tk b len p).2.2.2 : Int) := this.trans c3
        exact Int.ofNat.inj e
      · have e5 := v5 a2
        have hf : (tk b len p).2.2.2 < 12 := Nat.lt_of_lt_of_le c0.2.2 hn
        have htn : tv b len (nx b len (nx b len p)) < wN w := by omega
        have ht12 : tv b len (nx b len (nx b len p)) < 12 := by omega
        rw [← e5, w12c hf ht12, Int.toNat_natCast]
        have ep : m2 1 (124 + 12 * (tk b len p).2.2.2 + tv b len (nx b len (nx b len p))) = wP w (tv b len p) (tv b len (nx b len (nx b len p))) := w3.2.2.2.2.2.1 _ _ c0.2.2 htn
        refine ⟨⟨by omega, by omega⟩, fun c4 => ⟨or00, ?_⟩, fun c4 => ⟨or10, fl (fun c' => c4 (ep.trans c'.2.2.2))⟩⟩
        have c5 : (tk b len (nx b len (nx b len p))).1 = 2 ∧ tv b len (nx b len (nx b len p)) < wN w ∧ tv b len (nx b len (nx b len p)) ≠ tv b len p ∧ wP w (tv b len p) (tv b len (nx b len (nx b len p))) = 0 := ⟨c2, htn, fun z => c3 (by rw [← e5, z]), ep.symm.trans c4⟩
        have x4 : XpM μ (mzS m2 0 11 0) := x3.st (by omega)
        refine g19_134 _ _ ⟨⟨by omega, by omega⟩, ?_⟩
        rw [S_ne (by omega), w3.1, e1 _ hn]
        refine c_number (b := b) (len := len) (t := tk b len (nx b len (nx b len p))) hl (x4.tp ht) (z2.st (by omega)) bd2.2.2.1 S_eq (by omega) (by omega) (fun a3 a4 a5 m3 a6 a7 => ⟨fun z => ?_, fun _ => ?_⟩) (fun y => absurd ⟨c2, by omega, by show ((tv b len (nx b len (nx b len p)) : Nat) : Int) ≤ _; omega⟩ y)
        · rw [a6 0 11 (by omega), S_eq] at z; exact absurd rfl z
        · have x5 : XpM μ m3 := (x4.st (by omega)).tr a6.p
          have w5 : MW m3 1 w := a6.cg w3.st0.st0
          have b5 : m3 0 11 = 0 := by rw [a6 0 11 (by omega), S_eq]
          refine c_isWord (d := d + 2) (b := b) (len := len) (by omega) hl (x5.tp ht) a7 bd3.2.1 bd3.2.2.1 b5 (fun u2 => ⟨fun _ => ⟨or00, ?_⟩, fun z => absurd z (by decide)⟩) (fun u2 => ⟨fun z => absurd rfl z, fun _ => ⟨or10, no2 (P := nx b len (nx b len (nx b len p))) (by rw [tieS, if_pos c0, if_pos u, if_pos c5, if_neg (by rw [u2]; decide)]) x5 a7.2.1⟩⟩)
          refine g19_173 _ _ _ ⟨fun _ => ?_, fun z => absurd S_eq z⟩
          have x6 : XpM μ (mzS m3 0 11 0) := x5.st (by omega)
          refine c_next (pos := nx b len (nx b len (nx b len (nx b len p)))) hl bd3.2.2.1 (by rw [S_ne (by omega)]; exact a7.2.2.1) (x6.tp ht) (fun m4 s1 s2 => ?_)
          have x7 : XpM μ m4 := x6.tr s1.p
          have w7 : MW m4 1 w := s1.cg w5.st0
          have b7 : m4 0 11 = 0 := by rw [s1 0 11 (by omega), S_eq]
          refine c_number (b := b) (len := len) (t := tk b len (nx b len (nx b len (nx b len (nx b len p))))) hl (x7.tp ht) s2 bd4.2.2.1 b7 (by omega) (by omega) (fun a8 a9 a10 m5 a11 a12 => ⟨fun _ => ?_, fun z => ?_⟩) (fun y v => ⟨fun y => absurd (S_eq.symm.trans y) (by decide), fun _ => ?_⟩)
          · have w9 : MW m5 1 w := a11.cg w7.st0
            have e9 : tieS b len w p = (true, nx b len (nx b len (nx b len (nx b len (nx b len p)))), tieW w (tv b len p) (tv b len (nx b len (nx b len p))) (tv b len (nx b len (nx b len (nx b len (nx b len p)))))) := by rw [tieS, if_pos c0, if_pos u, if_pos c5, if_pos u2, if_pos ⟨a8, by show 1 ≤ (tk b len _).2.2.2; omega, by show (tk b len _).2.2.2 ≤ 99; omega⟩]
            rw [w12c hf ht12, Int.toNat_natCast]
            refine ⟨⟨by omega, by omega⟩, ⟨by omega, by omega⟩, ⟨by omega, by omega⟩, ?_⟩
            rw [e9] at hok
            rw [S_ne (k := 1) (a := 1) (b := 1) (by omega), w9.2.1, wid (by omega) (by omega)]
            refine hok rfl _ ((((x7.st (by omega)).tr a11.p).st1).st1) ?_ (w9.tie hn hf ht12) ((a12.st (by omega)).st (by omega))
            rw [S_ne (by omega), S_ne (by omega), a11 0 11 (by omega), S_eq]
          · rw [a11 0 11 (by omega), S_eq] at z; exact absurd rfl z
          · have e9 : tieS b len w p = (false, nx b len (nx b len (nx b len (nx b len p))), w) := by rw [tieS, if_pos c0, if_pos u, if_pos c5, if_pos u2, if_neg (fun c => y ⟨c.1, Int.ofNat_le.mpr c.2.1, Int.ofNat_le.mpr c.2.2⟩)]
            exact hno (by rw [e9]) _ (x7.st (by omega)) S_eq (by rw [e9, S_ne (by omega)]; exact s2.2.1)
    · rw [tieS, if_neg (fun c => y ⟨c.2.1, by omega, Int.le_sub_one_of_lt (Int.ofNat_lt.mpr c.2.2)⟩)]
    · rw [S_ne (by omega)]; exact hk.2.1
  · refine g19_27 _ ⟨⟨by omega, by omega⟩, c_numberB S_eq (fun v => ⟨fun _ => ⟨or10, no (P := p) ?_ ((XpM.rf.st (by omega)).st (by omega)) (by rw [S_ne (by omega), S_ne (by omega)]; exact hk.2.1)⟩, fun y => absurd (S_eq.symm.trans y) (by decide)⟩)⟩
    rw [tieS, if_neg (fun c => c.1 (hw.2.1.symm.trans z))]
end
section
/-! WHAT A WORLD KEEPS, and a text's items -/
def tlo (t : Nat) : Int := if t = 1 ∨ t = 4 ∨ t = 5 then 1 else if t = 7 then -1 else 0
def thi (n t : Nat) : Int := if t = 0 then 6 else if t = 3 then 9 else if t = 6 then 10 else if t = 7 then (n : Int) - 1 else if t = 8 then 9 else if t = 9 then 1 else 99
/-- how many of the first k are not 0 -/
def nz (g : Nat → Int) : Nat → Nat
  | 0 => 0
  | k + 1 => nz g k + if g k = 0 then 0 else 1
theorem nz_cg {g g' : Nat → Int} {k : Nat} (h : ∀ i, i < k → g i = g' i) : nz g k = nz g' k := by
  induction k with
  | zero => rfl
  | succ k ih => unfold nz; rw [ih (fun i hi => h i (by omega)), h k (by omega)]
theorem nz_set {g g' : Nat → Int} {k j : Nat} (hj : j < k) (h : ∀ i, i < k → i ≠ j → g' i = g i) : nz g' k + (if g j = 0 then 0 else 1) = nz g k + if g' j = 0 then 0 else 1 := by
  induction k with
  | zero => omega
  | succ k ih =>
    unfold nz
    by_cases e : j = k
    · subst e
      rw [nz_cg (fun i hi => h i (by omega) (by omega))]
      omega
    · have := ih (by omega) (fun i hi => h i (by omega))
      rw [h k (by omega) (by omega)]
      omega
def cP (P : Nat → Nat → Int) : Nat := nz (fun i => P (i / 12) (i % 12)) 144
def RwOk (n : Nat) (r : Nat → Int) : Prop := ∀ t, t < 10 → tlo t ≤ r t ∧ r t ≤ thi n t
def WOk (w : Wd) : Prop := wN w ≤ 12 ∧ wE w = cP (wP w) ∧ wE w ≤ 40 ∧ wK w ≤ 20 ∧ (∀ p, p < wN w → RwOk (wN w) (wT w p)) ∧ (∀ f t, 0 ≤ wP w f t ∧ wP w f t ≤ 99) ∧ (∀ f t, wN w ≤ f ∨ wN w ≤ t → wP w f t = 0) ∧ (∀ i, i < wK w → 0 ≤ wY w i ∧ wY w i ≤ 49 ∧ 0 ≤ wL w i ∧ wL w i < wN w) ∧ (∀ i, i < 10 → -1 ≤ wS w i ∧ wS w i < wN w) ∧ (-2147483648 ≤ wZ w ∧ wZ w < 2147483648)
theorem thi_mono {n t : Nat} : thi n t ≤ thi (n + 1) t := by unfold thi; repeat' split <;> omega
theorem row0_ok {n k v : Nat} (hk : k ≤ 6) (h1 : 1 ≤ v) (h2 : v ≤ 99) : RwOk n (row0 k v) := by
  intro t ht
  have c : t = 0 ∨ t = 1 ∨ t = 2 ∨ t = 3 ∨ t = 4 ∨ t = 5 ∨ t = 6 ∨ t = 7 ∨ t = 8 ∨ t = 9 := by omega
  rcases c with rfl | rfl | rfl | rfl | rfl | rfl | rfl | rfl | rfl | rfl <;> simp [row0, tlo, thi] <;> omega
theorem lo_tlo {n t : Nat} (h : 2 ≤ t ∧ t ≤ 6) : tlo t = lo t ∧ thi n t = hi t := by
  have c : t = 2 ∨ t = 3 ∨ t = 4 ∨ t = 5 ∨ t = 6 := by omega
  rcases c with rfl | rfl | rfl | rfl | rfl <;> simp [lo, hi, tlo, thi]
theorem opS_ok {b : Nat → Int} {len n : Nat} : ∀ (f p : Nat) (r : Nat → Int), p ≤ len → RwOk n r → (opS b len f p r).2.1 ≤ len ∧ p ≤ (opS b len f p r).2.1 ∧ RwOk n (opS b len f p r).2.2 := by
  intro f
  induction f with
  | zero => intro p r hp hr; exact ⟨hp, Nat.le_refl _, hr⟩
  | succ f ih =>
    intro p r hp hr
    have b0 := tk_bd (b := b) hp
    have b1 := tk_bd (b := b) b0.2.2.1
    cases e : td b (tk b len p) with
    | none => rw [opS_n e]; exact ⟨hp, Nat.le_refl _, hr⟩
    | some tr =>
      by_cases c : (tk b len (tk b len p).2.2.1).1 = 2 ∧ lo tr ≤ (tk b len (tk b len p).2.2.1).2.2.2 ∧ (tk b len (tk b len p).2.2.1).2.2.2 ≤ hi tr
      · rw [opS_s e c]
        have := ih (tk b len (tk b len p).2.2.1).2.2.1 (fun t => if t = tr then ((tk b len (tk b len p).2.2.1).2.2.2 : Int) else r t) b1.2.2.1 (fun t ht => by
          show tlo t ≤ (if t = tr then _ else r t) ∧ (if t = tr then _ else r t) ≤ thi n t
          have e2 := lo_tlo (n := n) (td_le e)
          by_cases e3 : t = tr
          · rw [if_pos e3, e3]; omega
          · rw [if_neg e3]; exact hr t ht)
        exact ⟨this.1, by omega, this.2.2⟩
      · rw [opS_x e c]; exact ⟨b0.2.2.1, by show p ≤ (tk b len p).2.2.1; omega, hr⟩
theorem plS_bd {b : Nat → Int} {len p : Nat} {w : Wd} (hp : p ≤ len) : (plS b len w p).2.1 ≤ len ∧ p ≤ (plS b len w p).2.1 := by
  have b0 := tk_bd (b := b) hp
  have b1 := tk_bd (b := b) b0.2.2.1
  cases e : kd b (tk b len p) with
  | none => rw [plS_n e]; exact ⟨hp, Nat.le_refl _⟩
  | some k =>
    by_cases c : wN w = 12
    · rw [plS_f e c]; exact ⟨hp, Nat.le_refl _⟩
    · by_cases c2 : (tk b len (tk b len p).2.2.1).1 = 2 ∧ 1 ≤ (tk b len (tk b len p).2.2.1).2.2.2 ∧ (tk b len (tk b len p).2.2.1).2.2.2 ≤ 99
      · rw [plS_s e c c2]
        have := opS_ok (b := b) (len := len) (n := 0) 121 _ (row0 k (tk b len (tk b len p).2.2.1).2.2.2) b1.2.2.1 (row0_ok (kd_le e) c2.2.1 c2.2.2)
        exact ⟨this.1, by have := this.2.1; show p ≤ (opS _ _ _ _ _).2.1; omega⟩
      · rw [plS_x e c c2]; exact ⟨b0.2.2.1, by show p ≤ (tk b len p).2.2.1; omega⟩
theorem cP_cg {P P' : Nat → Nat → Int} (h : ∀ f t, P f t = P' f t) : cP P = cP P' := nz_cg fun i _ => h _ _
theorem addW_ok {w : Wd} {r : Nat → Int} (h : WOk w) (hn : wN w ≤ 11) (hr : RwOk (wN w + 1) r) : WOk (addW w r) := by
  obtain ⟨h0, h1, h2, h3, h4, h5, h6, h7, h8, h9⟩ := h
  have e : ∀ f t, wP (addW w r) f t = wP w f t := fun f t => by
    show (if f = wN w ∨ t = wN w then 0 else wP w f t) = _
    by_cases c : f = wN w ∨ t = wN w
    · rw [if_pos c, h6 f t (by omega)]
    · rw [if_neg c]
  refine ⟨?_, ?_, h2, h3, fun p hp => ?_, fun f t => by rw [e]; exact h5 f t, fun f t hft => ?_, fun i hi => ?_, fun i hi => ?_, h9⟩
  · show wN w + 1 ≤ 12
    omega
  · rw [cP_cg e]; exact h1
  · have hp2 : p < wN w + 1 := hp
    show RwOk (wN w + 1) (if p = wN w then r else wT w p)
    by_cases c : p = wN w
    · rw [if_pos c]; exact hr
    · rw [if_neg c]
      intro t ht
      have := h4 p (by omega) t ht
      have := thi_mono (n := wN w) (t := t)
      exact ⟨by omega, by omega⟩
  · have : wN w + 1 ≤ f ∨ wN w + 1 ≤ t := hft
    rw [e, h6 f t (by omega)]
  · have := h7 i hi
    show 0 ≤ wY w i ∧ wY w i ≤ 49 ∧ 0 ≤ wL w i ∧ wL w i < ((wN w + 1 : Nat) : Int)
    omega
  · have := h8 i hi
    show -1 ≤ wS w i ∧ wS w i < ((wN w + 1 : Nat) : Int)
    omega
theorem plS_ok {b : Nat → Int} {len p : Nat} {w : Wd} (hp : p ≤ len) (h : WOk w) (ho : (plS b len w p).1 = true) : WOk (plS b len w p).2.2 := by
  have b0 := tk_bd (b := b) hp
  have b1 := tk_bd (b := b) b0.2.2.1
  cases e : kd b (tk b len p) with
  | none => rw [plS_n e] at ho; exact absurd ho Bool.false_ne_true
  | some k =>
    by_cases c : wN w = 12
    · rw [plS_f e c] at ho; exact absurd ho Bool.false_ne_true
    · by_cases c2 : (tk b len (tk b len p).2.2.1).1 = 2 ∧ 1 ≤ (tk b len (tk b len p).2.2.1).2.2.2 ∧ (tk b len (tk b len p).2.2.1).2.2.2 ≤ 99
      · rw [plS_s e c c2]
        exact addW_ok h (by have := h.1; omega) (opS_ok (b := b) (len := len) 121 _ (row0 k (tk b len (tk b len p).2.2.1).2.2.2) b1.2.2.1 (row0_ok (kd_le e) c2.2.1 c2.2.2)).2.2
      · rw [plS_x e c c2] at ho; exact absurd ho Bool.false_ne_true
theorem cP_set {P P' : Nat → Nat → Int} {f t : Nat} (hf : f < 12) (ht : t < 12) (h : ∀ a c, ¬ (a = f ∧ c = t) → P' a c = P a c) : cP P' + (if P f t = 0 then 0 else 1) = cP P + if P' f t = 0 then 0 else 1 := by
  have := nz_set (g := fun i => P (i / 12) (i % 12)) (g' := fun i => P' (i / 12) (i % 12)) (k := 144) (j := 12 * f + t) (by omega) (fun i hi hne => h _ _ (by omega))
  have e1 : (12 * f + t) / 12 = f := by omega
  have e2 : (12 * f + t) % 12 = t := by omega
  simp only [e1, e2] at this
  exact this
theorem tieW_ok {w : Wd} {f t : Nat} {v : Int} (h : WOk w) (hf : f < wN w) (ht : t < wN w) (hE : wE w < 40) (h0 : wP w f t = 0) (hv : 1 ≤ v ∧ v ≤ 99) : WOk (tieW w f t v) := by
  obtain ⟨g0, g1, g2, g3, g4, g5, g6, g7, g8, g9⟩ := h
  refine ⟨g0, ?_, ?_, g3, g4, fun a c => ?_, fun a c hac => ?_, g7, g8, g9⟩
  · have := cP_set (P := wP w) (P' := wP (tieW w f t v)) (f := f) (t := t) (by omega) (by omega) (fun a c hac => if_neg hac)
    rw [if_pos h0, if_neg (by show (if f = f ∧ t = t then v else wP w f t) ≠ 0; rw [if_pos ⟨rfl, rfl⟩]; omega)] at this
    show wE w + 1 = _
    omega
  · show wE w + 1 ≤ 40
    omega
  · show 0 ≤ (if a = f ∧ c = t then v else wP w a c) ∧ (if a = f ∧ c = t then v else wP w a c) ≤ 99
    by_cases e : a = f ∧ c = t
    · rw [if_pos e]; omega
    · rw [if_neg e]; exact g5 a c
  · have hac2 : wN w ≤ a ∨ wN w ≤ c := hac
    show (if a = f ∧ c = t then v else wP w a c) = 0
    rw [if_neg (by omega)]
    exact g6 a c hac2
/-- the ways through a tie -/
theorem tieS_c {b : Nat → Int} {len p : Nat} {w : Wd} (hp : p ≤ len) : ((tieS b len w p).2.1 ≤ len ∧ p ≤ (tieS b len w p).2.1) ∧ ((tieS b len w p).1 = true → ∃ f t v : Nat, f < wN w ∧ t < wN w ∧ wE w ≠ 40 ∧ wP w f t = 0 ∧ 1 ≤ v ∧ v ≤ 99 ∧ (tieS b len w p).2.2 = tieW w f t v) := by
  have bd := tk_bd (b := b) hp
  have bd1 := tk_bd (b := b) (len := len) (pos := nx b len p) bd.2.2.1
  have bd2 := tk_bd (b := b) (len := len) (pos := nx b len (nx b len p)) bd1.2.2.1
  have bd3 := tk_bd (b := b) (len := len) (pos := nx b len (nx b len (nx b len p))) bd2.2.2.1
  have bd4 := tk_bd (b := b) (len := len) (pos := nx b len (nx b len (nx b len (nx b len p)))) bd3.2.2.1
  unfold tieS
  split
  · rename_i c0
    split
    · split
      · rename_i c2
        split
        · split
          · rename_i c4
            refine ⟨⟨bd4.2.2.1, ?_⟩, fun _ => ⟨_, _, _, c0.2.2, c2.2.1, c0.1, c2.2.2.2, c4.2.1, c4.2.2, rfl⟩⟩
            show p ≤ nx b len (nx b len (nx b len (nx b len (nx b len p))))
            unfold nx at *
            omega
          · refine ⟨⟨bd3.2.2.1, ?_⟩, fun z => absurd z Bool.false_ne_true⟩
            show p ≤ nx b len (nx b len (nx b len (nx b len p)))
            unfold nx at *
            omega
        · refine ⟨⟨bd2.2.2.1, ?_⟩, fun z => absurd z Bool.false_ne_true⟩
          show p ≤ nx b len (nx b len (nx b len p))
          unfold nx at *
          omega
      · refine ⟨⟨bd1.2.2.1, ?_⟩, fun z => absurd z Bool.false_ne_true⟩
        show p ≤ nx b len (nx b len p)
        unfold nx at *
        omega
    · refine ⟨⟨bd.2.2.1, ?_⟩, fun z => absurd z Bool.false_ne_true⟩
      show p ≤ nx b len p
      unfold nx at *
      omega
  · exact ⟨⟨hp, Nat.le_refl _⟩, fun z => absurd z Bool.false_ne_true⟩
def itS (b : Nat → Int) (len : Nat) (w : Wd) (p : Nat) : Bool × Nat × Wd := if (tk b len p).1 = 2 then tieS b len w p else plS b len w p
theorem itS_ok {b : Nat → Int} {len p : Nat} {w : Wd} (hp : p ≤ len) (h : WOk w) : ((itS b len w p).2.1 ≤ len ∧ p ≤ (itS b len w p).2.1) ∧ ((itS b len w p).1 = true → WOk (itS b len w p).2.2) := by
  unfold itS
  split
  · have := tieS_c (b := b) (w := w) hp
    refine ⟨this.1, fun z => ?_⟩
    obtain ⟨f, t, v, a1, a2, a3, a4, a5, a6, a7⟩ := this.2 z
    rw [a7]
    exact tieW_ok h a1 a2 (by have := h.2.2.1; omega) a4 (by omega)
  · exact ⟨plS_bd hp, plS_ok hp h⟩
/-- the items of a text: where its fault is, what it makes -/
def itsS (b : Nat → Int) (len : Nat) : Nat → Nat → Wd → Option Nat × Wd
  | 0, _, w => (some 0, w)
  | f + 1, p, w => if (itS b len w p).1 = true then
      if (tk b len (itS b len w p).2.1).1 = 3 then itsS b len f (nx b len (itS b len w p).2.1) (itS b len w p).2.2
      else if (tk b len (itS b len w p).2.1).1 = 0 then (none, (itS b len w p).2.2) else (some (tk b len (itS b len w p).2.1).2.1, (itS b len w p).2.2)
    else (some (tk b len (itS b len w p).2.1).2.1, (itS b len w p).2.2)
theorem itsS_ok {b : Nat → Int} {len : Nat} : ∀ (f p : Nat) (w : Wd), p ≤ len → WOk w → ((itsS b len f p w).1 = none → WOk (itsS b len f p w).2) ∧ ∀ s, (itsS b len f p w).1 = some s → s ≤ len := by
  intro f
  induction f with
  | zero => intro p w _ _; exact ⟨fun z => absurd z (by unfold itsS; simp), fun s hs => by unfold itsS at hs; injection hs; omega⟩
  | succ f ih =>
    intro p w hp h
    have i1 := itS_ok (b := b) hp h
    have b1 := tk_bd (b := b) i1.1.1
    unfold itsS
    split
    · rename_i c
      split
      · exact ih _ _ b1.2.2.1 (i1.2 c)
      · split
        · exact ⟨fun _ => i1.2 c, fun s hs => by injection hs⟩
        · exact ⟨fun z => (by injection z), fun s hs => by injection hs; omega⟩
    · exact ⟨fun z => (by injection z), fun s hs => by injection hs; omega⟩
end
section
/-! THE REFERENCE'S world -/
theorem MW.cg' {μ μ' : mzM} {a : Nat} {w : Wd} (h : MW μ a w) (hN : wN w ≤ 12) (hK : wK w ≤ 20) {a' : Nat} (e : ∀ j, j < 318 → μ' a' j = μ a j) : MW μ' a' w := by
  obtain ⟨h0, h1, h2, h3, h4, h5, h6, h7⟩ := h
  refine ⟨?_, ?_, ?_, ?_, fun p t' hp ht' => ?_, fun f t' hf ht' => ?_, fun i hi => ⟨?_, ?_⟩, fun i hi => ?_⟩
  · rw [e _ (by omega)]; exact h0
  · rw [e _ (by omega)]; exact h1
  · rw [e _ (by omega)]; exact h2
  · rw [e _ (by omega)]; exact h3
  · rw [e _ (by omega)]; exact h4 p t' hp ht'
  · rw [e _ (by omega)]; exact h5 f t' hf ht'
  · rw [e _ (by omega)]; exact (h6 i hi).1
  · rw [e _ (by omega)]; exact (h6 i hi).2
  · rw [e _ (by omega)]; exact h7 i hi
theorem w2 {d : Nat} {q : Int → mzM → Prop} {μ0 : mzM} (h : ∀ μ', (∀ k j, k ≠ 5 → μ' k j = μ0 k j) → (∀ j, j < 318 → μ' 5 j = μ0 1 j) → mzCl d 13 [mzR 0] (mzS (mzS μ' 0 9 0) 0 11 0) (mzQv fun m1 => mzWp (d + 1) 20 43 [mzR 0, mzI 1, none, none] [] m1 (mzQi q))) :
    ∀ (c i : Nat) (x1 : Int) (μ : mzM), i + c = 318 → x1 = i → (∀ k j, k ≠ 5 → μ k j = μ0 k j) → (∀ j, j < i → μ 5 j = μ0 1 j) → mzWp (d + 1) 20 2 [mzR 0, mzI x1, none, none] [] μ (mzQi q) := by
  intro c
  induction c with
  | zero =>
    intro i x1 μ hi hx h1 h2
    exact g20_2 _ _ ⟨fun _ => ⟨or00, h μ h1 (fun j hj => h2 j (by omega))⟩, fun z => by omega⟩
  | succ c ih =>
    intro i x1 μ hi hx h1 h2
    subst hx
    refine g20_2 _ _ ⟨fun z => by omega, fun _ => ⟨⟨by omega, by omega⟩, ⟨by omega, by omega⟩, ih (i + 1) _ _ (by omega) (by rw [wid (by omega) (by omega)]; omega) (fun k j hk => ?_) (fun j hj => ?_)⟩⟩
    · rw [S_ne (by omega)]; exact h1 k j hk
    · rw [Int.toNat_natCast]
      by_cases e : j = i
      · rw [e, S_eq, h1 1 i (by omega)]
      · rw [S_ne (by omega)]; exact h2 j (by omega)
theorem w147 {d : Nat} {q : Int → mzM → Prop} {x2 : Int} {μ0 : mzM} (h : ∀ μ', (∀ k j, k ≠ 1 → μ' k j = μ0 k j) → (∀ j, j < 318 → μ' 1 j = μ0 5 j) → q (mzW (-1 - x2)) μ') :
    ∀ (c i : Nat) (x3 : Int) (μ : mzM), i + c = 318 → x3 = i → (∀ k j, k ≠ 1 → μ k j = μ0 k j) → (∀ j, j < i → μ 1 j = μ0 5 j) → mzWp (d + 1) 20 147 [mzR 0, none, mzI x2, mzI x3] [] μ (mzQi q) := by
  intro c
  induction c with
  | zero =>
    intro i x3 μ hi hx h1 h2
    exact g20_147 _ _ _ ⟨fun _ => h μ h1 (fun j hj => h2 j (by omega)), fun z => by omega⟩
  | succ c ih =>
    intro i x3 μ hi hx h1 h2
    subst hx
    refine g20_147 _ _ _ ⟨fun z => by omega, fun _ => ⟨⟨by omega, by omega⟩, ⟨by omega, by omega⟩, ih (i + 1) _ _ (by omega) (by rw [wid (by omega) (by omega)]; omega) (fun k j hk => ?_) (fun j hj => ?_)⟩⟩
    · rw [S_ne (by omega)]; exact h1 k j hk
    · rw [Int.toNat_natCast]
      by_cases e : j = i
      · rw [e, S_eq, h1 5 i (by omega)]
      · rw [S_ne (by omega)]; exact h2 j (by omega)
/-- the reference's world: all but m, ahead and the reader's own fields stays -/
def XwM (μ μ' : mzM) : Prop := ∀ k j, (k ≠ 0 ∨ (j ≠ 4 ∧ j < 6) ∨ 11 < j) → k ≠ 1 → k ≠ 5 → μ' k j = μ k j
theorem XpM.w {μ μ' : mzM} (h : XpM μ μ') : XwM μ μ' := fun k j h1 h2 _ => h k j (by omega) h2
theorem XwM.tr {μ μ' μ'' : mzM} (h : XwM μ μ') (h2 : XwM μ' μ'') : XwM μ μ'' := fun a b h1 hn h5 => (h2 a b h1 hn h5).trans (h a b h1 hn h5)
theorem XwM.st {μ μ' : mzM} {j : Nat} {v : Int} (h : XwM μ μ') (hj : j = 4 ∨ (6 ≤ j ∧ j ≤ 11)) : XwM μ (mzS μ' 0 j v) := fun a b h1 hn h5 => by
  rw [S_ne (by omega)]
  exact h a b h1 hn h5
/-- out of the loop over the items -/
theorem w_no {d : Nat} {q : Int → mzM → Prop} {s : Nat} {m : mzM} (hs : s ≤ 120) (hb : m 0 11 = 1 ∨ (m 0 11 = 0 ∧ m 0 7 ≠ 0)) (h8 : m 0 8 = s) (h : ∀ μ', XwM m μ' → (∀ j, j < 318 → μ' 1 j = m 5 j) → μ' 0 6 = 0 → μ' 0 4 = m 0 4 → q (-1 - (s : Int)) μ') : mzWp (d + 1) 20 43 [mzR 0, mzI 0, none, none] [] m (mzQi q) := by
  have e : mzWp (d + 1) 20 147 [mzR 0, none, mzI (m 0 8), mzI 0] [] (mzS (mzS m 0 11 1) 0 6 0) (mzQi q) := w147 (fun μ' h1 h2 => by
    rw [h8, wid (by omega) (by omega)]
    refine h μ' (fun k j a1 a2 a3 => ?_) (fun j hj => ?_) ?_ ?_
    · rw [h1 k j a2, S_ne (by omega), S_ne (by omega)]
    · rw [h2 j hj, S_ne (by omega), S_ne (by omega)]
    · rw [h1 0 6 (by omega), S_eq]
    · rw [h1 0 4 (by omega), S_ne (by omega), S_ne (by omega)]) 318 0 0 _ rfl rfl (fun _ _ _ => rfl) (fun j hj => by omega)
  refine g20_43 _ _ ⟨fun _ => ⟨fun _ => ⟨or10, fun z => absurd z (by decide), fun _ => e⟩, fun z => ⟨fun z2 => ?_, fun _ => ⟨or10, fun z => absurd z (by decide), fun _ => e⟩⟩⟩, fun z => absurd rfl z⟩
  rcases hb with hb | hb
  · rw [hb] at z; exact absurd z (by decide)
  · exact absurd z2 hb.2
theorem w_yes {d : Nat} {q : Int → mzM → Prop} {m : mzM} (hb : m 0 11 = 0) (h7 : m 0 7 = 0) (h : ∀ μ', XwM m μ' → (∀ j, μ' 1 j = m 1 j) → μ' 0 6 = 0 → μ' 0 4 = 0 → q (m 1 0) μ') : mzWp (d + 1) 20 43 [mzR 0, mzI 0, none, none] [] m (mzQi q) := by
  refine g20_43 _ _ ⟨fun _ => ⟨fun z => absurd hb z, fun _ => ⟨fun _ => ⟨or00, fun _ => ⟨or00, ⟨by omega, by omega⟩, h _ (fun k j a1 a2 a3 => ?_) (fun j => ?_) ?_ S_eq⟩, fun z => absurd rfl z⟩, fun z => absurd h7 z⟩⟩, fun z => absurd rfl z⟩
  · rw [S_ne (by omega), S_ne (by omega), S_ne (by omega)]
  · rw [S_ne (by omega), S_ne (by omega), S_ne (by omega)]
  · rw [S_ne (by omega), S_eq]
theorem w_its {d : Nat} {q : Int → mzM → Prop} {b : Nat → Int} {len : Nat} (hl : len ≤ 120) : ∀ (f p : Nat) (w : Wd) (m : mzM), len - p < f → p ≤ len → WOk w → TpM m b len → TkM' m (tk b len p) → m 0 11 = 0 → MW m 1 w →
    ((itsS b len f p w).1 = none → ∀ μ', XwM m μ' → μ' 0 6 = 0 → μ' 0 4 = 0 → MW μ' 1 (itsS b len f p w).2 → q (wN (itsS b len f p w).2) μ') →
    (∀ s, (itsS b len f p w).1 = some s → ∀ μ', XwM m μ' → μ' 0 6 = 0 → μ' 0 4 = m 0 4 → (∀ j, j < 318 → μ' 1 j = m 5 j) → q (-1 - (s : Int)) μ') →
    mzWp (d + 5) 20 43 [mzR 0, mzI 1, none, none] [] m (mzQi q) := by
  intro f
  induction f with
  | zero => intro p w m h; omega
  | succ f ih =>
    intro p w m hf hp hW ht hk hb hw hyes hnos
    have i1 := itS_ok (b := b) hp hW
    have b1 := tk_bd (b := b) i1.1.1
    -- behind one item
    have good : (itS b len w p).1 = true → ∀ μ', XpM m μ' → μ' 0 11 = 0 → MW μ' 1 (itS b len w p).2.2 → TkM' μ' (tk b len (itS b len w p).2.1) → (μ' 0 11 ≠ 0 → ((0 : Int) = 0 → mzWp (d + 5) 20 43 [mzR 0, mzI 0, none, none] [] μ' (mzQi q)) ∧ ((0 : Int) ≠ 0 → mzCl (d + 4) 13 [mzR 0] μ' (mzQv fun m2 => mzWp (d + 5) 20 43 [mzR 0, mzI 0, none, none] [] m2 (mzQi q)))) ∧ (μ' 0 11 = 0 → (μ' 0 7 ≠ 3 → ((0 : Int) = 0 → mzWp (d + 5) 20 43 [mzR 0, mzI 0, none, none] [] μ' (mzQi q)) ∧ ((0 : Int) ≠ 0 → mzCl (d + 4) 13 [mzR 0] μ' (mzQv fun m3 => mzWp (d + 5) 20 43 [mzR 0, mzI 0, none, none] [] m3 (mzQi q)))) ∧ (μ' 0 7 = 3 → ((1 : Int) = 0 → mzWp (d + 5) 20 43 [mzR 0, mzI 1, none, none] [] μ' (mzQi q)) ∧ ((1 : Int) ≠ 0 → mzCl (d + 4) 13 [mzR 0] μ' (mzQv fun m4 => mzWp (d + 5) 20 43 [mzR 0, mzI 1, none, none] [] m4 (mzQi q))))) := by
      intro ho μ' x1 c1 c2 c3
      refine ⟨fun z => absurd c1 z, fun _ => ⟨fun z => ⟨fun _ => ?_, fun z => absurd rfl z⟩, fun z => ⟨fun z => absurd z (by decide), fun _ => ?_⟩⟩⟩
      · by_cases c4 : (tk b len (itS b len w p).2.1).1 = 0
        · have e : itsS b len (f + 1) p w = (none, (itS b len w p).2.2) := by rw [itsS, if_pos ho, if_neg (by rw [c4]; decide), if_pos c4]
          rw [e] at hyes
          refine w_yes c1 (by rw [c3.1, c4]; rfl) (fun μ2 y1 y2 y3 y4 => ?_)
          rw [c2.1]
          exact hyes rfl μ2 (x1.w.tr y1) y3 y4 (c2.cg y2)
        · have c5 : (tk b len (itS b len w p).2.1).1 ≠ 3 := fun c => z (by rw [c3.1, c]; rfl)
          have e : itsS b len (f + 1) p w = (some (tk b len (itS b len w p).2.1).2.1, (itS b len w p).2.2) := by rw [itsS, if_pos ho, if_neg c5, if_neg c4]
          rw [e] at hnos
          refine w_no (s := (tk b len (itS b len w p).2.1).2.1) (by omega) (Or.inr ⟨c1, by rw [c3.1]; omega⟩) c3.2.1 (fun μ2 y1 y2 y3 y4 => hnos _ rfl μ2 (x1.w.tr y1) y3 (y4.trans (x1 0 4 (by omega) (by omega))) (fun j hj => (y2 j hj).trans (x1 5 j (by omega) (by omega))))
      · have c5 : (tk b len (itS b len w p).2.1).1 = 3 := by have := c3.1; omega
        have e : itsS b len (f + 1) p w = itsS b len f (nx b len (itS b len w p).2.1) (itS b len w p).2.2 := by rw [itsS, if_pos ho, if_pos c5]
        rw [e] at hyes hnos
        have p2 := b1.2.2.2.1 (by rw [c5]; decide)
        refine c_next (d := d + 2) (pos := nx b len (itS b len w p).2.1) hl b1.2.2.1 c3.2.2.1 (x1.tp ht) (fun μ2 y1 y2 => ?_)
        have x2 : XpM m μ2 := x1.tr y1.p
        exact ih _ _ μ2 (by show len - nx b len _ < f; unfold nx; omega) b1.2.2.1 (i1.2 ho) (x2.tp ht) y2 (by rw [y1 0 11 (by omega)]; exact c1) (y1.cg c2) (fun g μ3 a1 => hyes g μ3 (x2.w.tr a1)) (fun s g μ3 a1 a2 a4 a3 => hnos s g μ3 (x2.w.tr a1) a2 (a4.trans (x2 0 4 (by omega) (by omega))) (fun j hj => (a3 j hj).trans (x2 5 j (by omega) (by omega))))
    have bad : (itS b len w p).1 = false → ∀ μ', XpM m μ' → μ' 0 11 = 1 → μ' 0 8 = (tk b len (itS b len w p).2.1).2.1 → (μ' 0 11 ≠ 0 → ((0 : Int) = 0 → mzWp (d + 5) 20 43 [mzR 0, mzI 0, none, none] [] μ' (mzQi q)) ∧ ((0 : Int) ≠ 0 → mzCl (d + 4) 13 [mzR 0] μ' (mzQv fun m2 => mzWp (d + 5) 20 43 [mzR 0, mzI 0, none, none] [] m2 (mzQi q)))) ∧ (μ' 0 11 = 0 → (μ' 0 7 ≠ 3 → ((0 : Int) = 0 → mzWp (d + 5) 20 43 [mzR 0, mzI 0, none, none] [] μ' (mzQi q)) ∧ ((0 : Int) ≠ 0 → mzCl (d + 4) 13 [mzR 0] μ' (mzQv fun m3 => mzWp (d + 5) 20 43 [mzR 0, mzI 0, none, none] [] m3 (mzQi q)))) ∧ (μ' 0 7 = 3 → ((1 : Int) = 0 → mzWp (d + 5) 20 43 [mzR 0, mzI 1, none, none] [] μ' (mzQi q)) ∧ ((1 : Int) ≠ 0 → mzCl (d + 4) 13 [mzR 0] μ' (mzQv fun m4 => mzWp (d + 5) 20 43 [mzR 0, mzI 1, none, none] [] m4 (mzQi q))))) := by
      intro ho μ' x1 c1 c3
      have e : itsS b len (f + 1) p w = (some (tk b len (itS b len w p).2.1).2.1, (itS b len w p).2.2) := by rw [itsS, if_neg (by rw [ho]; decide)]
      rw [e] at hnos
      refine ⟨fun _ => ⟨fun _ => w_no (s := (tk b len (itS b len w p).2.1).2.1) (by omega) (Or.inl c1) c3 (fun μ2 y1 y2 y3 y4 => hnos _ rfl μ2 (x1.w.tr y1) y3 (y4.trans (x1 0 4 (by omega) (by omega))) (fun j hj => (y2 j hj).trans (x1 5 j (by omega) (by omega)))), fun z => absurd rfl z⟩, fun z => by rw [c1] at z; exact absurd z (by decide)⟩
    refine g20_43 _ _ ⟨fun z => absurd z (by decide), fun _ => ⟨fun z => absurd hb z, fun _ => ⟨fun z => ?_, fun z => ?_⟩⟩⟩
    · have e : itS b len w p = plS b len w p := if_neg (fun c => z (by rw [hk.1, c]; rfl))
      rw [e] at good bad
      exact c_placeItem hl hp hW.2.2.2.1 ht hk hb hw hW.1 good bad
    · have e : itS b len w p = tieS b len w p := if_pos (by have := hk.1; omega)
      rw [e] at good bad
      exact c_tieItem hl hp ⟨by have := hW.2.1; omega, hW.2.2.1⟩ ht hk hb hw hW.1 good bad
/-- world: what it says and what it leaves -/
theorem c_world {d : Nat} {q : Int → mzM → Prop} {b : Nat → Int} {len : Nat} {w : Wd} {μ : mzM} (hl : len ≤ 120) (hW : WOk w) (ht : TpM μ b len) (hw : MW μ 1 w)
    (hyes : (itsS b len 121 0 w).1 = none → ∀ μ', XwM μ μ' → μ' 0 6 = 0 → μ' 0 4 = 0 → MW μ' 1 (itsS b len 121 0 w).2 → q (wN (itsS b len 121 0 w).2) μ')
    (hno : ∀ s, (itsS b len 121 0 w).1 = some s → ∀ μ', XwM μ μ' → μ' 0 6 = 0 → μ' 0 4 = μ 0 4 → MW μ' 1 w → q (-1 - (s : Int)) μ') : mzCl (d + 5) 20 [mzR 0] μ (mzQi q) := by
  refine g20_e _ (w2 (fun μ1 h1 h2 => ?_) 318 0 0 μ rfl rfl (fun _ _ _ => rfl) (fun j hj => by omega))
  have x0 : XwM μ (mzS (mzS μ1 0 9 0) 0 11 0) := fun k j a1 a2 a3 => by rw [S_ne (by omega), S_ne (by omega)]; exact h1 k j a3
  have t0 : TpM (mzS (mzS μ1 0 9 0) 0 11 0) b len := ⟨by rw [S_ne (by omega), S_ne (by omega), h1 0 6 (by omega)]; exact ht.1, fun i hi => by rw [S_ne (by omega), S_ne (by omega), h1 4 i (by omega)]; exact ht.2 i hi⟩
  refine c_next (d := d + 2) (pos := 0) hl (Nat.zero_le _) (by rw [S_ne (by omega), S_eq]; rfl) t0 (fun m y1 y2 => ?_)
  have x1 : XwM μ m := x0.tr y1.p.w
  have e5 : ∀ j, j < 318 → m 5 j = μ 1 j := fun j hj => by rw [y1 5 j (by omega), S_ne (by omega), S_ne (by omega)]; exact h2 j hj
  refine w_its hl 121 0 w m (by omega) (Nat.zero_le _) hW (y1.tp t0) y2 (by rw [y1 0 11 (by omega), S_eq]) (hw.cg fun j => by rw [y1 1 j (by omega), S_ne (by omega), S_ne (by omega)]; exact h1 1 j (by omega)) (fun g μ' a1 => hyes g μ' (x1.tr a1)) (fun s g μ' a1 a2 a4 a3 => hno s g μ' (x1.tr a1) a2 (a4.trans (by rw [y1 0 4 (by omega), S_ne (by omega), S_ne (by omega), h1 0 4 (by omega)])) (hw.cg' hW.1 hW.2.2.2.1 (fun j hj => (a3 j hj).trans (e5 j hj))))
end
section
/-! THE CLASS'S TEXT -/
theorem kw_l {d : Nat} {q : Int → mzM → Prop} {b : Nat → Int} {len : Nat} {t : TT} {o : Nat} {μ : mzM} (ho : o < 14) (hl : len ≤ 120) (ht : TpC μ b len) (h8 : μ 23 3 = t.2.1) (he : t.2.1 + wl o ≤ len) (h : q (if eqS b t.2.1 o (wl o) = true then 1 else 0) μ) :
    ∀ (n k : Nat) (x3 : Int), k + n = wl o → x3 = k → eqS b t.2.1 o k = true → mzWp (d + 1) 124 28 [mzR 23, mzP 300 o, mzI x3] [] μ (mzQi q) := by
  intro n
  induction n with
  | zero =>
    intro k x3 hk h3 hE
    have : k = wl o := by omega
    subst this
    refine g124_28 _ _ _ ⟨ho, fun _ => ⟨or10, ?_⟩, fun z => ?_⟩
    · rw [if_pos hE] at h; exact h
    · rw [wl_sl, h3] at z; omega
  | succ n ih =>
    intro k x3 hk h3 hE
    have ew : mzW (μ 23 3 + x3) = ((t.2.1 + k : Nat) : Int) := by rw [h8, h3, wid (by omega) (by omega)]; omega
    have eb : μ 24 (mzW (μ 23 3 + x3)).toNat = b (t.2.1 + k) := by rw [ew, Int.toNat_natCast]; exact ht.2 _ (by omega)
    have ek : x3.toNat = k := by omega
    have e1 : mzW (x3 + 1) = ((k + 1 : Nat) : Int) := by rw [h3, wid (by have := (wl_le o ho).2; omega) (by have := (wl_le o ho).2; omega)]; omega
    refine g124_28 _ _ _ ⟨ho, fun z => ?_, fun z => ⟨?_, ⟨ho, by omega, z⟩, fun z2 => ?_, fun z2 => ⟨or00, ?_⟩⟩⟩
    · rw [wl_sl, h3] at z; omega
    · rw [ew]; omega
    · rw [eb, ek] at z2
      refine ih (k + 1) _ (by omega) e1 ?_
      unfold eqS
      rw [hE, z2]
      simp
    · rw [eb, ek] at z2
      rw [if_neg (by rw [eqS_not (by omega) z2]; decide)] at h
      exact h
theorem k_isWord {d : Nat} {q : Int → mzM → Prop} {b : Nat → Int} {len : Nat} {t : TT} {o : Nat} {μ : mzM} (ho : o < 14) (hl : len ≤ 120) (ht : TpC μ b len) (hk : TkC μ t) (hse : t.2.1 ≤ t.2.2.1) (hel : t.2.2.1 ≤ len) (h1 : isWd b t o = true → q 1 μ) (h0 : isWd b t o = false → q 0 μ) : mzCl (d + 1) 124 [mzR 23, mzP 300 o] μ (mzQi q) := by
  obtain ⟨k7, k8, k9, -⟩ := hk
  have ew : mzW (μ 23 4 - μ 23 3) = ((t.2.2.1 - t.2.1 : Nat) : Int) := by rw [k8, k9, wid (by omega) (by omega)]; omega
  refine g124_e _ _ ⟨fun z => ⟨or00, h0 ?_⟩, fun z => ⟨ho, fun z2 => ?_, fun z2 => ⟨or00, h0 ?_⟩⟩⟩
  · unfold isWd
    rw [decide_eq_false (by rw [k7] at z; omega)]
    rfl
  · rw [ew, wl_sl] at z2
    refine kw_l ho hl ht k8 (by omega) ?_ (wl o) 0 _ (by omega) rfl rfl
    have e : isWd b t o = eqS b t.2.1 o (wl o) := by
      unfold isWd
      rw [decide_eq_true (show t.1 = 1 by rw [k7] at z; omega), decide_eq_true (show t.2.2.1 - t.2.1 = wl o by omega)]
      rfl
    by_cases c : eqS b t.2.1 o (wl o) = true
    · rw [if_pos c]; exact h1 (by rw [e]; exact c)
    · rw [if_neg c]; exact h0 (by rw [e]; simpa using c)
  · rw [ew, wl_sl] at z2
    unfold isWd
    rw [decide_eq_false (p := t.2.2.1 - t.2.1 = wl o) (by omega)]
    simp
theorem kd_hit {b : Nat → Int} {t : TT} {i : Nat} (hi : i < 7) (h : isWd b t (2 + i) = true) (h0 : ∀ j, j < i → isWd b t (2 + j) = false) : kd b t = some i := by
  have c : i = 0 ∨ i = 1 ∨ i = 2 ∨ i = 3 ∨ i = 4 ∨ i = 5 ∨ i = 6 := by omega
  unfold kd
  rcases c with rfl | rfl | rfl | rfl | rfl | rfl | rfl
  · rw [if_pos h]
  · rw [if_neg (by rw [h0 0 (by omega)]; decide), if_pos h]
  · rw [if_neg (by rw [h0 0 (by omega)]; decide), if_neg (by rw [h0 1 (by omega)]; decide), if_pos h]
  · rw [if_neg (by rw [h0 0 (by omega)]; decide), if_neg (by rw [h0 1 (by omega)]; decide), if_neg (by rw [h0 2 (by omega)]; decide), if_pos h]
  · rw [if_neg (by rw [h0 0 (by omega)]; decide), if_neg (by rw [h0 1 (by omega)]; decide), if_neg (by rw [h0 2 (by omega)]; decide), if_neg (by rw [h0 3 (by omega)]; decide), if_pos h]
  · rw [if_neg (by rw [h0 0 (by omega)]; decide), if_neg (by rw [h0 1 (by omega)]; decide), if_neg (by rw [h0 2 (by omega)]; decide), if_neg (by rw [h0 3 (by omega)]; decide), if_neg (by rw [h0 4 (by omega)]; decide), if_pos h]
  · rw [if_neg (by rw [h0 0 (by omega)]; decide), if_neg (by rw [h0 1 (by omega)]; decide), if_neg (by rw [h0 2 (by omega)]; decide), if_neg (by rw [h0 3 (by omega)]; decide), if_neg (by rw [h0 4 (by omega)]; decide), if_neg (by rw [h0 5 (by omega)]; decide), if_pos h]
theorem kd_no {b : Nat → Int} {t : TT} (h0 : ∀ j, j < 7 → isWd b t (2 + j) = false) : kd b t = none := by
  unfold kd
  rw [if_neg (by rw [h0 0 (by omega)]; decide), if_neg (by rw [h0 1 (by omega)]; decide), if_neg (by rw [h0 2 (by omega)]; decide), if_neg (by rw [h0 3 (by omega)]; decide), if_neg (by rw [h0 4 (by omega)]; decide), if_neg (by rw [h0 5 (by omega)]; decide), if_neg (by rw [h0 6 (by omega)]; decide)]
theorem td_hit {b : Nat → Int} {t : TT} {i : Nat} (hi : i < 5) (h : isWd b t (9 + i) = true) (h0 : ∀ j, j < i → isWd b t (9 + j) = false) : td b t = some (2 + i) := by
  have c : i = 0 ∨ i = 1 ∨ i = 2 ∨ i = 3 ∨ i = 4 := by omega
  unfold td
  rcases c with rfl | rfl | rfl | rfl | rfl
  · rw [if_pos h]
  · rw [if_neg (by rw [h0 0 (by omega)]; decide), if_pos h]
  · rw [if_neg (by rw [h0 0 (by omega)]; decide), if_neg (by rw [h0 1 (by omega)]; decide), if_pos h]
  · rw [if_neg (by rw [h0 0 (by omega)]; decide), if_neg (by rw [h0 1 (by omega)]; decide), if_neg (by rw [h0 2 (by omega)]; decide), if_pos h]
  · rw [if_neg (by rw [h0 0 (by omega)]; decide), if_neg (by rw [h0 1 (by omega)]; decide), if_neg (by rw [h0 2 (by omega)]; decide), if_neg (by rw [h0 3 (by omega)]; decide), if_pos h]
theorem td_no {b : Nat → Int} {t : TT} (h0 : ∀ j, j < 5 → isWd b t (9 + j) = false) : td b t = none := by
  unfold td
  rw [if_neg (by rw [h0 0 (by omega)]; decide), if_neg (by rw [h0 1 (by omega)]; decide), if_neg (by rw [h0 2 (by omega)]; decide), if_neg (by rw [h0 3 (by omega)]; decide), if_neg (by rw [h0 4 (by omega)]; decide)]
theorem k_kindName {d : Nat} {q : Nat → Nat → mzM → Prop} {i : Nat} {μ : mzM} (hi : i < 7) (h : q 300 (2 + i) μ) : mzCl d 127 [mzI i] μ (mzQr q) := by
  have c : i = 0 ∨ i = 1 ∨ i = 2 ∨ i = 3 ∨ i = 4 ∨ i = 5 ∨ i = 6 := by omega
  rcases c with rfl | rfl | rfl | rfl | rfl | rfl | rfl
  all_goals exact g127_e _ _ ⟨⟨fun z => by first | exact h | omega, fun z => by first | exact h | omega, fun z => by first | exact h | omega, fun z => by first | exact h | omega, fun z => by first | exact h | omega, fun z => by first | exact h | omega, trivial⟩, fun z => by first | exact h | omega⟩
theorem k_traitName {d : Nat} {q : Nat → Nat → mzM → Prop} {i : Nat} {μ : mzM} (hi : i < 5) (h : q 300 (9 + i) μ) : mzCl d 128 [mzI ((2 + i : Nat) : Int)] μ (mzQr q) := by
  have c : i = 0 ∨ i = 1 ∨ i = 2 ∨ i = 3 ∨ i = 4 := by omega
  rcases c with rfl | rfl | rfl | rfl | rfl
  all_goals exact g128_e _ _ ⟨⟨fun z => by first | exact h | omega, fun z => by first | exact h | omega, fun z => by first | exact h | omega, fun z => by first | exact h | omega, trivial⟩, fun z => by first | exact h | omega⟩
theorem k_kindHere {d : Nat} {q : Int → mzM → Prop} {b : Nat → Int} {len : Nat} {t : TT} {μ : mzM} (hl : len ≤ 120) (ht : TpC μ b len) (hk : TkC μ t) (hse : t.2.1 ≤ t.2.2.1) (hel : t.2.2.1 ≤ len) (h1 : ∀ k, kd b t = some k → q k μ) (h0 : kd b t = none → q (-1) μ) : mzCl (d + 2) 125 [mzR 23] μ (mzQi q) := by
  have L : ∀ (c i : Nat) (x1 : Int), i + c = 7 → x1 = i → (∀ j, j < i → isWd b t (2 + j) = false) → mzWp (d + 2) 125 2 [mzR 23, mzI x1] [] μ (mzQi q) := by
    intro c
    induction c with
    | zero => exact fun i x1 hi hx hj => g125_2 _ _ ⟨fun _ => h0 (kd_no (fun j h => hj j (by omega))), fun z => by omega⟩
    | succ c ih =>
      intro i x1 hi hx hj
      subst hx
      refine g125_2 _ _ ⟨fun z => by omega, fun _ => k_kindName (by omega) ⟨rfl, k_isWord (by omega) hl ht hk hse hel (fun w => ⟨fun z => absurd z (by decide), fun _ => h1 i (kd_hit (by omega) w hj)⟩) (fun w => ⟨fun _ => ih (i + 1) _ (by omega) (by rw [wid (by omega) (by omega)]; omega) (fun j hj2 => ?_), fun z => absurd rfl z⟩)⟩⟩
      by_cases e : j = i
      · rw [e]; exact w
      · exact hj j (by omega)
  exact g125_e _ (L 7 0 0 rfl rfl (fun j hj => by omega))
theorem k_traitHere {d : Nat} {q : Int → mzM → Prop} {b : Nat → Int} {len : Nat} {t : TT} {μ : mzM} (hl : len ≤ 120) (ht : TpC μ b len) (hk : TkC μ t) (hse : t.2.1 ≤ t.2.2.1) (hel : t.2.2.1 ≤ len) (h1 : ∀ k, td b t = some k → q k μ) (h0 : td b t = none → q (-1) μ) : mzCl (d + 2) 126 [mzR 23] μ (mzQi q) := by
  have L : ∀ (c i : Nat) (x1 : Int), i + c = 5 → x1 = ((2 + i : Nat) : Int) → (∀ j, j < i → isWd b t (9 + j) = false) → mzWp (d + 2) 126 2 [mzR 23, mzI x1] [] μ (mzQi q) := by
    intro c
    induction c with
    | zero => exact fun i x1 hi hx hj => g126_2 _ _ ⟨fun _ => h0 (td_no (fun j h => hj j (by omega))), fun z => by omega⟩
    | succ c ih =>
      intro i x1 hi hx hj
      subst hx
      refine g126_2 _ _ ⟨fun z => by omega, fun _ => k_traitName (by omega) ⟨rfl, k_isWord (by omega) hl ht hk hse hel (fun w => ⟨fun z => absurd z (by decide), fun _ => h1 (2 + i) (td_hit (by omega) w hj)⟩) (fun w => ⟨fun _ => ih (i + 1) _ (by omega) (by rw [wid (by omega) (by omega)]; omega) (fun j hj2 => ?_), fun z => absurd rfl z⟩)⟩⟩
      by_cases e : j = i
      · rw [e]; exact w
      · exact hj j (by omega)
  exact g126_e _ (L 5 0 2 rfl rfl (fun j hj => by omega))
theorem k_isNumber {d : Nat} {q : Int → mzM → Prop} {t : TT} {a z : Int} {μ : mzM} (hk : TkC μ t) (h1 : t.1 = 2 → a ≤ (t.2.2.2 : Int) → (t.2.2.2 : Int) ≤ z → μ 23 5 = t.2.2.2 → q 1 μ) (h0 : ¬ (t.1 = 2 ∧ a ≤ (t.2.2.2 : Int) ∧ (t.2.2.2 : Int) ≤ z) → q 0 μ) : mzCl d 123 [mzR 23, mzI a, mzI z] μ (mzQi q) := by
  obtain ⟨k2, -, -, k5⟩ := hk
  refine g123_e _ _ _ ⟨fun c => ⟨or00, h0 (fun y => c (by rw [k2, y.1]; rfl))⟩, fun c => ?_⟩
  have e : t.1 = 2 := by omega
  have e5 := k5 e
  exact ⟨fun y => ⟨or00, h0 (by omega)⟩, fun y => ⟨fun y2 => ⟨or00, h0 (by omega)⟩, fun y2 => ⟨or10, h1 e (by omega) (by omega) e5⟩⟩⟩
theorem k_fillr {d : Nat} {q : mzM → Prop} {n : Nat} {μ : mzM} (hn : n < 12) (h : ∀ μ', (∀ k j, k ≠ 76 + n → μ' k j = μ k j) → (∀ j, j < 9 → μ' (76 + n) j = 0) → q μ') : mzCl d 191 [mzP 76 n, mzI 0] μ (mzQv q) := by
  have L : ∀ (c i : Nat) (x2 : Int) (m : mzM), i + c = 9 → x2 = i → (∀ k j, k ≠ 76 + n → m k j = μ k j) → (∀ j, j < i → m (76 + n) j = 0) → mzWp d 191 5 [mzP 76 n, mzI 0, mzI x2, mzI 9] [] m (mzQv q) := by
    intro c
    induction c with
    | zero => exact fun i x2 m hi hx a1 a2 => g191r_5 _ _ _ _ _ ⟨fun _ => h m a1 (fun j hj => a2 j (by omega)), fun z => by omega⟩
    | succ c ih =>
      intro i x2 m hi hx a1 a2
      subst hx
      refine g191r_5 _ _ _ _ _ ⟨fun z => by omega, fun _ => ⟨⟨hn, by omega, by omega⟩, ih (i + 1) _ _ (by omega) (by rw [wid (by omega) (by omega)]; omega) (fun k j hk => ?_) (fun j hj => ?_)⟩⟩
      · rw [S_ne (by omega)]; exact a1 k j hk
      · rw [Int.toNat_natCast]
        by_cases e : j = i
        · rw [e, S_eq]
        · rw [S_ne (by omega)]; exact a2 j (by omega)
  exact g191r_e _ _ _ ⟨hn, L 9 0 0 μ rfl rfl (fun _ _ _ => rfl) (fun j hj => by omega)⟩
theorem k_addPlace {d : Nat} {q : Nat → Nat → mzM → Prop} {n k v : Nat} {μ : mzM} (hn : n < 12) (h0 : μ 28 0 = n) (h : ∀ μ', (∀ a j, (a ≠ 28 ∨ j ≠ 0) → a ≠ 76 + n → μ' a j = μ a j) → μ' 28 0 = ((n + 1 : Nat) : Int) → (∀ t, t < 9 → μ' (76 + n) t = row0 k v t) → q 76 n μ') : mzCl (d + 1) 95 [mzR 28, mzI k, mzI v] μ (mzQr q) := by
  have e0 : (μ 28 0).toNat = n := by omega
  have e1 : mzW (μ 28 0 + 1) = ((n + 1 : Nat) : Int) := by rw [h0, wid (by omega) (by omega)]; omega
  refine g95_e _ _ _ ⟨by omega, ?_⟩
  rw [e0, e1]
  refine k_fillr hn (fun m1 a1 a2 => ⟨⟨hn, by omega, by omega⟩, ⟨hn, by omega, by omega⟩, ⟨hn, by omega, by omega⟩, ⟨hn, by omega, by omega⟩, ⟨hn, by omega, by omega⟩, h _ (fun a j b1 b2 => ?_) ?_ (fun t ht => ?_)⟩)
  · rw [S_ne (by omega), S_ne (by omega), S_ne (by omega), S_ne (by omega), S_ne (by omega), a1 a j b2, S_ne (by omega)]
  · rw [S_ne (by omega), S_ne (by omega), S_ne (by omega), S_ne (by omega), S_ne (by omega), a1 28 0 (by omega), S_eq]
  · have c : t = 0 ∨ t = 1 ∨ t = 2 ∨ t = 3 ∨ t = 4 ∨ t = 5 ∨ t = 6 ∨ t = 7 ∨ t = 8 := by omega
    rcases c with rfl | rfl | rfl | rfl | rfl | rfl | rfl | rfl | rfl <;> simp [mzS, row0, a2]
end
section
/-! THE CLASS'S WORLDS AND ITEMS -/
/-- who is held, as a set -/
def hB (T : Nat → Nat → Int) : Nat → Nat
  | 0 => 0
  | k + 1 => hB T k ||| if T k 9 = 0 then 0 else 2 ^ k
def CB (μ : mzM) (j : Nat) (w : Wd) : Prop := μ (26 + j) 1 = wE w ∧ μ (26 + j) 2 = wK w ∧ μ (26 + j) 3 = (hB (wT w) (wN w) : Nat) ∧ μ (26 + j) 4 = wZ w ∧ (∀ p t, p < wN w → t < 9 → μ (52 + 12 * j + p) t = wT w p t) ∧ (∀ f t, f < 12 → t < 12 → μ (88 + 12 * j + f) t = wP w f t) ∧ (∀ i, i < wK w → μ (35 + j) i = wY w i ∧ μ (38 + j) i = wL w i) ∧ (∀ i, i < 10 → μ (41 + j) i = wS w i)
/-- the class's world j holds w -/
def CW (μ : mzM) (j : Nat) (w : Wd) : Prop := μ (26 + j) 0 = wN w ∧ CB μ j w
/-- the places of a class's world -/
def isW (j k : Nat) : Prop := k = 26 + j ∨ k = 35 + j ∨ k = 38 + j ∨ k = 41 + j ∨ (52 + 12 * j ≤ k ∧ k < 64 + 12 * j) ∨ (88 + 12 * j ≤ k ∧ k < 100 + 12 * j)
theorem CW.cg {μ μ' : mzM} {j : Nat} {w : Wd} (h : CW μ j w) (hN : wN w ≤ 12) (e : ∀ k i, isW j k → μ' k i = μ k i) : CW μ' j w := by
  obtain ⟨h0, h1, h2, h3, h4, h5, h6, h7, h8⟩ := h
  unfold isW at e
  refine ⟨?_, ?_, ?_, ?_, ?_, fun p t hp ht => ?_, fun f t hf ht => ?_, fun i hi => ⟨?_, ?_⟩, fun i hi => ?_⟩
  · rw [e _ _ (by omega)]; exact h0
  · rw [e _ _ (by omega)]; exact h1
  · rw [e _ _ (by omega)]; exact h2
  · rw [e _ _ (by omega)]; exact h3
  · rw [e _ _ (by omega)]; exact h4
  · rw [e _ _ (by omega)]; exact h5 p t hp ht
  · rw [e _ _ (by omega)]; exact h6 f t hf ht
  · rw [e _ _ (by omega)]; exact (h7 i hi).1
  · rw [e _ _ (by omega)]; exact (h7 i hi).2
  · rw [e _ _ (by omega)]; exact h8 i hi
/-- the class reads a text: the reader's own fields and the third world's places, traits, ties and parts -/
def XdC (μ μ' : mzM) : Prop := ∀ k j, (k ≠ 23 ∨ j < 2 ∨ 5 < j) → (k ≠ 28 ∨ 1 < j) → (k < 76 ∨ 87 < k) → (k < 112 ∨ 123 < k) → μ' k j = μ k j
theorem XdC.rf {μ : mzM} : XdC μ μ := fun _ _ _ _ _ _ => rfl
theorem XdC.tr {μ μ' μ'' : mzM} (h : XdC μ μ') (h2 : XdC μ' μ'') : XdC μ μ'' := fun a b h1 a2 a3 a4 => (h2 a b h1 a2 a3 a4).trans (h a b h1 a2 a3 a4)
theorem XtC.d {μ μ' : mzM} (h : XtC μ μ') : XdC μ μ' := fun k j h1 _ _ _ => h k j h1
theorem XdC.tp {μ μ' : mzM} {b : Nat → Int} {len : Nat} (h : XdC μ μ') (ht : TpC μ b len) : TpC μ' b len := ⟨by rw [h 23 1 (by omega) (by omega) (by omega) (by omega)]; exact ht.1, fun i hi => by rw [h 24 i (by omega) (by omega) (by omega) (by omega)]; exact ht.2 i hi⟩
theorem XdC.st {μ μ' : mzM} {k j : Nat} {v : Int} (h : XdC μ μ') (hk : (76 ≤ k ∧ k ≤ 87) ∨ (112 ≤ k ∧ k ≤ 123) ∨ (k = 28 ∧ j ≤ 1)) : XdC μ (mzS μ' k j v) := fun a b h1 h2 h3 h4 => by
  rw [S_ne (by omega)]
  exact h a b h1 h2 h3 h4
theorem TkC.st {μ : mzM} {t : TT} {k j : Nat} {v : Int} (h : TkC μ t) (hj : k ≠ 23) : TkC (mzS μ k j v) t := by
  unfold TkC at h ⊢
  rw [S_ne (by omega), S_ne (by omega), S_ne (by omega), S_ne (by omega)]
  exact h
theorem CB.x {μ μ' : mzM} {w : Wd} (h : CB μ 2 w) (x : XtC μ μ') (hN : wN w ≤ 12) : CB μ' 2 w := by
  obtain ⟨h1, h2, h3, h4, h5, h6, h7, h8⟩ := h
  refine ⟨?_, ?_, ?_, ?_, fun p t hp ht => ?_, fun f t hf ht => ?_, fun i hi => ⟨?_, ?_⟩, fun i hi => ?_⟩
  · rw [x _ _ (by omega)]; exact h1
  · rw [x _ _ (by omega)]; exact h2
  · rw [x _ _ (by omega)]; exact h3
  · rw [x _ _ (by omega)]; exact h4
  · rw [x _ _ (by omega)]; exact h5 p t hp ht
  · rw [x _ _ (by omega)]; exact h6 f t hf ht
  · rw [x _ _ (by omega)]; exact (h7 i hi).1
  · rw [x _ _ (by omega)]; exact (h7 i hi).2
  · rw [x _ _ (by omega)]; exact h8 i hi
theorem CW.x {μ μ' : mzM} {w : Wd} (h : CW μ 2 w) (x : XtC μ μ') (hN : wN w ≤ 12) : CW μ' 2 w := ⟨by rw [x _ _ (by omega)]; exact h.1, h.2.x x hN⟩
/-- a change in the row of the place behind the last, or of the number of places -/
theorem CB.rw {μ μ' : mzM} {w : Wd} (h : CB μ 2 w) (hN : wN w < 12) (x : ∀ a j, (a ≠ 28 ∨ j ≠ 0) → a ≠ 76 + wN w → μ' a j = μ a j) : CB μ' 2 w := by
  obtain ⟨h1, h2, h3, h4, h5, h6, h7, h8⟩ := h
  refine ⟨?_, ?_, ?_, ?_, fun p t hp ht => ?_, fun f t hf ht => ?_, fun i hi => ⟨?_, ?_⟩, fun i hi => ?_⟩
  · rw [x _ _ (by omega) (by omega)]; exact h1
  · rw [x _ _ (by omega) (by omega)]; exact h2
  · rw [x _ _ (by omega) (by omega)]; exact h3
  · rw [x _ _ (by omega) (by omega)]; exact h4
  · rw [x _ _ (by omega) (by omega)]; exact h5 p t hp ht
  · rw [x _ _ (by omega) (by omega)]; exact h6 f t hf ht
  · rw [x _ _ (by omega) (by omega)]; exact (h7 i hi).1
  · rw [x _ _ (by omega) (by omega)]; exact (h7 i hi).2
  · rw [x _ _ (by omega) (by omega)]; exact h8 i hi
def RoC (μ : mzM) (n : Nat) (r : Nat → Int) : Prop := ∀ t, t < 9 → μ (76 + n) t = r t
theorem RoC.wr {μ : mzM} {n tr : Nat} {r : Nat → Int} {v : Int} (h : RoC μ n r) : RoC (mzS μ (76 + n) tr v) n (fun t => if t = tr then v else r t) := fun t ht => by
  show _ = if t = tr then v else r t
  by_cases c : t = tr
  · rw [if_pos c, c, S_eq]
  · rw [if_neg c, S_ne (by omega)]; exact h t ht
theorem XtC.ro {μ μ' : mzM} {n : Nat} {r : Nat → Int} (x : XtC μ μ') (h : RoC μ n r) : RoC μ' n r := fun t ht => by rw [x _ _ (by omega)]; exact h t ht
theorem hB_cg {T T' : Nat → Nat → Int} {k : Nat} (h : ∀ p, p < k → T p 9 = T' p 9) : hB T k = hB T' k := by
  induction k with
  | zero => rfl
  | succ k ih => unfold hB; rw [ih (fun p hp => h p (by omega)), h k (by omega)]
theorem opS_9 {b : Nat → Int} {len : Nat} : ∀ (f p : Nat) (r : Nat → Int), (opS b len f p r).2.2 9 = r 9 := by
  intro f
  induction f with
  | zero => intro p r; rfl
  | succ f ih =>
    intro p r
    cases e : td b (tk b len p) with
    | none => rw [opS_n e]
    | some tr =>
      by_cases c : (tk b len (tk b len p).2.2.1).1 = 2 ∧ lo tr ≤ (tk b len (tk b len p).2.2.1).2.2.2 ∧ (tk b len (tk b len p).2.2.1).2.2.2 ≤ hi tr
      · rw [opS_s e c, ih]
        have := td_le e
        exact if_neg (by omega)
      · rw [opS_x e c]
theorem cst_lohi {tr : Nat} (h : 2 ≤ tr ∧ tr ≤ 6) : mzCst 201 tr = lo tr ∧ mzCst 202 tr = hi tr := by
  have c : tr = 2 ∨ tr = 3 ∨ tr = 4 ∨ tr = 5 ∨ tr = 6 := by omega
  rcases c with rfl | rfl | rfl | rfl | rfl <;> exact ⟨rfl, rfl⟩
/-- the words behind a place -/
theorem kpl_opt {d : Nat} {q : Int → mzM → Prop} {b : Nat → Int} {len : Nat} {w : Wd} (hl : len ≤ 120) (hn : wN w < 12) : ∀ (f p i : Nat) (x4 : Int) (r : Nat → Int) (μ : mzM), len - p < f → p ≤ len → i ≤ p → x4 = i → TpC μ b len → TkC μ (tk b len p) → μ 28 0 = ((wN w + 1 : Nat) : Int) → CB μ 2 w → RoC μ (wN w) r →
    ((opS b len f p r).1 = true → (tk b len (opS b len f p r).2.1).1 ≠ 1 → ∀ μ', XdC μ μ' → μ' 28 0 = ((wN w + 1 : Nat) : Int) → CB μ' 2 w → RoC μ' (wN w) (opS b len f p r).2.2 → TkC μ' (tk b len (opS b len f p r).2.1) → q 1 μ') →
    (((opS b len f p r).1 = false ∨ (tk b len (opS b len f p r).2.1).1 = 1) → ∀ μ', XdC μ μ' → μ' 23 3 = (tk b len (opS b len f p r).2.1).2.1 → q 0 μ') →
    mzWp (d + 3) 117 53 [mzR 23, none, none, mzP 76 (wN w), mzI x4, none] [] μ (mzQi q) := by
  intro f
  induction f with
  | zero => intro p i x4 r μ h; omega
  | succ f ih =>
    intro p i x4 r μ hf hp hi hx ht hk h0 hw hr hok hno
    subst hx
    have bd := tk_bd (b := b) hp
    have bd1 := tk_bd (b := b) (len := len) (pos := (tk b len p).2.2.1) bd.2.2.1
    by_cases c1 : (tk b len p).1 = 1
    · refine g117_53 _ _ _ ⟨fun z => by omega, fun _ => ⟨fun z => absurd (by rw [hk.1, c1]; rfl) z, fun _ => ?_⟩⟩
      refine k_traitHere hl ht hk bd.2.1 bd.2.2.1 (fun tr e => ⟨fun _ => ?_, fun z => by omega⟩) (fun e => ⟨fun z => absurd z (by decide), fun _ => ⟨or00, ?_⟩⟩)
      · have b1 := td_le e
        refine k_next (pos := (tk b len p).2.2.1) hl bd.2.2.1 hk.2.2.1 ht (fun m1 x1 k1 => ⟨by omega, by omega, ?_⟩)
        rw [Int.toNat_natCast, (cst_lohi b1).1, (cst_lohi b1).2]
        have p2 := bd.2.2.2.1 (by rw [c1]; decide)
        refine k_isNumber k1 (fun y1 y2 y3 y4 => ⟨fun _ => ⟨⟨hn, by omega, by omega⟩, ?_⟩, fun z => absurd z (by decide)⟩) (fun y => ⟨fun z => absurd rfl z, fun _ => ⟨or00, ?_⟩⟩)
        · have e2 := opS_s (f := f) (r := r) e ⟨y1, by omega, by omega⟩
          rw [e2] at hok hno
          rw [y4]
          have p3 := bd1.2.2.2.1 (by rw [y1]; decide)
          have x2 : XdC μ (mzS m1 (76 + wN w) tr ((tk b len (tk b len p).2.2.1).2.2.2 : Int)) := x1.d.st (by omega)
          refine k_next (pos := (tk b len (tk b len p).2.2.1).2.2.1) hl bd1.2.2.1 (by rw [S_ne (by omega)]; exact k1.2.2.1) (x2.tp ht) (fun m2 x3 k2 => ?_)
          have x4 : XdC μ m2 := x2.tr x3.d
          refine ih _ (i + 1) _ _ m2 (by omega) bd1.2.2.1 (by omega) (by rw [wid (by omega) (by omega)]; omega) (x4.tp ht) k2 ?_ (((hw.x x1 (by omega)).rw hn (fun a j _ a2 => S_ne (by omega))).x x3 (by omega)) (x3.ro ((x1.ro hr).wr)) (fun g1 g2 μ3 z => hok g1 g2 μ3 (x4.tr z)) (fun g μ3 z => hno g μ3 (x4.tr z))
          rw [x3 _ _ (by omega), S_ne (by omega), x1 _ _ (by omega)]; exact h0
        · have e2 := opS_x (f := f) (r := r) e (fun c => y ⟨c.1, by omega, by omega⟩)
          rw [e2] at hno
          exact hno (Or.inl rfl) m1 x1.d k1.2.1
      · rw [opS_n e] at hno
        exact hno (Or.inr c1) μ XdC.rf hk.2.1
    · have e : td b (tk b len p) = none := by
        cases e : td b (tk b len p) with
        | none => rfl
        | some k => exact absurd (td_1 e) c1
      rw [opS_n e] at hok
      exact g117_53 _ _ _ ⟨fun _ => ⟨or10, hok rfl c1 μ XdC.rf h0 hw hr hk⟩, fun _ => ⟨fun _ => ⟨or10, hok rfl c1 μ XdC.rf h0 hw hr hk⟩, fun z => absurd (by have := hk.1; omega) c1⟩⟩
theorem CB.add {μ : mzM} {w : Wd} {r : Nat → Int} (hW : WOk w) (hn : wN w < 12) (h0 : μ 28 0 = ((wN w + 1 : Nat) : Int)) (hw : CB μ 2 w) (hr : RoC μ (wN w) r) (h9 : r 9 = 0) : CW μ 2 (addW w r) := by
  obtain ⟨h1, h2, h3, h4, h5, h6, h7, h8⟩ := hw
  refine ⟨h0, h1, h2, ?_, h4, fun p t hp ht => ?_, fun f t hf ht => ?_, h7, h8⟩
  · rw [h3]
    show ((hB (wT w) (wN w) : Nat) : Int) = ((hB (wT (addW w r)) (wN w) ||| if (wT (addW w r)) (wN w) 9 = 0 then 0 else 2 ^ wN w : Nat) : Int)
    rw [if_pos (by show (if wN w = wN w then r else wT w (wN w)) 9 = 0; rw [if_pos rfl]; exact h9), Nat.or_zero]
    exact congrArg _ (hB_cg (fun p hp => by show wT w p 9 = (if p = wN w then r else wT w p) 9; rw [if_neg (by omega)]))
  · have hp2 : p < wN w + 1 := hp
    show _ = (if p = wN w then r else wT w p) t
    by_cases c : p = wN w
    · rw [if_pos c, c]; exact hr t ht
    · rw [if_neg c]; exact h5 p t (by omega) ht
  · rw [h6 f t hf ht]
    show _ = if f = wN w ∨ t = wN w then 0 else wP w f t
    by_cases c : f = wN w ∨ t = wN w
    · rw [if_pos c, hW.2.2.2.2.2.2.1 f t (by omega)]
    · rw [if_neg c]
theorem k_readPlace {d : Nat} {q : Int → mzM → Prop} {b : Nat → Int} {len p : Nat} {w : Wd} {μ : mzM} (hl : len ≤ 120) (hp : p ≤ len) (ht : TpC μ b len) (hk : TkC μ (tk b len p)) (hw : CW μ 2 w) (hW : WOk w)
    (hok : (plS b len w p).1 = true → (tk b len (plS b len w p).2.1).1 ≠ 1 → ∀ μ', XdC μ μ' → CW μ' 2 (plS b len w p).2.2 → TkC μ' (tk b len (plS b len w p).2.1) → q 1 μ')
    (hno : ((plS b len w p).1 = false ∨ (tk b len (plS b len w p).2.1).1 = 1) → ∀ μ', XdC μ μ' → μ' 23 3 = (tk b len (plS b len w p).2.1).2.1 → q 0 μ') : mzCl (d + 3) 117 [mzR 23, mzR 28] μ (mzQi q) := by
  have bd := tk_bd (b := b) hp
  have bd1 := tk_bd (b := b) (len := len) (pos := (tk b len p).2.2.1) bd.2.2.1
  have h28 : μ 28 0 = wN w := hw.1
  refine g117_e _ (k_kindHere hl ht hk bd.2.1 bd.2.2.1 (fun k e => ⟨fun z => by omega, fun _ => ⟨fun z => ?_, fun z => ⟨or00, ?_⟩⟩⟩) (fun e => ⟨fun _ => ⟨or00, ?_⟩, fun z => absurd z (by decide)⟩))
  · have hn : wN w < 12 := by omega
    have hn2 : wN w ≠ 12 := by omega
    refine k_next (pos := (tk b len p).2.2.1) hl bd.2.2.1 hk.2.2.1 ht (fun m1 x1 k1 => ?_)
    refine k_isNumber k1 (fun y1 y2 y3 y4 => ⟨fun _ => ?_, fun z => absurd z (by decide)⟩) (fun y => ⟨fun z => absurd rfl z, fun _ => ⟨or00, ?_⟩⟩)
    · have e2 := plS_s e hn2 ⟨y1, by omega, by omega⟩
      rw [e2] at hok hno
      rw [y4]
      have w1 := hw.x x1 (by omega)
      refine k_addPlace hn w1.1 (fun m2 a1 a2 a3 => ⟨rfl, ?_⟩)
      have x2 : XdC μ m2 := fun a j b1 b2 b3 b4 => by rw [a1 a j (by omega) (by omega)]; exact x1 a j b1
      refine k_next (pos := (tk b len (tk b len p).2.2.1).2.2.1) hl bd1.2.2.1 (by rw [a1 23 4 (by omega) (by omega)]; exact k1.2.2.1) (x2.tp ht) (fun m3 x3 k3 => ?_)
      have x4 : XdC μ m3 := x2.tr x3.d
      refine kpl_opt hl hn 121 _ 0 _ (row0 k (tk b len (tk b len p).2.2.1).2.2.2) m3 (by omega) bd1.2.2.1 (Nat.zero_le _) rfl (x4.tp ht) k3 (by rw [x3 _ _ (by omega)]; exact a2) ((w1.2.rw hn a1).x x3 (by omega)) (x3.ro a3) (fun g1 g2 μ3 z z2 z3 z4 z5 => hok g1 g2 μ3 (x4.tr z) (z3.add hW hn z2 z4 ?_) z5) (fun g μ3 z z2 => hno g μ3 (x4.tr z) z2)
      rw [opS_9]
      rfl
    · have e2 := plS_x e hn2 (fun c => y ⟨c.1, by omega, by omega⟩)
      rw [e2] at hno
      exact hno (Or.inl rfl) m1 x1.d k1.2.1
  · rw [plS_f e (by have := hW.1; omega)] at hno
    exact hno (Or.inl rfl) μ XdC.rf hk.2.1
  · rw [plS_n e] at hno
    exact hno (Or.inl rfl) μ XdC.rf hk.2.1
end
section
/-! THE CLASS'S TIES, its text -/
theorem CW.tie {m : mzM} {w : Wd} {f t : Nat} {v : Int} (h : CW m 2 w) (hN : wN w ≤ 12) (hf : f < 12) (ht : t < 12) : CW (mzS (mzS m 28 1 (wE w + 1)) (112 + f) t v) 2 (tieW w f t v) := by
  obtain ⟨h0, h1, h2, h3, h4, h5, h6, h7, h8⟩ := h
  refine ⟨?_, ?_, ?_, ?_, ?_, fun p t' hp ht' => ?_, fun f' t' hf' ht' => ?_, fun i hi => ⟨?_, ?_⟩, fun i hi => ?_⟩
  · rw [S_ne (by omega), S_ne (by omega)]; exact h0
  · rw [S_ne (by omega)]; exact S_eq
  · rw [S_ne (by omega), S_ne (by omega)]; exact h2
  · rw [S_ne (by omega), S_ne (by omega)]; exact h3
  · rw [S_ne (by omega), S_ne (by omega)]; exact h4
  · have hp2 : p < wN w := hp
    rw [S_ne (by omega), S_ne (by omega)]; exact h5 p t' hp ht'
  · show _ = if f' = f ∧ t' = t then v else wP w f' t'
    by_cases e : f' = f ∧ t' = t
    · rw [if_pos e, e.1, e.2]
      show mzS _ (112 + f) t v (112 + f) t = v
      exact S_eq
    · rw [if_neg e, S_ne (by omega), S_ne (by omega)]; exact h6 f' t' hf' ht'
  · rw [S_ne (by omega), S_ne (by omega)]; exact (h7 i hi).1
  · rw [S_ne (by omega), S_ne (by omega)]; exact (h7 i hi).2
  · rw [S_ne (by omega), S_ne (by omega)]; exact h8 i hi
theorem k_readTie {d : Nat} {q : Int → mzM → Prop} {b : Nat → Int} {len p : Nat} {w : Wd} {μ : mzM} (hl : len ≤ 120) (hp : p ≤ len) (ht : TpC μ b len) (hk : TkC μ (tk b len p)) (hw : CW μ 2 w) (hW : WOk w)
    (hok : (tieS b len w p).1 = true → ∀ μ', XdC μ μ' → CW μ' 2 (tieS b len w p).2.2 → TkC μ' (tk b len (tieS b len w p).2.1) → q 1 μ')
    (hno : (tieS b len w p).1 = false → ∀ μ', XdC μ μ' → μ' 23 3 = (tk b len (tieS b len w p).2.1).2.1 → q 0 μ') : mzCl (d + 3) 118 [mzR 23, mzR 28] μ (mzQi q) := by
  have e1 : ∀ n : Nat, n ≤ 12 → mzW ((n : Int) - 1) = (n : Int) - 1 := fun n h => wid (by omega) (by omega)
  have hn := hW.1
  have hE : 0 ≤ wE w ∧ wE w ≤ 40 := ⟨by have := hW.2.1; omega, hW.2.2.1⟩
  have no : ∀ {m : mzM} {P : Nat}, tieS b len w p = (false, P, w) → XdC μ m → m 23 3 = (tk b len P).2.1 → ((0 : Int) = 0 ∨ (0 : Int) = 1) ∧ q 0 m := fun e x z => ⟨or00, hno (by rw [e]) _ x (by rw [e]; exact z)⟩
  have bd := tk_bd (b := b) hp
  have bd1 := tk_bd (b := b) (len := len) (pos := nx b len p) bd.2.2.1
  have bd2 := tk_bd (b := b) (len := len) (pos := nx b len (nx b len p)) bd1.2.2.1
  have bd3 := tk_bd (b := b) (len := len) (pos := nx b len (nx b len (nx b len p))) bd2.2.2.1
  have bd4 := tk_bd (b := b) (len := len) (pos := nx b len (nx b len (nx b len (nx b len p)))) bd3.2.2.1
  have h28 : μ 28 0 = wN w := hw.1
  have h281 : μ 28 1 = wE w := hw.2.1
  refine g118_e _ ?_
  rw [h28, e1 _ hn]
  refine k_isNumber hk (fun y1 y2 y3 y4 => ⟨fun z => absurd z (by decide), fun _ => ⟨fun z => ?_, fun z => no (P := p) ?_ XdC.rf hk.2.1⟩⟩) (fun y => ⟨fun _ => no (P := p) ?_ XdC.rf hk.2.1, fun z => absurd rfl z⟩)
  · have c0 : wE w ≠ 40 ∧ (tk b len p).1 = 2 ∧ tv b len p < wN w := ⟨by omega, y1, by show (tk b len p).2.2.2 < _; omega⟩
    have hf : (tk b len p).2.2.2 < 12 := Nat.lt_of_lt_of_le c0.2.2 hn
    refine k_next (pos := nx b len p) hl bd.2.2.1 hk.2.2.1 ht (fun m1 x1 k1 => ?_)
    have w1 := hw.x x1 hn
    have x1' : XdC μ m1 := x1.d
    refine k_isWord (d := d + 1) (by omega) hl (x1'.tp ht) k1 bd1.2.1 bd1.2.2.1 (fun u => ⟨fun _ => ?_, fun z => absurd z (by decide)⟩) (fun u => ⟨fun z => absurd rfl z, fun _ => no (P := nx b len p) (by rw [tieS, if_pos c0, if_neg (by rw [u]; decide)]) x1' k1.2.1⟩)
    rw [y4]
    refine g118_45 _ _ ?_
    refine k_next (pos := nx b len (nx b len p)) hl bd1.2.2.1 k1.2.2.1 (x1'.tp ht) (fun m2 x2 k2 => ?_)
    have x2' : XdC μ m2 := x1'.tr x2.d
    have w2 := w1.x x2 hn
    rw [show m2 28 0 = wN w from w2.1, e1 _ hn]
    have F : ¬ ((tk b len (nx b len (nx b len p))).1 = 2 ∧ tv b len (nx b len (nx b len p)) < wN w ∧ tv b len (nx b len (nx b len p)) ≠ tv b len p ∧ wP w (tv b len p) (tv b len (nx b len (nx b len p))) = 0) → tieS b len w p = (false, nx b len (nx b len p), w) := fun c => by rw [tieS, if_pos c0, if_pos u, if_neg c]
    refine k_isNumber k2 (fun a1 a2 a3 a4 => ⟨fun z => absurd z (by decide), fun _ => ⟨fun c3 => no (F (fun c' => c'.2.2.1 (Int.ofNat.inj (a4.symm.trans c3)))) x2' k2.2.1, fun c3 => ⟨by omega, ?_⟩⟩⟩) (fun y => ⟨fun _ => no (F (fun c' => y ⟨c'.1, Int.natCast_nonneg _, Int.le_sub_one_of_lt (Int.ofNat_lt.mpr c'.2.1)⟩)) x2' k2.2.1, fun z => absurd rfl z⟩)
    have ht12 : tv b len (nx b len (nx b len p)) < 12 := by show (tk b len _).2.2.2 < 12; omega
    have htn : tv b len (nx b len (nx b len p)) < wN w := by show (tk b len _).2.2.2 < _; omega
    have ep : m2 (112 + (tk b len p).2.2.2) (tk b len (nx b len (nx b len p))).2.2.2 = wP w (tv b len p) (tv b len (nx b len (nx b len p))) := w2.2.2.2.2.2.2.1 _ _ hf ht12
    rw [a4, Int.toNat_natCast, Int.toNat_natCast]
    refine ⟨⟨hf, by omega, by omega⟩, fun c4 => ?_, fun c4 => no (F (fun c' => c4 (ep.trans c'.2.2.2))) x2' k2.2.1⟩
    have c5 : (tk b len (nx b len (nx b len p))).1 = 2 ∧ tv b len (nx b len (nx b len p)) < wN w ∧ tv b len (nx b len (nx b len p)) ≠ tv b len p ∧ wP w (tv b len p) (tv b len (nx b len (nx b len p))) = 0 := ⟨a1, htn, fun z => c3 (a4.trans (congrArg Int.ofNat z)), ep.symm.trans c4⟩
    refine g118_87 _ _ ?_
    refine k_next (pos := nx b len (nx b len (nx b len p))) hl bd2.2.2.1 k2.2.2.1 (x2'.tp ht) (fun m3 x3 k3 => ?_)
    have x3' : XdC μ m3 := x2'.tr x3.d
    have w3 := w2.x x3 hn
    refine k_isWord (d := d + 1) (by omega) hl (x3'.tp ht) k3 bd3.2.1 bd3.2.2.1 (fun u2 => ⟨fun _ => ?_, fun z => absurd z (by decide)⟩) (fun u2 => ⟨fun z => absurd rfl z, fun _ => no (P := nx b len (nx b len (nx b len p))) (by rw [tieS, if_pos c0, if_pos u, if_pos c5, if_neg (by rw [u2]; decide)]) x3' k3.2.1⟩)
    refine k_next (pos := nx b len (nx b len (nx b len (nx b len p)))) hl bd3.2.2.1 k3.2.2.1 (x3'.tp ht) (fun m4 x4 k4 => ?_)
    have x4' : XdC μ m4 := x3'.tr x4.d
    have w4 := w3.x x4 hn
    refine k_isNumber k4 (fun b1 b2 b3 b4 => ⟨fun _ => ?_, fun z => absurd z (by decide)⟩) (fun y => ⟨fun z => absurd rfl z, fun _ => no (P := nx b len (nx b len (nx b len (nx b len p)))) (by rw [tieS, if_pos c0, if_pos u, if_pos c5, if_pos u2, if_neg (fun c => y ⟨c.1, Int.ofNat_le.mpr c.2.1, Int.ofNat_le.mpr c.2.2⟩)]) x4' k4.2.1⟩)
    have e9 : tieS b len w p = (true, nx b len (nx b len (nx b len (nx b len (nx b len p)))), tieW w (tv b len p) (tv b len (nx b len (nx b len p))) (tv b len (nx b len (nx b len (nx b len (nx b len p)))))) := by rw [tieS, if_pos c0, if_pos u, if_pos c5, if_pos u2, if_pos ⟨b1, by show 1 ≤ (tk b len _).2.2.2; omega, by show (tk b len _).2.2.2 ≤ 99; omega⟩]
    rw [e9] at hok
    rw [a4, b4]
    have ep4 : m4 (112 + (tk b len p).2.2.2) (tk b len (nx b len (nx b len p))).2.2.2 = 0 := (w4.2.2.2.2.2.2.1 _ _ hf ht12).trans c5.2.2.2
    have h41 : m4 28 1 = wE w := w4.2.1
    refine g96d_e _ _ _ _ ⟨by omega, ?_⟩
    rw [Int.toNat_natCast, Int.toNat_natCast]
    refine ⟨⟨hf, by omega, by omega⟩, fun z => absurd ep4 z, fun _ => ⟨by omega, ⟨hf, by omega, by omega⟩, ?_⟩⟩
    rw [h41, wid (by omega) (by omega)]
    have x5 : XdC μ (mzS (mzS m4 28 1 (wE w + 1)) (112 + (tk b len p).2.2.2) (tk b len (nx b len (nx b len p))).2.2.2 ((tk b len (nx b len (nx b len (nx b len (nx b len p))))).2.2.2 : Int)) := (x4'.st (by omega)).st (by omega)
    refine k_next (pos := nx b len (nx b len (nx b len (nx b len (nx b len p))))) hl bd4.2.2.1 (by rw [S_ne (by omega), S_ne (by omega)]; exact k4.2.2.1) (x5.tp ht) (fun m5 x6 k5 => ⟨or10, hok rfl m5 (x5.tr x6.d) ((w4.tie hn hf ht12).x x6 hn) k5⟩)
  · rw [tieS, if_neg (fun c => c.1 (by omega))]
  · rw [tieS, if_neg (fun c => y ⟨c.2.1, Int.natCast_nonneg _, Int.le_sub_one_of_lt (Int.ofNat_lt.mpr c.2.2)⟩)]
/-- the class's text -/
theorem k_readText {d : Nat} {q : Int → mzM → Prop} {b : Nat → Int} {len : Nat} {w : Wd} {μ : mzM} (hl : len ≤ 120) (hW : WOk w) (ht : TpC μ b len) (hw : CW μ 2 w)
    (hyes : (itsS b len 121 0 w).1 = none → ∀ μ', XdC μ μ' → CW μ' 2 (itsS b len 121 0 w).2 → q (-1) μ')
    (hno : ∀ s, (itsS b len 121 0 w).1 = some s → ∀ μ', XdC μ μ' → q (s : Int) μ') : mzCl (d + 4) 116 [mzR 23, mzR 28] μ (mzQi q) := by
  have L : ∀ (f p i : Nat) (x2 : Int) (w1 : Wd) (m : mzM), len - p < f → p ≤ len → i ≤ p → x2 = i → WOk w1 → XdC μ m → TkC m (tk b len p) → CW m 2 w1 → itsS b len 121 0 w = itsS b len f p w1 → mzWp (d + 4) 116 11 [mzR 23, mzR 28, mzI x2, none] [] m (mzQi q) := by
    intro f
    induction f with
    | zero => intro p i x2 w1 m h; omega
    | succ f ih =>
      intro p i x2 w1 m hf hp hi hx hW1 x hk hw1 he
      subst hx
      have i1 := itS_ok (b := b) hp hW1
      have b1 := tk_bd (b := b) i1.1.1
      have good : (itS b len w1 p).1 = true → (tk b len (itS b len w1 p).2.1).1 ≠ 1 → ∀ m1, XdC m m1 → CW m1 2 (itS b len w1 p).2.2 → TkC m1 (tk b len (itS b len w1 p).2.1) → (m1 23 2 ≠ 0 → (m1 23 2 = 3 → mzCl (d + 3) 119 [mzR 23] m1 (mzQv fun m3 => mzWp (d + 4) 116 11 [mzR 23, mzR 28, mzI (mzW ((i : Int) + 1)), none] [] m3 (mzQi q))) ∧ (m1 23 2 ≠ 3 → q (m1 23 3) m1)) ∧ (m1 23 2 = 0 → q (-1) m1) := by
        intro ho h1 m1 y1 y2 y3
        refine ⟨fun z => ⟨fun z3 => ?_, fun z3 => ?_⟩, fun z => ?_⟩
        · have c5 : (tk b len (itS b len w1 p).2.1).1 = 3 := by have := y3.1; omega
          have p2 := b1.2.2.2.1 (by rw [c5]; decide)
          refine k_next (pos := nx b len (itS b len w1 p).2.1) hl b1.2.2.1 y3.2.2.1 ((x.tr y1).tp ht) (fun m3 a1 a2 => ih _ (i + 1) _ (itS b len w1 p).2.2 m3 ?_ b1.2.2.1 ?_ (by rw [wid (by omega) (by omega)]; omega) (i1.2 ho) ((x.tr y1).tr a1.d) a2 (y2.x a1 (i1.2 ho).1) ?_)
          · show len - nx b len _ < f
            unfold nx
            omega
          · show i + 1 ≤ nx b len _
            unfold nx
            omega
          · rw [he, itsS, if_pos ho, if_pos c5]
        · have c5 : (tk b len (itS b len w1 p).2.1).1 ≠ 3 := fun c => z3 (by rw [y3.1, c]; rfl)
          have c4 : (tk b len (itS b len w1 p).2.1).1 ≠ 0 := fun c => z (by rw [y3.1, c]; rfl)
          rw [y3.2.1]
          exact hno _ (by rw [he, itsS, if_pos ho, if_neg c5, if_neg c4]) m1 (x.tr y1)
        · have c4 : (tk b len (itS b len w1 p).2.1).1 = 0 := by have := y3.1; omega
          have e : itsS b len 121 0 w = (none, (itS b len w1 p).2.2) := by rw [he, itsS, if_pos ho, if_neg (by rw [c4]; decide), if_pos c4]
          rw [e] at hyes
          exact hyes rfl m1 (x.tr y1) y2
      have bad : ((itS b len w1 p).1 = false ∨ (tk b len (itS b len w1 p).2.1).1 = 1) → ∀ m1, XdC m m1 → m1 23 3 = (tk b len (itS b len w1 p).2.1).2.1 → q (m1 23 3) m1 := by
        intro ho m1 y1 y2
        rw [y2]
        refine hno _ ?_ m1 (x.tr y1)
        rw [he, itsS]
        by_cases c : (itS b len w1 p).1 = true
        · rcases ho with ho | ho
          · rw [ho] at c; exact absurd c (by decide)
          · rw [if_pos c, if_neg (by rw [ho]; decide), if_neg (by rw [ho]; decide)]
        · rw [if_neg c]
      refine g116_11 _ _ ⟨fun z => by omega, fun _ => ⟨fun z => ?_, fun z => ?_⟩⟩
      · have e : itS b len w1 p = plS b len w1 p := if_neg (fun c => z (by rw [hk.1, c]; rfl))
        rw [e] at good bad
        exact k_readPlace hl hp (x.tp ht) hk hw1 hW1 (fun g1 g2 m1 y1 y2 y3 => ⟨fun _ => good g1 g2 m1 y1 y2 y3, fun z => absurd z (by decide)⟩) (fun g m1 y1 y2 => ⟨fun z => absurd rfl z, fun _ => bad g m1 y1 y2⟩)
      · have e : itS b len w1 p = tieS b len w1 p := if_pos (by have := hk.1; omega)
        rw [e] at good bad
        refine k_readTie hl hp (x.tp ht) hk hw1 hW1 (fun g1 m1 y1 y2 y3 => ⟨fun _ => ?_, fun z => absurd z (by decide)⟩) (fun g m1 y1 y2 => ⟨fun z => absurd rfl z, fun _ => bad (Or.inl g) m1 y1 y2⟩)
        by_cases c : (tk b len (tieS b len w1 p).2.1).1 = 1
        · have := bad (Or.inr c) m1 y1 y3.2.1
          exact ⟨fun z => ⟨fun z3 => absurd (by rw [y3.1, c] at z3; exact z3) (by decide), fun _ => this⟩, fun z => absurd (by rw [y3.1, c] at z; exact z) (by decide)⟩
        · exact good g1 c m1 y1 y2 y3
  have x0 : XdC μ (mzS μ 23 4 0) := fun k j h1 _ _ _ => S_ne (by omega)
  have x0' : XtC μ (mzS μ 23 4 0) := XtC.rf.st (by omega)
  exact g116_e _ (k_next (pos := 0) hl (Nat.zero_le _) S_eq (x0.tp ht) (fun m1 x1 k1 => L 121 0 0 0 w m1 (by omega) (Nat.zero_le _) (Nat.zero_le _) rfl hW (x0.tr x1.d) k1 ((hw.x x0' hW.1).x x1 hW.1) rfl))
end
section
/-! THE CLASS: one world becomes another -/
theorem C_in {μ : mzM} {a b n j : Nat} (h : j < n) : mzCp μ a 0 b 0 n b j = μ a j := by
  unfold mzCp
  rw [if_pos ⟨rfl, Nat.zero_le _, by omega⟩]
  simp
theorem C_ne {μ : mzM} {a b n k j : Nat} (h : k ≠ b) : mzCp μ a 0 b 0 n k j = μ k j := by
  unfold mzCp
  rw [if_neg (fun c => h c.1)]
/-- the first i rows are there -/
def BeI (a b i : Nat) (μ m : mzM) : Prop := (∀ k j, ¬ isW a k → m k j = μ k j) ∧ (∀ j, j < 5 → m (26 + a) j = μ (26 + b) j) ∧ (∀ p t, p < i → t < 9 → m (52 + 12 * a + p) t = μ (52 + 12 * b + p) t) ∧ (∀ p t, p < i → t < 12 → m (88 + 12 * a + p) t = μ (88 + 12 * b + p) t)
theorem be_0 {a b : Nat} {μ : mzM} : BeI a b 0 μ (mzS (mzS (mzS (mzS (mzS μ (26 + a) 0 (μ (26 + b) 0)) (26 + a) 1 (μ (26 + b) 1)) (26 + a) 2 (μ (26 + b) 2)) (26 + a) 3 (μ (26 + b) 3)) (26 + a) 4 (μ (26 + b) 4)) := by
  refine ⟨fun k j hk => ?_, fun j hj => ?_, fun p t hp => absurd hp (Nat.not_lt_zero _), fun p t hp => absurd hp (Nat.not_lt_zero _)⟩
  · unfold isW at hk
    rw [S_ne (by omega), S_ne (by omega), S_ne (by omega), S_ne (by omega), S_ne (by omega)]
  · have c : j = 0 ∨ j = 1 ∨ j = 2 ∨ j = 3 ∨ j = 4 := by omega
    rcases c with rfl | rfl | rfl | rfl | rfl <;> simp [mzS]
theorem be_s {a b i : Nat} {μ m : mzM} (ha : a < 3) (hb : b < 3) (hab : a ≠ b) (hi : i < 12) (h : BeI a b i μ m) : BeI a b (i + 1) μ (mzCp (mzCp m (52 + 12 * b + i) 0 (52 + 12 * a + i) 0 9) (88 + 12 * b + i) 0 (88 + 12 * a + i) 0 12) := by
  obtain ⟨h1, h2, h3, h4⟩ := h
  refine ⟨fun k j hk => ?_, fun j hj => ?_, fun p t hp ht => ?_, fun p t hp ht => ?_⟩
  · have hk' := hk
    unfold isW at hk'
    rw [C_ne (by omega), C_ne (by omega)]
    exact h1 k j hk
  · rw [C_ne (by omega), C_ne (by omega)]; exact h2 j hj
  · rw [C_ne (by omega)]
    by_cases e : p = i
    · rw [e, C_in ht]
      exact h1 _ _ (by unfold isW; omega)
    · rw [C_ne (by omega)]; exact h3 p t (by omega) ht
  · by_cases e : p = i
    · rw [e, C_in ht, C_ne (by omega)]
      exact h1 _ _ (by unfold isW; omega)
    · rw [C_ne (by omega), C_ne (by omega)]; exact h4 p t (by omega) ht
theorem be_e {a b : Nat} {μ m : mzM} (ha : a < 3) (hb : b < 3) (hab : a ≠ b) (h : BeI a b 12 μ m) : (∀ k j, ¬ isW a k → mzCp (mzCp (mzCp m (35 + b) 0 (35 + a) 0 20) (38 + b) 0 (38 + a) 0 20) (41 + b) 0 (41 + a) 0 10 k j = μ k j) ∧ ∀ w, wN w ≤ 12 → wK w ≤ 20 → CW μ b w → CW (mzCp (mzCp (mzCp m (35 + b) 0 (35 + a) 0 20) (38 + b) 0 (38 + a) 0 20) (41 + b) 0 (41 + a) 0 10) a w := by
  obtain ⟨h1, h2, h3, h4⟩ := h
  refine ⟨fun k j hk => ?_, fun w hN hK hw => ?_⟩
  · have hk' := hk
    unfold isW at hk'
    rw [C_ne (by omega), C_ne (by omega), C_ne (by omega)]
    exact h1 k j hk
  · obtain ⟨g0, g1, g2, g3, g4, g5, g6, g7, g8⟩ := hw
    refine ⟨?_, ?_, ?_, ?_, ?_, fun p t hp ht => ?_, fun f t hf ht => ?_, fun i hi => ⟨?_, ?_⟩, fun i hi => ?_⟩
    · rw [C_ne (by omega), C_ne (by omega), C_ne (by omega), h2 _ (by omega)]; exact g0
    · rw [C_ne (by omega), C_ne (by omega), C_ne (by omega), h2 _ (by omega)]; exact g1
    · rw [C_ne (by omega), C_ne (by omega), C_ne (by omega), h2 _ (by omega)]; exact g2
    · rw [C_ne (by omega), C_ne (by omega), C_ne (by omega), h2 _ (by omega)]; exact g3
    · rw [C_ne (by omega), C_ne (by omega), C_ne (by omega), h2 _ (by omega)]; exact g4
    · rw [C_ne (by omega), C_ne (by omega), C_ne (by omega), h3 p t (by omega) ht]; exact g5 p t hp ht
    · rw [C_ne (by omega), C_ne (by omega), C_ne (by omega), h4 f t hf ht]; exact g6 f t hf ht
    · rw [C_ne (by omega), C_ne (by omega), C_in (by omega), h1 _ _ (by unfold isW; omega)]; exact (g7 i hi).1
    · rw [C_ne (by omega), C_in (by omega), C_ne (by omega), h1 _ _ (by unfold isW; omega)]; exact (g7 i hi).2
    · rw [C_in hi, C_ne (by omega), C_ne (by omega), h1 _ _ (by unfold isW; omega)]; exact g8 i hi
theorem k_become_a {d : Nat} {q : mzM → Prop} {μ : mzM} (h : ∀ μ', (∀ k j, ¬ isW 2 k → μ' k j = μ k j) → (∀ w, wN w ≤ 12 → wK w ≤ 20 → CW μ 0 w → CW μ' 2 w) → q μ') : mzCl (d + 1) 93 [mzR 28, mzR 26] μ (mzQv q) := by
  have L : ∀ (c i : Nat) (x2 : Int) (m : mzM), i + c = 12 → x2 = i → BeI 2 0 i μ m → mzWp (d + 1) 93 42 [mzR 28, mzR 26, mzI x2] [] m (mzQv q) := by
    intro c
    induction c with
    | zero =>
      intro i x2 m hi hx I
      have : i = 12 := by omega
      subst this
      have z := be_e (a := 2) (b := 0) (by omega) (by omega) (by omega) I
      exact g93a_42 _ _ ⟨fun _ => ⟨by omega, by omega, by omega, h _ z.1 z.2⟩, fun z => by omega⟩
    | succ c ih =>
      intro i x2 m hi hx I
      subst hx
      refine g93a_42 _ _ ⟨fun z => by omega, fun _ => ?_⟩
      rw [Int.toNat_natCast]
      have h12 : i < 12 := by omega
      exact ⟨⟨by omega, by omega⟩, ⟨by omega, by omega⟩, h12, h12, by omega, ⟨by omega, by omega⟩, ⟨by omega, by omega⟩, h12, h12, by omega, ih (i + 1) _ _ (by omega) (by rw [wid (by omega) (by omega)]; omega) (be_s (a := 2) (b := 0) (by omega) (by omega) (by omega) h12 I)⟩
  exact g93a_e _ (L 12 0 0 _ rfl rfl (be_0 (a := 2) (b := 0)))
theorem k_become_b {d : Nat} {q : mzM → Prop} {μ : mzM} (h : ∀ μ', (∀ k j, ¬ isW 0 k → μ' k j = μ k j) → (∀ w, wN w ≤ 12 → wK w ≤ 20 → CW μ 2 w → CW μ' 0 w) → q μ') : mzCl (d + 1) 93 [mzR 26, mzR 28] μ (mzQv q) := by
  have L : ∀ (c i : Nat) (x2 : Int) (m : mzM), i + c = 12 → x2 = i → BeI 0 2 i μ m → mzWp (d + 1) 93 42 [mzR 26, mzR 28, mzI x2] [] m (mzQv q) := by
    intro c
    induction c with
    | zero =>
      intro i x2 m hi hx I
      have : i = 12 := by omega
      subst this
      have z := be_e (a := 0) (b := 2) (by omega) (by omega) (by omega) I
      exact g93b_42 _ _ ⟨fun _ => ⟨by omega, by omega, by omega, h _ z.1 z.2⟩, fun z => by omega⟩
    | succ c ih =>
      intro i x2 m hi hx I
      subst hx
      refine g93b_42 _ _ ⟨fun z => by omega, fun _ => ?_⟩
      rw [Int.toNat_natCast]
      have h12 : i < 12 := by omega
      exact ⟨⟨by omega, by omega⟩, ⟨by omega, by omega⟩, h12, h12, by omega, ⟨by omega, by omega⟩, ⟨by omega, by omega⟩, h12, h12, by omega, ih (i + 1) _ _ (by omega) (by rw [wid (by omega) (by omega)]; omega) (be_s (a := 0) (b := 2) (by omega) (by omega) (by omega) h12 I)⟩
  exact g93b_e _ (L 12 0 0 _ rfl rfl (be_0 (a := 0) (b := 2)))
theorem k_become_c {d : Nat} {q : mzM → Prop} {μ : mzM} (h : ∀ μ', (∀ k j, ¬ isW 1 k → μ' k j = μ k j) → (∀ w, wN w ≤ 12 → wK w ≤ 20 → CW μ 0 w → CW μ' 1 w) → q μ') : mzCl (d + 1) 93 [mzR 27, mzR 26] μ (mzQv q) := by
  have L : ∀ (c i : Nat) (x2 : Int) (m : mzM), i + c = 12 → x2 = i → BeI 1 0 i μ m → mzWp (d + 1) 93 42 [mzR 27, mzR 26, mzI x2] [] m (mzQv q) := by
    intro c
    induction c with
    | zero =>
      intro i x2 m hi hx I
      have : i = 12 := by omega
      subst this
      have z := be_e (a := 1) (b := 0) (by omega) (by omega) (by omega) I
      exact g93c_42 _ _ ⟨fun _ => ⟨by omega, by omega, by omega, h _ z.1 z.2⟩, fun z => by omega⟩
    | succ c ih =>
      intro i x2 m hi hx I
      subst hx
      refine g93c_42 _ _ ⟨fun z => by omega, fun _ => ?_⟩
      rw [Int.toNat_natCast]
      have h12 : i < 12 := by omega
      exact ⟨⟨by omega, by omega⟩, ⟨by omega, by omega⟩, h12, h12, by omega, ⟨by omega, by omega⟩, ⟨by omega, by omega⟩, h12, h12, by omega, ih (i + 1) _ _ (by omega) (by rw [wid (by omega) (by omega)]; omega) (be_s (a := 1) (b := 0) (by omega) (by omega) (by omega) h12 I)⟩
  exact g93c_e _ (L 12 0 0 _ rfl rfl (be_0 (a := 1) (b := 0)))
theorem k_become_e {d : Nat} {q : mzM → Prop} {μ : mzM} (h : ∀ μ', (∀ k j, ¬ isW 0 k → μ' k j = μ k j) → (∀ w, wN w ≤ 12 → wK w ≤ 20 → CW μ 1 w → CW μ' 0 w) → q μ') : mzCl (d + 1) 93 [mzR 26, mzR 27] μ (mzQv q) := by
  have L : ∀ (c i : Nat) (x2 : Int) (m : mzM), i + c = 12 → x2 = i → BeI 0 1 i μ m → mzWp (d + 1) 93 42 [mzR 26, mzR 27, mzI x2] [] m (mzQv q) := by
    intro c
    induction c with
    | zero =>
      intro i x2 m hi hx I
      have : i = 12 := by omega
      subst this
      have z := be_e (a := 0) (b := 1) (by omega) (by omega) (by omega) I
      exact g93e_42 _ _ ⟨fun _ => ⟨by omega, by omega, by omega, h _ z.1 z.2⟩, fun z => by omega⟩
    | succ c ih =>
      intro i x2 m hi hx I
      subst hx
      refine g93e_42 _ _ ⟨fun z => by omega, fun _ => ?_⟩
      rw [Int.toNat_natCast]
      have h12 : i < 12 := by omega
      exact ⟨⟨by omega, by omega⟩, ⟨by omega, by omega⟩, h12, h12, by omega, ⟨by omega, by omega⟩, ⟨by omega, by omega⟩, h12, h12, by omega, ih (i + 1) _ _ (by omega) (by rw [wid (by omega) (by omega)]; omega) (be_s (a := 0) (b := 1) (by omega) (by omega) (by omega) h12 I)⟩
  exact g93e_e _ (L 12 0 0 _ rfl rfl (be_0 (a := 0) (b := 1)))
end
section
/-! THE CLASS'S world -/
def XwC (μ μ' : mzM) : Prop := ∀ k j, (k ≠ 23 ∨ j = 0 ∨ 5 < j) → ¬ isW 0 k → ¬ isW 2 k → μ' k j = μ k j
theorem XwC.tr {μ μ' μ'' : mzM} (h : XwC μ μ') (h2 : XwC μ' μ'') : XwC μ μ'' := fun a b h1 a2 a3 => (h2 a b h1 a2 a3).trans (h a b h1 a2 a3)
theorem XdC.w {μ μ' : mzM} (h : XdC μ μ') : XwC μ μ' := fun k j h1 h2 h3 => by unfold isW at h3; exact h k j (by omega) (by omega) (by omega) (by omega)
theorem k_world {d : Nat} {q : Int → mzM → Prop} {b : Nat → Int} {len : Nat} {w : Wd} {μ : mzM} (hl : len ≤ 120) (hW : WOk w) (ht : TpC μ b len) (hw : CW μ 0 w)
    (hyes : (itsS b len 121 0 w).1 = none → ∀ μ', XwC μ μ' → μ' 23 1 = 0 → CW μ' 0 (itsS b len 121 0 w).2 → q (wN (itsS b len 121 0 w).2) μ')
    (hno : ∀ s, (itsS b len 121 0 w).1 = some s → ∀ μ', XwC μ μ' → μ' 23 1 = 0 → CW μ' 0 w → q (-1 - (s : Int)) μ') : mzCl (d + 5) 131 [mzR 14] μ (mzQi q) := by
  refine g131_e _ (k_become_a (fun m1 h1 h2 => ?_))
  have x1 : XwC μ m1 := fun k j a1 a2 a3 => h1 k j a3
  have t1 : TpC m1 b len := ⟨by rw [h1 23 1 (by unfold isW; omega)]; exact ht.1, fun i hi => by rw [h1 24 i (by unfold isW; omega)]; exact ht.2 i hi⟩
  have w1 : CW m1 0 w := hw.cg hW.1 (fun k i hk => h1 k i (by unfold isW at hk ⊢; omega))
  refine k_readText hl hW t1 (h2 w hW.1 hW.2.2.2.1 hw) (fun g m2 y1 y2 => ⟨fun _ => ?_, fun z => absurd z (by decide)⟩) (fun s g m2 y1 => ⟨fun z => by omega, fun _ => ?_⟩)
  · have hW2 := (itsS_ok (b := b) (len := len) 121 0 w (Nat.zero_le _) hW).1 g
    have w2 : CW (mzS m2 23 1 0) 2 (itsS b len 121 0 w).2 := y2.cg hW2.1 (fun k i hk => S_ne (by unfold isW at hk; omega))
    refine k_become_b (fun m3 a1 a2 => ?_)
    have w3 := a2 _ hW2.1 hW2.2.2.2.1 w2
    have e : m3 26 0 = wN (itsS b len 121 0 w).2 := w3.1
    rw [e]
    refine hyes g m3 (fun k j b1 b2 b3 => ?_) ?_ w3
    · rw [a1 k j b2, S_ne (by omega)]; exact (x1.tr y1.w) k j b1 b2 b3
    · rw [a1 23 1 (by unfold isW; omega), S_eq]
  · have hs := (itsS_ok (b := b) (len := len) 121 0 w (Nat.zero_le _) hW).2 s g
    rw [wid (by omega) (by omega)]
    refine hno s g _ (fun k j b1 b2 b3 => ?_) S_eq (w1.cg hW.1 (fun k i hk => ?_))
    · rw [S_ne (by omega)]; exact (x1.tr y1.w) k j b1 b2 b3
    · unfold isW at hk
      rw [S_ne (by omega)]
      exact y1 k i (by omega) (by omega) (by omega) (by omega)
end
section
/-! THE YEARS: what both sides reckon -/
/-- the set of those below k that f takes -/
def mk : Nat → (Nat → Bool) → Nat
  | 0, _ => 0
  | k + 1, f => mk k f ||| if f k = true then 2 ^ k else 0
theorem mk_bit (n : Nat) (f : Nat → Bool) (p : Nat) : (mk n f).testBit p = (decide (p < n) && f p) := by
  induction n with
  | zero => unfold mk; simp
  | succ n ih =>
    unfold mk
    rw [Nat.testBit_or, ih]
    by_cases e : p = n
    · subst e
      cases h : f p
      · simp [h]
      · simp [h, Nat.testBit_two_pow_self]
    · cases h : f n
      · simp [h]
        by_cases c : p < n
        · simp [c, Nat.lt_succ_of_lt c]
        · simp [c, show ¬ p < n + 1 by omega]
      · rw [if_pos rfl, Nat.testBit_two_pow]
        have : decide (n = p) = false := decide_eq_false (fun z => e z.symm)
        rw [this, Bool.or_false]
        by_cases c : p < n
        · simp [c, Nat.lt_succ_of_lt c]
        · simp [c, show ¬ p < n + 1 by omega]
theorem mk_lt (n : Nat) (f : Nat → Bool) : mk n f < 2 ^ n := by
  refine Nat.lt_pow_two_of_testBit _ (fun i hi => ?_)
  rw [mk_bit, decide_eq_false (by omega)]
  rfl
theorem mk_cg {n : Nat} {f g : Nat → Bool} (h : ∀ p, p < n → f p = g p) : mk n f = mk n g := by
  refine Nat.eq_of_testBit_eq (fun i => ?_)
  rw [mk_bit, mk_bit]
  by_cases c : i < n
  · rw [h i c]
  · simp [c]
theorem nd_lt {a b m : Nat} (h : a < m) : nd a b < m := Nat.lt_of_le_of_lt (nd_le a b) h
theorem hB_mk (T : Nat → Nat → Int) (n : Nat) : hB T n = mk n (fun p => decide (T p 9 ≠ 0)) := by
  induction n with
  | zero => rfl
  | succ n ih =>
    unfold hB mk
    rw [ih]
    by_cases c : T n 9 = 0 <;> simp [c]
theorem hB_lt (T : Nat → Nat → Int) (n : Nat) : hB T n < 2 ^ n := by rw [hB_mk]; exact mk_lt _ _
theorem bit_lt {a n i : Nat} (h : a < 2 ^ n) (hi : n ≤ i) : a.testBit i = false := Nat.testBit_lt_two_pow (Nat.lt_of_lt_of_le h (Nat.pow_le_pow_right (by omega) hi))
/-- what p gets of those in s -/
def gtS (P : Nat → Nat → Int) (p s : Nat) : Nat → Int
  | 0 => 0
  | k + 1 => gtS P p s k + if s.testBit k = true then P k p else 0
theorem gtS_bd {P : Nat → Nat → Int} (h : ∀ f t, 0 ≤ P f t ∧ P f t ≤ 99) (p s : Nat) : ∀ k, 0 ≤ gtS P p s k ∧ gtS P p s k ≤ 99 * k := by
  intro k
  induction k with
  | zero => exact ⟨Int.le_refl _, by unfold gtS; omega⟩
  | succ k ih =>
    unfold gtS
    have := h k p
    split <;> omega
/-- how many of those in s give to p -/
def coS (P : Nat → Nat → Int) (p s : Nat) : Nat → Nat
  | 0 => 0
  | k + 1 => coS P p s k + if s.testBit k = true ∧ 0 < P k p then 1 else 0
theorem coS_le (P : Nat → Nat → Int) (p s : Nat) : ∀ k, coS P p s k ≤ k := by
  intro k
  induction k with
  | zero => exact Nat.le_refl _
  | succ k ih => unfold coS; split <;> omega
/-- a place's height with some bar -/
def heS (w : Wd) (p : Nat) (bar : Int) : Int := if wT w p 0 = 6 then (if bar / 2 < 1 then 1 else bar / 2) else if wT w p 0 = 5 then (if bar - 10 * wT w p 8 < 1 then 1 else bar - 10 * wT w p 8) else (if bar < 1 then 1 else bar)
def goS (w : Wd) (H : Nat → Int) (p s : Nat) : Bool := decide (H p ≤ gtS (wP w) p s (wN w)) && (decide (wT w p 0 ≠ 3) || decide (1 < coS (wP w) p s (wN w)))
def faS (w : Wd) (p s : Nat) : Bool := decide ((wT w p 0 = 2 ∨ (wT w p 0 = 5 ∧ wT w p 8 = 0)) ∧ gtS (wP w) p s (wN w) < wT w p 2)
abbrev St : Type := Nat × Nat × (Nat → Int)
def thS (h pu : Nat) (st : St) : Nat := st.1 ||| nd (nd pu h) st.2.1
def nwS (w : Wd) (H : Nat → Int) (h pu : Nat) (st : St) (p : Nat) : Int := if goS w H p (thS h pu st) = true then mzW (st.2.2 p + 1) else 0
/-- who is over behind the walk, who is on which way -/
def o1b (w : Wd) (H : Nat → Int) (h pu : Nat) (st : St) (p : Nat) : Bool := if (thS h pu st).testBit p = true then pu.testBit p || !faS w p (thS h pu st) else !(h ||| st.2.1).testBit p && decide (wT w p 3 < nwS w H h pu st p)
def o1S (w : Wd) (H : Nat → Int) (h pu : Nat) (st : St) : Nat := mk (wN w) (o1b w H h pu st)
def w1S (w : Wd) (H : Nat → Int) (h pu : Nat) (st : St) (p : Nat) : Int := if (thS h pu st).testBit p = true then (if (pu.testBit p || !faS w p (thS h pu st)) = true then st.2.2 p else 0) else if (h ||| st.2.1).testBit p = true then st.2.2 p else nwS w H h pu st p
/-- who is spoilt by those who came -/
def spS (w : Wd) (came : Nat) : Nat → Nat
  | 0 => 0
  | k + 1 => spS w came k ||| if wT w k 0 = 4 ∧ came.testBit k = true ∧ 0 ≤ wT w k 7 then 2 ^ (wT w k 7).toNat else 0
def yrS (w : Wd) (H : Nat → Int) (h pu : Nat) (st : St) : St := (nd (o1S w H h pu st) (spS w (nd (o1S w H h pu st) st.1) (wN w)), st.2.1 ||| spS w (nd (o1S w H h pu st) st.1) (wN w), fun p => if p < wN w then (if (spS w (nd (o1S w H h pu st) st.1) (wN w)).testBit p = true then 0 else w1S w H h pu st p) else st.2.2 p)
def ysS (w : Wd) (H : Nat → Int) (h : Nat) (pus : Nat → Nat) : Nat → St → St
  | 0, st => st
  | k + 1, st => yrS w H h (pus k) (ysS w H h pus k st)
def st0 : St := (0, 0, fun _ => 0)
def stS (w : Wd) (H : Nat → Int) (h set : Nat) : Nat := (ysS w H h (fun y => if y = 0 then set else 0) 24 st0).1
abbrev H0 (w : Wd) (p : Nat) : Int := heS w p (wT w p 1)
abbrev hw (w : Wd) : Nat := hB (wT w) (wN w)
/-- what always holds of a year's beginning -/
def YI (n : Nat) (st : St) : Prop := st.1 < 2 ^ n ∧ st.2.1 < 2 ^ n ∧ (∀ p, st.2.1.testBit p = true → st.1.testBit p = false) ∧ ∀ p, p < n → st.2.1.testBit p = true → st.2.2 p = 0
theorem st0_ok (n : Nat) : YI n st0 := ⟨Nat.pow_pos (by omega), Nat.pow_pos (by omega), fun p h => absurd h (by simp [st0]), fun p _ h => absurd h (by simp [st0])⟩
theorem spS_lt {w : Wd} (hW : WOk w) (came : Nat) : ∀ k, k ≤ wN w → spS w came k < 2 ^ wN w := by
  intro k
  induction k with
  | zero => intro _; exact Nat.pow_pos (by omega)
  | succ k ih =>
    intro hk
    unfold spS
    refine Nat.or_lt_two_pow (ih (by omega)) ?_
    split
    · rename_i c
      have := (hW.2.2.2.2.1 k (by omega) 7 (by omega)).2
      have e : thi (wN w) 7 = (wN w : Int) - 1 := by simp [thi]
      exact Nat.pow_lt_pow_right (by omega) (by omega)
    · exact Nat.pow_pos (by omega)
theorem yrS_ok {w : Wd} {H : Nat → Int} {h pu : Nat} {st : St} (hW : WOk w) (hy : YI (wN w) st) : YI (wN w) (yrS w H h pu st) := by
  obtain ⟨y1, y2, y3, y4⟩ := hy
  refine ⟨nd_lt (mk_lt _ _), Nat.or_lt_two_pow y2 (spS_lt hW _ _ (Nat.le_refl _)), fun p hp => ?_, fun p hn hp => ?_⟩
  · show (nd _ _).testBit p = false
    have hp2 : (st.2.1 ||| spS w (nd (o1S w H h pu st) st.1) (wN w)).testBit p = true := hp
    rw [nd_bit]
    rw [Nat.testBit_or] at hp2
    cases hs : (spS w (nd (o1S w H h pu st) st.1) (wN w)).testBit p with
    | true => simp
    | false =>
      rw [hs, Bool.or_false] at hp2
      have e : o1b w H h pu st p = false := by
        unfold o1b
        have : (thS h pu st).testBit p = false := by
          unfold thS
          rw [Nat.testBit_or, nd_bit, y3 p hp2, hp2]
          simp
        rw [this, Nat.testBit_or, hp2]
        simp
      unfold o1S
      rw [mk_bit, e]
      simp
  · show (if p < wN w then _ else _) = (0 : Int)
    have hp2 : (st.2.1 ||| spS w (nd (o1S w H h pu st) st.1) (wN w)).testBit p = true := hp
    rw [if_pos hn]
    rw [Nat.testBit_or] at hp2
    by_cases hs : (spS w (nd (o1S w H h pu st) st.1) (wN w)).testBit p = true
    · rw [if_pos hs]
    · rw [if_neg hs]
      have hd : st.2.1.testBit p = true := by simpa [hs] using hp2
      have : (thS h pu st).testBit p = false := by
        unfold thS
        rw [Nat.testBit_or, nd_bit, y3 p hd, hd]
        simp
      unfold w1S
      rw [this, if_neg (by decide), if_pos (by rw [Nat.testBit_or, hd]; simp)]
      exact y4 p hn hd
theorem ysS_ok {w : Wd} {H : Nat → Int} {h : Nat} {pus : Nat → Nat} (hW : WOk w) {st : St} (hy : YI (wN w) st) : ∀ k, YI (wN w) (ysS w H h pus k st) := by
  intro k
  induction k with
  | zero => exact hy
  | succ k ih => exact yrS_ok hW ih
theorem stS_lt {w : Wd} {H : Nat → Int} {h set : Nat} (hW : WOk w) : stS w H h set < 2 ^ wN w := (ysS_ok hW (st0_ok _) 24).1
end
section
/-! BOTH SIDES TOGETHER: what stays alike -/
def bc1 (a : Int) : Int := mzW (a - (mzAnd (mzUsh a 1) 1431655765))
def bc2 (x : Int) : Int := mzW ((mzAnd x 858993459) + (mzAnd (mzUsh x 2) 858993459))
def bc3 (x : Int) : Int := mzAnd (mzW (x + (mzUsh x 4))) 252645135
def bc4 (x : Int) : Int := mzW (x + (mzUsh x 8))
def bc5 (x : Int) : Int := mzAnd (mzW (x + (mzUsh x 16))) 63
theorem bc_all : ∀ i, i < 64 → ∀ j, j < 64 → bc5 (bc4 (bc3 (bc2 (bc1 ((64 * i + j : Nat) : Int))))) = (cnt (64 * i + j) 12 : Int) := by decide +kernel
theorem k_bitCount {d : Nat} {q : Int → mzM → Prop} {a : Nat} {μ : mzM} (ha : a < 4096) (h : q (cnt a 12) μ) : mzCl d 190 [mzI a] μ (mzQi q) := by
  refine g190_e _ _ ?_
  have e := bc_all (a / 64) (by omega) (a % 64) (by omega)
  rw [Nat.div_add_mod a 64] at e
  unfold bc5 bc4 bc3 bc2 bc1 at e
  rw [e]
  exact h
theorem nDiv2 : ∀ n, n < 100 → mzDiv ((n : Nat) : Int) 2 = ((n / 2 : Nat) : Int) := by decide +kernel
/-- what the model keeps besides m -/
def FR (μ : mzM) (w : Wd) : Prop := μ 0 4 = 0 ∨ (μ 0 4 = 1 ∧ ∀ s, s < 2 ^ wN w → μ 8 s = (stS w (H0 w) (hw w) s : Nat))
def MI (μ : mzM) (w : Wd) : Prop := MW μ 1 w ∧ FR μ w
def scM (k j : Nat) : Prop := k = 1 ∨ k = 3 ∨ k = 6 ∨ k = 7 ∨ k = 8 ∨ k = 9 ∨ k = 10 ∨ (k = 0 ∧ (j = 4 ∨ j = 13 ∨ j = 14 ∨ j = 15 ∨ j = 20 ∨ j = 21))
def scC (k : Nat) : Prop := k = 15 ∨ k = 16 ∨ k = 17 ∨ k = 18 ∨ k = 19 ∨ k = 22 ∨ (124 ≤ k ∧ k ≤ 147) ∨ isW 0 k
def FM (μ μ' : mzM) : Prop := ∀ k j, ¬ scM k j → μ' k j = μ k j
def FC (μ μ' : mzM) : Prop := ∀ k j, ¬ scC k → μ' k j = μ k j
theorem FM.rf {μ : mzM} : FM μ μ := fun _ _ _ => rfl
theorem FC.rf {μ : mzM} : FC μ μ := fun _ _ _ => rfl
theorem FM.tr {μ μ' μ'' : mzM} (h : FM μ μ') (h2 : FM μ' μ'') : FM μ μ'' := fun a b h1 => (h2 a b h1).trans (h a b h1)
theorem FC.tr {μ μ' μ'' : mzM} (h : FC μ μ') (h2 : FC μ' μ'') : FC μ μ'' := fun a b h1 => (h2 a b h1).trans (h a b h1)
theorem FM.st {μ μ' : mzM} {k j : Nat} {v : Int} (h : FM μ μ') (hs : scM k j) : FM μ (mzS μ' k j v) := fun a b h1 => by
  have : a ≠ k ∨ b ≠ j := by
    by_cases c : a = k ∧ b = j
    · rw [c.1, c.2] at h1; exact absurd hs h1
    · omega
  rw [S_ne this]; exact h a b h1
theorem FC.st {μ μ' : mzM} {k j : Nat} {v : Int} (h : FC μ μ') (hs : scC k) : FC μ (mzS μ' k j v) := fun a b h1 => by
  have : a ≠ k := fun c => by rw [c] at h1; exact absurd hs h1
  rw [S_ne (Or.inl this)]; exact h a b h1
theorem MI.cg {μ μ' : mzM} {w : Wd} (h : MI μ w) (h0 : μ' 0 4 = μ 0 4) (h1 : ∀ j, μ' 1 j = μ 1 j) (h8 : ∀ j, μ' 8 j = μ 8 j) : MI μ' w := ⟨h.1.cg h1, by
  have := h.2
  unfold FR at this ⊢
  simp only [h0, h8]
  exact this⟩
theorem MI.c {μ μ' : mzM} {w : Wd} (h : MI μ w) (f : FC μ μ') : MI μ' w := h.cg (f 0 4 (by unfold scC isW; omega)) (fun j => f 1 j (by unfold scC isW; omega)) (fun j => f 8 j (by unfold scC isW; omega))
theorem CW.m {μ μ' : mzM} {w : Wd} (h : CW μ 0 w) (hN : wN w ≤ 12) (f : FM μ μ') : CW μ' 0 w := h.cg hN fun k i hk => f k i (by unfold isW at hk; unfold scM; omega)
/-- kept images, tape, sheets -/
def KpOk (μ : mzM) : Prop := μ 0 2 = μ 14 7 ∧ (μ 0 2 = 0 ∨ (μ 0 2 = 1 ∧ ∃ k, WOk k ∧ MW μ 2 k ∧ CW μ 1 k))
def TapeOk (μ : mzM) : Prop := ∃ len : Nat, len ≤ 120 ∧ μ 0 6 = len ∧ μ 23 1 = len ∧ ∀ i, i < len → μ 4 i = μ 24 i
def ShOk (μ : mzM) : Prop := ∀ s, s < 4 → μ 11 s = μ (44 + s) 0 ∧ μ 12 s = μ (44 + s) 1 ∧ (0 ≤ μ 12 s ∧ μ 12 s ≤ 40) ∧ (μ 11 s = 0 ∨ μ 11 s = 8 ∨ μ 11 s = 16 ∨ μ 11 s = 32) ∧ ∀ i, i < 40 → μ 13 (40 * s + i) = μ (48 + s) i
def RW (μ : mzM) (w : Wd) : Prop := WOk w ∧ MI μ w ∧ CW μ 0 w ∧ KpOk μ ∧ TapeOk μ ∧ ShOk μ
theorem KpOk.cg {μ μ' : mzM} (h : KpOk μ) (e : ∀ k j, (k = 2 ∨ isW 1 k ∨ (k = 0 ∧ j = 2) ∨ (k = 14 ∧ j = 7)) → μ' k j = μ k j) : KpOk μ' := by
  obtain ⟨h1, h2⟩ := h
  refine ⟨by rw [e 0 2 (by omega), e 14 7 (by omega)]; exact h1, ?_⟩
  rw [e 0 2 (by omega)]
  rcases h2 with h2 | ⟨h2, k, a1, a2, a3⟩
  · exact Or.inl h2
  · exact Or.inr ⟨h2, k, a1, a2.cg fun j => e 2 j (by omega), a3.cg a1.1 fun k i hk => e k i (Or.inr (Or.inl hk))⟩
theorem TapeOk.cg {μ μ' : mzM} (h : TapeOk μ) (e : ∀ k j, ((k = 0 ∧ j = 6) ∨ (k = 23 ∧ j = 1) ∨ k = 4 ∨ k = 24) → μ' k j = μ k j) : TapeOk μ' := by
  obtain ⟨len, h1, h2, h3, h4⟩ := h
  exact ⟨len, h1, by rw [e 0 6 (by omega)]; exact h2, by rw [e 23 1 (by omega)]; exact h3, fun i hi => by rw [e 4 i (by omega), e 24 i (by omega)]; exact h4 i hi⟩
theorem ShOk.cg {μ μ' : mzM} (h : ShOk μ) (e : ∀ k j, (k = 11 ∨ k = 12 ∨ k = 13 ∨ (44 ≤ k ∧ k ≤ 51)) → μ' k j = μ k j) : ShOk μ' := by
  intro s hs
  obtain ⟨h1, h2, h3, h4, h5⟩ := h s hs
  refine ⟨?_, ?_, ?_, ?_, fun i hi => ?_⟩
  · rw [e 11 s (by omega), e _ 0 (by omega)]; exact h1
  · rw [e 12 s (by omega), e _ 1 (by omega)]; exact h2
  · rw [e 12 s (by omega)]; exact h3
  · rw [e 11 s (by omega)]; exact h4
  · rw [e 13 _ (by omega), e _ i (by omega)]; exact h5 i hi
theorem RW.st {μ m1 m2 : mzM} {w w' : Wd} (R : RW μ w) (hW : WOk w') (f1 : FC μ m1) (c : CW m1 0 w') (f2 : FM m1 m2) (m : MI m2 w') : RW m2 w' := by
  obtain ⟨-, -, -, r4, r5, r6⟩ := R
  have e : ∀ k j, ¬ scM k j → ¬ scC k → m2 k j = μ k j := fun k j a1 a2 => (f2 k j a1).trans (f1 k j a2)
  exact ⟨hW, m, c.m hW.1 f2, r4.cg fun k j h => e k j (by unfold scM isW at *; omega) (by unfold scC isW at *; omega), r5.cg fun k j h => e k j (by unfold scM; omega) (by unfold scC isW; omega), r6.cg fun k j h => e k j (by unfold scM; omega) (by unfold scC isW; omega)⟩
/-- a pair of calls, each with its answer and its world -/
theorem pair {d yc ym : Nat} {ac am : List mzV} {μ : mzM} {w : Wd} {q : Int → Int → mzM → Prop} (S : Int × Wd) (R : RW μ w) (hS : WOk S.2)
    (kc : ∀ q' : Int → mzM → Prop, (∀ μ', FC μ μ' → CW μ' 0 S.2 → q' S.1 μ') → mzCl d yc ac μ (mzQi q'))
    (cm : ∀ (m1 : mzM) (q' : Int → mzM → Prop), FC μ m1 → MI m1 w → (∀ μ', FM m1 μ' → MI μ' S.2 → q' S.1 μ') → mzCl d ym am m1 (mzQi q'))
    (h : ∀ a μ' w', RW μ' w' → q a a μ') : mzCl d yc ac μ (mzQi fun a m1 => mzCl d ym am m1 (mzQi fun c m2 => q a c m2)) :=
  kc _ fun m1 f1 c1 => cm m1 _ f1 (R.2.1.c f1) fun m2 f2 i2 => h _ m2 S.2 (R.st hS f1 c1 f2 i2)
/-- the same, the answers not alike -/
theorem pair' {d yc ym : Nat} {ac am : List mzV} {μ : mzM} {w : Wd} {q : Int → Int → mzM → Prop} (w2 : Wd) (R : RW μ w) (hS : WOk w2)
    (kc : ∀ q' : Int → mzM → Prop, (∀ a μ', FC μ μ' → CW μ' 0 w2 → q' a μ') → mzCl d yc ac μ (mzQi q'))
    (cm : ∀ (m1 : mzM) (q' : Int → mzM → Prop), FC μ m1 → MI m1 w → (∀ a μ', FM m1 μ' → MI μ' w2 → q' a μ') → mzCl d ym am m1 (mzQi q'))
    (h : ∀ a c μ' w', RW μ' w' → q a c μ') : mzCl d yc ac μ (mzQi fun a m1 => mzCl d ym am m1 (mzQi fun c m2 => q a c m2)) :=
  kc _ fun a m1 f1 c1 => cm m1 _ f1 (R.2.1.c f1) fun c m2 f2 i2 => h _ _ m2 w2 (R.st hS f1 c1 f2 i2)
-- findings
theorem c_fd {d : Nat} {q : Int → mzM → Prop} {f : Int} {μ : mzM} {w : Wd} (hf : -1000007 ≤ f ∧ f ≤ -1000001) (I : MI μ w) (h : ∀ μ', FM μ μ' → MI μ' w → q f μ') : mzCl d 1 [mzR 0, mzI f] μ (mzQi q) :=
  c_finds hf fun v j => h _ (FM.rf.st (by unfold scM; omega)) (I.cg (S_ne (by omega)) (fun _ => S_ne (by omega)) (fun _ => S_ne (by omega)))
theorem k_fd {d : Nat} {q : Int → mzM → Prop} {f : Int} {μ : mzM} {w : Wd} (hf : -1000007 ≤ f ∧ f ≤ -1000001) (hN : wN w ≤ 12) (C : CW μ 0 w) (h : ∀ μ', FC μ μ' → CW μ' 0 w → q f μ') : mzCl d 173 [mzR 14, mzI f] μ (mzQi q) := by
  have e : mzW (-1000001 - f) = -1000001 - f := wid (by omega) (by omega)
  refine g173_e _ _ ?_
  rw [e]
  exact ⟨fun z => by omega, fun _ => ⟨fun z => by omega, fun z => ⟨by omega, by omega, h _ (FC.rf.st (by unfold scC; omega)) (C.cg hN fun k i hk => S_ne (by unfold isW at hk; omega))⟩⟩⟩
theorem k_isPlace {d : Nat} {q : Int → mzM → Prop} {a : Int} {n : Nat} {μ : mzM} (hn : μ 26 0 = n) (h1 : 0 ≤ a → a < n → q 1 μ) (h0 : a < 0 ∨ (n : Int) ≤ a → q 0 μ) : mzCl d 174 [mzR 14, mzI a] μ (mzQi q) :=
  g174_e _ _ ⟨fun z => ⟨or00, h0 (Or.inl z)⟩, fun z => ⟨fun z2 => ⟨or00, h0 (by omega)⟩, fun z2 => ⟨or10, h1 z (by omega)⟩⟩⟩
theorem k_all {d : Nat} {q : Int → mzM → Prop} {n : Nat} {μ : mzM} (hn : μ 26 0 = n) (hn2 : n ≤ 12) (h : q ((2 ^ n - 1 : Nat) : Int) μ) : mzCl d 94 [mzR 26] μ (mzQi q) := by
  refine g94_e _ ?_
  have h1 := pow12 hn2
  have h2 : 0 < 2 ^ n := Nat.pow_pos (by omega)
  have e : mzW (mzShl 1 (μ 26 0) - 1) = ((2 ^ n - 1 : Nat) : Int) := by
    rw [hn, nPow (by omega), wid (by omega) (by omega)]
    omega
  rw [e]
  exact h
theorem k_isSet {d : Nat} {q : Int → mzM → Prop} {a : Int} {n : Nat} {μ : mzM} (hn : μ 26 0 = n) (hn2 : n ≤ 12) (h1 : ∀ s : Nat, a = s → s < 2 ^ n → q 1 μ) (h0 : a < 0 ∨ ((2 ^ n : Nat) : Int) ≤ a → q 0 μ) : mzCl (d + 1) 175 [mzR 14, mzI a] μ (mzQi q) := by
  have h2 : 0 < 2 ^ n := Nat.pow_pos (by omega)
  exact g175_e _ _ ⟨fun z => ⟨or00, h0 (Or.inl z)⟩, fun z => k_all hn hn2 ⟨fun z2 => ⟨or00, h0 (by omega)⟩, fun z2 => ⟨or10, h1 a.toNat (by omega) (by omega)⟩⟩⟩
end
section
/-! SMALL CHANGES OF A WORLD -/
def setT (w : Wd) (p t : Nat) (v : Int) : Wd := (wN w, (fun a c => if a = p ∧ c = t then v else wT w a c), w.2.2)
def setP (w : Wd) (f t : Nat) (v e : Int) : Wd := (wN w, wT w, (fun a c => if a = f ∧ c = t then v else wP w a c), e, w.2.2.2.2)
def addPu (w : Wd) (y l : Int) : Wd := (wN w, wT w, wP w, wE w, wK w + 1, (fun i => if i = wK w then y else wY w i), (fun i => if i = wK w then l else wL w i), wZ w, wS w)
def noPu (w : Wd) : Wd := (wN w, wT w, wP w, wE w, 0, wY w, wL w, wZ w, wS w)
def setZ (w : Wd) (z : Int) : Wd := (wN w, wT w, wP w, wE w, wK w, wY w, wL w, z, wS w)
def setS (w : Wd) (i : Nat) (v : Int) : Wd := (wN w, wT w, wP w, wE w, wK w, wY w, wL w, wZ w, fun a => if a = i then v else wS w a)
theorem spS_r {n : Nat} {T P : Nat → Nat → Int} {r r' : Int × Nat × (Nat → Int) × (Nat → Int) × Int × (Nat → Int)} (came : Nat) : ∀ k, spS (n, T, P, r) came k = spS (n, T, P, r') came k := by
  intro k
  induction k with
  | zero => rfl
  | succ k ih => unfold spS; rw [ih]
theorem yrS_r {n : Nat} {T P : Nat → Nat → Int} {r r' : Int × Nat × (Nat → Int) × (Nat → Int) × Int × (Nat → Int)} {H : Nat → Int} {h pu : Nat} {st : St} : yrS (n, T, P, r) H h pu st = yrS (n, T, P, r') H h pu st := by
  unfold yrS
  rw [spS_r (r' := r')]
  rfl
theorem ysS_r {n : Nat} {T P : Nat → Nat → Int} {r r' : Int × Nat × (Nat → Int) × (Nat → Int) × Int × (Nat → Int)} {H : Nat → Int} {h : Nat} {pus : Nat → Nat} {st : St} : ∀ k, ysS (n, T, P, r) H h pus k st = ysS (n, T, P, r') H h pus k st := by
  intro k
  induction k with
  | zero => rfl
  | succ k ih =>
    unfold ysS
    rw [ih]
    exact yrS_r
theorem stS_r (w w' : Wd) (h0 : w'.1 = w.1) (h1 : w'.2.1 = w.2.1) (h2 : w'.2.2.1 = w.2.2.1) (s : Nat) : stS w' (H0 w') (hw w') s = stS w (H0 w) (hw w) s := by
  obtain ⟨n, T, P, r⟩ := w
  obtain ⟨n', T', P', r'⟩ := w'
  simp only at h0 h1 h2
  subst h0 h1 h2
  unfold stS
  rw [ysS_r (r' := r)]
  rfl
theorem FR.r {μ μ' : mzM} {w w' : Wd} (h : FR μ w) (h0 : w'.1 = w.1) (h1 : w'.2.1 = w.2.1) (h2 : w'.2.2.1 = w.2.2.1) (e0 : μ' 0 4 = μ 0 4) (e8 : ∀ j, μ' 8 j = μ 8 j) : FR μ' w' := by
  unfold FR at h ⊢
  rw [e0]
  rcases h with h | ⟨h, h3⟩
  · exact Or.inl h
  · refine Or.inr ⟨h, fun s hs => ?_⟩
    rw [e8, stS_r w w' h0 h1 h2]
    have hN : wN w' = wN w := h0
    rw [hN] at hs
    exact h3 s hs
-- the reference's row of numbers
theorem MW.setT {μ : mzM} {w : Wd} {p t : Nat} {v : Int} (h : MW μ 1 w) (hN : wN w ≤ 12) (hp : p < 12) (ht : t < 10) : MW (mzS μ 1 (4 + 10 * p + t) v) 1 (setT w p t v) := by
  obtain ⟨h0, h1, h2, h3, h4, h5, h6, h7⟩ := h
  refine ⟨?_, ?_, ?_, ?_, fun p' t' hp' ht' => ?_, fun f t' hf ht' => ?_, fun i hi => ⟨?_, ?_⟩, fun i hi => ?_⟩
  · rw [S_ne (by omega)]; exact h0
  · rw [S_ne (by omega)]; exact h1
  · rw [S_ne (by omega)]; exact h2
  · rw [S_ne (by omega)]; exact h3
  · show _ = if p' = p ∧ t' = t then v else wT w p' t'
    have hp2 : p' < wN w := hp'
    by_cases e : p' = p ∧ t' = t
    · rw [if_pos e, e.1, e.2, S_eq]
    · rw [if_neg e, S_ne (by omega)]; exact h4 p' t' hp' ht'
  · rw [S_ne (by omega)]; exact h5 f t' hf ht'
  · rw [S_ne (by omega)]; exact (h6 i hi).1
  · rw [S_ne (by omega)]; exact (h6 i hi).2
  · rw [S_ne (by omega)]; exact h7 i hi
theorem MW.setP {μ : mzM} {w : Wd} {f t : Nat} {v e : Int} (h : MW μ 1 w) (hN : wN w ≤ 12) (hf : f < 12) (ht : t < 12) : MW (mzS (mzS μ 1 1 e) 1 (124 + 12 * f + t) v) 1 (setP w f t v e) := by
  obtain ⟨g0, g1, g2, g3, g4, g5, g6, g7⟩ := h
  refine ⟨?_, ?_, ?_, ?_, fun p t' hp ht' => ?_, fun f' t' hf' ht' => ?_, fun i hi => ⟨?_, ?_⟩, fun i hi => ?_⟩
  · rw [S_ne (by omega), S_ne (by omega)]; exact g0
  · rw [S_ne (by omega)]; exact S_eq
  · rw [S_ne (by omega), S_ne (by omega)]; exact g2
  · rw [S_ne (by omega), S_ne (by omega)]; exact g3
  · have hp2 : p < wN w := hp
    rw [S_ne (by omega), S_ne (by omega)]; exact g4 p t' hp ht'
  · have hf2 : f' < wN w := hf'
    have ht2 : t' < wN w := ht'
    show _ = if f' = f ∧ t' = t then v else wP w f' t'
    by_cases c : f' = f ∧ t' = t
    · rw [if_pos c, c.1, c.2, S_eq]
    · rw [if_neg c, S_ne (by omega), S_ne (by omega)]; exact g5 f' t' hf' ht'
  · rw [S_ne (by omega), S_ne (by omega)]; exact (g6 i hi).1
  · rw [S_ne (by omega), S_ne (by omega)]; exact (g6 i hi).2
  · rw [S_ne (by omega), S_ne (by omega)]; exact g7 i hi
theorem MW.addPu {μ : mzM} {w : Wd} {y l : Int} (h : MW μ 1 w) (hN : wN w ≤ 12) (hK : wK w < 20) : MW (mzS (mzS (mzS μ 1 (268 + 2 * wK w) y) 1 (268 + 2 * wK w + 1) l) 1 2 ((wK w + 1 : Nat) : Int)) 1 (addPu w y l) := by
  obtain ⟨g0, g1, g2, g3, g4, g5, g6, g7⟩ := h
  refine ⟨?_, ?_, S_eq, ?_, fun p t' hp ht' => ?_, fun f' t' hf' ht' => ?_, fun i hi => ⟨?_, ?_⟩, fun i hi => ?_⟩
  · rw [S_ne (by omega), S_ne (by omega), S_ne (by omega)]; exact g0
  · rw [S_ne (by omega), S_ne (by omega), S_ne (by omega)]; exact g1
  · rw [S_ne (by omega), S_ne (by omega), S_ne (by omega)]; exact g3
  · have hp2 : p < wN w := hp
    rw [S_ne (by omega), S_ne (by omega), S_ne (by omega)]; exact g4 p t' hp ht'
  · have hf2 : f' < wN w := hf'
    have ht2 : t' < wN w := ht'
    rw [S_ne (by omega), S_ne (by omega), S_ne (by omega)]; exact g5 f' t' hf' ht'
  · have hi2 : i < wK w + 1 := hi
    show _ = if i = wK w then y else wY w i
    by_cases c : i = wK w
    · rw [if_pos c, c, S_ne (by omega), S_ne (by omega), S_eq]
    · rw [if_neg c, S_ne (by omega), S_ne (by omega), S_ne (by omega)]; exact (g6 i (by omega)).1
  · have hi2 : i < wK w + 1 := hi
    show _ = if i = wK w then l else wL w i
    by_cases c : i = wK w
    · rw [if_pos c, c, S_ne (by omega), S_eq]
    · rw [if_neg c, S_ne (by omega), S_ne (by omega), S_ne (by omega)]; exact (g6 i (by omega)).2
  · rw [S_ne (by omega), S_ne (by omega), S_ne (by omega)]; exact g7 i hi
theorem MW.noPu {μ : mzM} {w : Wd} (h : MW μ 1 w) : MW (mzS μ 1 2 0) 1 (noPu w) := by
  obtain ⟨g0, g1, g2, g3, g4, g5, g6, g7⟩ := h
  refine ⟨?_, ?_, S_eq, ?_, fun p t' hp ht' => ?_, fun f' t' hf' ht' => ?_, fun i hi => absurd hi (Nat.not_lt_zero i), fun i hi => ?_⟩
  · rw [S_ne (by omega)]; exact g0
  · rw [S_ne (by omega)]; exact g1
  · rw [S_ne (by omega)]; exact g3
  · rw [S_ne (by omega)]; exact g4 p t' hp ht'
  · rw [S_ne (by omega)]; exact g5 f' t' hf' ht'
  · rw [S_ne (by omega)]; exact g7 i hi
theorem MW.setZ {μ : mzM} {w : Wd} {z : Int} (h : MW μ 1 w) : MW (mzS μ 1 3 z) 1 (setZ w z) := by
  obtain ⟨g0, g1, g2, g3, g4, g5, g6, g7⟩ := h
  refine ⟨?_, ?_, ?_, S_eq, fun p t' hp ht' => ?_, fun f' t' hf' ht' => ?_, fun i hi => ⟨?_, ?_⟩, fun i hi => ?_⟩
  · rw [S_ne (by omega)]; exact g0
  · rw [S_ne (by omega)]; exact g1
  · rw [S_ne (by omega)]; exact g2
  · rw [S_ne (by omega)]; exact g4 p t' hp ht'
  · rw [S_ne (by omega)]; exact g5 f' t' hf' ht'
  · rw [S_ne (by omega)]; exact (g6 i hi).1
  · rw [S_ne (by omega)]; exact (g6 i hi).2
  · rw [S_ne (by omega)]; exact g7 i hi
theorem MW.setS {μ : mzM} {w : Wd} {i : Nat} {v : Int} (h : MW μ 1 w) (hN : wN w ≤ 12) (hK : wK w ≤ 20) : MW (mzS μ 1 (308 + i) v) 1 (setS w i v) := by
  obtain ⟨g0, g1, g2, g3, g4, g5, g6, g7⟩ := h
  refine ⟨?_, ?_, ?_, ?_, fun p t' hp ht' => ?_, fun f' t' hf' ht' => ?_, fun a ha => ⟨?_, ?_⟩, fun a ha => ?_⟩
  · rw [S_ne (by omega)]; exact g0
  · rw [S_ne (by omega)]; exact g1
  · rw [S_ne (by omega)]; exact g2
  · rw [S_ne (by omega)]; exact g3
  · have hp2 : p < wN w := hp
    rw [S_ne (by omega)]; exact g4 p t' hp ht'
  · have hf2 : f' < wN w := hf'
    have ht2 : t' < wN w := ht'
    rw [S_ne (by omega)]; exact g5 f' t' hf' ht'
  · have ha2 : a < wK w := ha
    rw [S_ne (by omega)]; exact (g6 a ha).1
  · have ha2 : a < wK w := ha
    rw [S_ne (by omega)]; exact (g6 a ha).2
  · show _ = if a = i then v else wS w a
    by_cases c : a = i
    · rw [if_pos c, c, S_eq]
    · rw [if_neg c, S_ne (by omega)]; exact g7 a ha
-- the class's world
theorem CW.setT {μ : mzM} {w : Wd} {p t : Nat} {v : Int} (h : CW μ 0 w) (hN : wN w ≤ 12) (hp : p < 12) (ht : t < 9) : CW (mzS μ (52 + p) t v) 0 (setT w p t v) := by
  obtain ⟨h0, h1, h2, h3, h4, h5, h6, h7, h8⟩ := h
  refine ⟨?_, ?_, ?_, ?_, ?_, fun p' t' hp' ht' => ?_, fun f t' hf ht' => ?_, fun i hi => ⟨?_, ?_⟩, fun i hi => ?_⟩
  · rw [S_ne (by omega)]; exact h0
  · rw [S_ne (by omega)]; exact h1
  · rw [S_ne (by omega)]; exact h2
  · rw [S_ne (by omega), h3]
    exact congrArg _ (hB_cg (fun a ha => by show wT w a 9 = if a = p ∧ 9 = t then v else wT w a 9; rw [if_neg (by omega)]))
  · rw [S_ne (by omega)]; exact h4
  · have hp2 : p' < wN w := hp'
    show _ = if p' = p ∧ t' = t then v else wT w p' t'
    by_cases c : p' = p ∧ t' = t
    · rw [if_pos c, c.1, c.2, show 52 + 12 * 0 + p = 52 + p by omega, S_eq]
    · rw [if_neg c, S_ne (by omega)]; exact h5 p' t' hp' ht'
  · rw [S_ne (by omega)]; exact h6 f t' hf ht'
  · rw [S_ne (by omega)]; exact (h7 i hi).1
  · rw [S_ne (by omega)]; exact (h7 i hi).2
  · rw [S_ne (by omega)]; exact h8 i hi
theorem CW.setP {μ : mzM} {w : Wd} {f t : Nat} {v e : Int} (h : CW μ 0 w) (hN : wN w ≤ 12) (hf : f < 12) : CW (mzS (mzS μ 26 1 e) (88 + f) t v) 0 (setP w f t v e) := by
  obtain ⟨h0, h1, h2, h3, h4, h5, h6, h7, h8⟩ := h
  refine ⟨?_, ?_, ?_, ?_, ?_, fun p' t' hp' ht' => ?_, fun f' t' hf' ht' => ?_, fun i hi => ⟨?_, ?_⟩, fun i hi => ?_⟩
  · rw [S_ne (by omega), S_ne (by omega)]; exact h0
  · rw [S_ne (by omega)]; exact S_eq
  · rw [S_ne (by omega), S_ne (by omega)]; exact h2
  · rw [S_ne (by omega), S_ne (by omega)]; exact h3
  · rw [S_ne (by omega), S_ne (by omega)]; exact h4
  · have hp2 : p' < wN w := hp'
    rw [S_ne (by omega), S_ne (by omega)]; exact h5 p' t' hp' ht'
  · show _ = if f' = f ∧ t' = t then v else wP w f' t'
    by_cases c : f' = f ∧ t' = t
    · rw [if_pos c, c.1, c.2, show 88 + 12 * 0 + f = 88 + f by omega, S_eq]
    · rw [if_neg c, S_ne (by omega), S_ne (by omega)]; exact h6 f' t' hf' ht'
  · rw [S_ne (by omega), S_ne (by omega)]; exact (h7 i hi).1
  · rw [S_ne (by omega), S_ne (by omega)]; exact (h7 i hi).2
  · rw [S_ne (by omega), S_ne (by omega)]; exact h8 i hi
/-- one number of the world's own, or one of its rows, is another -/
theorem CW.put {μ : mzM} {w w' : Wd} {k j : Nat} {v : Int} (h : CW μ 0 w) (hk : k = 26 ∨ k = 35 ∨ k = 38 ∨ k = 41) (h0 : mzS μ k j v 26 0 = wN w') (h1 : mzS μ k j v 26 1 = wE w') (h2 : mzS μ k j v 26 2 = wK w') (h3 : mzS μ k j v 26 3 = (hB (wT w') (wN w') : Nat)) (h4 : mzS μ k j v 26 4 = wZ w')
    (hN : wN w' = wN w) (hN12 : wN w ≤ 12) (hT : ∀ p t, t < 9 → wT w' p t = wT w p t) (hP : ∀ f t, wP w' f t = wP w f t) (h7 : ∀ i, i < wK w' → mzS μ k j v 35 i = wY w' i ∧ mzS μ k j v 38 i = wL w' i) (h8 : ∀ i, i < 10 → mzS μ k j v 41 i = wS w' i) : CW (mzS μ k j v) 0 w' := by
  obtain ⟨-, -, -, -, -, g5, g6, -, -⟩ := h
  refine ⟨h0, h1, h2, h3, h4, fun p t hp ht => ?_, fun f t hf ht => ?_, h7, h8⟩
  · rw [hN] at hp
    rw [S_ne (by omega), hT p t ht]; exact g5 p t hp ht
  · rw [S_ne (by omega), hP]; exact g6 f t hf ht
end
section
/-! PAIRS: small calls -/
theorem MI.bec {μ : mzM} {w' : Wd} {j : Nat} {v : Int} (h : MW (mzS μ 1 j v) 1 w') : MI (mzS (mzS μ 1 j v) 0 4 0) w' := ⟨h.st0, Or.inl S_eq⟩
theorem c_bec {d : Nat} {q : Int → mzM → Prop} {a : Int} {j : Nat} {v : Int} {μ : mzM} {w' : Wd} (ha : a = j) (hj : j < 318) (h : MW (mzS μ 1 j v) 1 w') (hq : ∀ μ', FM μ μ' → MI μ' w' → (∀ k i, k ≠ 0 → (k ≠ 1 ∨ i ≠ j) → μ' k i = μ k i) → q (μ 1 j) μ') : mzCl d 24 [mzR 0, mzI a, mzI v] μ (mzQi q) := by
  subst ha
  refine g24_e _ _ _ ?_
  rw [Int.toNat_natCast]
  exact ⟨⟨by omega, by omega⟩, ⟨by omega, by omega⟩, or00, hq _ ((FM.rf.st (by unfold scM; omega)).st (by unfold scM; omega)) (MI.bec h) (fun k i h1 h2 => by rw [S_ne (by omega), S_ne (by omega)])⟩
/-- what one world's numbers say of 0 -/
theorem WOk.T {w : Wd} (h : WOk w) {p t : Nat} (hp : p < wN w) (ht : t < 10) : tlo t ≤ wT w p t ∧ wT w p t ≤ thi (wN w) t := h.2.2.2.2.1 p hp t ht
theorem setT_ok {w : Wd} {p t : Nat} {v : Int} (h : WOk w) (ht : t < 10) (hv : tlo t ≤ v ∧ v ≤ thi (wN w) t) : WOk (setT w p t v) := by
  obtain ⟨h0, h1, h2, h3, h4, h5, h6, h7, h8, h9⟩ := h
  refine ⟨h0, h1, h2, h3, fun a ha c hc => ?_, h5, h6, h7, h8, h9⟩
  show tlo c ≤ (if a = p ∧ c = t then v else wT w a c) ∧ (if a = p ∧ c = t then v else wT w a c) ≤ thi (wN w) c
  by_cases e : a = p ∧ c = t
  · rw [if_pos e, e.2]; exact hv
  · rw [if_neg e]; exact h4 a ha c hc
theorem hB_bit {T : Nat → Nat → Int} {n p : Nat} (hp : p < n) : (hB T n).testBit p = decide (T p 9 ≠ 0) := by rw [hB_mk, mk_bit, decide_eq_true hp]; rfl
theorem hw_lt {w : Wd} (h : WOk w) : hw w < 4096 := Nat.lt_of_lt_of_le (hB_lt _ _) (pow12 h.1)
theorem T9 {w : Wd} (h : WOk w) {p : Nat} (hp : p < wN w) : wT w p 9 = if (hw w).testBit p then 1 else 0 := by
  have := h.T hp (t := 9) (by omega)
  have e1 : tlo 9 = 0 := rfl
  have e2 : thi (wN w) 9 = 1 := by simp [thi]
  rw [hB_bit hp]
  by_cases c : wT w p 9 = 0
  · rw [decide_eq_false (by omega)]; exact c
  · rw [decide_eq_true c]
    show wT w p 9 = 1
    omega
-- heights
theorem c_height {d : Nat} {q : Int → mzM → Prop} {p : Nat} {μ : mzM} {b : Int} {w : Wd} (hp : p < 12) (h0 : μ 1 (4 + 10 * p + 0) = wT w p 0) (h1 : μ 1 (4 + 10 * p + 1) = b) (h8 : μ 1 (4 + 10 * p + 8) = wT w p 8) (hb : 1 ≤ b ∧ b ≤ 99) (hs : 0 ≤ wT w p 8 ∧ wT w p 8 ≤ 9) (h : q (heS w p b) μ) : mzCl (d + 1) 21 [mzR 0, mzI p] μ (mzQi q) := by
  have c1 : ∀ {q' : Int → mzM → Prop}, q' b μ → mzCl d 5 [mzR 0, mzI p, mzI 1] μ (mzQi q') := fun z => c_of (t := 1) hp (by omega) (by rw [h1]; exact z)
  have c0 : ∀ {q' : Int → mzM → Prop}, q' (wT w p 0) μ → mzCl d 5 [mzR 0, mzI p, mzI 0] μ (mzQi q') := fun z => c_of (t := 0) hp (by omega) (by rw [h0]; exact z)
  have c8 : ∀ {q' : Int → mzM → Prop}, q' (wT w p 8) μ → mzCl d 5 [mzR 0, mzI p, mzI 8] μ (mzQi q') := fun z => c_of (t := 8) hp (by omega) (by rw [h8]; exact z)
  have ed : mzDiv b 2 = b / 2 := by
    have := nDiv2 b.toNat (by omega)
    rw [show ((b.toNat : Nat) : Int) = b by omega] at this
    omega
  have ew : mzW (b - mzW (10 * wT w p 8)) = b - 10 * wT w p 8 := by unfold mzW; omega
  unfold heS at h
  refine g21_e _ _ (c1 (c0 ⟨fun z => c0 ⟨fun z2 => ⟨fun z3 => ?_, fun z3 => ?_⟩, fun z2 => c8 ⟨fun z3 => ?_, fun z3 => ?_⟩⟩, fun z => ⟨by decide, fun z3 => ?_, fun z3 => ?_⟩⟩))
  · rw [if_neg z, if_neg z2, if_neg (by omega)] at h; exact h
  · omega
  · rw [ew] at z3 ⊢
    rw [if_neg z, if_pos z2, if_neg (by omega)] at h; exact h
  · rw [ew] at z3
    rw [if_neg z, if_pos z2, if_pos (by omega)] at h; exact h
  · rw [ed] at z3 ⊢
    rw [if_pos z, if_neg (by omega)] at h; exact h
  · rw [ed] at z3
    rw [if_pos z, if_pos (by omega)] at h; exact h
theorem k_heightOf {d : Nat} {q : Int → mzM → Prop} {p : Nat} {μ : mzM} {b : Int} {w : Wd} (hp : p < 12) (h0 : μ (52 + p) 0 = wT w p 0) (h8 : μ (52 + p) 8 = wT w p 8) (hb : 1 ≤ b ∧ b ≤ 99) (hs : 0 ≤ wT w p 8 ∧ wT w p 8 ≤ 9) (h : q (heS w p b) μ) : mzCl (d + 1) 97 [mzR 26, mzI p, mzI b] μ (mzQi q) := by
  have ed : mzDiv b 2 = b / 2 := by
    have := nDiv2 b.toNat (by omega)
    rw [show ((b.toNat : Nat) : Int) = b by omega] at this
    omega
  have ew : mzW (b - mzW (10 * wT w p 8)) = b - 10 * wT w p 8 := by unfold mzW; omega
  unfold heS at h
  refine g97_e _ _ _ ⟨by omega, ⟨by omega, by omega, by omega⟩, ?_⟩
  rw [Int.toNat_natCast, h0, h8, ew, ed]
  refine ⟨fun z => ⟨by omega, ⟨hp, by omega, by omega⟩, ?_⟩, fun z => ⟨fun z2 => ⟨by decide, ?_⟩, fun z2 => ?_⟩⟩
  · rw [if_neg (by omega), if_pos z] at h
    unfold mzMx
    by_cases c : b - 10 * wT w p 8 < 1
    · rw [if_pos c] at h
      by_cases c2 : (1 : Int) < b - 10 * wT w p 8
      · omega
      · rw [if_neg c2]; exact h
    · rw [if_neg c] at h
      by_cases c2 : (1 : Int) < b - 10 * wT w p 8
      · rw [if_pos c2]; exact h
      · rw [if_neg c2, show (1 : Int) = b - 10 * wT w p 8 by omega]; exact h
  · rw [if_pos z2] at h
    unfold mzMx
    by_cases c : b / 2 < 1
    · rw [if_pos c] at h
      by_cases c2 : (1 : Int) < b / 2
      · omega
      · rw [if_neg c2]; exact h
    · rw [if_neg c] at h
      by_cases c2 : (1 : Int) < b / 2
      · rw [if_pos c2]; exact h
      · rw [if_neg c2, show (1 : Int) = b / 2 by omega]; exact h
  · rw [if_neg z2, if_neg z, if_neg (by omega)] at h; exact h
/-- placeOf -/
def poS (w : Wd) (p t : Int) : Int × Wd := if (0 ≤ p ∧ p < wN w) ∧ 0 ≤ t ∧ t ≤ 10 then (if t = 9 then heS w p.toNat (wT w p.toNat 1) else if t = 10 then wT w p.toNat 9 else wT w p.toNat t.toNat, w) else (-1000001, w)
theorem poS_w (w : Wd) (p t : Int) : (poS w p t).2 = w := by unfold poS; split <;> rfl
theorem MW.T {μ : mzM} {a : Nat} {w : Wd} (h : MW μ a w) {p t : Nat} (hp : p < wN w) (ht : t < 10) : μ a (4 + 10 * p + t) = wT w p t := h.2.2.2.2.1 p t hp ht
theorem CW.T {μ : mzM} {w : Wd} (h : CW μ 0 w) {p t : Nat} (hp : p < wN w) (ht : t < 9) : μ (52 + p) t = wT w p t := h.2.2.2.2.2.1 p t hp ht
theorem T1_ok {w : Wd} (h : WOk w) {p : Nat} (hp : p < wN w) : 1 ≤ wT w p 1 ∧ wT w p 1 ≤ 99 := h.T hp (t := 1) (by omega)
theorem T8_ok {w : Wd} (h : WOk w) {p : Nat} (hp : p < wN w) : 0 ≤ wT w p 8 ∧ wT w p 8 ≤ 9 := h.T hp (t := 8) (by omega)
theorem c_placeOf {d : Nat} {q : Int → mzM → Prop} {p t : Int} {μ : mzM} {w : Wd} (hW : WOk w) (I : MI μ w) (h : ∀ μ', FM μ μ' → MI μ' (poS w p t).2 → q (poS w p t).1 μ') : mzCl (d + 2) 22 [mzR 0, mzI p, mzI t] μ (mzQi q) := by
  rw [poS_w] at h
  unfold poS at h
  refine g22_e _ _ _ (c_isPlace I.1.1 hW.1 (fun a1 a2 => ⟨fun z => absurd z (by decide), fun _ => c_in (fun b1 b2 => ⟨fun _ => ⟨fun z1 => ⟨fun z2 => ?_, fun z2 => ?_⟩, fun z1 => ?_⟩, fun z => absurd z (by decide)⟩) (fun b => ⟨fun z => absurd rfl z, fun _ => c_fd (by omega) I ?_⟩)⟩) (fun a => ⟨fun _ => c_fd (by omega) I ?_, fun z => absurd rfl z⟩))
  · obtain ⟨p, rfl⟩ : ∃ n : Nat, p = n := ⟨p.toNat, by omega⟩
    rw [if_pos ⟨⟨a1, a2⟩, b1, b2⟩, if_neg z2, if_pos (by omega)] at h
    exact c_of (t := 9) (by have := hW.1; omega) (by omega) (by rw [I.1.T (by omega) (by omega)]; exact h μ FM.rf I)
  · obtain ⟨p, rfl⟩ : ∃ n : Nat, p = n := ⟨p.toNat, by omega⟩
    rw [if_pos ⟨⟨a1, a2⟩, b1, b2⟩, if_pos z2] at h
    have hp : p < wN w := by omega
    exact c_height (by have := hW.1; omega) (I.1.T hp (by omega)) (I.1.T hp (by omega)) (I.1.T hp (by omega)) (T1_ok hW hp) (T8_ok hW hp) (h μ FM.rf I)
  · obtain ⟨p, rfl⟩ : ∃ n : Nat, p = n := ⟨p.toNat, by omega⟩
    obtain ⟨t, rfl⟩ : ∃ n : Nat, t = n := ⟨t.toNat, by omega⟩
    rw [if_pos ⟨⟨a1, a2⟩, b1, b2⟩, if_neg (by omega), if_neg (by omega)] at h
    exact c_of (by have := hW.1; omega) (by omega) (by rw [I.1.T (by omega) (by omega)]; exact h μ FM.rf I)
  · rw [if_neg (by omega)] at h; exact h
  · rw [if_neg (by omega)] at h; exact h
theorem k_placeOf {d : Nat} {q : Int → mzM → Prop} {p t : Int} {μ : mzM} {w : Wd} (hW : WOk w) (C : CW μ 0 w) (h : ∀ μ', FC μ μ' → CW μ' 0 (poS w p t).2 → q (poS w p t).1 μ') : mzCl (d + 2) 132 [mzR 14, mzI p, mzI t] μ (mzQi q) := by
  rw [poS_w] at h
  unfold poS at h
  have fd : ¬ ((0 ≤ p ∧ p < wN w) ∧ 0 ≤ t ∧ t ≤ 10) → mzCl (d + 1) 173 [mzR 14, mzI (-1000001)] μ (mzQi q) := fun c => k_fd (by omega) hW.1 C (by rw [if_neg c] at h; exact h)
  refine g132_e _ _ _ (k_isPlace C.1 (fun a1 a2 => ⟨fun z => absurd z (by decide), fun _ => ⟨fun z => fd (by omega), fun b1 => ⟨fun b2 => ⟨fun z1 => ⟨fun z2 => ⟨by have := hW.1; omega, ?_⟩, fun z2 => ?_⟩, fun z1 => ⟨by have := hW.1; omega, ?_⟩⟩, fun z => fd (by omega)⟩⟩⟩) (fun a => ⟨fun _ => fd (by omega), fun z => absurd rfl z⟩))
  · obtain ⟨p, rfl⟩ : ∃ n : Nat, p = n := ⟨p.toNat, by omega⟩
    obtain ⟨t, rfl⟩ : ∃ n : Nat, t = n := ⟨t.toNat, by omega⟩
    rw [if_pos ⟨⟨a1, a2⟩, b1, b2⟩, if_neg z1, if_neg z2] at h
    rw [Int.toNat_natCast, Int.toNat_natCast]
    exact ⟨⟨by have := hW.1; omega, by omega, by omega⟩, by rw [C.T (by omega) (by omega)]; exact h μ FC.rf C⟩
  · obtain ⟨p, rfl⟩ : ∃ n : Nat, p = n := ⟨p.toNat, by omega⟩
    have hp : p < wN w := by omega
    rw [if_pos ⟨⟨a1, a2⟩, b1, b2⟩, if_neg (by omega), if_pos z2, Int.toNat_natCast, T9 hW hp] at h
    have e3 : μ 26 3 = (hw w : Int) := C.2.2.2.1
    rw [e3, nBit (by have := hw_lt hW; omega) (by have := hW.1; omega)]
    exact h μ FC.rf C
  · obtain ⟨p, rfl⟩ : ∃ n : Nat, p = n := ⟨p.toNat, by omega⟩
    have hp : p < wN w := by omega
    rw [if_pos ⟨⟨a1, a2⟩, b1, b2⟩, if_pos z1] at h
    rw [Int.toNat_natCast, C.T hp (by omega)]
    exact ⟨⟨by have := hW.1; omega, by omega, by omega⟩, k_heightOf (by have := hW.1; omega) (C.T hp (by omega)) (C.T hp (by omega)) (T1_ok hW hp) (T8_ok hW hp) (h μ FC.rf C)⟩
theorem p_placeOf {d : Nat} {μ : mzM} {w : Wd} {q : Int → Int → mzM → Prop} {p t : Int} (R : RW μ w) (h : ∀ a μ' w', RW μ' w' → q a a μ') : mzCl (d + 2) 132 [mzR 14, mzI p, mzI t] μ (mzQi fun a m1 => mzCl (d + 2) 22 [mzR 0, mzI p, mzI t] m1 (mzQi fun c m2 => q a c m2)) :=
  pair (poS w p t) R (by rw [poS_w]; exact R.1) (fun q' z => k_placeOf R.1 R.2.2.1 z) (fun m1 q' _ I z => c_placeOf R.1 I z) h
end
section
/-! PAIRS: change, step, tie, tieOf, cut, hold -/
theorem MI.setT {μ : mzM} {w : Wd} (hW : WOk w) (I : MI μ w) {p t : Nat} {v : Int} (hp : p < wN w) (ht : t < 10) : MW (mzS μ 1 (4 + 10 * p + t) v) 1 (setT w p t v) := I.1.setT hW.1 (Nat.lt_of_lt_of_le hp hW.1) ht
theorem w10p {p : Nat} {t : Int} {k : Nat} (h : p < 12) (hk : t = k) (hk2 : k < 10) : mzW ((mzW (4 + (mzW (10 * (p : Int))))) + t) = ((4 + 10 * p + k : Nat) : Int) := by subst hk; unfold mzW; omega
/-- change -/
abbrev chO (w : Wd) (p t v : Int) : Prop := (0 ≤ p ∧ p < wN w) ∧ (1 ≤ t ∧ t ≤ 7) ∧ (tlo t.toNat ≤ v ∧ v ≤ thi (wN w) t.toNat) ∧ (t = 7 → v ≠ p)
def chS (w : Wd) (p t v : Int) : Int × Wd := if chO w p t v then (wT w p.toNat t.toNat, setT w p.toNat t.toNat v) else (-1000001, w)
theorem chS_ok {w : Wd} {p t v : Int} (h : WOk w) : WOk (chS w p t v).2 := by
  unfold chS
  split
  · rename_i c
    obtain ⟨c1, c2, c3, -⟩ := c
    exact setT_ok h (by omega) c3
  · exact h
theorem lims {n : Nat} : (tlo 1 = 1 ∧ thi n 1 = 99) ∧ (tlo 2 = 0 ∧ thi n 2 = 99) ∧ (tlo 3 = 0 ∧ thi n 3 = 9) ∧ (tlo 4 = 1 ∧ thi n 4 = 99) ∧ (tlo 5 = 1 ∧ thi n 5 = 99) ∧ (tlo 6 = 0 ∧ thi n 6 = 10) ∧ (tlo 7 = -1 ∧ thi n 7 = (n : Int) - 1) := by simp [tlo, thi]
theorem c_may {d : Nat} {q : Int → mzM → Prop} {p t v : Int} {μ : mzM} {w : Wd} (hW : WOk w) (I : MI μ w) (hp : 0 ≤ p ∧ p < wN w) (h1 : chO w p t v → q 1 μ) (h0 : ¬ chO w p t v → q 0 μ) : mzCl (d + 2) 23 [mzR 0, mzI p, mzI t, mzI v] μ (mzQi q) := by
  obtain ⟨l1, l2, l3, l4, l5, l6, l7⟩ := @lims (wN w)
  have e : ∀ k : Nat, t = k → t.toNat = k := fun k hk => by omega
  refine g23_e _ _ _ _ ⟨⟨fun z => ?_, fun z => ?_, fun z => ?_, fun z => ?_, fun z => ?_, fun z => ?_, trivial⟩, fun z => ⟨fun z7 => ⟨or00, h0 (fun c => by unfold chO at c; omega)⟩, fun z7 => ⟨fun y => ⟨or00, h0 (fun c => c.2.2.2 z7 y)⟩, fun y => ⟨fun y1 => ⟨or10, h1 ?_⟩, fun y1 => c_isPlace I.1.1 hW.1 (fun a1 a2 => ⟨fun z => absurd z (by decide), fun _ => ⟨or10, h1 ?_⟩⟩) (fun a => ⟨fun _ => ⟨or00, h0 (fun c => ?_)⟩, fun z => absurd rfl z⟩)⟩⟩⟩⟩
  · have := e 1 z
    exact c_in (fun a1 a2 => ⟨or10, h1 (by unfold chO; rw [this]; omega)⟩) (fun a => ⟨or00, h0 (fun c => by unfold chO at c; rw [this] at c; omega)⟩)
  · have := e 2 z
    exact c_in (fun a1 a2 => ⟨or10, h1 (by unfold chO; rw [this]; omega)⟩) (fun a => ⟨or00, h0 (fun c => by unfold chO at c; rw [this] at c; omega)⟩)
  · have := e 3 z
    exact c_in (fun a1 a2 => ⟨or10, h1 (by unfold chO; rw [this]; omega)⟩) (fun a => ⟨or00, h0 (fun c => by unfold chO at c; rw [this] at c; omega)⟩)
  · have := e 4 z
    exact c_in (fun a1 a2 => ⟨or10, h1 (by unfold chO; rw [this]; omega)⟩) (fun a => ⟨or00, h0 (fun c => by unfold chO at c; rw [this] at c; omega)⟩)
  · have := e 5 z
    exact c_in (fun a1 a2 => ⟨or10, h1 (by unfold chO; rw [this]; omega)⟩) (fun a => ⟨or00, h0 (fun c => by unfold chO at c; rw [this] at c; omega)⟩)
  · have := e 6 z
    exact c_in (fun a1 a2 => ⟨or10, h1 (by unfold chO; rw [this]; omega)⟩) (fun a => ⟨or00, h0 (fun c => by unfold chO at c; rw [this] at c; omega)⟩)
  · have := e 7 z7
    unfold chO
    rw [this]
    omega
  · have := e 7 z7
    unfold chO
    rw [this]
    omega
  · have := e 7 z7
    unfold chO at c
    rw [this] at c
    omega
theorem c_change {d : Nat} {q : Int → mzM → Prop} {p t v : Int} {μ : mzM} {w : Wd} (hW : WOk w) (I : MI μ w) (h : ∀ μ', FM μ μ' → MI μ' (chS w p t v).2 → q (chS w p t v).1 μ') : mzCl (d + 3) 25 [mzR 0, mzI p, mzI t, mzI v] μ (mzQi q) := by
  unfold chS at h
  have fd : ∀ {D : Nat}, ¬ chO w p t v → mzCl D 1 [mzR 0, mzI (-1000001)] μ (mzQi q) := fun c => c_fd (by omega) I (by rw [if_neg c] at h; exact h)
  refine g25_e _ _ _ _ (c_isPlace I.1.1 hW.1 (fun a1 a2 => ⟨fun z => absurd z (by decide), fun _ => c_may hW I ⟨a1, a2⟩ (fun c => ⟨fun z => absurd z (by decide), fun _ => ?_⟩) (fun c => ⟨fun _ => fd c, fun z => absurd rfl z⟩)⟩) (fun a => ⟨fun _ => fd (fun c => by have := c.1; omega), fun z => absurd rfl z⟩))
  rw [if_pos c] at h
  obtain ⟨c1, c2, c3, c4⟩ := c
  obtain ⟨p, rfl⟩ : ∃ n : Nat, p = n := ⟨p.toNat, by omega⟩
  obtain ⟨t, rfl⟩ : ∃ n : Nat, t = n := ⟨t.toNat, by omega⟩
  have hp : p < wN w := by omega
  rw [Int.toNat_natCast, Int.toNat_natCast] at h
  refine c_bec (j := 4 + 10 * p + t) (w10p (by have := hW.1; omega) rfl (by omega)) (by have := hW.1; omega) (I.setT hW hp (by omega)) (fun μ' f i _ => ?_)
  rw [I.1.T hp (by omega)]
  exact h μ' f i
theorem cst7 : mzCst 201 1 = 1 ∧ mzCst 201 2 = 0 ∧ mzCst 201 3 = 0 ∧ mzCst 201 4 = 1 ∧ mzCst 201 5 = 1 ∧ mzCst 201 6 = 0 ∧ mzCst 201 7 = -1 ∧ mzCst 202 1 = 99 ∧ mzCst 202 2 = 99 ∧ mzCst 202 3 = 9 ∧ mzCst 202 4 = 99 ∧ mzCst 202 5 = 99 ∧ mzCst 202 6 = 10 ∧ mzCst 202 7 = 11 := by decide
theorem cst_lims {n t : Nat} (h : 1 ≤ t ∧ t ≤ 7) : mzCst 201 t = tlo t ∧ (t ≠ 7 → mzCst 202 t = thi n t) ∧ (t = 7 → mzCst 202 t = 11 ∧ thi n t = (n : Int) - 1) := by
  have c : t = 1 ∨ t = 2 ∨ t = 3 ∨ t = 4 ∨ t = 5 ∨ t = 6 ∨ t = 7 := by omega
  rcases c with rfl | rfl | rfl | rfl | rfl | rfl | rfl <;> simp [tlo, thi, cst7]
theorem k_change {d : Nat} {q : Int → mzM → Prop} {p t v : Int} {μ : mzM} {w : Wd} (hW : WOk w) (C : CW μ 0 w) (h : ∀ μ', FC μ μ' → CW μ' 0 (chS w p t v).2 → q (chS w p t v).1 μ') : mzCl (d + 1) 133 [mzR 14, mzI p, mzI t, mzI v] μ (mzQi q) := by
  unfold chS at h
  have fd : ¬ chO w p t v → mzCl d 173 [mzR 14, mzI (-1000001)] μ (mzQi q) := fun c => k_fd (by omega) hW.1 C (by rw [if_neg c] at h; exact h)
  have ok : chO w p t v → ((0 : Int) ≤ p ∧ (p : Int) < 12) ∧ ((p.toNat < 12 ∧ (0 : Int) ≤ t ∧ (t : Int) < 9) ∧ (((0 : Int) ≤ p ∧ (p : Int) < 12) ∧ ((p.toNat < 12 ∧ (0 : Int) ≤ t ∧ (t : Int) < 9) ∧ (q (μ (52 + p.toNat) t.toNat) (mzS μ (52 + p.toNat) t.toNat v))))) := by
    intro c
    rw [if_pos c] at h
    obtain ⟨c1, c2, c3, c4⟩ := c
    have := hW.1
    have hp : p.toNat < wN w := by omega
    refine ⟨by omega, ⟨by omega, by omega, by omega⟩, by omega, ⟨by omega, by omega, by omega⟩, ?_⟩
    rw [C.T hp (by omega)]
    exact h _ (FC.rf.st (by unfold scC isW; omega)) (C.setT hW.1 (by omega) (by omega))
  have l : 1 ≤ t → t ≤ 7 → mzCst 201 t.toNat = tlo t.toNat ∧ (t.toNat ≠ 7 → mzCst 202 t.toNat = thi (wN w) t.toNat) ∧ (t.toNat = 7 → mzCst 202 t.toNat = 11 ∧ thi (wN w) t.toNat = (wN w : Int) - 1) := fun a b => cst_lims (by omega)
  have h26 : μ 26 0 = wN w := C.1
  have := hW.1
  refine g133_e _ _ _ _ (k_isPlace C.1 (fun a1 a2 => ⟨fun z => absurd z (by decide), fun _ => ⟨fun z => fd (fun c => by have := c.2.1; omega), fun b1 => ⟨fun z => fd (fun c => by have := c.2.1; omega), fun b2 => ⟨by omega, fun z => fd (fun c => ?_), fun b3 => ⟨by omega, fun b4 => ⟨fun b5 => ok ?_, fun b5 => ⟨fun z => fd (fun c => c.2.2.2 b5 z), fun b6 => ⟨fun b7 => ok ?_, fun z => fd (fun c => ?_)⟩⟩⟩, fun z => fd (fun c => ?_)⟩⟩⟩⟩⟩) (fun a => ⟨fun _ => fd (fun c => by have := c.1; omega), fun z => absurd rfl z⟩))
  · have := c.2.2.1.1
    have := (l b1 b2).1
    omega
  · have l1 := (l b1 b2).1
    have l2 := (l b1 b2).2.1 (by omega)
    exact ⟨⟨a1, a2⟩, ⟨b1, b2⟩, by omega, fun z => absurd z b5⟩
  · have l1 := (l b1 b2).1
    have l2 := (l b1 b2).2.2 (by omega)
    exact ⟨⟨a1, a2⟩, ⟨b1, b2⟩, by omega, fun _ => b6⟩
  · have l2 := (l b1 b2).2.2 (by omega)
    have := c.2.2.1.2
    omega
  · have := c.2.2.1.2
    by_cases e : t.toNat = 7
    · have l2 := (l b1 b2).2.2 e
      omega
    · have l2 := (l b1 b2).2.1 e
      omega
theorem p_change {d : Nat} {μ : mzM} {w : Wd} {q : Int → Int → mzM → Prop} {p t v : Int} (R : RW μ w) (h : ∀ a μ' w', RW μ' w' → q a a μ') : mzCl (d + 3) 133 [mzR 14, mzI p, mzI t, mzI v] μ (mzQi fun a m1 => mzCl (d + 3) 25 [mzR 0, mzI p, mzI t, mzI v] m1 (mzQi fun c m2 => q a c m2)) :=
  pair (chS w p t v) R (chS_ok R.1) (fun q' z => k_change R.1 R.2.2.1 z) (fun m1 q' _ I z => c_change R.1 I z) h
/-- step -/
def seS (w : Wd) (p : Int) : Int × Wd := if 0 ≤ p ∧ p < wN w then (if wT w p.toNat 8 = 9 then (-1000002, w) else (wT w p.toNat 8 + 1, setT w p.toNat 8 (wT w p.toNat 8 + 1))) else (-1000001, w)
theorem seS_ok {w : Wd} {p : Int} (h : WOk w) : WOk (seS w p).2 := by
  unfold seS
  split
  · split
    · exact h
    · have := T8_ok h (p := p.toNat) (by omega)
      have e1 : tlo 8 = 0 := rfl
      have e2 : thi (wN w) 8 = 9 := by simp [thi]
      exact setT_ok h (by omega) (by omega)
  · exact h
theorem c_step {d : Nat} {q : Int → mzM → Prop} {p : Int} {μ : mzM} {w : Wd} (hW : WOk w) (I : MI μ w) (h : ∀ μ', FM μ μ' → MI μ' (seS w p).2 → q (seS w p).1 μ') : mzCl (d + 2) 26 [mzR 0, mzI p] μ (mzQi q) := by
  unfold seS at h
  refine g26_e _ _ (c_isPlace I.1.1 hW.1 (fun a1 a2 => ⟨fun _ => ?_, fun z => absurd z (by decide)⟩) (fun a => ⟨fun z => absurd rfl z, fun _ => c_fd (by omega) I (by rw [if_neg (by omega)] at h; exact h)⟩))
  obtain ⟨p, rfl⟩ : ∃ n : Nat, p = n := ⟨p.toNat, by omega⟩
  have hp : p < wN w := by omega
  have hN := hW.1
  have t8 := T8_ok hW hp
  rw [if_pos ⟨a1, a2⟩, Int.toNat_natCast] at h
  refine c_of (t := 8) (by omega) (by omega) ?_
  rw [I.1.T hp (by omega)]
  refine ⟨fun z => c_of (t := 8) (by omega) (by omega) ?_, fun z => c_fd (by omega) I (by rw [if_pos z] at h; exact h)⟩
  rw [I.1.T hp (by omega), wid (z := wT w p 8 + 1) (by omega) (by omega)]
  rw [if_neg z] at h
  refine c_bec (j := 4 + 10 * p + 8) (w10p (by omega) rfl (by omega)) (by omega) (I.setT hW hp (by omega)) (fun μ' f i _ => ?_)
  rw [I.1.T hp (by omega), wid (by omega) (by omega)]
  exact h μ' f i
theorem k_step {d : Nat} {q : Int → mzM → Prop} {p : Int} {μ : mzM} {w : Wd} (hW : WOk w) (C : CW μ 0 w) (h : ∀ μ', FC μ μ' → CW μ' 0 (seS w p).2 → q (seS w p).1 μ') : mzCl (d + 1) 134 [mzR 14, mzI p] μ (mzQi q) := by
  unfold seS at h
  have hN := hW.1
  refine g134_e _ _ (k_isPlace C.1 (fun a1 a2 => ⟨fun _ => ?_, fun z => absurd z (by decide)⟩) (fun a => ⟨fun z => absurd rfl z, fun _ => k_fd (by omega) hW.1 C (by rw [if_neg (by omega)] at h; exact h)⟩))
  obtain ⟨p, rfl⟩ : ∃ n : Nat, p = n := ⟨p.toNat, by omega⟩
  have hp : p < wN w := by omega
  have t8 := T8_ok hW hp
  rw [if_pos ⟨a1, a2⟩, Int.toNat_natCast] at h
  rw [Int.toNat_natCast, C.T hp (by omega), S_eq, wid (by omega) (by omega)]
  refine ⟨by omega, ⟨by omega, by omega, by omega⟩, fun z => ⟨by omega, ⟨by omega, by omega, by omega⟩, ⟨by omega, by omega, by omega⟩, by omega, ⟨by omega, by omega, by omega⟩, ?_⟩, fun z => k_fd (by omega) hW.1 C (by rw [if_pos (by omega)] at h; exact h)⟩
  rw [if_neg (by omega)] at h
  exact h _ (FC.rf.st (by unfold scC isW; omega)) (C.setT hW.1 (by omega) (by omega))
theorem p_step {d : Nat} {μ : mzM} {w : Wd} {q : Int → Int → mzM → Prop} {p : Int} (R : RW μ w) (h : ∀ a μ' w', RW μ' w' → q a a μ') : mzCl (d + 2) 134 [mzR 14, mzI p] μ (mzQi fun a m1 => mzCl (d + 2) 26 [mzR 0, mzI p] m1 (mzQi fun c m2 => q a c m2)) :=
  pair (seS w p) R (seS_ok R.1) (fun q' z => k_step R.1 R.2.2.1 z) (fun m1 q' _ I z => c_step R.1 I z) h
end
section
/-! PAIRS: tie, tieOf, cut, hold -/
theorem S_cm {μ : mzM} {a b c e : Nat} {u v : Int} (h : a ≠ c ∨ b ≠ e) : mzS (mzS μ a b u) c e v = mzS (mzS μ c e v) a b u := by
  funext k j
  by_cases h1 : k = a ∧ j = b
  · rw [h1.1, h1.2, S_eq, S_ne h, S_eq]
  · by_cases h2 : k = c ∧ j = e
    · rw [h2.1, h2.2, S_eq, S_ne (by omega), S_eq]
    · rw [S_ne (by omega), S_ne (by omega), S_ne (by omega), S_ne (by omega)]
theorem S_id {μ : mzM} {k j : Nat} {v : Int} (h : μ k j = v) : mzS μ k j v = μ := by
  funext a b
  by_cases h1 : a = k ∧ b = j
  · rw [h1.1, h1.2, S_eq, h]
  · rw [S_ne (by omega)]
theorem setP_ok {w : Wd} {f t : Nat} {v e : Int} (h : WOk w) (hf : f < wN w) (ht : t < wN w) (hv : 0 ≤ v ∧ v ≤ 99) (he : e ≤ 40) (hc : e + (if wP w f t = 0 then 0 else 1) = wE w + if v = 0 then 0 else 1) : WOk (setP w f t v e) := by
  obtain ⟨g0, g1, g2, g3, g4, g5, g6, g7, g8, g9⟩ := h
  refine ⟨g0, ?_, he, g3, g4, fun a c => ?_, fun a c hac => ?_, g7, g8, g9⟩
  · have := cP_set (P := wP w) (P' := wP (setP w f t v e)) (f := f) (t := t) (by omega) (by omega) (fun a c hac => if_neg hac)
    have e2 : wP (setP w f t v e) f t = v := if_pos ⟨rfl, rfl⟩
    rw [e2] at this
    show e = ((cP (wP (setP w f t v e)) : Nat) : Int)
    by_cases c1 : wP w f t = 0
    · rw [if_pos c1] at this hc
      by_cases c2 : v = 0
      · rw [if_pos c2] at this hc; omega
      · rw [if_neg c2] at this hc; omega
    · rw [if_neg c1] at this hc
      by_cases c2 : v = 0
      · rw [if_pos c2] at this hc; omega
      · rw [if_neg c2] at this hc; omega
  · show 0 ≤ (if a = f ∧ c = t then v else wP w a c) ∧ (if a = f ∧ c = t then v else wP w a c) ≤ 99
    by_cases e : a = f ∧ c = t
    · rw [if_pos e]; exact hv
    · rw [if_neg e]; exact g5 a c
  · have hac2 : wN w ≤ a ∨ wN w ≤ c := hac
    show (if a = f ∧ c = t then v else wP w a c) = 0
    rw [if_neg (by omega)]
    exact g6 a c hac2
theorem MW.P {μ : mzM} {a : Nat} {w : Wd} (h : MW μ a w) {f t : Nat} (hf : f < wN w) (ht : t < wN w) : μ a (124 + 12 * f + t) = wP w f t := h.2.2.2.2.2.1 f t hf ht
theorem CW.P {μ : mzM} {w : Wd} (h : CW μ 0 w) {f t : Nat} (hf : f < 12) (ht : t < 12) : μ (88 + f) t = wP w f t := h.2.2.2.2.2.2.1 f t hf ht
theorem CW.E {μ : mzM} {w : Wd} (h : CW μ 0 w) : μ 26 1 = wE w := h.2.1
theorem WOk.E {w : Wd} (h : WOk w) : 0 ≤ wE w ∧ wE w ≤ 40 := ⟨by have := h.2.1; omega, h.2.2.1⟩
/-- tie -/
def tiS (w : Wd) (f t v : Int) : Int × Wd := if (0 ≤ f ∧ f < wN w) ∧ (0 ≤ t ∧ t < wN w) ∧ f ≠ t ∧ 1 ≤ v ∧ v ≤ 99 then (if wP w f.toNat t.toNat = 0 ∧ wE w = 40 then (-1000002, w) else (wP w f.toNat t.toNat, setP w f.toNat t.toNat v (wE w + if wP w f.toNat t.toNat = 0 then 1 else 0))) else (-1000001, w)
theorem tiS_ok {w : Wd} {f t v : Int} (h : WOk w) : WOk (tiS w f t v).2 := by
  unfold tiS
  split
  · rename_i c
    split
    · exact h
    · rename_i c2
      have := h.E
      refine setP_ok h (by omega) (by omega) (by omega) ?_ ?_
      · split <;> omega
      · rw [if_neg (show ¬ v = 0 by omega)]
        split <;> omega
  · exact h
theorem c_isTie {d : Nat} {q : Int → mzM → Prop} {f t : Int} {μ : mzM} {w : Wd} (hW : WOk w) (I : MI μ w) (h1 : (0 ≤ f ∧ f < wN w) → (0 ≤ t ∧ t < wN w) → f ≠ t → q 1 μ) (h0 : ¬ ((0 ≤ f ∧ f < wN w) ∧ (0 ≤ t ∧ t < wN w) ∧ f ≠ t) → q 0 μ) : mzCl (d + 2) 27 [mzR 0, mzI f, mzI t] μ (mzQi q) :=
  g27_e _ _ _ (c_isPlace I.1.1 hW.1 (fun a1 a2 => ⟨fun z => absurd z (by decide), fun _ => c_isPlace I.1.1 hW.1 (fun b1 b2 => ⟨fun z => absurd z (by decide), fun _ => ⟨fun z => ⟨or00, h0 (fun c => c.2.2 z)⟩, fun z => ⟨or10, h1 ⟨a1, a2⟩ ⟨b1, b2⟩ z⟩⟩⟩) (fun b => ⟨fun _ => ⟨or00, h0 (by omega)⟩, fun z => absurd rfl z⟩)⟩) (fun a => ⟨fun _ => ⟨or00, h0 (by omega)⟩, fun z => absurd rfl z⟩))
theorem c_tie {d : Nat} {q : Int → mzM → Prop} {f t v : Int} {μ : mzM} {w : Wd} (hW : WOk w) (I : MI μ w) (h : ∀ μ', FM μ μ' → MI μ' (tiS w f t v).2 → q (tiS w f t v).1 μ') : mzCl (d + 3) 28 [mzR 0, mzI f, mzI t, mzI v] μ (mzQi q) := by
  unfold tiS at h
  have hE := hW.E
  have hN := hW.1
  refine g28_e _ _ _ _ (c_isTie hW I (fun a b ne => ⟨fun z => absurd z (by decide), fun _ => c_in (fun v1 v2 => ⟨fun _ => ?_, fun z => absurd z (by decide)⟩) (fun v' => ⟨fun z => absurd rfl z, fun _ => c_fd (by omega) I (by rw [if_neg (by omega)] at h; exact h)⟩)⟩) (fun c => ⟨fun _ => c_fd (by omega) I (by rw [if_neg (fun c' => c ⟨c'.1, c'.2.1, c'.2.2.1⟩)] at h; exact h), fun z => absurd rfl z⟩))
  rw [if_pos ⟨a, b, ne, v1, v2⟩] at h
  obtain ⟨f, rfl⟩ : ∃ n : Nat, f = n := ⟨f.toNat, by omega⟩
  obtain ⟨t, rfl⟩ : ∃ n : Nat, t = n := ⟨t.toNat, by omega⟩
  have hf : f < wN w := by omega
  have ht : t < wN w := by omega
  rw [Int.toNat_natCast, Int.toNat_natCast] at h
  have e1 : μ 1 1 = wE w := I.1.2.1
  rw [w12c (by omega) (by omega), Int.toNat_natCast, I.1.P hf ht, e1, wid (z := wE w + 0) (by omega) (by omega), wid (z := wE w + 1) (by omega) (by omega)]
  have go : ∀ e : Int, e = wE w + (if wP w f t = 0 then 1 else 0) → ¬ (wP w f t = 0 ∧ wE w = 40) → mzCl (d + 2) 24 [mzR 0, mzI ((124 + 12 * f + t : Nat) : Int), mzI v] (mzS μ 1 1 e) (mzQi fun r8 m7 => q r8 m7) := by
    intro e he hn
    rw [if_neg hn, ← he] at h
    refine c_bec (j := 124 + 12 * f + t) rfl (by omega) (I.1.setP hN (by omega) (by omega)) (fun μ' f' i _ => ?_)
    rw [S_ne (by omega), I.1.P hf ht]
    exact h μ' (FM.tr (FM.rf.st (by unfold scM; omega)) f') i
  refine ⟨by omega, fun z => ⟨by omega, by omega, fun _ => ⟨by omega, go _ ?_ (fun c => z c.1)⟩, fun z2 => absurd z2 z⟩, fun z => ⟨by omega, fun z1 => ⟨by omega, by omega, fun z2 => absurd z z2, fun _ => ⟨by omega, go _ ?_ (fun c => z1 c.2)⟩⟩, fun z1 => c_fd (by omega) I (by rw [if_pos ⟨z, z1⟩] at h; exact h)⟩⟩
  · rw [if_neg z]
  · rw [if_pos z]
theorem k_putTie {d : Nat} {q : mzM → Prop} {f t : Nat} {v : Int} {μ : mzM} {w : Wd} (hW : WOk w) (C : CW μ 0 w) (hf : f < wN w) (ht : t < wN w) (h : ∀ μ', FC μ μ' → CW μ' 0 (setP w f t v (wE w + if wP w f t = 0 then 1 else 0)) → q μ') : mzCl d 96 [mzR 26, mzI f, mzI t, mzI v] μ (mzQv q) := by
  have hN := hW.1
  have hE := hW.E
  refine g96_e _ _ _ _ ⟨by omega, ?_⟩
  rw [Int.toNat_natCast, Int.toNat_natCast, C.P (by omega) (by omega), C.E, wid (by omega) (by omega)]
  refine ⟨⟨by omega, by omega, by omega⟩, fun z => ⟨by omega, ⟨by omega, by omega, by omega⟩, ?_⟩, fun z => ⟨by omega, ⟨by omega, by omega, by omega⟩, ?_⟩⟩
  · rw [if_neg z, Int.add_zero] at h
    have := C.setP (f := f) (t := t) (v := v) (e := wE w) hN (by omega)
    rw [S_id C.E] at this
    exact h _ (FC.rf.st (by unfold scC isW; omega)) this
  · rw [if_pos z] at h
    exact h _ ((FC.rf.st (by unfold scC isW; omega)).st (by unfold scC isW; omega)) (C.setP hN (by omega))
theorem k_tie {d : Nat} {q : Int → mzM → Prop} {f t v : Int} {μ : mzM} {w : Wd} (hW : WOk w) (C : CW μ 0 w) (h : ∀ μ', FC μ μ' → CW μ' 0 (tiS w f t v).2 → q (tiS w f t v).1 μ') : mzCl (d + 1) 135 [mzR 14, mzI f, mzI t, mzI v] μ (mzQi q) := by
  unfold tiS at h
  have hE := hW.E
  have hN := hW.1
  have fd : ¬ ((0 ≤ f ∧ f < wN w) ∧ (0 ≤ t ∧ t < wN w) ∧ f ≠ t ∧ 1 ≤ v ∧ v ≤ 99) → mzCl d 173 [mzR 14, mzI (-1000001)] μ (mzQi q) := fun c => k_fd (by omega) hW.1 C (by rw [if_neg c] at h; exact h)
  refine g135_e _ _ _ _ (k_isPlace C.1 (fun a1 a2 => ⟨fun z => absurd z (by decide), fun _ => k_isPlace C.1 (fun b1 b2 => ⟨fun z => absurd z (by decide), fun _ => ⟨fun z => fd (fun c => c.2.2.1 z), fun ne => ⟨fun z => fd (by omega), fun v1 => ⟨fun v2 => ?_, fun z => fd (by omega)⟩⟩⟩⟩) (fun b => ⟨fun _ => fd (by omega), fun z => absurd rfl z⟩)⟩) (fun a => ⟨fun _ => fd (by omega), fun z => absurd rfl z⟩))
  rw [if_pos ⟨⟨a1, a2⟩, ⟨b1, b2⟩, ne, v1, v2⟩] at h
  obtain ⟨f, rfl⟩ : ∃ n : Nat, f = n := ⟨f.toNat, by omega⟩
  obtain ⟨t, rfl⟩ : ∃ n : Nat, t = n := ⟨t.toNat, by omega⟩
  have hf : f < wN w := by omega
  have ht : t < wN w := by omega
  rw [Int.toNat_natCast, Int.toNat_natCast] at h
  rw [Int.toNat_natCast, Int.toNat_natCast, C.P (by omega) (by omega), C.E]
  refine ⟨by omega, ⟨by omega, by omega, by omega⟩, fun z => k_putTie hW C hf ht (fun μ' f' c' => ?_), fun z => ⟨fun z1 => k_putTie hW C hf ht (fun μ' f' c' => ?_), fun z1 => k_fd (by omega) hW.1 C (by rw [if_pos ⟨z, by omega⟩] at h; exact h)⟩⟩
  · rw [if_neg (fun c => z c.1)] at h; exact h μ' f' c'
  · rw [if_neg (fun c => by omega)] at h; exact h μ' f' c'
theorem p_tie {d : Nat} {μ : mzM} {w : Wd} {q : Int → Int → mzM → Prop} {f t v : Int} (R : RW μ w) (h : ∀ a μ' w', RW μ' w' → q a a μ') : mzCl (d + 3) 135 [mzR 14, mzI f, mzI t, mzI v] μ (mzQi fun a m1 => mzCl (d + 3) 28 [mzR 0, mzI f, mzI t, mzI v] m1 (mzQi fun c m2 => q a c m2)) :=
  pair (tiS w f t v) R (tiS_ok R.1) (fun q' z => k_tie R.1 R.2.2.1 z) (fun m1 q' _ I z => c_tie R.1 I z) h
/-- tieOf -/
def toS (w : Wd) (f t : Int) : Int × Wd := (if (0 ≤ f ∧ f < wN w) ∧ (0 ≤ t ∧ t < wN w) then wP w f.toNat t.toNat else -1000001, w)
theorem c_tieOf {d : Nat} {q : Int → mzM → Prop} {f t : Int} {μ : mzM} {w : Wd} (hW : WOk w) (I : MI μ w) (h : ∀ μ', FM μ μ' → MI μ' (toS w f t).2 → q (toS w f t).1 μ') : mzCl (d + 3) 29 [mzR 0, mzI f, mzI t] μ (mzQi q) := by
  unfold toS at h
  have hN := hW.1
  refine g29_e _ _ _ (c_isPlace I.1.1 hW.1 (fun a1 a2 => ⟨fun z => absurd z (by decide), fun _ => c_isPlace I.1.1 hW.1 (fun b1 b2 => ⟨fun z => absurd z (by decide), fun _ => ?_⟩) (fun b => ⟨fun _ => c_fd (by omega) I (by rw [if_neg (by omega)] at h; exact h), fun z => absurd rfl z⟩)⟩) (fun a => ⟨fun _ => c_fd (by omega) I (by rw [if_neg (by omega)] at h; exact h), fun z => absurd rfl z⟩))
  rw [if_pos ⟨⟨a1, a2⟩, b1, b2⟩] at h
  obtain ⟨f, rfl⟩ : ∃ n : Nat, f = n := ⟨f.toNat, by omega⟩
  obtain ⟨t, rfl⟩ : ∃ n : Nat, t = n := ⟨t.toNat, by omega⟩
  rw [w12c (by omega) (by omega), Int.toNat_natCast, I.1.P (by omega) (by omega)]
  exact ⟨by omega, h μ FM.rf I⟩
theorem k_tieOf {d : Nat} {q : Int → mzM → Prop} {f t : Int} {μ : mzM} {w : Wd} (hW : WOk w) (C : CW μ 0 w) (h : ∀ μ', FC μ μ' → CW μ' 0 (toS w f t).2 → q (toS w f t).1 μ') : mzCl (d + 1) 136 [mzR 14, mzI f, mzI t] μ (mzQi q) := by
  unfold toS at h
  have hN := hW.1
  refine g136_e _ _ _ (k_isPlace C.1 (fun a1 a2 => ⟨fun z => absurd z (by decide), fun _ => k_isPlace C.1 (fun b1 b2 => ⟨fun _ => ?_, fun z => absurd z (by decide)⟩) (fun b => ⟨fun z => absurd rfl z, fun _ => k_fd (by omega) hW.1 C (by rw [if_neg (by omega)] at h; exact h)⟩)⟩) (fun a => ⟨fun _ => k_fd (by omega) hW.1 C (by rw [if_neg (by omega)] at h; exact h), fun z => absurd rfl z⟩))
  rw [if_pos ⟨⟨a1, a2⟩, b1, b2⟩] at h
  rw [C.P (by omega) (by omega)]
  exact ⟨by omega, ⟨by omega, by omega, by omega⟩, h μ FC.rf C⟩
theorem p_tieOf {d : Nat} {μ : mzM} {w : Wd} {q : Int → Int → mzM → Prop} {f t : Int} (R : RW μ w) (h : ∀ a μ' w', RW μ' w' → q a a μ') : mzCl (d + 3) 136 [mzR 14, mzI f, mzI t] μ (mzQi fun a m1 => mzCl (d + 3) 29 [mzR 0, mzI f, mzI t] m1 (mzQi fun c m2 => q a c m2)) :=
  pair (toS w f t) R R.1 (fun q' z => k_tieOf R.1 R.2.2.1 z) (fun m1 q' _ I z => c_tieOf R.1 I z) h
/-- cut -/
def cuS (w : Wd) (f t : Int) : Int × Wd := if (0 ≤ f ∧ f < wN w) ∧ (0 ≤ t ∧ t < wN w) then (if wP w f.toNat t.toNat = 0 then (-1000004, w) else (wE w - 1, setP w f.toNat t.toNat 0 (wE w - 1))) else (-1000001, w)
theorem cuS_ok {w : Wd} {f t : Int} (h : WOk w) : WOk (cuS w f t).2 := by
  unfold cuS
  split
  · split
    · exact h
    · rename_i c c2
      have := h.E
      refine setP_ok h (by omega) (by omega) (by omega) (by omega) ?_
      rw [if_neg c2, if_pos rfl]
      omega
  · exact h
theorem MW.setE {μ : mzM} {w : Wd} {e : Int} (h : MW μ 1 w) : MW (mzS μ 1 1 e) 1 (wN w, wT w, wP w, e, w.2.2.2.2) := by
  obtain ⟨g0, g1, g2, g3, g4, g5, g6, g7⟩ := h
  refine ⟨?_, S_eq, ?_, ?_, fun p t' hp ht' => ?_, fun f' t' hf' ht' => ?_, fun i hi => ⟨?_, ?_⟩, fun i hi => ?_⟩
  · rw [S_ne (by omega)]; exact g0
  · rw [S_ne (by omega)]; exact g2
  · rw [S_ne (by omega)]; exact g3
  · rw [S_ne (by omega)]; exact g4 p t' hp ht'
  · rw [S_ne (by omega)]; exact g5 f' t' hf' ht'
  · rw [S_ne (by omega)]; exact (g6 i hi).1
  · rw [S_ne (by omega)]; exact (g6 i hi).2
  · rw [S_ne (by omega)]; exact g7 i hi
theorem c_cut {d : Nat} {q : Int → mzM → Prop} {f t : Int} {μ : mzM} {w : Wd} (hW : WOk w) (I : MI μ w) (h : ∀ μ', FM μ μ' → MI μ' (cuS w f t).2 → q (cuS w f t).1 μ') : mzCl (d + 3) 30 [mzR 0, mzI f, mzI t] μ (mzQi q) := by
  unfold cuS at h
  have hN := hW.1
  have hE := hW.E
  refine g30_e _ _ _ (c_isPlace I.1.1 hW.1 (fun a1 a2 => ⟨fun z => absurd z (by decide), fun _ => c_isPlace I.1.1 hW.1 (fun b1 b2 => ⟨fun _ => ?_, fun z => absurd z (by decide)⟩) (fun b => ⟨fun z => absurd rfl z, fun _ => c_fd (by omega) I (by rw [if_neg (by omega)] at h; exact h)⟩)⟩) (fun a => ⟨fun _ => c_fd (by omega) I (by rw [if_neg (by omega)] at h; exact h), fun z => absurd rfl z⟩))
  rw [if_pos ⟨⟨a1, a2⟩, b1, b2⟩] at h
  obtain ⟨f, rfl⟩ : ∃ n : Nat, f = n := ⟨f.toNat, by omega⟩
  obtain ⟨t, rfl⟩ : ∃ n : Nat, t = n := ⟨t.toNat, by omega⟩
  rw [Int.toNat_natCast, Int.toNat_natCast] at h
  rw [w12c (by omega) (by omega), Int.toNat_natCast, I.1.P (by omega) (by omega)]
  refine ⟨by omega, fun z => ?_, fun z => c_fd (by omega) I (by rw [if_pos z] at h; exact h)⟩
  rw [if_neg z] at h
  have m := I.1.setP (f := f) (t := t) (v := 0) (e := wE w) hN (by omega) (by omega)
  rw [S_id I.1.2.1] at m
  refine c_bec (j := 124 + 12 * f + t) rfl (by omega) m (fun μ' f' i g => ⟨by omega, by omega, by omega, ?_⟩)
  rw [show μ' 1 1 = wE w by rw [g 1 1 (by omega) (by omega)]; exact I.1.2.1, wid (by omega) (by omega)]
  exact h _ (f'.st (by unfold scM; omega)) ⟨i.1.setE, FR.r i.2 rfl rfl rfl (S_ne (by omega)) (fun _ => S_ne (by omega))⟩
theorem k_cut {d : Nat} {q : Int → mzM → Prop} {f t : Int} {μ : mzM} {w : Wd} (hW : WOk w) (C : CW μ 0 w) (h : ∀ μ', FC μ μ' → CW μ' 0 (cuS w f t).2 → q (cuS w f t).1 μ') : mzCl (d + 1) 137 [mzR 14, mzI f, mzI t] μ (mzQi q) := by
  unfold cuS at h
  have hN := hW.1
  have hE := hW.E
  refine g137_e _ _ _ (k_isPlace C.1 (fun a1 a2 => ⟨fun z => absurd z (by decide), fun _ => k_isPlace C.1 (fun b1 b2 => ⟨fun _ => ?_, fun z => absurd z (by decide)⟩) (fun b => ⟨fun z => absurd rfl z, fun _ => k_fd (by omega) hW.1 C (by rw [if_neg (by omega)] at h; exact h)⟩)⟩) (fun a => ⟨fun _ => k_fd (by omega) hW.1 C (by rw [if_neg (by omega)] at h; exact h), fun z => absurd rfl z⟩))
  rw [if_pos ⟨⟨a1, a2⟩, b1, b2⟩] at h
  rw [C.P (by omega) (by omega)]
  refine ⟨by omega, ⟨by omega, by omega, by omega⟩, fun z => ⟨by omega, ⟨by omega, by omega, by omega⟩, ?_⟩, fun z => k_fd (by omega) hW.1 C (by rw [if_pos z] at h; exact h)⟩
  rw [if_neg z] at h
  rw [S_ne (k := 88 + f.toNat) (a := 26) (by omega), C.E, wid (by omega) (by omega), S_cm (by omega)]
  exact h _ ((FC.rf.st (by unfold scC isW; omega)).st (by unfold scC isW; omega)) (C.setP hN (by omega))
theorem p_cut {d : Nat} {μ : mzM} {w : Wd} {q : Int → Int → mzM → Prop} {f t : Int} (R : RW μ w) (h : ∀ a μ' w', RW μ' w' → q a a μ') : mzCl (d + 3) 137 [mzR 14, mzI f, mzI t] μ (mzQi fun a m1 => mzCl (d + 3) 30 [mzR 0, mzI f, mzI t] m1 (mzQi fun c m2 => q a c m2)) :=
  pair (cuS w f t) R (cuS_ok R.1) (fun q' z => k_cut R.1 R.2.2.1 z) (fun m1 q' _ I z => c_cut R.1 I z) h
/-- hold -/
def hoS (w : Wd) (p i : Int) : Int × Wd := if 0 ≤ p ∧ p < wN w then (wT w p.toNat 9, setT w p.toNat 9 (if i = 0 then 0 else 1)) else (-1000001, w)
theorem hoS_ok {w : Wd} {p i : Int} (h : WOk w) : WOk (hoS w p i).2 := by
  unfold hoS
  split
  · have e1 : tlo 9 = 0 := rfl
    have e2 : thi (wN w) 9 = 1 := by simp [thi]
    exact setT_ok h (by omega) (by split <;> omega)
  · exact h
theorem c_hold {d : Nat} {q : Int → mzM → Prop} {p i : Int} {μ : mzM} {w : Wd} (hW : WOk w) (I : MI μ w) (h : ∀ μ', FM μ μ' → MI μ' (hoS w p i).2 → q (hoS w p i).1 μ') : mzCl (d + 2) 31 [mzR 0, mzI p, mzI i] μ (mzQi q) := by
  unfold hoS at h
  have hN := hW.1
  refine g31_e _ _ _ (c_isPlace I.1.1 hW.1 (fun a1 a2 => ⟨fun z => absurd z (by decide), fun _ => ?_⟩) (fun a => ⟨fun _ => c_fd (by omega) I (by rw [if_neg (by omega)] at h; exact h), fun z => absurd rfl z⟩))
  rw [if_pos ⟨a1, a2⟩] at h
  obtain ⟨p, rfl⟩ : ∃ n : Nat, p = n := ⟨p.toNat, by omega⟩
  rw [Int.toNat_natCast] at h
  have hp : p < wN w := by omega
  refine ⟨fun z => ?_, fun z => ?_⟩
  · rw [if_pos z] at h
    refine c_bec (j := 4 + 10 * p + 9) (w10p (by omega) rfl (by omega)) (by omega) (I.setT hW hp (by omega)) (fun μ' f i _ => ?_)
    rw [I.1.T hp (by omega)]
    exact h μ' f i
  · rw [if_neg z] at h
    refine c_bec (j := 4 + 10 * p + 9) (w10p (by omega) rfl (by omega)) (by omega) (I.setT hW hp (by omega)) (fun μ' f i _ => ?_)
    rw [I.1.T hp (by omega)]
    exact h μ' f i
theorem hB_set {w : Wd} {p : Nat} {i : Int} (hp : p < wN w) : hw (setT w p 9 (if i = 0 then 0 else 1)) = if i = 0 then nd (hw w) (2 ^ p) else hw w ||| 2 ^ p := by
  refine Nat.eq_of_testBit_eq (fun b => ?_)
  show (hB (setT w p 9 (if i = 0 then 0 else 1)).2.1 (wN w)).testBit b = _
  rw [hB_mk, mk_bit]
  have e : ∀ x : Nat, (hw w).testBit x = (decide (x < wN w) && decide (wT w x 9 ≠ 0)) := fun x => by rw [hw, hB_mk, mk_bit]
  show (decide (b < wN w) && decide ((if b = p ∧ 9 = 9 then (if i = 0 then (0 : Int) else 1) else wT w b 9) ≠ 0)) = _
  by_cases c : i = 0
  · rw [if_pos c, if_pos c, nd_bit, Nat.testBit_two_pow, e]
    by_cases c2 : b = p
    · rw [if_pos ⟨c2, rfl⟩, c2]; simp
    · rw [if_neg (fun z => c2 z.1), decide_eq_false (p := p = b) (fun z => c2 z.symm)]; simp
  · rw [if_neg c, if_neg c, Nat.testBit_or, Nat.testBit_two_pow, e]
    by_cases c2 : b = p
    · rw [if_pos ⟨c2, rfl⟩, c2]; simp [hp]
    · rw [if_neg (fun z => c2 z.1), decide_eq_false (p := p = b) (fun z => c2 z.symm)]; simp
theorem CW_hold {μ : mzM} {w : Wd} {p : Nat} {i : Int} {v : Int} (hW : WOk w) (C : CW μ 0 w) (hp : p < wN w) (hv : v = (if i = 0 then nd (hw w) (2 ^ p) else hw w ||| 2 ^ p : Nat)) : CW (mzS μ 26 3 v) 0 (setT w p 9 (if i = 0 then 0 else 1)) := by
  obtain ⟨g0, g1, g2, g3, g4, g5, g6, g7, g8⟩ := id C
  refine C.put (Or.inl rfl) ?_ ?_ ?_ ?_ ?_ rfl hW.1 (fun a t ht => ?_) (fun _ _ => rfl) (fun j hj => ⟨?_, ?_⟩) (fun j hj => ?_)
  · rw [S_ne (by omega)]; exact g0
  · rw [S_ne (by omega)]; exact g1
  · rw [S_ne (by omega)]; exact g2
  · rw [S_eq, hv]
    exact congrArg _ (hB_set hp).symm
  · rw [S_ne (by omega)]; exact g4
  · exact if_neg (by omega)
  · rw [S_ne (by omega)]; exact (g7 j hj).1
  · rw [S_ne (by omega)]; exact (g7 j hj).2
  · rw [S_ne (by omega)]; exact g8 j hj
theorem k_hold {d : Nat} {q : Int → mzM → Prop} {p i : Int} {μ : mzM} {w : Wd} (hW : WOk w) (C : CW μ 0 w) (h : ∀ μ', FC μ μ' → CW μ' 0 (hoS w p i).2 → q (hoS w p i).1 μ') : mzCl (d + 1) 138 [mzR 14, mzI p, mzI i] μ (mzQi q) := by
  unfold hoS at h
  have hN := hW.1
  have hl := hw_lt hW
  refine g138_e _ _ _ (k_isPlace C.1 (fun a1 a2 => ⟨fun _ => ?_, fun z => absurd z (by decide)⟩) (fun a => ⟨fun z => absurd rfl z, fun _ => k_fd (by omega) hW.1 C (by rw [if_neg (by omega)] at h; exact h)⟩))
  rw [if_pos ⟨a1, a2⟩] at h
  obtain ⟨p, rfl⟩ : ∃ n : Nat, p = n := ⟨p.toNat, by omega⟩
  rw [Int.toNat_natCast] at h
  have hp : p < wN w := by omega
  have e3 : μ 26 3 = (hw w : Int) := C.2.2.2.1
  have hp2 : 2 ^ p < 4096 := by have := Nat.pow_lt_pow_right (a := 2) (by omega) (show p < 12 by omega); omega
  rw [T9 hW hp, ← nBit (a := hw w) (p := p) (by omega) (by omega)] at h
  rw [e3, nPow (by omega), nNot (by omega), nOr (by omega) (by omega)]
  refine ⟨fun z => ?_, fun z => ?_⟩
  · exact h _ (FC.rf.st (by unfold scC isW; omega)) (CW_hold hW C hp (by rw [if_pos z]))
  · exact h _ (FC.rf.st (by unfold scC isW; omega)) (CW_hold hW C hp (by rw [if_neg z]))
theorem p_hold {d : Nat} {μ : mzM} {w : Wd} {q : Int → Int → mzM → Prop} {p i : Int} (R : RW μ w) (h : ∀ a μ' w', RW μ' w' → q a a μ') : mzCl (d + 2) 138 [mzR 14, mzI p, mzI i] μ (mzQi fun a m1 => mzCl (d + 2) 31 [mzR 0, mzI p, mzI i] m1 (mzQi fun c m2 => q a c m2)) :=
  pair (hoS w p i) R (hoS_ok R.1) (fun q' z => k_hold R.1 R.2.2.1 z) (fun m1 q' _ I z => c_hold R.1 I z) h
end
section
/-! PAIRS: push, pushOf, clear, seed, spot, as -/
def piS (w : Wd) (y : Int) : Nat → Nat
  | 0 => 0
  | k + 1 => piS w y k ||| if wY w k = y then 2 ^ (wL w k).toNat else 0
theorem WOk.Pu {w : Wd} (h : WOk w) {i : Nat} (hi : i < wK w) : 0 ≤ wY w i ∧ wY w i ≤ 49 ∧ 0 ≤ wL w i ∧ wL w i < wN w := h.2.2.2.2.2.2.2.1 i hi
theorem piS_lt {w : Wd} (h : WOk w) (y : Int) : ∀ k, k ≤ wK w → piS w y k < 2 ^ wN w := by
  intro k
  induction k with
  | zero => intro _; exact Nat.pow_pos (by omega)
  | succ k ih =>
    intro hk
    unfold piS
    refine Nat.or_lt_two_pow (ih (by omega)) ?_
    have := h.Pu (i := k) (by omega)
    split
    · exact Nat.pow_lt_pow_right (by omega) (by omega)
    · exact Nat.pow_pos (by omega)
abbrev puS (w : Wd) (y : Int) : Nat := piS w y (wK w)
theorem lt4096 {a n : Nat} (h : a < 2 ^ n) (hn : n ≤ 12) : a < 4096 := Nat.lt_of_lt_of_le h (pow12 hn)
theorem puS_lt {w : Wd} (h : WOk w) (y : Int) : puS w y < 2 ^ wN w := piS_lt h y _ (Nat.le_refl _)
theorem MW.Y {μ : mzM} {a : Nat} {w : Wd} (h : MW μ a w) {i : Nat} (hi : i < wK w) : μ a (268 + 2 * i) = wY w i ∧ μ a (268 + 2 * i + 1) = wL w i := h.2.2.2.2.2.2.1 i hi
theorem CW.Y {μ : mzM} {w : Wd} (h : CW μ 0 w) {i : Nat} (hi : i < wK w) : μ 35 i = wY w i ∧ μ 38 i = wL w i := h.2.2.2.2.2.2.2.1 i hi
theorem CW.K {μ : mzM} {w : Wd} (h : CW μ 0 w) : μ 26 2 = wK w := h.2.2.1
theorem c_pushesOf {d : Nat} {q : Int → mzM → Prop} {y : Int} {μ : mzM} {w : Wd} (hW : WOk w) (I : MW μ 1 w) (h : q (puS w y) μ) : mzCl d 39 [mzR 0, mzI y] μ (mzQi q) := by
  have hN := hW.1
  have hK := hW.2.2.2.1
  have L : ∀ (c i : Nat) (x2 x3 : Int), i + c = wK w → x3 = i → x2 = piS w y i → mzWp d 39 4 [mzR 0, mzI y, mzI x2, mzI x3] [] μ (mzQi q) := by
    intro c
    induction c with
    | zero =>
      intro i x2 x3 hi h3 h2
      have : i = wK w := by omega
      subst this
      exact g39_4 _ _ _ _ ⟨by omega, fun _ => by rw [h2]; exact h, fun z => by have := I.2.2.1; omega⟩
    | succ c ih =>
      intro i x2 x3 hi h3 h2
      subst h3
      have e0 : mzW (268 + mzW (2 * (i : Int))) = ((268 + 2 * i : Nat) : Int) := by unfold mzW; omega
      have e1 : mzW (((268 + 2 * i : Nat) : Int) + 1) = ((268 + 2 * i + 1 : Nat) : Int) := by unfold mzW; omega
      have e2 : mzW ((i : Int) + 1) = ((i + 1 : Nat) : Int) := by rw [wid (by omega) (by omega)]; omega
      have hp := lt4096 (piS_lt hW y i (by omega)) hN
      have pu := hW.Pu (i := i) (by omega)
      obtain ⟨l, hl⟩ : ∃ l : Nat, wL w i = l := ⟨(wL w i).toNat, by omega⟩
      refine g39_4 _ _ _ _ ⟨by omega, fun z => by have := I.2.2.1; omega, fun _ => ?_⟩
      rw [e0, Int.toNat_natCast, e1, Int.toNat_natCast, (I.Y (by omega)).1, (I.Y (by omega)).2, e2, h2, hl, nPow (by omega)]
      have hp2 : 2 ^ l < 4096 := by have := Nat.pow_lt_pow_right (a := 2) (by omega) (show l < 12 by omega); omega
      refine ⟨by omega, fun z => ih (i + 1) _ _ (by omega) rfl ?_, fun z => ⟨by omega, ih (i + 1) _ _ (by omega) rfl ?_⟩⟩
      · have := nOr (a := piS w y i) (b := 0) (by omega) (by omega)
        rw [Nat.or_zero] at this
        rw [piS, if_neg z, Nat.or_zero]
        exact this
      · rw [nOr (by omega) (by omega), piS, if_pos z, hl, Int.toNat_natCast]
  exact g39_e _ _ (L (wK w) 0 _ _ (by omega) rfl rfl)
theorem k_pushedIn {d : Nat} {q : Int → mzM → Prop} {y : Int} {μ : mzM} {w : Wd} (hW : WOk w) (C : CW μ 0 w) (h : q (puS w y) μ) : mzCl d 98 [mzR 26, mzI y] μ (mzQi q) := by
  have hN := hW.1
  have hK := hW.2.2.2.1
  have eK := C.K
  have L : ∀ (c i : Nat) (x2 x3 : Int), i + c = wK w → x3 = i → x2 = piS w y i → mzWp d 98 4 [mzR 26, mzI y, mzI x2, mzI x3] [] μ (mzQi q) := by
    intro c
    induction c with
    | zero =>
      intro i x2 x3 hi h3 h2
      have : i = wK w := by omega
      subst this
      exact g98_4 _ _ _ _ ⟨fun _ => by rw [h2]; exact h, fun z => by omega⟩
    | succ c ih =>
      intro i x2 x3 hi h3 h2
      subst h3
      have e2 : mzW ((i : Int) + 1) = ((i + 1 : Nat) : Int) := by rw [wid (by omega) (by omega)]; omega
      have hp := lt4096 (piS_lt hW y i (by omega)) hN
      have pu := hW.Pu (i := i) (by omega)
      obtain ⟨l, hl⟩ : ∃ l : Nat, wL w i = l := ⟨(wL w i).toNat, by omega⟩
      refine g98_4 _ _ _ _ ⟨fun z => by omega, fun _ => ?_⟩
      rw [Int.toNat_natCast, (C.Y (by omega)).1, (C.Y (by omega)).2, e2, h2, hl, nPow (by omega)]
      have hp2 : 2 ^ l < 4096 := by have := Nat.pow_lt_pow_right (a := 2) (by omega) (show l < 12 by omega); omega
      refine ⟨by omega, fun z => ih (i + 1) _ _ (by omega) rfl ?_, fun z => ⟨by omega, ih (i + 1) _ _ (by omega) rfl ?_⟩⟩
      · rw [piS, if_neg z, Nat.or_zero]
      · rw [nOr (by omega) (by omega), piS, if_pos z, hl, Int.toNat_natCast]
  exact g98_e _ _ (L (wK w) 0 _ _ (by omega) rfl rfl)
/-- push -/
def pshS (w : Wd) (y p : Int) : Int × Wd := if (0 ≤ y ∧ y ≤ 49) ∧ 0 ≤ p ∧ p < wN w then (if (puS w y).testBit p.toNat = true then (-1000005, w) else if wK w = 20 then (-1000002, w) else ((wK w + 1 : Nat), addPu w y p)) else (-1000001, w)
theorem addPu_ok {w : Wd} {y p : Int} (h : WOk w) (hy : 0 ≤ y ∧ y ≤ 49) (hp : 0 ≤ p ∧ p < wN w) (hK : wK w < 20) : WOk (addPu w y p) := by
  obtain ⟨g0, g1, g2, g3, g4, g5, g6, g7, g8, g9⟩ := h
  refine ⟨g0, g1, g2, hK, g4, g5, g6, fun i hi => ?_, g8, g9⟩
  have hi2 : i < wK w + 1 := hi
  show 0 ≤ (if i = wK w then y else wY w i) ∧ (if i = wK w then y else wY w i) ≤ 49 ∧ 0 ≤ (if i = wK w then p else wL w i) ∧ (if i = wK w then p else wL w i) < wN w
  by_cases c : i = wK w
  · simp only [if_pos c]; exact ⟨hy.1, hy.2, hp.1, hp.2⟩
  · simp only [if_neg c]; exact g7 i (by omega)
theorem pshS_ok {w : Wd} {y p : Int} (h : WOk w) : WOk (pshS w y p).2 := by
  unfold pshS
  split
  · rename_i c
    split
    · exact h
    · split
      · exact h
      · have := h.2.2.2.1
        exact addPu_ok h c.1 c.2 (by omega)
  · exact h
theorem c_push {d : Nat} {q : Int → mzM → Prop} {y p : Int} {μ : mzM} {w : Wd} (hW : WOk w) (I : MI μ w) (h : ∀ μ', FM μ μ' → MI μ' (pshS w y p).2 → q (pshS w y p).1 μ') : mzCl (d + 2) 41 [mzR 0, mzI y, mzI p] μ (mzQi q) := by
  unfold pshS at h
  have hN := hW.1
  have hK := hW.2.2.2.1
  have eK : μ 1 2 = wK w := I.1.2.2.1
  refine g41_e _ _ _ (c_in (fun a1 a2 => ⟨fun z => absurd z (by decide), fun _ => c_isPlace I.1.1 hN (fun b1 b2 => ⟨fun _ => c_pushesOf hW I.1 ?_, fun z => absurd z (by decide)⟩) (fun b => ⟨fun z => absurd rfl z, fun _ => c_fd (by omega) I (by rw [if_neg (by omega)] at h; exact h)⟩)⟩) (fun a => ⟨fun _ => c_fd (by omega) I (by rw [if_neg (by omega)] at h; exact h), fun z => absurd rfl z⟩))
  rw [if_pos ⟨⟨a1, a2⟩, b1, b2⟩] at h
  obtain ⟨p, rfl⟩ : ∃ n : Nat, p = n := ⟨p.toNat, by omega⟩
  rw [Int.toNat_natCast] at h
  have hl := lt4096 (puS_lt hW y) hN
  refine c_has (by omega) (by omega) (fun t => ⟨fun z => absurd z (by decide), fun _ => c_fd (by omega) I (by rw [if_pos t] at h; exact h)⟩) (fun t => ⟨fun _ => ⟨by omega, fun z => ?_, fun z => c_fd (by omega) I (by rw [if_neg (by rw [t]; decide), if_pos (by omega)] at h; exact h)⟩, fun z => absurd rfl z⟩)
  rw [if_neg (by rw [t]; decide), if_neg (by omega)] at h
  have e0 : mzW (268 + mzW (2 * (μ 1 2))) = ((268 + 2 * wK w : Nat) : Int) := by rw [eK]; unfold mzW; omega
  have e1 : mzW (((268 + 2 * wK w : Nat) : Int) + 1) = ((268 + 2 * wK w + 1 : Nat) : Int) := by unfold mzW; omega
  rw [e0, e1, Int.toNat_natCast, Int.toNat_natCast, S_ne (a := 1) (b := 2) (by omega), S_ne (a := 1) (b := 2) (by omega), eK, wid (by omega) (by omega)]
  refine ⟨by omega, by omega, by omega, by omega, by omega, ?_⟩
  exact h _ (((FM.rf.st (by unfold scM; omega)).st (by unfold scM; omega)).st (by unfold scM; omega)) ⟨I.1.addPu hN (by omega), FR.r I.2 rfl rfl rfl (by rw [S_ne (by omega), S_ne (by omega), S_ne (by omega)]) (fun _ => by rw [S_ne (by omega), S_ne (by omega), S_ne (by omega)])⟩
theorem CW.addPu' {μ : mzM} {w : Wd} {y p : Int} (h : CW μ 0 w) (hN : wN w ≤ 12) : CW (mzS (mzS (mzS μ 35 (wK w) y) 38 (wK w) p) 26 2 ((wK w + 1 : Nat) : Int)) 0 (addPu w y p) := by
  obtain ⟨h0, h1, h2, h3, h4, h5, h6, h7, h8⟩ := h
  refine ⟨?_, ?_, S_eq, ?_, ?_, fun p' t' hp' ht' => ?_, fun f' t' hf' ht' => ?_, fun i hi => ⟨?_, ?_⟩, fun i hi => ?_⟩
  · rw [S_ne (by omega), S_ne (by omega), S_ne (by omega)]; exact h0
  · rw [S_ne (by omega), S_ne (by omega), S_ne (by omega)]; exact h1
  · rw [S_ne (by omega), S_ne (by omega), S_ne (by omega)]; exact h3
  · rw [S_ne (by omega), S_ne (by omega), S_ne (by omega)]; exact h4
  · have hp2 : p' < wN w := hp'
    rw [S_ne (by omega), S_ne (by omega), S_ne (by omega)]; exact h5 p' t' hp' ht'
  · rw [S_ne (by omega), S_ne (by omega), S_ne (by omega)]; exact h6 f' t' hf' ht'
  · have hi2 : i < wK w + 1 := hi
    show mzS (mzS (mzS μ 35 (wK w) y) 38 (wK w) p) 26 2 ((wK w + 1 : Nat) : Int) 35 i = if i = wK w then y else wY w i
    rw [S_ne (by omega), S_ne (by omega)]
    by_cases c : i = wK w
    · rw [if_pos c, c, S_eq]
    · rw [if_neg c, S_ne (by omega)]; exact (h7 i (by omega)).1
  · have hi2 : i < wK w + 1 := hi
    show mzS (mzS (mzS μ 35 (wK w) y) 38 (wK w) p) 26 2 ((wK w + 1 : Nat) : Int) 38 i = if i = wK w then p else wL w i
    rw [S_ne (by omega)]
    by_cases c : i = wK w
    · rw [if_pos c, c, S_eq]
    · rw [if_neg c, S_ne (by omega), S_ne (by omega)]; exact (h7 i (by omega)).2
  · rw [S_ne (by omega), S_ne (by omega), S_ne (by omega)]; exact h8 i hi
theorem k_push {d : Nat} {q : Int → mzM → Prop} {y p : Int} {μ : mzM} {w : Wd} (hW : WOk w) (C : CW μ 0 w) (h : ∀ μ', FC μ μ' → CW μ' 0 (pshS w y p).2 → q (pshS w y p).1 μ') : mzCl (d + 1) 139 [mzR 14, mzI y, mzI p] μ (mzQi q) := by
  unfold pshS at h
  have hN := hW.1
  have hK := hW.2.2.2.1
  have eK := C.K
  have fd : ¬ ((0 ≤ y ∧ y ≤ 49) ∧ 0 ≤ p ∧ p < wN w) → mzCl d 173 [mzR 14, mzI (-1000001)] μ (mzQi q) := fun c => k_fd (by omega) hW.1 C (by rw [if_neg c] at h; exact h)
  refine g139_e _ _ _ ⟨fun z => fd (by omega), fun a1 => ⟨fun z => fd (by omega), fun a2 => k_isPlace C.1 (fun b1 b2 => ⟨fun _ => k_pushedIn hW C ?_, fun z => absurd z (by decide)⟩) (fun b => ⟨fun z => absurd rfl z, fun _ => fd (by omega)⟩)⟩⟩
  rw [if_pos ⟨⟨a1, a2⟩, b1, b2⟩] at h
  obtain ⟨p, rfl⟩ : ∃ n : Nat, p = n := ⟨p.toNat, by omega⟩
  rw [Int.toNat_natCast] at h
  have hl := lt4096 (puS_lt hW y) hN
  rw [nBit (by omega) (by omega), eK, Int.toNat_natCast, wid (by omega) (by omega)]
  refine ⟨fun t => ⟨fun z => ⟨by omega, by omega, ?_⟩, fun z => k_fd (by omega) hW.1 C ?_⟩, fun t => k_fd (by omega) hW.1 C ?_⟩
  · rw [if_neg (fun c => by rw [if_pos c] at t; exact absurd t (by decide)), if_neg (by omega)] at h
    exact h _ (((FC.rf.st (by unfold scC isW; omega)).st (by unfold scC isW; omega)).st (by unfold scC isW; omega)) (C.addPu' hN)
  · rw [if_neg (fun c => by rw [if_pos c] at t; exact absurd t (by decide)), if_pos (by omega)] at h
    exact h
  · rw [if_pos (Classical.byContradiction (fun c => by rw [if_neg c] at t; exact absurd rfl t))] at h
    exact h
theorem p_push {d : Nat} {μ : mzM} {w : Wd} {q : Int → Int → mzM → Prop} {y p : Int} (R : RW μ w) (h : ∀ a μ' w', RW μ' w' → q a a μ') : mzCl (d + 2) 139 [mzR 14, mzI y, mzI p] μ (mzQi fun a m1 => mzCl (d + 2) 41 [mzR 0, mzI y, mzI p] m1 (mzQi fun c m2 => q a c m2)) :=
  pair (pshS w y p) R (pshS_ok R.1) (fun q' z => k_push R.1 R.2.2.1 z) (fun m1 q' _ I z => c_push R.1 I z) h
/-- pushOf -/
def pofS (w : Wd) (i t : Int) : Int × Wd := (if (0 ≤ i ∧ i < wK w) ∧ 0 ≤ t ∧ t ≤ 1 then (if t = 0 then wY w i.toNat else wL w i.toNat) else -1000001, w)
theorem c_pushOf {d : Nat} {q : Int → mzM → Prop} {i t : Int} {μ : mzM} {w : Wd} (hW : WOk w) (I : MI μ w) (h : ∀ μ', FM μ μ' → MI μ' (pofS w i t).2 → q (pofS w i t).1 μ') : mzCl (d + 2) 42 [mzR 0, mzI i, mzI t] μ (mzQi q) := by
  unfold pofS at h
  have hK := hW.2.2.2.1
  have eK : μ 1 2 = wK w := I.1.2.2.1
  refine g42_e _ _ _ ⟨by omega, ?_⟩
  rw [eK, wid (by omega) (by omega)]
  refine c_in (fun a1 a2 => ⟨fun z => absurd z (by decide), fun _ => c_in (fun b1 b2 => ⟨fun z => absurd z (by decide), fun _ => ?_⟩) (fun b => ⟨fun _ => c_fd (by omega) I (by rw [if_neg (by omega)] at h; exact h), fun z => absurd rfl z⟩)⟩) (fun a => ⟨fun _ => c_fd (by omega) I (by rw [if_neg (by omega)] at h; exact h), fun z => absurd rfl z⟩)
  rw [if_pos ⟨⟨a1, by omega⟩, b1, b2⟩] at h
  obtain ⟨i, rfl⟩ : ∃ n : Nat, i = n := ⟨i.toNat, by omega⟩
  rw [Int.toNat_natCast] at h
  by_cases c : t = 0
  · subst c
    have e0 : mzW (mzW (268 + mzW (2 * (i : Int))) + 0) = ((268 + 2 * i : Nat) : Int) := by unfold mzW; omega
    rw [e0, Int.toNat_natCast, (I.1.Y (by omega)).1]
    exact ⟨by omega, h μ FM.rf I⟩
  · have : t = 1 := by omega
    subst this
    have e0 : mzW (mzW (268 + mzW (2 * (i : Int))) + 1) = ((268 + 2 * i + 1 : Nat) : Int) := by unfold mzW; omega
    rw [e0, Int.toNat_natCast, (I.1.Y (by omega)).2]
    exact ⟨by omega, h μ FM.rf I⟩
theorem k_pushOf {d : Nat} {q : Int → mzM → Prop} {i t : Int} {μ : mzM} {w : Wd} (hW : WOk w) (C : CW μ 0 w) (h : ∀ μ', FC μ μ' → CW μ' 0 (pofS w i t).2 → q (pofS w i t).1 μ') : mzCl (d + 1) 140 [mzR 14, mzI i, mzI t] μ (mzQi q) := by
  unfold pofS at h
  have hK := hW.2.2.2.1
  have eK := C.K
  have fd : ¬ ((0 ≤ i ∧ i < wK w) ∧ 0 ≤ t ∧ t ≤ 1) → mzCl d 173 [mzR 14, mzI (-1000001)] μ (mzQi q) := fun c => k_fd (by omega) hW.1 C (by rw [if_neg c] at h; exact h)
  refine g140_e _ _ _ ⟨fun z => fd (by omega), fun a1 => ⟨fun z => fd (by omega), fun a2 => ⟨fun z => fd (by omega), fun b1 => ⟨fun b2 => ⟨fun z => ⟨by omega, ?_⟩, fun z => ⟨by omega, ?_⟩⟩, fun z => fd (by omega)⟩⟩⟩⟩
  · rw [if_pos ⟨⟨a1, by omega⟩, b1, b2⟩, if_neg z] at h
    rw [(C.Y (by omega)).2]
    exact h μ FC.rf C
  · rw [if_pos ⟨⟨a1, by omega⟩, b1, b2⟩, if_pos z] at h
    rw [(C.Y (by omega)).1]
    exact h μ FC.rf C
theorem p_pushOf {d : Nat} {μ : mzM} {w : Wd} {q : Int → Int → mzM → Prop} {i t : Int} (R : RW μ w) (h : ∀ a μ' w', RW μ' w' → q a a μ') : mzCl (d + 2) 140 [mzR 14, mzI i, mzI t] μ (mzQi fun a m1 => mzCl (d + 2) 42 [mzR 0, mzI i, mzI t] m1 (mzQi fun c m2 => q a c m2)) :=
  pair (pofS w i t) R R.1 (fun q' z => k_pushOf R.1 R.2.2.1 z) (fun m1 q' _ I z => c_pushOf R.1 I z) h
/-- clear -/
theorem CW.noPu' {μ : mzM} {w : Wd} (h : CW μ 0 w) (hN : wN w ≤ 12) : CW (mzS μ 26 2 0) 0 (noPu w) := by
  obtain ⟨g0, g1, g2, g3, g4, g5, g6, g7, g8⟩ := id h
  refine h.put (Or.inl rfl) ?_ ?_ S_eq ?_ ?_ rfl hN (fun a t ht => rfl) (fun _ _ => rfl) (fun j hj => absurd hj (Nat.not_lt_zero j)) (fun j hj => ?_)
  · rw [S_ne (by omega)]; exact g0
  · rw [S_ne (by omega)]; exact g1
  · rw [S_ne (by omega)]; exact g3
  · rw [S_ne (by omega)]; exact g4
  · rw [S_ne (by omega)]; exact g8 j hj
theorem noPu_ok {w : Wd} (h : WOk w) : WOk (noPu w) := by
  obtain ⟨g0, g1, g2, g3, g4, g5, g6, g7, g8, g9⟩ := h
  exact ⟨g0, g1, g2, Nat.zero_le _, g4, g5, g6, fun i hi => absurd hi (Nat.not_lt_zero i), g8, g9⟩
theorem p_clear {d : Nat} {μ : mzM} {w : Wd} {q : Int → Int → mzM → Prop} (R : RW μ w) (h : ∀ a μ' w', RW μ' w' → q a a μ') : mzCl d 141 [mzR 14] μ (mzQi fun a m1 => mzCl d 43 [mzR 0] m1 (mzQi fun c m2 => q a c m2)) :=
  pair (wK w, noPu w) R (noPu_ok R.1) (fun q' z => g141_e _ (by rw [R.2.2.1.K]; exact z _ (FC.rf.st (by unfold scC isW; omega)) (R.2.2.1.noPu' R.1.1)))
    (fun m1 q' _ I z => g43_e _ ⟨by omega, by omega, by rw [I.1.2.2.1]; exact z _ (FM.rf.st (by unfold scM; omega)) ⟨I.1.noPu, FR.r I.2 rfl rfl rfl (S_ne (by omega)) (fun _ => S_ne (by omega))⟩⟩) h
/-- seed -/
theorem CW.setZ' {μ : mzM} {w : Wd} {z : Int} (h : CW μ 0 w) (hN : wN w ≤ 12) : CW (mzS μ 26 4 z) 0 (setZ w z) := by
  obtain ⟨g0, g1, g2, g3, g4, g5, g6, g7, g8⟩ := id h
  refine h.put (Or.inl rfl) ?_ ?_ ?_ ?_ S_eq rfl hN (fun a t ht => rfl) (fun _ _ => rfl) (fun j hj => ⟨?_, ?_⟩) (fun j hj => ?_)
  · rw [S_ne (by omega)]; exact g0
  · rw [S_ne (by omega)]; exact g1
  · rw [S_ne (by omega)]; exact g2
  · rw [S_ne (by omega)]; exact g3
  · rw [S_ne (by omega)]; exact (g7 j hj).1
  · rw [S_ne (by omega)]; exact (g7 j hj).2
  · rw [S_ne (by omega)]; exact g8 j hj
theorem setZ_ok {w : Wd} {z : Int} (h : WOk w) (hz : -2147483648 ≤ z ∧ z < 2147483648) : WOk (setZ w z) := by
  obtain ⟨g0, g1, g2, g3, g4, g5, g6, g7, g8, g9⟩ := h
  exact ⟨g0, g1, g2, g3, g4, g5, g6, g7, g8, hz⟩
theorem p_seed {d : Nat} {μ : mzM} {w : Wd} {q : Int → Int → mzM → Prop} {z : Int} (hz : -2147483648 ≤ z ∧ z < 2147483648) (R : RW μ w) (h : ∀ a μ' w', RW μ' w' → q a a μ') : mzCl d 159 [mzR 14, mzI z] μ (mzQi fun a m1 => mzCl d 72 [mzR 0, mzI z] m1 (mzQi fun c m2 => q a c m2)) :=
  pair (wZ w, setZ w z) R (setZ_ok R.1 hz) (fun q' y => g159_e _ _ (by rw [show μ 26 4 = wZ w from R.2.2.1.2.2.2.2.1]; exact y _ (FC.rf.st (by unfold scC isW; omega)) (R.2.2.1.setZ' R.1.1)))
    (fun m1 q' _ I y => g72_e _ _ ⟨by omega, by omega, by rw [I.1.2.2.2.1]; exact y _ (FM.rf.st (by unfold scM; omega)) ⟨I.1.setZ, FR.r I.2 rfl rfl rfl (S_ne (by omega)) (fun _ => S_ne (by omega))⟩⟩) h
end
