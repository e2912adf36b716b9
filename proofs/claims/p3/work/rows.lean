section
-- ===== PART A: goes FIRST, ahead of the names: the tables' words, and 'selects' of the private methods out of them =====
/-- a private method of a class that the tables say can be made, by its rows of tables_1 -/
def lw_okq (q : MethodName × Nat) : Prop := (q.1.cls ≠ "java/lang/invoke/MethodHandle" ∧ q.1.cls ≠ "java/lang/invoke/VarHandle") ∧ Cond.instantiable q.1.cls q.2 ∈ tables_1 ∧ Cond.privateMethod q.1 ∈ tables_1 ∧ Cond.instanceMethod q.1 ∈ tables_1
theorem lw_p0 : lw_okq (⟨"MeltPins", "finding", "(I)I"⟩, 8) := ⟨⟨by decide +kernel, by decide +kernel⟩, List.mem_of_getElem? (i := 16) (by decide +kernel), List.mem_of_getElem? (i := 201) (by decide +kernel), List.mem_of_getElem? (i := 202) (by decide +kernel)⟩
theorem lw_p1 : lw_okq (⟨"MeltPins$Tape", "append", "(I)V"⟩, 6) := ⟨⟨by decide +kernel, by decide +kernel⟩, List.mem_of_getElem? (i := 125) (by decide +kernel), List.mem_of_getElem? (i := 206) (by decide +kernel), List.mem_of_getElem? (i := 207) (by decide +kernel)⟩
theorem lw_p2 : lw_okq (⟨"MeltPins$World", "become", "(LMeltPins$World;)V"⟩, 10) := ⟨⟨by decide +kernel, by decide +kernel⟩, List.mem_of_getElem? (i := 24) (by decide +kernel), List.mem_of_getElem? (i := 218) (by decide +kernel), List.mem_of_getElem? (i := 219) (by decide +kernel)⟩
theorem lw_p3 : lw_okq (⟨"MeltPins$Tape", "readText", "(LMeltPins$World;)I"⟩, 6) := ⟨⟨by decide +kernel, by decide +kernel⟩, List.mem_of_getElem? (i := 125) (by decide +kernel), List.mem_of_getElem? (i := 225) (by decide +kernel), List.mem_of_getElem? (i := 226) (by decide +kernel)⟩
theorem lw_p4 : lw_okq (⟨"MeltPins$Tape", "nextToken", "()V"⟩, 6) := ⟨⟨by decide +kernel, by decide +kernel⟩, List.mem_of_getElem? (i := 125) (by decide +kernel), List.mem_of_getElem? (i := 229) (by decide +kernel), List.mem_of_getElem? (i := 230) (by decide +kernel)⟩
theorem lw_p5 : lw_okq (⟨"MeltPins$Tape", "takeNumber", "()V"⟩, 6) := ⟨⟨by decide +kernel, by decide +kernel⟩, List.mem_of_getElem? (i := 125) (by decide +kernel), List.mem_of_getElem? (i := 239) (by decide +kernel), List.mem_of_getElem? (i := 240) (by decide +kernel)⟩
theorem lw_p6 : lw_okq (⟨"MeltPins$Tape", "readTie", "(LMeltPins$World;)Z"⟩, 6) := ⟨⟨by decide +kernel, by decide +kernel⟩, List.mem_of_getElem? (i := 125) (by decide +kernel), List.mem_of_getElem? (i := 246) (by decide +kernel), List.mem_of_getElem? (i := 247) (by decide +kernel)⟩
theorem lw_p7 : lw_okq (⟨"MeltPins$Tape", "isNumber", "(II)Z"⟩, 6) := ⟨⟨by decide +kernel, by decide +kernel⟩, List.mem_of_getElem? (i := 125) (by decide +kernel), List.mem_of_getElem? (i := 250) (by decide +kernel), List.mem_of_getElem? (i := 251) (by decide +kernel)⟩
theorem lw_p8 : lw_okq (⟨"MeltPins$Tape", "isWord", "(Ljava/lang/String;)Z"⟩, 6) := ⟨⟨by decide +kernel, by decide +kernel⟩, List.mem_of_getElem? (i := 125) (by decide +kernel), List.mem_of_getElem? (i := 255) (by decide +kernel), List.mem_of_getElem? (i := 256) (by decide +kernel)⟩
theorem lw_p9 : lw_okq (⟨"MeltPins$World", "putTie", "(III)V"⟩, 10) := ⟨⟨by decide +kernel, by decide +kernel⟩, List.mem_of_getElem? (i := 24) (by decide +kernel), List.mem_of_getElem? (i := 308) (by decide +kernel), List.mem_of_getElem? (i := 309) (by decide +kernel)⟩
theorem lw_p10 : lw_okq (⟨"MeltPins$Tape", "readPlace", "(LMeltPins$World;)Z"⟩, 6) := ⟨⟨by decide +kernel, by decide +kernel⟩, List.mem_of_getElem? (i := 125) (by decide +kernel), List.mem_of_getElem? (i := 312) (by decide +kernel), List.mem_of_getElem? (i := 313) (by decide +kernel)⟩
theorem lw_p11 : lw_okq (⟨"MeltPins$Tape", "kindHere", "()I"⟩, 6) := ⟨⟨by decide +kernel, by decide +kernel⟩, List.mem_of_getElem? (i := 125) (by decide +kernel), List.mem_of_getElem? (i := 316) (by decide +kernel), List.mem_of_getElem? (i := 317) (by decide +kernel)⟩
theorem lw_p12 : lw_okq (⟨"MeltPins$World", "addPlace", "(II)[I"⟩, 10) := ⟨⟨by decide +kernel, by decide +kernel⟩, List.mem_of_getElem? (i := 24) (by decide +kernel), List.mem_of_getElem? (i := 330) (by decide +kernel), List.mem_of_getElem? (i := 331) (by decide +kernel)⟩
theorem lw_p13 : lw_okq (⟨"MeltPins$Tape", "traitHere", "()I"⟩, 6) := ⟨⟨by decide +kernel, by decide +kernel⟩, List.mem_of_getElem? (i := 125) (by decide +kernel), List.mem_of_getElem? (i := 334) (by decide +kernel), List.mem_of_getElem? (i := 335) (by decide +kernel)⟩
theorem lw_p14 : lw_okq (⟨"MeltPins", "isPlace", "(I)Z"⟩, 8) := ⟨⟨by decide +kernel, by decide +kernel⟩, List.mem_of_getElem? (i := 16) (by decide +kernel), List.mem_of_getElem? (i := 355) (by decide +kernel), List.mem_of_getElem? (i := 356) (by decide +kernel)⟩
theorem lw_p15 : lw_okq (⟨"MeltPins$World", "heightOf", "(II)I"⟩, 10) := ⟨⟨by decide +kernel, by decide +kernel⟩, List.mem_of_getElem? (i := 24) (by decide +kernel), List.mem_of_getElem? (i := 359) (by decide +kernel), List.mem_of_getElem? (i := 360) (by decide +kernel)⟩
def lw_privs_1 : List (MethodName × Nat) := [(⟨"MeltPins", "finding", "(I)I"⟩, 8), (⟨"MeltPins$Tape", "append", "(I)V"⟩, 6), (⟨"MeltPins$World", "become", "(LMeltPins$World;)V"⟩, 10), (⟨"MeltPins$Tape", "readText", "(LMeltPins$World;)I"⟩, 6), (⟨"MeltPins$Tape", "nextToken", "()V"⟩, 6), (⟨"MeltPins$Tape", "takeNumber", "()V"⟩, 6), (⟨"MeltPins$Tape", "readTie", "(LMeltPins$World;)Z"⟩, 6), (⟨"MeltPins$Tape", "isNumber", "(II)Z"⟩, 6), (⟨"MeltPins$Tape", "isWord", "(Ljava/lang/String;)Z"⟩, 6), (⟨"MeltPins$World", "putTie", "(III)V"⟩, 10), (⟨"MeltPins$Tape", "readPlace", "(LMeltPins$World;)Z"⟩, 6), (⟨"MeltPins$Tape", "kindHere", "()I"⟩, 6), (⟨"MeltPins$World", "addPlace", "(II)[I"⟩, 10), (⟨"MeltPins$Tape", "traitHere", "()I"⟩, 6), (⟨"MeltPins", "isPlace", "(I)Z"⟩, 8), (⟨"MeltPins$World", "heightOf", "(II)I"⟩, 10)]
theorem lw_r1 : ∀ q ∈ lw_privs_1, lw_okq q := List.forall_mem_cons.mpr ⟨lw_p0, List.forall_mem_cons.mpr ⟨lw_p1, List.forall_mem_cons.mpr ⟨lw_p2, List.forall_mem_cons.mpr ⟨lw_p3, List.forall_mem_cons.mpr ⟨lw_p4, List.forall_mem_cons.mpr ⟨lw_p5, List.forall_mem_cons.mpr ⟨lw_p6, List.forall_mem_cons.mpr ⟨lw_p7, List.forall_mem_cons.mpr ⟨lw_p8, List.forall_mem_cons.mpr ⟨lw_p9, List.forall_mem_cons.mpr ⟨lw_p10, List.forall_mem_cons.mpr ⟨lw_p11, List.forall_mem_cons.mpr ⟨lw_p12, List.forall_mem_cons.mpr ⟨lw_p13, List.forall_mem_cons.mpr ⟨lw_p14, List.forall_mem_cons.mpr ⟨lw_p15, fun _ h => absurd h List.not_mem_nil⟩⟩⟩⟩⟩⟩⟩⟩⟩⟩⟩⟩⟩⟩⟩⟩
theorem lw_p16 : lw_okq (⟨"MeltPins$World", "pushedIn", "(I)I"⟩, 10) := ⟨⟨by decide +kernel, by decide +kernel⟩, List.mem_of_getElem? (i := 24) (by decide +kernel), List.mem_of_getElem? (i := 398) (by decide +kernel), List.mem_of_getElem? (i := 399) (by decide +kernel)⟩
theorem lw_p17 : lw_okq (⟨"MeltPins", "passPlan", "(I)V"⟩, 8) := ⟨⟨by decide +kernel, by decide +kernel⟩, List.mem_of_getElem? (i := 16) (by decide +kernel), List.mem_of_getElem? (i := 415) (by decide +kernel), List.mem_of_getElem? (i := 416) (by decide +kernel)⟩
theorem lw_p18 : lw_okq (⟨"MeltPins$Melt", "survey", "()V"⟩, 10) := ⟨⟨by decide +kernel, by decide +kernel⟩, List.mem_of_getElem? (i := 84) (by decide +kernel), List.mem_of_getElem? (i := 419) (by decide +kernel), List.mem_of_getElem? (i := 420) (by decide +kernel)⟩
theorem lw_p19 : lw_okq (⟨"MeltPins$Melt", "lowerBars", "(I)V"⟩, 10) := ⟨⟨by decide +kernel, by decide +kernel⟩, List.mem_of_getElem? (i := 84) (by decide +kernel), List.mem_of_getElem? (i := 423) (by decide +kernel), List.mem_of_getElem? (i := 424) (by decide +kernel)⟩
theorem lw_p20 : lw_okq (⟨"MeltPins$Melt", "takeBar", "(II)V"⟩, 10) := ⟨⟨by decide +kernel, by decide +kernel⟩, List.mem_of_getElem? (i := 84) (by decide +kernel), List.mem_of_getElem? (i := 428) (by decide +kernel), List.mem_of_getElem? (i := 429) (by decide +kernel)⟩
theorem lw_p21 : lw_okq (⟨"MeltPins$Melt", "begin", "(I)V"⟩, 10) := ⟨⟨by decide +kernel, by decide +kernel⟩, List.mem_of_getElem? (i := 84) (by decide +kernel), List.mem_of_getElem? (i := 433) (by decide +kernel), List.mem_of_getElem? (i := 434) (by decide +kernel)⟩
theorem lw_p22 : lw_okq (⟨"MeltPins$Melt", "passYear", "(I)Z"⟩, 10) := ⟨⟨by decide +kernel, by decide +kernel⟩, List.mem_of_getElem? (i := 84) (by decide +kernel), List.mem_of_getElem? (i := 438) (by decide +kernel), List.mem_of_getElem? (i := 439) (by decide +kernel)⟩
theorem lw_p23 : lw_okq (⟨"MeltPins$Melt", "falls", "(II)Z"⟩, 10) := ⟨⟨by decide +kernel, by decide +kernel⟩, List.mem_of_getElem? (i := 84) (by decide +kernel), List.mem_of_getElem? (i := 442) (by decide +kernel), List.mem_of_getElem? (i := 443) (by decide +kernel)⟩
theorem lw_p24 : lw_okq (⟨"MeltPins$Melt", "gets", "(II)I"⟩, 10) := ⟨⟨by decide +kernel, by decide +kernel⟩, List.mem_of_getElem? (i := 84) (by decide +kernel), List.mem_of_getElem? (i := 446) (by decide +kernel), List.mem_of_getElem? (i := 447) (by decide +kernel)⟩
theorem lw_p25 : lw_okq (⟨"MeltPins$Melt", "goes", "(II)Z"⟩, 10) := ⟨⟨by decide +kernel, by decide +kernel⟩, List.mem_of_getElem? (i := 84) (by decide +kernel), List.mem_of_getElem? (i := 450) (by decide +kernel), List.mem_of_getElem? (i := 451) (by decide +kernel)⟩
theorem lw_p26 : lw_okq (⟨"MeltPins$Melt", "walk", "(IZ)Z"⟩, 10) := ⟨⟨by decide +kernel, by decide +kernel⟩, List.mem_of_getElem? (i := 84) (by decide +kernel), List.mem_of_getElem? (i := 460) (by decide +kernel), List.mem_of_getElem? (i := 461) (by decide +kernel)⟩
theorem lw_p27 : lw_okq (⟨"MeltPins$Melt", "drownSpoilt", "(I)V"⟩, 10) := ⟨⟨by decide +kernel, by decide +kernel⟩, List.mem_of_getElem? (i := 84) (by decide +kernel), List.mem_of_getElem? (i := 464) (by decide +kernel), List.mem_of_getElem? (i := 465) (by decide +kernel)⟩
theorem lw_p28 : lw_okq (⟨"MeltPins", "isSet", "(I)Z"⟩, 8) := ⟨⟨by decide +kernel, by decide +kernel⟩, List.mem_of_getElem? (i := 16) (by decide +kernel), List.mem_of_getElem? (i := 485) (by decide +kernel), List.mem_of_getElem? (i := 486) (by decide +kernel)⟩
theorem lw_p29 : lw_okq (⟨"MeltPins$World", "all", "()I"⟩, 10) := ⟨⟨by decide +kernel, by decide +kernel⟩, List.mem_of_getElem? (i := 24) (by decide +kernel), List.mem_of_getElem? (i := 489) (by decide +kernel), List.mem_of_getElem? (i := 490) (by decide +kernel)⟩
theorem lw_p30 : lw_okq (⟨"MeltPins$Melt", "standOf", "(II)I"⟩, 10) := ⟨⟨by decide +kernel, by decide +kernel⟩, List.mem_of_getElem? (i := 84) (by decide +kernel), List.mem_of_getElem? (i := 493) (by decide +kernel), List.mem_of_getElem? (i := 494) (by decide +kernel)⟩
theorem lw_p31 : lw_okq (⟨"MeltPins", "leastThatStands", "(Z)I"⟩, 8) := ⟨⟨by decide +kernel, by decide +kernel⟩, List.mem_of_getElem? (i := 16) (by decide +kernel), List.mem_of_getElem? (i := 507) (by decide +kernel), List.mem_of_getElem? (i := 508) (by decide +kernel)⟩
def lw_privs_2 : List (MethodName × Nat) := [(⟨"MeltPins$World", "pushedIn", "(I)I"⟩, 10), (⟨"MeltPins", "passPlan", "(I)V"⟩, 8), (⟨"MeltPins$Melt", "survey", "()V"⟩, 10), (⟨"MeltPins$Melt", "lowerBars", "(I)V"⟩, 10), (⟨"MeltPins$Melt", "takeBar", "(II)V"⟩, 10), (⟨"MeltPins$Melt", "begin", "(I)V"⟩, 10), (⟨"MeltPins$Melt", "passYear", "(I)Z"⟩, 10), (⟨"MeltPins$Melt", "falls", "(II)Z"⟩, 10), (⟨"MeltPins$Melt", "gets", "(II)I"⟩, 10), (⟨"MeltPins$Melt", "goes", "(II)Z"⟩, 10), (⟨"MeltPins$Melt", "walk", "(IZ)Z"⟩, 10), (⟨"MeltPins$Melt", "drownSpoilt", "(I)V"⟩, 10), (⟨"MeltPins", "isSet", "(I)Z"⟩, 8), (⟨"MeltPins$World", "all", "()I"⟩, 10), (⟨"MeltPins$Melt", "standOf", "(II)I"⟩, 10), (⟨"MeltPins", "leastThatStands", "(Z)I"⟩, 8)]
theorem lw_r2 : ∀ q ∈ lw_privs_2, lw_okq q := List.forall_mem_cons.mpr ⟨lw_p16, List.forall_mem_cons.mpr ⟨lw_p17, List.forall_mem_cons.mpr ⟨lw_p18, List.forall_mem_cons.mpr ⟨lw_p19, List.forall_mem_cons.mpr ⟨lw_p20, List.forall_mem_cons.mpr ⟨lw_p21, List.forall_mem_cons.mpr ⟨lw_p22, List.forall_mem_cons.mpr ⟨lw_p23, List.forall_mem_cons.mpr ⟨lw_p24, List.forall_mem_cons.mpr ⟨lw_p25, List.forall_mem_cons.mpr ⟨lw_p26, List.forall_mem_cons.mpr ⟨lw_p27, List.forall_mem_cons.mpr ⟨lw_p28, List.forall_mem_cons.mpr ⟨lw_p29, List.forall_mem_cons.mpr ⟨lw_p30, List.forall_mem_cons.mpr ⟨lw_p31, fun _ h => absurd h List.not_mem_nil⟩⟩⟩⟩⟩⟩⟩⟩⟩⟩⟩⟩⟩⟩⟩⟩
theorem lw_p32 : lw_okq (⟨"MeltPins$Melt", "mustBePushed", "()I"⟩, 10) := ⟨⟨by decide +kernel, by decide +kernel⟩, List.mem_of_getElem? (i := 84) (by decide +kernel), List.mem_of_getElem? (i := 511) (by decide +kernel), List.mem_of_getElem? (i := 512) (by decide +kernel)⟩
theorem lw_p33 : lw_okq (⟨"MeltPins$World", "sumOf", "(II)I"⟩, 10) := ⟨⟨by decide +kernel, by decide +kernel⟩, List.mem_of_getElem? (i := 24) (by decide +kernel), List.mem_of_getElem? (i := 518) (by decide +kernel), List.mem_of_getElem? (i := 519) (by decide +kernel)⟩
theorem lw_p34 : lw_okq (⟨"MeltPins$Melt", "standsAll", "(I)Z"⟩, 10) := ⟨⟨by decide +kernel, by decide +kernel⟩, List.mem_of_getElem? (i := 84) (by decide +kernel), List.mem_of_getElem? (i := 522) (by decide +kernel), List.mem_of_getElem? (i := 523) (by decide +kernel)⟩
theorem lw_p35 : lw_okq (⟨"MeltPins", "tellOfSet", "(II)I"⟩, 8) := ⟨⟨by decide +kernel, by decide +kernel⟩, List.mem_of_getElem? (i := 16) (by decide +kernel), List.mem_of_getElem? (i := 527) (by decide +kernel), List.mem_of_getElem? (i := 528) (by decide +kernel)⟩
theorem lw_p36 : lw_okq (⟨"MeltPins", "orderYears", "(III)I"⟩, 8) := ⟨⟨by decide +kernel, by decide +kernel⟩, List.mem_of_getElem? (i := 16) (by decide +kernel), List.mem_of_getElem? (i := 550) (by decide +kernel), List.mem_of_getElem? (i := 551) (by decide +kernel)⟩
theorem lw_p37 : lw_okq (⟨"MeltPins", "chanceOf", "(I)J"⟩, 8) := ⟨⟨by decide +kernel, by decide +kernel⟩, List.mem_of_getElem? (i := 16) (by decide +kernel), List.mem_of_getElem? (i := 579) (by decide +kernel), List.mem_of_getElem? (i := 580) (by decide +kernel)⟩
theorem lw_p38 : lw_okq (⟨"MeltPins", "drawnSet", "()I"⟩, 8) := ⟨⟨by decide +kernel, by decide +kernel⟩, List.mem_of_getElem? (i := 16) (by decide +kernel), List.mem_of_getElem? (i := 587) (by decide +kernel), List.mem_of_getElem? (i := 588) (by decide +kernel)⟩
theorem lw_p39 : lw_okq (⟨"MeltPins$World", "draw", "()I"⟩, 10) := ⟨⟨by decide +kernel, by decide +kernel⟩, List.mem_of_getElem? (i := 24) (by decide +kernel), List.mem_of_getElem? (i := 591) (by decide +kernel), List.mem_of_getElem? (i := 592) (by decide +kernel)⟩
theorem lw_p40 : lw_okq (⟨"MeltPins", "bestHold", "(IIIII)I"⟩, 8) := ⟨⟨by decide +kernel, by decide +kernel⟩, List.mem_of_getElem? (i := 16) (by decide +kernel), List.mem_of_getElem? (i := 604) (by decide +kernel), List.mem_of_getElem? (i := 605) (by decide +kernel)⟩
theorem lw_p41 : lw_okq (⟨"MeltPins", "bestPush", "(IIIII)I"⟩, 8) := ⟨⟨by decide +kernel, by decide +kernel⟩, List.mem_of_getElem? (i := 16) (by decide +kernel), List.mem_of_getElem? (i := 608) (by decide +kernel), List.mem_of_getElem? (i := 609) (by decide +kernel)⟩
theorem lw_p42 : lw_okq (⟨"MeltPins", "bringsLayers", "(ILMeltPins$Sheet;)Z"⟩, 8) := ⟨⟨by decide +kernel, by decide +kernel⟩, List.mem_of_getElem? (i := 16) (by decide +kernel), List.mem_of_getElem? (i := 622) (by decide +kernel), List.mem_of_getElem? (i := 623) (by decide +kernel)⟩
theorem lw_p43 : lw_okq (⟨"MeltPins", "areAll", "(ILMeltPins$Sheet;I)Z"⟩, 8) := ⟨⟨by decide +kernel, by decide +kernel⟩, List.mem_of_getElem? (i := 16) (by decide +kernel), List.mem_of_getElem? (i := 626) (by decide +kernel), List.mem_of_getElem? (i := 627) (by decide +kernel)⟩
theorem lw_p44 : lw_okq (⟨"MeltPins$Sheet", "lowestBits", "(I)I"⟩, 3) := ⟨⟨by decide +kernel, by decide +kernel⟩, List.mem_of_getElem? (i := 152) (by decide +kernel), List.mem_of_getElem? (i := 658) (by decide +kernel), List.mem_of_getElem? (i := 659) (by decide +kernel)⟩
theorem lw_p45 : lw_okq (⟨"MeltPins$Sheet", "hasRow", "(II)Z"⟩, 3) := ⟨⟨by decide +kernel, by decide +kernel⟩, List.mem_of_getElem? (i := 152) (by decide +kernel), List.mem_of_getElem? (i := 666) (by decide +kernel), List.mem_of_getElem? (i := 667) (by decide +kernel)⟩
theorem lw_p46 : lw_okq (⟨"MeltPins$World", "fullSpots", "()I"⟩, 10) := ⟨⟨by decide +kernel, by decide +kernel⟩, List.mem_of_getElem? (i := 24) (by decide +kernel), List.mem_of_getElem? (i := 687) (by decide +kernel), List.mem_of_getElem? (i := 688) (by decide +kernel)⟩
theorem lw_p47 : lw_okq (⟨"MeltPinsModel", "finds", "(I)I"⟩, 26) := ⟨⟨by decide +kernel, by decide +kernel⟩, List.mem_of_getElem? (i := 695) (by decide +kernel), List.mem_of_getElem? (i := 789) (by decide +kernel), List.mem_of_getElem? (i := 790) (by decide +kernel)⟩
def lw_privs_3 : List (MethodName × Nat) := [(⟨"MeltPins$Melt", "mustBePushed", "()I"⟩, 10), (⟨"MeltPins$World", "sumOf", "(II)I"⟩, 10), (⟨"MeltPins$Melt", "standsAll", "(I)Z"⟩, 10), (⟨"MeltPins", "tellOfSet", "(II)I"⟩, 8), (⟨"MeltPins", "orderYears", "(III)I"⟩, 8), (⟨"MeltPins", "chanceOf", "(I)J"⟩, 8), (⟨"MeltPins", "drawnSet", "()I"⟩, 8), (⟨"MeltPins$World", "draw", "()I"⟩, 10), (⟨"MeltPins", "bestHold", "(IIIII)I"⟩, 8), (⟨"MeltPins", "bestPush", "(IIIII)I"⟩, 8), (⟨"MeltPins", "bringsLayers", "(ILMeltPins$Sheet;)Z"⟩, 8), (⟨"MeltPins", "areAll", "(ILMeltPins$Sheet;I)Z"⟩, 8), (⟨"MeltPins$Sheet", "lowestBits", "(I)I"⟩, 3), (⟨"MeltPins$Sheet", "hasRow", "(II)Z"⟩, 3), (⟨"MeltPins$World", "fullSpots", "()I"⟩, 10), (⟨"MeltPinsModel", "finds", "(I)I"⟩, 26)]
theorem lw_r3 : ∀ q ∈ lw_privs_3, lw_okq q := List.forall_mem_cons.mpr ⟨lw_p32, List.forall_mem_cons.mpr ⟨lw_p33, List.forall_mem_cons.mpr ⟨lw_p34, List.forall_mem_cons.mpr ⟨lw_p35, List.forall_mem_cons.mpr ⟨lw_p36, List.forall_mem_cons.mpr ⟨lw_p37, List.forall_mem_cons.mpr ⟨lw_p38, List.forall_mem_cons.mpr ⟨lw_p39, List.forall_mem_cons.mpr ⟨lw_p40, List.forall_mem_cons.mpr ⟨lw_p41, List.forall_mem_cons.mpr ⟨lw_p42, List.forall_mem_cons.mpr ⟨lw_p43, List.forall_mem_cons.mpr ⟨lw_p44, List.forall_mem_cons.mpr ⟨lw_p45, List.forall_mem_cons.mpr ⟨lw_p46, List.forall_mem_cons.mpr ⟨lw_p47, fun _ h => absurd h List.not_mem_nil⟩⟩⟩⟩⟩⟩⟩⟩⟩⟩⟩⟩⟩⟩⟩⟩
theorem lw_p48 : lw_okq (⟨"MeltPinsModel", "next", "()V"⟩, 26) := ⟨⟨by decide +kernel, by decide +kernel⟩, List.mem_of_getElem? (i := 695) (by decide +kernel), List.mem_of_getElem? (i := 802) (by decide +kernel), List.mem_of_getElem? (i := 803) (by decide +kernel)⟩
theorem lw_p49 : lw_okq (⟨"MeltPinsModel", "tieItem", "()V"⟩, 26) := ⟨⟨by decide +kernel, by decide +kernel⟩, List.mem_of_getElem? (i := 695) (by decide +kernel), List.mem_of_getElem? (i := 816) (by decide +kernel), List.mem_of_getElem? (i := 817) (by decide +kernel)⟩
theorem lw_p50 : lw_okq (⟨"MeltPinsModel", "number", "(II)I"⟩, 26) := ⟨⟨by decide +kernel, by decide +kernel⟩, List.mem_of_getElem? (i := 695) (by decide +kernel), List.mem_of_getElem? (i := 820) (by decide +kernel), List.mem_of_getElem? (i := 821) (by decide +kernel)⟩
theorem lw_p51 : lw_okq (⟨"MeltPinsModel", "isWord", "(Ljava/lang/String;)Z"⟩, 26) := ⟨⟨by decide +kernel, by decide +kernel⟩, List.mem_of_getElem? (i := 695) (by decide +kernel), List.mem_of_getElem? (i := 825) (by decide +kernel), List.mem_of_getElem? (i := 826) (by decide +kernel)⟩
theorem lw_p52 : lw_okq (⟨"MeltPinsModel", "isPlace", "(I)Z"⟩, 26) := ⟨⟨by decide +kernel, by decide +kernel⟩, List.mem_of_getElem? (i := 695) (by decide +kernel), List.mem_of_getElem? (i := 831) (by decide +kernel), List.mem_of_getElem? (i := 832) (by decide +kernel)⟩
theorem lw_p53 : lw_okq (⟨"MeltPinsModel", "placeItem", "()V"⟩, 26) := ⟨⟨by decide +kernel, by decide +kernel⟩, List.mem_of_getElem? (i := 695) (by decide +kernel), List.mem_of_getElem? (i := 836) (by decide +kernel), List.mem_of_getElem? (i := 837) (by decide +kernel)⟩
theorem lw_p54 : lw_okq (⟨"MeltPinsModel", "kindHere", "()I"⟩, 26) := ⟨⟨by decide +kernel, by decide +kernel⟩, List.mem_of_getElem? (i := 695) (by decide +kernel), List.mem_of_getElem? (i := 840) (by decide +kernel), List.mem_of_getElem? (i := 841) (by decide +kernel)⟩
theorem lw_p55 : lw_okq (⟨"MeltPinsModel", "takes", "(Ljava/lang/String;)Z"⟩, 26) := ⟨⟨by decide +kernel, by decide +kernel⟩, List.mem_of_getElem? (i := 695) (by decide +kernel), List.mem_of_getElem? (i := 852) (by decide +kernel), List.mem_of_getElem? (i := 853) (by decide +kernel)⟩
theorem lw_p56 : lw_okq (⟨"MeltPinsModel", "of", "(II)I"⟩, 26) := ⟨⟨by decide +kernel, by decide +kernel⟩, List.mem_of_getElem? (i := 695) (by decide +kernel), List.mem_of_getElem? (i := 865) (by decide +kernel), List.mem_of_getElem? (i := 866) (by decide +kernel)⟩
theorem lw_p57 : lw_okq (⟨"MeltPinsModel", "height", "(I)I"⟩, 26) := ⟨⟨by decide +kernel, by decide +kernel⟩, List.mem_of_getElem? (i := 695) (by decide +kernel), List.mem_of_getElem? (i := 869) (by decide +kernel), List.mem_of_getElem? (i := 870) (by decide +kernel)⟩
theorem lw_p58 : lw_okq (⟨"MeltPinsModel", "may", "(III)Z"⟩, 26) := ⟨⟨by decide +kernel, by decide +kernel⟩, List.mem_of_getElem? (i := 695) (by decide +kernel), List.mem_of_getElem? (i := 877) (by decide +kernel), List.mem_of_getElem? (i := 878) (by decide +kernel)⟩
theorem lw_p59 : lw_okq (⟨"MeltPinsModel", "becomes", "(II)I"⟩, 26) := ⟨⟨by decide +kernel, by decide +kernel⟩, List.mem_of_getElem? (i := 695) (by decide +kernel), List.mem_of_getElem? (i := 883) (by decide +kernel), List.mem_of_getElem? (i := 884) (by decide +kernel)⟩
theorem lw_p60 : lw_okq (⟨"MeltPinsModel", "isTie", "(II)Z"⟩, 26) := ⟨⟨by decide +kernel, by decide +kernel⟩, List.mem_of_getElem? (i := 695) (by decide +kernel), List.mem_of_getElem? (i := 895) (by decide +kernel), List.mem_of_getElem? (i := 896) (by decide +kernel)⟩
theorem lw_p61 : lw_okq (⟨"MeltPinsModel", "pushesOf", "(I)I"⟩, 26) := ⟨⟨by decide +kernel, by decide +kernel⟩, List.mem_of_getElem? (i := 695) (by decide +kernel), List.mem_of_getElem? (i := 917) (by decide +kernel), List.mem_of_getElem? (i := 918) (by decide +kernel)⟩
theorem lw_p62 : lw_okq (⟨"MeltPinsModel", "plan", "(I)V"⟩, 26) := ⟨⟨by decide +kernel, by decide +kernel⟩, List.mem_of_getElem? (i := 695) (by decide +kernel), List.mem_of_getElem? (i := 937) (by decide +kernel), List.mem_of_getElem? (i := 938) (by decide +kernel)⟩
theorem lw_p63 : lw_okq (⟨"MeltPinsModel", "heldNow", "()I"⟩, 26) := ⟨⟨by decide +kernel, by decide +kernel⟩, List.mem_of_getElem? (i := 695) (by decide +kernel), List.mem_of_getElem? (i := 941) (by decide +kernel), List.mem_of_getElem? (i := 942) (by decide +kernel)⟩
def lw_privs_4 : List (MethodName × Nat) := [(⟨"MeltPinsModel", "next", "()V"⟩, 26), (⟨"MeltPinsModel", "tieItem", "()V"⟩, 26), (⟨"MeltPinsModel", "number", "(II)I"⟩, 26), (⟨"MeltPinsModel", "isWord", "(Ljava/lang/String;)Z"⟩, 26), (⟨"MeltPinsModel", "isPlace", "(I)Z"⟩, 26), (⟨"MeltPinsModel", "placeItem", "()V"⟩, 26), (⟨"MeltPinsModel", "kindHere", "()I"⟩, 26), (⟨"MeltPinsModel", "takes", "(Ljava/lang/String;)Z"⟩, 26), (⟨"MeltPinsModel", "of", "(II)I"⟩, 26), (⟨"MeltPinsModel", "height", "(I)I"⟩, 26), (⟨"MeltPinsModel", "may", "(III)Z"⟩, 26), (⟨"MeltPinsModel", "becomes", "(II)I"⟩, 26), (⟨"MeltPinsModel", "isTie", "(II)Z"⟩, 26), (⟨"MeltPinsModel", "pushesOf", "(I)I"⟩, 26), (⟨"MeltPinsModel", "plan", "(I)V"⟩, 26), (⟨"MeltPinsModel", "heldNow", "()I"⟩, 26)]
theorem lw_r4 : ∀ q ∈ lw_privs_4, lw_okq q := List.forall_mem_cons.mpr ⟨lw_p48, List.forall_mem_cons.mpr ⟨lw_p49, List.forall_mem_cons.mpr ⟨lw_p50, List.forall_mem_cons.mpr ⟨lw_p51, List.forall_mem_cons.mpr ⟨lw_p52, List.forall_mem_cons.mpr ⟨lw_p53, List.forall_mem_cons.mpr ⟨lw_p54, List.forall_mem_cons.mpr ⟨lw_p55, List.forall_mem_cons.mpr ⟨lw_p56, List.forall_mem_cons.mpr ⟨lw_p57, List.forall_mem_cons.mpr ⟨lw_p58, List.forall_mem_cons.mpr ⟨lw_p59, List.forall_mem_cons.mpr ⟨lw_p60, List.forall_mem_cons.mpr ⟨lw_p61, List.forall_mem_cons.mpr ⟨lw_p62, List.forall_mem_cons.mpr ⟨lw_p63, fun _ h => absurd h List.not_mem_nil⟩⟩⟩⟩⟩⟩⟩⟩⟩⟩⟩⟩⟩⟩⟩⟩
theorem lw_p64 : lw_okq (⟨"MeltPinsModel", "begins", "(I)V"⟩, 26) := ⟨⟨by decide +kernel, by decide +kernel⟩, List.mem_of_getElem? (i := 695) (by decide +kernel), List.mem_of_getElem? (i := 945) (by decide +kernel), List.mem_of_getElem? (i := 946) (by decide +kernel)⟩
theorem lw_p65 : lw_okq (⟨"MeltPinsModel", "year", "(I)Z"⟩, 26) := ⟨⟨by decide +kernel, by decide +kernel⟩, List.mem_of_getElem? (i := 695) (by decide +kernel), List.mem_of_getElem? (i := 949) (by decide +kernel), List.mem_of_getElem? (i := 950) (by decide +kernel)⟩
theorem lw_p66 : lw_okq (⟨"MeltPinsModel", "falls", "(II)Z"⟩, 26) := ⟨⟨by decide +kernel, by decide +kernel⟩, List.mem_of_getElem? (i := 695) (by decide +kernel), List.mem_of_getElem? (i := 953) (by decide +kernel), List.mem_of_getElem? (i := 954) (by decide +kernel)⟩
theorem lw_p67 : lw_okq (⟨"MeltPinsModel", "gets", "(II)I"⟩, 26) := ⟨⟨by decide +kernel, by decide +kernel⟩, List.mem_of_getElem? (i := 695) (by decide +kernel), List.mem_of_getElem? (i := 957) (by decide +kernel), List.mem_of_getElem? (i := 958) (by decide +kernel)⟩
theorem lw_p68 : lw_okq (⟨"MeltPinsModel", "goes", "(II)Z"⟩, 26) := ⟨⟨by decide +kernel, by decide +kernel⟩, List.mem_of_getElem? (i := 695) (by decide +kernel), List.mem_of_getElem? (i := 961) (by decide +kernel), List.mem_of_getElem? (i := 962) (by decide +kernel)⟩
theorem lw_p69 : lw_okq (⟨"MeltPinsModel", "company", "(II)I"⟩, 26) := ⟨⟨by decide +kernel, by decide +kernel⟩, List.mem_of_getElem? (i := 695) (by decide +kernel), List.mem_of_getElem? (i := 965) (by decide +kernel), List.mem_of_getElem? (i := 966) (by decide +kernel)⟩
theorem lw_p70 : lw_okq (⟨"MeltPinsModel", "isSet", "(I)Z"⟩, 26) := ⟨⟨by decide +kernel, by decide +kernel⟩, List.mem_of_getElem? (i := 695) (by decide +kernel), List.mem_of_getElem? (i := 985) (by decide +kernel), List.mem_of_getElem? (i := 986) (by decide +kernel)⟩
theorem lw_p71 : lw_okq (⟨"MeltPinsModel", "every", "()I"⟩, 26) := ⟨⟨by decide +kernel, by decide +kernel⟩, List.mem_of_getElem? (i := 695) (by decide +kernel), List.mem_of_getElem? (i := 989) (by decide +kernel), List.mem_of_getElem? (i := 990) (by decide +kernel)⟩
theorem lw_p72 : lw_okq (⟨"MeltPinsModel", "standOf", "(II)I"⟩, 26) := ⟨⟨by decide +kernel, by decide +kernel⟩, List.mem_of_getElem? (i := 695) (by decide +kernel), List.mem_of_getElem? (i := 993) (by decide +kernel), List.mem_of_getElem? (i := 994) (by decide +kernel)⟩
theorem lw_p73 : lw_okq (⟨"MeltPinsModel", "asksNothing", "()V"⟩, 26) := ⟨⟨by decide +kernel, by decide +kernel⟩, List.mem_of_getElem? (i := 695) (by decide +kernel), List.mem_of_getElem? (i := 1001) (by decide +kernel), List.mem_of_getElem? (i := 1002) (by decide +kernel)⟩
theorem lw_p74 : lw_okq (⟨"MeltPinsModel", "allIn", "(I)I"⟩, 26) := ⟨⟨by decide +kernel, by decide +kernel⟩, List.mem_of_getElem? (i := 695) (by decide +kernel), List.mem_of_getElem? (i := 1005) (by decide +kernel), List.mem_of_getElem? (i := 1006) (by decide +kernel)⟩
theorem lw_p75 : lw_okq (⟨"MeltPinsModel", "leastAll", "(II)I"⟩, 26) := ⟨⟨by decide +kernel, by decide +kernel⟩, List.mem_of_getElem? (i := 695) (by decide +kernel), List.mem_of_getElem? (i := 1014) (by decide +kernel), List.mem_of_getElem? (i := 1015) (by decide +kernel)⟩
theorem lw_p76 : lw_okq (⟨"MeltPinsModel", "findStands", "()V"⟩, 26) := ⟨⟨by decide +kernel, by decide +kernel⟩, List.mem_of_getElem? (i := 695) (by decide +kernel), List.mem_of_getElem? (i := 1018) (by decide +kernel), List.mem_of_getElem? (i := 1019) (by decide +kernel)⟩
theorem lw_p77 : lw_okq (⟨"MeltPinsModel", "sumOf", "(II)I"⟩, 26) := ⟨⟨by decide +kernel, by decide +kernel⟩, List.mem_of_getElem? (i := 695) (by decide +kernel), List.mem_of_getElem? (i := 1025) (by decide +kernel), List.mem_of_getElem? (i := 1026) (by decide +kernel)⟩
theorem lw_p78 : lw_okq (⟨"MeltPinsModel", "told", "(II)I"⟩, 26) := ⟨⟨by decide +kernel, by decide +kernel⟩, List.mem_of_getElem? (i := 695) (by decide +kernel), List.mem_of_getElem? (i := 1029) (by decide +kernel), List.mem_of_getElem? (i := 1030) (by decide +kernel)⟩
theorem lw_p79 : lw_okq (⟨"MeltPinsModel", "tries", "(IIII)V"⟩, 26) := ⟨⟨by decide +kernel, by decide +kernel⟩, List.mem_of_getElem? (i := 695) (by decide +kernel), List.mem_of_getElem? (i := 1051) (by decide +kernel), List.mem_of_getElem? (i := 1052) (by decide +kernel)⟩
def lw_privs_5 : List (MethodName × Nat) := [(⟨"MeltPinsModel", "begins", "(I)V"⟩, 26), (⟨"MeltPinsModel", "year", "(I)Z"⟩, 26), (⟨"MeltPinsModel", "falls", "(II)Z"⟩, 26), (⟨"MeltPinsModel", "gets", "(II)I"⟩, 26), (⟨"MeltPinsModel", "goes", "(II)Z"⟩, 26), (⟨"MeltPinsModel", "company", "(II)I"⟩, 26), (⟨"MeltPinsModel", "isSet", "(I)Z"⟩, 26), (⟨"MeltPinsModel", "every", "()I"⟩, 26), (⟨"MeltPinsModel", "standOf", "(II)I"⟩, 26), (⟨"MeltPinsModel", "asksNothing", "()V"⟩, 26), (⟨"MeltPinsModel", "allIn", "(I)I"⟩, 26), (⟨"MeltPinsModel", "leastAll", "(II)I"⟩, 26), (⟨"MeltPinsModel", "findStands", "()V"⟩, 26), (⟨"MeltPinsModel", "sumOf", "(II)I"⟩, 26), (⟨"MeltPinsModel", "told", "(II)I"⟩, 26), (⟨"MeltPinsModel", "tries", "(IIII)V"⟩, 26)]
theorem lw_r5 : ∀ q ∈ lw_privs_5, lw_okq q := List.forall_mem_cons.mpr ⟨lw_p64, List.forall_mem_cons.mpr ⟨lw_p65, List.forall_mem_cons.mpr ⟨lw_p66, List.forall_mem_cons.mpr ⟨lw_p67, List.forall_mem_cons.mpr ⟨lw_p68, List.forall_mem_cons.mpr ⟨lw_p69, List.forall_mem_cons.mpr ⟨lw_p70, List.forall_mem_cons.mpr ⟨lw_p71, List.forall_mem_cons.mpr ⟨lw_p72, List.forall_mem_cons.mpr ⟨lw_p73, List.forall_mem_cons.mpr ⟨lw_p74, List.forall_mem_cons.mpr ⟨lw_p75, List.forall_mem_cons.mpr ⟨lw_p76, List.forall_mem_cons.mpr ⟨lw_p77, List.forall_mem_cons.mpr ⟨lw_p78, List.forall_mem_cons.mpr ⟨lw_p79, fun _ h => absurd h List.not_mem_nil⟩⟩⟩⟩⟩⟩⟩⟩⟩⟩⟩⟩⟩⟩⟩⟩
theorem lw_p80 : lw_okq (⟨"MeltPinsModel", "keepBars", "()V"⟩, 26) := ⟨⟨by decide +kernel, by decide +kernel⟩, List.mem_of_getElem? (i := 695) (by decide +kernel), List.mem_of_getElem? (i := 1063) (by decide +kernel), List.mem_of_getElem? (i := 1064) (by decide +kernel)⟩
theorem lw_p81 : lw_okq (⟨"MeltPinsModel", "giveBars", "(I)V"⟩, 26) := ⟨⟨by decide +kernel, by decide +kernel⟩, List.mem_of_getElem? (i := 695) (by decide +kernel), List.mem_of_getElem? (i := 1067) (by decide +kernel), List.mem_of_getElem? (i := 1068) (by decide +kernel)⟩
theorem lw_p82 : lw_okq (⟨"MeltPinsModel", "brings", "(I)Z"⟩, 26) := ⟨⟨by decide +kernel, by decide +kernel⟩, List.mem_of_getElem? (i := 695) (by decide +kernel), List.mem_of_getElem? (i := 1071) (by decide +kernel), List.mem_of_getElem? (i := 1072) (by decide +kernel)⟩
theorem lw_p83 : lw_okq (⟨"MeltPinsModel", "ones", "(III)I"⟩, 26) := ⟨⟨by decide +kernel, by decide +kernel⟩, List.mem_of_getElem? (i := 695) (by decide +kernel), List.mem_of_getElem? (i := 1101) (by decide +kernel), List.mem_of_getElem? (i := 1102) (by decide +kernel)⟩
theorem lw_p84 : lw_okq (⟨"MeltPinsModel", "others", "(III)I"⟩, 26) := ⟨⟨by decide +kernel, by decide +kernel⟩, List.mem_of_getElem? (i := 695) (by decide +kernel), List.mem_of_getElem? (i := 1105) (by decide +kernel), List.mem_of_getElem? (i := 1106) (by decide +kernel)⟩
theorem lw_p85 : lw_okq (⟨"MeltPinsModel", "isFirst", "(II)Z"⟩, 26) := ⟨⟨by decide +kernel, by decide +kernel⟩, List.mem_of_getElem? (i := 695) (by decide +kernel), List.mem_of_getElem? (i := 1118) (by decide +kernel), List.mem_of_getElem? (i := 1119) (by decide +kernel)⟩
def lw_privs_6 : List (MethodName × Nat) := [(⟨"MeltPinsModel", "keepBars", "()V"⟩, 26), (⟨"MeltPinsModel", "giveBars", "(I)V"⟩, 26), (⟨"MeltPinsModel", "brings", "(I)Z"⟩, 26), (⟨"MeltPinsModel", "ones", "(III)I"⟩, 26), (⟨"MeltPinsModel", "others", "(III)I"⟩, 26), (⟨"MeltPinsModel", "isFirst", "(II)Z"⟩, 26)]
theorem lw_r6 : ∀ q ∈ lw_privs_6, lw_okq q := List.forall_mem_cons.mpr ⟨lw_p80, List.forall_mem_cons.mpr ⟨lw_p81, List.forall_mem_cons.mpr ⟨lw_p82, List.forall_mem_cons.mpr ⟨lw_p83, List.forall_mem_cons.mpr ⟨lw_p84, List.forall_mem_cons.mpr ⟨lw_p85, fun _ h => absurd h List.not_mem_nil⟩⟩⟩⟩⟩⟩
def lw_privs : List (MethodName × Nat) := lw_privs_1 ++ (lw_privs_2 ++ (lw_privs_3 ++ (lw_privs_4 ++ (lw_privs_5 ++ (lw_privs_6)))))
def lw_tbl : List Cond := k2_sels lw_privs ++ tables_1
theorem lw_privs_ok : ∀ q ∈ lw_privs, lw_okq q := by
  show ∀ q ∈ lw_privs_1 ++ (lw_privs_2 ++ (lw_privs_3 ++ (lw_privs_4 ++ (lw_privs_5 ++ (lw_privs_6))))), lw_okq q
  exact List.forall_mem_append.mpr ⟨lw_r1, List.forall_mem_append.mpr ⟨lw_r2, List.forall_mem_append.mpr ⟨lw_r3, List.forall_mem_append.mpr ⟨lw_r4, List.forall_mem_append.mpr ⟨lw_r5, lw_r6⟩⟩⟩⟩⟩

def RX0 : String := "MeltPins$Melt"
def TX0 : u_T := fun k => match k with
  | 0 => ("MeltPins$Melt", "world", "LMeltPins$World;", true)
  | 1 => ("MeltPins$Melt", "heights", "[I", true)
  | 2 => ("MeltPins$Melt", "givers", "[I", true)
  | 3 => ("MeltPins$Melt", "giverCounts", "[I", true)
  | 4 => ("MeltPins$Melt", "giverAt", "[[I", true)
  | 5 => ("MeltPins$Melt", "partAt", "[[I", true)
  | 6 => ("MeltPins$Melt", "onWay", "[I", true)
  | 7 => ("MeltPins$Melt", "over", "I", false)
  | 8 => ("MeltPins$Melt", "drowned", "I", false)
  | _ => ("MeltPins$Melt", "held", "I", false)
def tyX0 : Nat → FieldType := fun k => match k with
  | 0 => .object "MeltPins$World"
  | 1 => .array .int
  | 2 => .array .int
  | 3 => .array .int
  | 4 => .array (.array .int)
  | 5 => .array (.array .int)
  | 6 => .array .int
  | 7 => .int
  | 8 => .int
  | _ => .int
def RX1 : String := "MeltPins$Sheet"
def TX1 : u_T := fun k => match k with
  | 0 => ("MeltPins$Sheet", "bits", "I", false)
  | 1 => ("MeltPins$Sheet", "length", "I", false)
  | _ => ("MeltPins$Sheet", "numbers", "[I", true)
def tyX1 : Nat → FieldType := fun k => match k with
  | 0 => .int
  | 1 => .int
  | _ => .array .int
def RX2 : String := "MeltPins$Tape"
def TX2 : u_T := fun k => match k with
  | 0 => ("MeltPins$Tape", "bytes", "[I", true)
  | 1 => ("MeltPins$Tape", "length", "I", false)
  | 2 => ("MeltPins$Tape", "token", "I", false)
  | 3 => ("MeltPins$Tape", "start", "I", false)
  | 4 => ("MeltPins$Tape", "end", "I", false)
  | _ => ("MeltPins$Tape", "number", "I", false)
def tyX2 : Nat → FieldType := fun k => match k with
  | 0 => .array .int
  | 1 => .int
  | 2 => .int
  | 3 => .int
  | 4 => .int
  | _ => .int
def RX3 : String := "MeltPins$World"
def TX3 : u_T := fun k => match k with
  | 0 => ("MeltPins$World", "places", "I", false)
  | 1 => ("MeltPins$World", "ties", "I", false)
  | 2 => ("MeltPins$World", "pushes", "I", false)
  | 3 => ("MeltPins$World", "held", "I", false)
  | 4 => ("MeltPins$World", "z", "I", false)
  | 5 => ("MeltPins$World", "traits", "[[I", true)
  | 6 => ("MeltPins$World", "parts", "[[I", true)
  | 7 => ("MeltPins$World", "pushYears", "[I", true)
  | 8 => ("MeltPins$World", "pushPlaces", "[I", true)
  | _ => ("MeltPins$World", "spots", "[I", true)
def tyX3 : Nat → FieldType := fun k => match k with
  | 0 => .int
  | 1 => .int
  | 2 => .int
  | 3 => .int
  | 4 => .int
  | 5 => .array (.array .int)
  | 6 => .array (.array .int)
  | 7 => .array .int
  | 8 => .array .int
  | _ => .array .int
def RX4 : String := "MeltPins"
def TX4 : u_T := fun k => match k with
  | 0 => ("MeltPins", "now", "LMeltPins$World;", true)
  | 1 => ("MeltPins", "kept", "LMeltPins$World;", true)
  | 2 => ("MeltPins", "draft", "LMeltPins$World;", true)
  | 3 => ("MeltPins", "melt", "LMeltPins$Melt;", true)
  | 4 => ("MeltPins", "tape", "LMeltPins$Tape;", true)
  | 5 => ("MeltPins", "sheets", "[LMeltPins$Sheet;", true)
  | 6 => ("MeltPins", "told", "[I", true)
  | _ => ("MeltPins", "keeps", "Z", false)
def tyX4 : Nat → FieldType := fun k => match k with
  | 0 => .object "MeltPins$World"
  | 1 => .object "MeltPins$World"
  | 2 => .object "MeltPins$World"
  | 3 => .object "MeltPins$Melt"
  | 4 => .object "MeltPins$Tape"
  | 5 => .array (.object "MeltPins$Sheet")
  | 6 => .array .int
  | _ => .boolean
def RX5 : String := "MeltPinsModel"
def TX5 : u_T := fun k => match k with
  | 0 => ("MeltPinsModel", "m", "[I", true)
  | 1 => ("MeltPinsModel", "kept", "[I", true)
  | 2 => ("MeltPinsModel", "isKept", "Z", false)
  | 3 => ("MeltPinsModel", "found", "[I", true)
  | 4 => ("MeltPinsModel", "isFresh", "Z", false)
  | 5 => ("MeltPinsModel", "tape", "[I", true)
  | 6 => ("MeltPinsModel", "taped", "I", false)
  | 7 => ("MeltPinsModel", "sort", "I", false)
  | 8 => ("MeltPinsModel", "from", "I", false)
  | 9 => ("MeltPinsModel", "to", "I", false)
  | 10 => ("MeltPinsModel", "value", "I", false)
  | 11 => ("MeltPinsModel", "bad", "Z", false)
  | 12 => ("MeltPinsModel", "ahead", "[I", true)
  | 13 => ("MeltPinsModel", "over", "I", false)
  | 14 => ("MeltPinsModel", "drowned", "I", false)
  | 15 => ("MeltPinsModel", "holds", "I", false)
  | 16 => ("MeltPinsModel", "way", "[I", true)
  | 17 => ("MeltPinsModel", "heights", "[I", true)
  | 18 => ("MeltPinsModel", "stands", "[I", true)
  | 19 => ("MeltPinsModel", "asked", "[I", true)
  | 20 => ("MeltPinsModel", "bestYears", "I", false)
  | 21 => ("MeltPinsModel", "bestOrder", "I", false)
  | 22 => ("MeltPinsModel", "bars", "[I", true)
  | 23 => ("MeltPinsModel", "bits", "[I", true)
  | 24 => ("MeltPinsModel", "size", "[I", true)
  | _ => ("MeltPinsModel", "number", "[I", true)
def tyX5 : Nat → FieldType := fun k => match k with
  | 0 => .array .int
  | 1 => .array .int
  | 2 => .boolean
  | 3 => .array .int
  | 4 => .boolean
  | 5 => .array .int
  | 6 => .int
  | 7 => .int
  | 8 => .int
  | 9 => .int
  | 10 => .int
  | 11 => .boolean
  | 12 => .array .int
  | 13 => .int
  | 14 => .int
  | 15 => .int
  | 16 => .array .int
  | 17 => .array .int
  | 18 => .array .int
  | 19 => .array .int
  | 20 => .int
  | 21 => .int
  | 22 => .array .int
  | 23 => .array .int
  | 24 => .array .int
  | _ => .array .int
def mzCls : List vw_C := [(RX0, TX0, 10), (RX1, TX1, 3), (RX2, TX2, 6), (RX3, TX3, 10), (RX4, TX4, 8), (RX5, TX5, 26)]
def mzNm : List String := ["MeltPins$Melt", "MeltPins$Sheet", "MeltPins$Tape", "MeltPins$World", "MeltPins", "MeltPinsModel", "MeltPinsLaw", "java/lang/Integer", "java/util/Arrays"]
/-- the methods: name, code, how many places, what comes back, of which of mzNm -/
def mzTab0 : List (MethodName × ByteArray × Nat × Option FieldType × Nat) := [
  (x, code, 4, some .boolean, 6),
  (⟨"MeltPinsModel", "finds", "(I)I"⟩, prog_7_method_2_code, 2, some .int, 5),
  (⟨"MeltPinsModel", "in", "(JJJ)Z"⟩, prog_7_method_3_code, 6, some .boolean, 5),
  (⟨"MeltPinsModel", "has", "(II)Z"⟩, prog_7_method_4_code, 2, some .boolean, 5),
  (⟨"MeltPinsModel", "many", "(I)I"⟩, prog_7_method_5_code, 3, some .int, 5),
  (⟨"MeltPinsModel", "of", "(II)I"⟩, prog_7_method_6_code, 3, some .int, 5),
  (⟨"MeltPinsModel", "isPlace", "(I)Z"⟩, prog_7_method_7_code, 2, some .boolean, 5),
  (⟨"MeltPinsModel", "every", "()I"⟩, prog_7_method_8_code, 1, some .int, 5),
  (⟨"MeltPinsModel", "isSet", "(I)Z"⟩, prog_7_method_9_code, 2, some .boolean, 5),
  (⟨"MeltPinsModel", "feed", "(II)I"⟩, prog_7_method_10_code, 4, some .int, 5),
  (⟨"MeltPinsModel", "wipe", "()I"⟩, prog_7_method_11_code, 2, some .int, 5),
  (⟨"MeltPinsModel", "isDigit", "(I)Z"⟩, prog_7_method_12_code, 1, some .boolean, 5),
  (⟨"MeltPinsModel", "isLetter", "(I)Z"⟩, prog_7_method_13_code, 1, some .boolean, 5),
  (⟨"MeltPinsModel", "next", "()V"⟩, prog_7_method_14_code, 2, none, 5),
  (⟨"MeltPinsModel", "isWord", "(Ljava/lang/String;)Z"⟩, prog_7_method_15_code, 4, some .boolean, 5),
  (⟨"MeltPinsModel", "takes", "(Ljava/lang/String;)Z"⟩, prog_7_method_16_code, 2, some .boolean, 5),
  (⟨"MeltPinsModel", "number", "(II)I"⟩, prog_7_method_17_code, 4, some .int, 5),
  (⟨"MeltPinsModel", "kindHere", "()I"⟩, prog_7_method_18_code, 1, some .int, 5),
  (⟨"MeltPinsModel", "placeItem", "()V"⟩, prog_7_method_19_code, 5, none, 5),
  (⟨"MeltPinsModel", "tieItem", "()V"⟩, prog_7_method_20_code, 4, none, 5),
  (⟨"MeltPinsModel", "world", "()I"⟩, prog_7_method_21_code, 4, some .int, 5),
  (⟨"MeltPinsModel", "height", "(I)I"⟩, prog_7_method_22_code, 4, some .int, 5),
  (⟨"MeltPinsModel", "placeOf", "(II)I"⟩, prog_7_method_23_code, 3, some .int, 5),
  (⟨"MeltPinsModel", "may", "(III)Z"⟩, prog_7_method_24_code, 4, some .boolean, 5),
  (⟨"MeltPinsModel", "becomes", "(II)I"⟩, prog_7_method_25_code, 4, some .int, 5),
  (⟨"MeltPinsModel", "change", "(III)I"⟩, prog_7_method_26_code, 4, some .int, 5),
  (⟨"MeltPinsModel", "step", "(I)I"⟩, prog_7_method_27_code, 2, some .int, 5),
  (⟨"MeltPinsModel", "isTie", "(II)Z"⟩, prog_7_method_28_code, 3, some .boolean, 5),
  (⟨"MeltPinsModel", "tie", "(III)I"⟩, prog_7_method_29_code, 5, some .int, 5),
  (⟨"MeltPinsModel", "tieOf", "(II)I"⟩, prog_7_method_30_code, 3, some .int, 5),
  (⟨"MeltPinsModel", "cut", "(II)I"⟩, prog_7_method_31_code, 4, some .int, 5),
  (⟨"MeltPinsModel", "hold", "(IZ)I"⟩, prog_7_method_32_code, 3, some .int, 5),
  (⟨"MeltPinsModel", "heldNow", "()I"⟩, prog_7_method_33_code, 3, some .int, 5),
  (⟨"MeltPinsModel", "begins", "(I)V"⟩, prog_7_method_34_code, 3, none, 5),
  (⟨"MeltPinsModel", "gets", "(II)I"⟩, prog_7_method_35_code, 5, some .int, 5),
  (⟨"MeltPinsModel", "company", "(II)I"⟩, prog_7_method_36_code, 5, some .int, 5),
  (⟨"MeltPinsModel", "goes", "(II)Z"⟩, prog_7_method_37_code, 3, some .boolean, 5),
  (⟨"MeltPinsModel", "falls", "(II)Z"⟩, prog_7_method_38_code, 4, some .boolean, 5),
  (⟨"MeltPinsModel", "year", "(I)Z"⟩, prog_7_method_39_code, 9, some .boolean, 5),
  (⟨"MeltPinsModel", "pushesOf", "(I)I"⟩, prog_7_method_40_code, 4, some .int, 5)]
def mzTab1 : List (MethodName × ByteArray × Nat × Option FieldType × Nat) := [
  (⟨"MeltPinsModel", "plan", "(I)V"⟩, prog_7_method_41_code, 3, none, 5),
  (⟨"MeltPinsModel", "push", "(II)I"⟩, prog_7_method_42_code, 4, some .int, 5),
  (⟨"MeltPinsModel", "pushOf", "(II)I"⟩, prog_7_method_43_code, 3, some .int, 5),
  (⟨"MeltPinsModel", "clear", "()I"⟩, prog_7_method_44_code, 2, some .int, 5),
  (⟨"MeltPinsModel", "run", "(II)I"⟩, prog_7_method_45_code, 3, some .int, 5),
  (⟨"MeltPinsModel", "runOf", "(III)I"⟩, prog_7_method_46_code, 4, some .int, 5),
  (⟨"MeltPinsModel", "when", "(I)I"⟩, prog_7_method_47_code, 3, some .int, 5),
  (⟨"MeltPinsModel", "settles", "()I"⟩, prog_7_method_48_code, 5, some .int, 5),
  (⟨"MeltPinsModel", "standOf", "(II)I"⟩, prog_7_method_49_code, 5, some .int, 5),
  (⟨"MeltPinsModel", "findStands", "()V"⟩, prog_7_method_50_code, 2, none, 5),
  (⟨"MeltPinsModel", "stand", "(I)I"⟩, prog_7_method_51_code, 2, some .int, 5),
  (⟨"MeltPinsModel", "allIn", "(I)I"⟩, prog_7_method_52_code, 3, some .int, 5),
  (⟨"MeltPinsModel", "asksNothing", "()V"⟩, prog_7_method_53_code, 2, none, 5),
  (⟨"MeltPinsModel", "late", "(I)I"⟩, prog_7_method_54_code, 3, some .int, 5),
  (⟨"MeltPinsModel", "sumOf", "(II)I"⟩, prog_7_method_55_code, 5, some .int, 5),
  (⟨"MeltPinsModel", "leastAll", "(II)I"⟩, prog_7_method_56_code, 7, some .int, 5),
  (⟨"MeltPinsModel", "told", "(II)I"⟩, prog_7_method_57_code, 3, some .int, 5),
  (⟨"MeltPinsModel", "fewest", "(I)I"⟩, prog_7_method_58_code, 2, some .int, 5),
  (⟨"MeltPinsModel", "cheapest", "(I)I"⟩, prog_7_method_59_code, 2, some .int, 5),
  (⟨"MeltPinsModel", "most", "(II)I"⟩, prog_7_method_60_code, 5, some .int, 5),
  (⟨"MeltPinsModel", "must", "()I"⟩, prog_7_method_61_code, 3, some .int, 5),
  (⟨"MeltPinsModel", "tries", "(IIII)V"⟩, prog_7_method_62_code, 6, none, 5),
  (⟨"MeltPinsModel", "order", "(III)I"⟩, prog_7_method_63_code, 4, some .int, 5),
  (⟨"MeltPinsModel", "stop", "(II)I"⟩, prog_7_method_64_code, 8, some .int, 5),
  (⟨"MeltPinsModel", "brings", "(I)Z"⟩, prog_7_method_65_code, 2, some .boolean, 5),
  (⟨"MeltPinsModel", "keepBars", "()V"⟩, prog_7_method_66_code, 2, none, 5),
  (⟨"MeltPinsModel", "giveBars", "(I)V"⟩, prog_7_method_67_code, 3, none, 5),
  (⟨"MeltPinsModel", "near", "(I)I"⟩, prog_7_method_68_code, 4, some .int, 5),
  (⟨"MeltPinsModel", "edge", "(II)I"⟩, prog_7_method_69_code, 7, some .int, 5),
  (⟨"MeltPinsModel", "look", "()I"⟩, prog_7_method_70_code, 5, some .int, 5),
  (⟨"MeltPinsModel", "likely", "()J"⟩, prog_7_method_71_code, 7, some .long, 5),
  (⟨"MeltPinsModel", "century", "(I)I"⟩, prog_7_method_72_code, 6, some .int, 5),
  (⟨"MeltPinsModel", "seed", "(I)I"⟩, prog_7_method_73_code, 3, some .int, 5),
  (⟨"MeltPinsModel", "ones", "(III)I"⟩, prog_7_method_74_code, 8, some .int, 5),
  (⟨"MeltPinsModel", "others", "(III)I"⟩, prog_7_method_75_code, 8, some .int, 5),
  (⟨"MeltPinsModel", "game", "(II)I"⟩, prog_7_method_76_code, 6, some .int, 5),
  (⟨"MeltPinsModel", "isSheet", "(I)Z"⟩, prog_7_method_77_code, 1, some .boolean, 5),
  (⟨"MeltPinsModel", "isFirst", "(II)Z"⟩, prog_7_method_78_code, 6, some .boolean, 5),
  (⟨"MeltPinsModel", "first", "(I)I"⟩, prog_7_method_79_code, 4, some .int, 5),
  (⟨"MeltPinsModel", "judge", "(I)I"⟩, prog_7_method_80_code, 3, some .int, 5)]
def mzTab2 : List (MethodName × ByteArray × Nat × Option FieldType × Nat) := [
  (⟨"MeltPinsModel", "spot", "(II)I"⟩, prog_7_method_81_code, 3, some .int, 5),
  (⟨"MeltPinsModel", "above", "(I)I"⟩, prog_7_method_82_code, 1, some .int, 5),
  (⟨"MeltPinsModel", "as", "(II)I"⟩, prog_7_method_83_code, 5, some .int, 5),
  (⟨"MeltPinsModel", "sheet", "(III)I"⟩, prog_7_method_84_code, 5, some .int, 5),
  (⟨"MeltPinsModel", "write", "(III)I"⟩, prog_7_method_85_code, 4, some .int, 5),
  (⟨"MeltPinsModel", "copy", "(IIIII)I"⟩, prog_7_method_86_code, 9, some .int, 5),
  (⟨"MeltPinsModel", "image", "()I"⟩, prog_7_method_87_code, 2, some .int, 5),
  (⟨"MeltPinsModel", "undo", "()I"⟩, prog_7_method_88_code, 2, some .int, 5),
  (⟨"MeltPinsModel", "tear", "()I"⟩, prog_7_method_89_code, 2, some .int, 5),
  (⟨"MeltPinsModel", "count", "(I)I"⟩, prog_7_method_90_code, 4, some .int, 5),
  (⟨"MeltPinsModel", "status", "(I)I"⟩, prog_7_method_91_code, 4, some .int, 5),
  (⟨"MeltPins$Sheet", "lowestBits", "(I)I"⟩, prog_3_method_2_code, 2, some .int, 1),
  (⟨"MeltPins$Sheet", "hasRow", "(II)Z"⟩, prog_3_method_3_code, 3, some .boolean, 1),
  (⟨"MeltPins$World", "become", "(LMeltPins$World;)V"⟩, prog_5_method_2_code, 3, none, 3),
  (⟨"MeltPins$World", "all", "()I"⟩, prog_5_method_3_code, 1, some .int, 3),
  (⟨"MeltPins$World", "addPlace", "(II)[I"⟩, prog_5_method_4_code, 4, some (.array .int), 3),
  (⟨"MeltPins$World", "putTie", "(III)V"⟩, prog_5_method_5_code, 4, none, 3),
  (⟨"MeltPins$World", "heightOf", "(II)I"⟩, prog_5_method_6_code, 3, some .int, 3),
  (⟨"MeltPins$World", "pushedIn", "(I)I"⟩, prog_5_method_7_code, 4, some .int, 3),
  (⟨"MeltPins$World", "sumOf", "(II)I"⟩, prog_5_method_8_code, 5, some .int, 3),
  (⟨"MeltPins$World", "fullSpots", "()I"⟩, prog_5_method_9_code, 3, some .int, 3),
  (⟨"MeltPins$World", "draw", "()I"⟩, prog_5_method_10_code, 1, some .int, 3),
  (⟨"MeltPins$Melt", "survey", "()V"⟩, prog_2_method_2_code, 6, none, 0),
  (⟨"MeltPins$Melt", "lowerBars", "(I)V"⟩, prog_2_method_3_code, 3, none, 0),
  (⟨"MeltPins$Melt", "takeBar", "(II)V"⟩, prog_2_method_4_code, 3, none, 0),
  (⟨"MeltPins$Melt", "mustBePushed", "()I"⟩, prog_2_method_5_code, 3, some .int, 0),
  (⟨"MeltPins$Melt", "standsAll", "(I)Z"⟩, prog_2_method_6_code, 2, some .boolean, 0),
  (⟨"MeltPins$Melt", "standOf", "(II)I"⟩, prog_2_method_7_code, 5, some .int, 0),
  (⟨"MeltPins$Melt", "begin", "(I)V"⟩, prog_2_method_8_code, 2, none, 0),
  (⟨"MeltPins$Melt", "passYear", "(I)Z"⟩, prog_2_method_9_code, 7, some .boolean, 0),
  (⟨"MeltPins$Melt", "walk", "(IZ)Z"⟩, prog_2_method_10_code, 4, some .boolean, 0),
  (⟨"MeltPins$Melt", "drownSpoilt", "(I)V"⟩, prog_2_method_11_code, 5, none, 0),
  (⟨"MeltPins$Melt", "gets", "(II)I"⟩, prog_2_method_12_code, 5, some .int, 0),
  (⟨"MeltPins$Melt", "goes", "(II)Z"⟩, prog_2_method_13_code, 3, some .boolean, 0),
  (⟨"MeltPins$Melt", "falls", "(II)Z"⟩, prog_2_method_14_code, 4, some .boolean, 0),
  (⟨"MeltPins$Tape", "append", "(I)V"⟩, prog_4_method_2_code, 2, none, 2),
  (⟨"MeltPins$Tape", "readText", "(LMeltPins$World;)I"⟩, prog_4_method_3_code, 4, some .int, 2),
  (⟨"MeltPins$Tape", "readPlace", "(LMeltPins$World;)Z"⟩, prog_4_method_4_code, 6, some .boolean, 2),
  (⟨"MeltPins$Tape", "readTie", "(LMeltPins$World;)Z"⟩, prog_4_method_5_code, 4, some .boolean, 2),
  (⟨"MeltPins$Tape", "nextToken", "()V"⟩, prog_4_method_6_code, 1, none, 2)]
def mzTab3 : List (MethodName × ByteArray × Nat × Option FieldType × Nat) := [
  (⟨"MeltPins$Tape", "takeNumber", "()V"⟩, prog_4_method_7_code, 1, none, 2),
  (⟨"MeltPins$Tape", "isLetter", "(I)Z"⟩, prog_4_method_8_code, 1, some .boolean, 2),
  (⟨"MeltPins$Tape", "isDigit", "(I)Z"⟩, prog_4_method_9_code, 1, some .boolean, 2),
  (⟨"MeltPins$Tape", "isNumber", "(II)Z"⟩, prog_4_method_10_code, 3, some .boolean, 2),
  (⟨"MeltPins$Tape", "isWord", "(Ljava/lang/String;)Z"⟩, prog_4_method_11_code, 3, some .boolean, 2),
  (⟨"MeltPins$Tape", "kindHere", "()I"⟩, prog_4_method_12_code, 2, some .int, 2),
  (⟨"MeltPins$Tape", "traitHere", "()I"⟩, prog_4_method_13_code, 2, some .int, 2),
  (⟨"MeltPins$Tape", "kindName", "(I)Ljava/lang/String;"⟩, prog_4_method_14_code, 1, some (.object "java/lang/String"), 2),
  (⟨"MeltPins$Tape", "traitName", "(I)Ljava/lang/String;"⟩, prog_4_method_15_code, 1, some (.object "java/lang/String"), 2),
  (⟨"MeltPins", "feed", "(II)I"⟩, prog_1_method_2_code, 4, some .int, 4),
  (⟨"MeltPins", "wipe", "()I"⟩, prog_1_method_3_code, 2, some .int, 4),
  (⟨"MeltPins", "world", "()I"⟩, prog_1_method_4_code, 2, some .int, 4),
  (⟨"MeltPins", "placeOf", "(II)I"⟩, prog_1_method_5_code, 3, some .int, 4),
  (⟨"MeltPins", "change", "(III)I"⟩, prog_1_method_6_code, 5, some .int, 4),
  (⟨"MeltPins", "step", "(I)I"⟩, prog_1_method_7_code, 2, some .int, 4),
  (⟨"MeltPins", "tie", "(III)I"⟩, prog_1_method_8_code, 5, some .int, 4),
  (⟨"MeltPins", "tieOf", "(II)I"⟩, prog_1_method_9_code, 3, some .int, 4),
  (⟨"MeltPins", "cut", "(II)I"⟩, prog_1_method_10_code, 3, some .int, 4),
  (⟨"MeltPins", "hold", "(IZ)I"⟩, prog_1_method_11_code, 4, some .int, 4),
  (⟨"MeltPins", "push", "(II)I"⟩, prog_1_method_12_code, 3, some .int, 4),
  (⟨"MeltPins", "pushOf", "(II)I"⟩, prog_1_method_13_code, 3, some .int, 4),
  (⟨"MeltPins", "clear", "()I"⟩, prog_1_method_14_code, 2, some .int, 4),
  (⟨"MeltPins", "run", "(II)I"⟩, prog_1_method_15_code, 3, some .int, 4),
  (⟨"MeltPins", "runOf", "(III)I"⟩, prog_1_method_16_code, 4, some .int, 4),
  (⟨"MeltPins", "when", "(I)I"⟩, prog_1_method_17_code, 3, some .int, 4),
  (⟨"MeltPins", "settles", "()I"⟩, prog_1_method_18_code, 5, some .int, 4),
  (⟨"MeltPins", "stand", "(I)I"⟩, prog_1_method_19_code, 2, some .int, 4),
  (⟨"MeltPins", "late", "(I)I"⟩, prog_1_method_20_code, 3, some .int, 4),
  (⟨"MeltPins", "fewest", "(I)I"⟩, prog_1_method_21_code, 2, some .int, 4),
  (⟨"MeltPins", "cheapest", "(I)I"⟩, prog_1_method_22_code, 2, some .int, 4),
  (⟨"MeltPins", "most", "(II)I"⟩, prog_1_method_23_code, 7, some .int, 4),
  (⟨"MeltPins", "must", "()I"⟩, prog_1_method_24_code, 1, some .int, 4),
  (⟨"MeltPins", "order", "(III)I"⟩, prog_1_method_25_code, 10, some .int, 4),
  (⟨"MeltPins", "stop", "(II)I"⟩, prog_1_method_26_code, 8, some .int, 4),
  (⟨"MeltPins", "near", "(I)I"⟩, prog_1_method_27_code, 3, some .int, 4),
  (⟨"MeltPins", "look", "()I"⟩, prog_1_method_28_code, 5, some .int, 4),
  (⟨"MeltPins", "edge", "(II)I"⟩, prog_1_method_29_code, 4, some .int, 4),
  (⟨"MeltPins", "likely", "()J"⟩, prog_1_method_30_code, 7, some .long, 4),
  (⟨"MeltPins", "century", "(I)I"⟩, prog_1_method_31_code, 4, some .int, 4),
  (⟨"MeltPins", "seed", "(I)I"⟩, prog_1_method_32_code, 3, some .int, 4)]
def mzTab4 : List (MethodName × ByteArray × Nat × Option FieldType × Nat) := [
  (⟨"MeltPins", "game", "(II)I"⟩, prog_1_method_33_code, 8, some .int, 4),
  (⟨"MeltPins", "first", "(I)I"⟩, prog_1_method_34_code, 7, some .int, 4),
  (⟨"MeltPins", "judge", "(I)I"⟩, prog_1_method_35_code, 4, some .int, 4),
  (⟨"MeltPins", "spot", "(II)I"⟩, prog_1_method_36_code, 3, some .int, 4),
  (⟨"MeltPins", "as", "(II)I"⟩, prog_1_method_37_code, 4, some .int, 4),
  (⟨"MeltPins", "sheet", "(III)I"⟩, prog_1_method_38_code, 5, some .int, 4),
  (⟨"MeltPins", "write", "(III)I"⟩, prog_1_method_39_code, 5, some .int, 4),
  (⟨"MeltPins", "copy", "(IIIII)I"⟩, prog_1_method_40_code, 8, some .int, 4),
  (⟨"MeltPins", "image", "()I"⟩, prog_1_method_41_code, 1, some .int, 4),
  (⟨"MeltPins", "undo", "()I"⟩, prog_1_method_42_code, 1, some .int, 4),
  (⟨"MeltPins", "tear", "()I"⟩, prog_1_method_43_code, 2, some .int, 4),
  (⟨"MeltPins", "count", "(I)I"⟩, prog_1_method_44_code, 2, some .int, 4),
  (⟨"MeltPins", "status", "(I)I"⟩, prog_1_method_45_code, 4, some .int, 4),
  (⟨"MeltPins", "finding", "(I)I"⟩, prog_1_method_46_code, 3, some .int, 4),
  (⟨"MeltPins", "isPlace", "(I)Z"⟩, prog_1_method_47_code, 2, some .boolean, 4),
  (⟨"MeltPins", "isSet", "(I)Z"⟩, prog_1_method_48_code, 2, some .boolean, 4),
  (⟨"MeltPins", "isSheet", "(I)Z"⟩, prog_1_method_49_code, 1, some .boolean, 4),
  (⟨"MeltPins", "isOfKind", "(II)Z"⟩, prog_1_method_50_code, 4, some .boolean, 4),
  (⟨"MeltPins", "passPlan", "(I)V"⟩, prog_1_method_51_code, 3, none, 4),
  (⟨"MeltPins", "leastThatStands", "(Z)I"⟩, prog_1_method_52_code, 9, some .int, 4),
  (⟨"MeltPins", "tellOfSet", "(II)I"⟩, prog_1_method_53_code, 3, some .int, 4),
  (⟨"MeltPins", "digitSet", "(II)I"⟩, prog_1_method_54_code, 5, some .int, 4),
  (⟨"MeltPins", "orderYears", "(III)I"⟩, prog_1_method_55_code, 5, some .int, 4),
  (⟨"MeltPins", "orderPushes", "(IIII)I"⟩, prog_1_method_56_code, 7, some .int, 4),
  (⟨"MeltPins", "chanceOf", "(I)J"⟩, prog_1_method_57_code, 6, some .long, 4),
  (⟨"MeltPins", "drawnSet", "()I"⟩, prog_1_method_58_code, 3, some .int, 4),
  (⟨"MeltPins", "bestPush", "(IIIII)I"⟩, prog_1_method_59_code, 9, some .int, 4),
  (⟨"MeltPins", "bestHold", "(IIIII)I"⟩, prog_1_method_60_code, 9, some .int, 4),
  (⟨"MeltPins", "bringsLayers", "(ILMeltPins$Sheet;)Z"⟩, prog_1_method_61_code, 5, some .boolean, 4),
  (⟨"MeltPins", "areAll", "(ILMeltPins$Sheet;I)Z"⟩, prog_1_method_62_code, 5, some .boolean, 4),
  (⟨"java/lang/Integer", "bitCount", "(I)I"⟩, prog_8_method_49_code, 1, some .int, 7),
  (⟨"java/util/Arrays", "fill", "([II)V"⟩, prog_14_method_103_code, 4, none, 8)]
def mzTab : List (MethodName × ByteArray × Nat × Option FieldType × Nat) := mzTab0 ++ mzTab1 ++ mzTab2 ++ mzTab3 ++ mzTab4
def mzFL : List (Nat × Nat × Nat × Nat × Nat) := [(0, 9, 0, 1, 0), (0, 15, 0, 2, 0), (0, 18, 0, 3, 0), (0, 23, 0, 4, 0), (0, 26, 0, 5, 0), (0, 29, 0, 6, 0), (0, 32, 0, 0, 0), (0, 40, 3, 0, 1), (0, 46, 3, 6, 1), (0, 49, 3, 5, 1), (0, 72, 3, 3, 1), (0, 85, 0, 7, 0), (0, 88, 0, 8, 0), (0, 91, 0, 9, 0), (1, 15, 1, 0, 0), (1, 19, 1, 1, 0), (2, 9, 2, 0, 0), (2, 15, 2, 1, 0), (2, 19, 2, 4, 0), (2, 25, 2, 2, 0), (2, 35, 2, 3, 0), (2, 42, 3, 0, 1), (2, 51, 2, 5, 0), (2, 67, 3, 1, 1), (2, 76, 3, 6, 1), (3, 9, 3, 4, 0), (3, 17, 3, 5, 0), (3, 20, 3, 6, 0), (3, 23, 3, 7, 0), (3, 27, 3, 8, 0), (3, 30, 3, 9, 0), (3, 39, 3, 0, 0), (3, 42, 3, 1, 0), (3, 45, 3, 2, 0), (3, 48, 3, 3, 0), (4, 12, 4, 0, 0), (4, 16, 4, 1, 0), (4, 19, 4, 2, 0), (4, 27, 4, 3, 0), (4, 34, 4, 4, 0), (4, 40, 4, 5, 0), (4, 44, 4, 6, 0), (4, 54, 2, 1, 1), (4, 70, 3, 0, 1), (4, 77, 3, 5, 1), (4, 85, 3, 3, 1), (4, 94, 3, 6, 1), (4, 97, 3, 1, 1), (4, 109, 3, 2, 1), (4, 112, 3, 7, 1), (4, 115, 3, 8, 1), (4, 121, 0, 7, 1), (4, 124, 0, 8, 1), (4, 127, 0, 6, 1), (4, 195, 3, 4, 1), (4, 210, 1, 0, 1), (4, 214, 1, 1, 1), (4, 219, 1, 2, 1), (4, 222, 3, 9, 1), (4, 249, 4, 7, 0), (5, 9, 5, 0, 0), (5, 13, 5, 1, 0), (5, 16, 5, 3, 0), (5, 19, 5, 5, 0), (5, 22, 5, 12, 0), (5, 25, 5, 16, 0), (5, 28, 5, 17, 0), (5, 31, 5, 18, 0), (5, 34, 5, 19, 0), (5, 37, 5, 22, 0), (5, 40, 5, 23, 0), (5, 43, 5, 24, 0), (5, 46, 5, 25, 0), (5, 64, 5, 6, 0), (5, 77, 5, 9, 0), (5, 80, 5, 8, 0), (5, 83, 5, 10, 0), (5, 86, 5, 7, 0), (5, 96, 5, 11, 0), (5, 160, 5, 4, 0), (5, 187, 5, 13, 0), (5, 190, 5, 14, 0), (5, 193, 5, 15, 0), (5, 259, 5, 20, 0), (5, 262, 5, 21, 0), (5, 306, 5, 2, 0)]
def mzCL : List (Nat × Nat × Int) := [(3, 63, 1103515245), (4, 49, (-1000001)), (4, 58, (-1000002)), (4, 104, (-1000004)), (4, 108, (-1000005)), (4, 174, 100000000), (4, 213, (-1000006)), (4, 229, (-1000003)), (4, 230, (-1000007)), (5, 49, (-1000001)), (5, 68, (-1000002)), (5, 186, (-1000004)), (5, 225, (-1000005)), (5, 282, 1103515245), (5, 295, (-1000006)), (5, 304, (-1000003)), (5, 305, (-1000007)), (7, 265, 1431655765), (7, 266, 858993459), (7, 267, 252645135)]
def mzJL : List (Nat × Nat × Int) := [(5, 58, 4), (5, 69, 48), (5, 71, 57), (5, 73, 97), (5, 75, 122), (5, 166, 10), (5, 171, 99), (5, 173, 9), (5, 223, 49), (5, 250, 2), (5, 257, 12), (5, 269, 5), (5, 280, 50), (5, 290, 3), (5, 299, 6), (5, 309, (-1))]
def mzSL : List (Nat × Nat × Nat) := [(2, 70, 0), (2, 80, 1), (2, 117, 2), (2, 119, 3), (2, 121, 4), (2, 123, 5), (2, 125, 6), (2, 127, 7), (2, 129, 8), (2, 131, 9), (2, 133, 10), (2, 135, 11), (2, 137, 12), (2, 139, 13), (5, 116, 2), (5, 118, 3), (5, 120, 4), (5, 122, 5), (5, 124, 6), (5, 126, 7), (5, 128, 8), (5, 136, 9), (5, 141, 10), (5, 142, 11), (5, 144, 12), (5, 146, 13), (5, 148, 0), (5, 152, 1)]
def mzTL : List (Nat × Nat × Nat) := [(2, 61, 1), (2, 64, 2), (4, 88, 1), (4, 91, 2), (4, 256, 0)]
def mzML : List (Nat × Nat × Nat × Nat) := [(0, 36, 103, 0), (0, 58, 104, 0), (0, 62, 97, 1), (0, 65, 94, 1), (0, 69, 112, 0), (0, 75, 107, 0), (0, 78, 108, 0), (0, 81, 109, 0), (0, 92, 191, 2), (0, 98, 114, 0), (0, 102, 113, 0), (0, 105, 110, 0), (0, 109, 111, 0), (0, 112, 190, 2), (2, 22, 119, 0), (2, 28, 118, 0), (2, 32, 117, 0), (2, 38, 125, 0), (2, 47, 123, 0), (2, 54, 95, 1), (2, 58, 126, 0), (2, 72, 124, 0), (2, 82, 96, 1), (2, 86, 121, 2), (2, 90, 122, 2), (2, 93, 120, 0), (2, 110, 127, 2), (2, 114, 128, 2), (3, 33, 191, 2), (4, 50, 173, 0), (4, 59, 115, 1), (4, 63, 93, 1), (4, 66, 116, 1), (4, 73, 174, 0), (4, 81, 97, 1), (4, 100, 96, 1), (4, 105, 98, 1), (4, 118, 178, 0), (4, 130, 112, 1), (4, 133, 109, 1), (4, 136, 175, 0), (4, 139, 102, 1), (4, 142, 107, 1), (4, 145, 108, 1), (4, 148, 94, 1), (4, 152, 179, 0), (4, 156, 180, 0), (4, 159, 190, 2), (4, 164, 105, 1), (4, 167, 181, 2), (4, 170, 182, 0), (4, 175, 99, 1), (4, 178, 103, 1), (4, 181, 106, 1), (4, 184, 104, 1), (4, 188, 184, 0), (4, 192, 185, 0), (4, 198, 187, 0), (4, 207, 176, 2), (4, 215, 188, 0), (4, 225, 177, 2), (4, 231, 191, 2), (4, 237, 91, 1), (4, 240, 92, 1), (4, 253, 100, 1), (4, 259, 183, 2), (4, 263, 101, 1), (4, 266, 186, 0), (4, 272, 189, 0), (5, 50, 2, 2), (5, 54, 7, 0), (5, 60, 1, 0), (5, 89, 12, 2), (5, 93, 11, 2), (5, 109, 14, 0), (5, 113, 13, 0), (5, 130, 17, 0), (5, 133, 16, 0), (5, 138, 15, 0), (5, 149, 6, 0), (5, 154, 19, 0), (5, 157, 18, 0), (5, 163, 5, 0), (5, 168, 21, 0), (5, 175, 23, 0), (5, 179, 24, 0), (5, 182, 27, 0), (5, 196, 3, 2), (5, 199, 34, 0), (5, 202, 35, 0), (5, 204, 37, 0), (5, 207, 36, 0), (5, 210, 32, 0), (5, 213, 33, 0), (5, 217, 39, 0), (5, 220, 38, 0), (5, 226, 40, 0), (5, 229, 48, 0), (5, 232, 8, 0), (5, 235, 52, 0), (5, 238, 51, 0), (5, 241, 49, 0), (5, 244, 4, 2), (5, 247, 54, 0), (5, 252, 55, 0), (5, 255, 56, 0), (5, 265, 61, 0), (5, 271, 65, 0), (5, 274, 66, 0), (5, 277, 64, 0), (5, 283, 74, 0), (5, 287, 73, 0), (5, 292, 76, 2), (5, 296, 77, 0), (5, 301, 81, 2), (6, 13, 129, 0), (6, 17, 9, 0), (6, 18, 130, 0), (6, 22, 10, 0), (6, 23, 131, 0), (6, 26, 20, 0), (6, 27, 132, 0), (6, 30, 22, 0), (6, 31, 133, 0), (6, 35, 25, 0), (6, 36, 134, 0), (6, 40, 26, 0), (6, 41, 135, 0), (6, 44, 28, 0), (6, 45, 136, 0), (6, 48, 29, 0), (6, 49, 137, 0), (6, 52, 30, 0), (6, 53, 138, 0), (6, 57, 31, 0), (6, 58, 139, 0), (6, 61, 41, 0), (6, 62, 140, 0), (6, 65, 42, 0), (6, 66, 141, 0), (6, 69, 43, 0), (6, 70, 142, 0), (6, 73, 44, 0), (6, 74, 143, 0), (6, 77, 45, 0), (6, 78, 144, 0), (6, 81, 46, 0), (6, 82, 145, 0), (6, 85, 47, 0), (6, 86, 146, 0), (6, 89, 50, 0), (6, 90, 147, 0), (6, 93, 53, 0), (6, 94, 148, 0), (6, 97, 57, 0), (6, 98, 149, 0), (6, 101, 58, 0), (6, 102, 150, 0), (6, 105, 59, 0), (6, 106, 151, 0), (6, 109, 60, 0), (6, 110, 152, 0), (6, 113, 62, 0), (6, 114, 153, 0), (6, 117, 63, 0), (6, 118, 154, 0), (6, 121, 67, 0), (6, 122, 155, 0), (6, 125, 69, 0), (6, 126, 156, 0)]
/-- each thing: (0, places, _) a row of ints; (1, class, _) an object; (2, places, first) a row of rows of ints; (3, places, first) a row of sheets -/
def mzShape : List (Nat × Nat × Nat) := [(1, 5, 0), (0, 318, 0), (0, 318, 0), (0, 7, 0), (0, 120, 0), (0, 318, 0), (0, 12, 0), (0, 12, 0), (0, 4096, 0), (0, 50, 0), (0, 12, 0), (0, 4, 0), (0, 4, 0), (0, 160, 0), (1, 4, 0), (0, 7, 0), (1, 0, 0), (0, 12, 0), (0, 12, 0), (0, 12, 0), (2, 12, 124), (2, 12, 136), (0, 12, 0), (1, 2, 0), (0, 120, 0), (3, 4, 44), (1, 3, 0), (1, 3, 0), (1, 3, 0), (2, 12, 52), (2, 12, 64), (2, 12, 76), (2, 12, 88), (2, 12, 100), (2, 12, 112), (0, 20, 0), (0, 20, 0), (0, 20, 0), (0, 20, 0), (0, 20, 0), (0, 20, 0), (0, 10, 0), (0, 10, 0), (0, 10, 0), (1, 1, 0), (1, 1, 0), (1, 1, 0), (1, 1, 0), (0, 40, 0), (0, 40, 0), (0, 40, 0), (0, 40, 0), (0, 9, 0), (0, 9, 0), (0, 9, 0), (0, 9, 0), (0, 9, 0), (0, 9, 0), (0, 9, 0), (0, 9, 0), (0, 9, 0), (0, 9, 0), (0, 9, 0), (0, 9, 0), (0, 9, 0), (0, 9, 0), (0, 9, 0), (0, 9, 0), (0, 9, 0), (0, 9, 0), (0, 9, 0), (0, 9, 0), (0, 9, 0), (0, 9, 0), (0, 9, 0), (0, 9, 0), (0, 9, 0), (0, 9, 0), (0, 9, 0), (0, 9, 0), (0, 9, 0), (0, 9, 0), (0, 9, 0), (0, 9, 0), (0, 9, 0), (0, 9, 0), (0, 9, 0), (0, 9, 0), (0, 12, 0), (0, 12, 0), (0, 12, 0), (0, 12, 0), (0, 12, 0), (0, 12, 0), (0, 12, 0), (0, 12, 0), (0, 12, 0), (0, 12, 0), (0, 12, 0), (0, 12, 0), (0, 12, 0), (0, 12, 0), (0, 12, 0), (0, 12, 0), (0, 12, 0), (0, 12, 0), (0, 12, 0), (0, 12, 0), (0, 12, 0), (0, 12, 0), (0, 12, 0), (0, 12, 0), (0, 12, 0), (0, 12, 0), (0, 12, 0), (0, 12, 0), (0, 12, 0), (0, 12, 0), (0, 12, 0), (0, 12, 0), (0, 12, 0), (0, 12, 0), (0, 12, 0), (0, 12, 0), (0, 12, 0), (0, 12, 0), (0, 12, 0), (0, 12, 0), (0, 12, 0), (0, 12, 0), (0, 12, 0), (0, 12, 0), (0, 12, 0), (0, 12, 0), (0, 12, 0), (0, 12, 0), (0, 12, 0), (0, 12, 0), (0, 12, 0), (0, 12, 0), (0, 12, 0), (0, 12, 0), (0, 12, 0), (0, 12, 0), (0, 12, 0), (0, 12, 0), (0, 12, 0), (0, 12, 0)]
/-- kinds of which there are several: first, how many, (0 a row of ints, places) or (1 an object, class) -/
def mzPools : List (Nat × Nat × Nat × Nat) := [(44, 4, 1, 1), (48, 4, 0, 40), (52, 12, 0, 9), (64, 12, 0, 9), (76, 12, 0, 9), (88, 12, 0, 12), (100, 12, 0, 12), (112, 12, 0, 12), (124, 12, 0, 12), (136, 12, 0, 12), (300, 14, 5, 0)]
/-- what a field holds: (0, _) a number; (1, k) thing k; (2, d) the thing d behind its own -/
def mzRfT : List (List (Nat × Nat)) := [[(1, 26), (1, 17), (1, 18), (1, 19), (1, 20), (1, 21), (1, 22), (0, 0), (0, 0), (0, 0)], [(0, 0), (0, 0), (2, 4)], [(1, 24), (0, 0), (0, 0), (0, 0), (0, 0), (0, 0)], [(0, 0), (0, 0), (0, 0), (0, 0), (0, 0), (2, 3), (2, 6), (2, 9), (2, 12), (2, 15)], [(1, 26), (1, 27), (1, 28), (1, 16), (1, 23), (1, 25), (1, 15), (0, 0)], [(1, 1), (1, 2), (0, 0), (1, 3), (0, 0), (1, 4), (0, 0), (0, 0), (0, 0), (0, 0), (0, 0), (0, 0), (1, 5), (0, 0), (0, 0), (0, 0), (1, 6), (1, 7), (1, 8), (1, 9), (0, 0), (0, 0), (1, 10), (1, 11), (1, 12), (1, 13)]]
def mzCstT : List (List Int) := [[-1, 0, 0, 1, 1, 2, 3], [0, 1, 0, 0, 1, 1, 0, -1, 0], [6, 99, 99, 9, 99, 99, 10, 11, 9]]
def mzStrT : List (List Int) := [[116, 111], [98, 121], [112, 108, 97, 99, 101], [115, 116, 97, 121], [98, 97, 99, 107], [99, 111, 109, 112, 97, 110, 121], [100, 114, 111, 119, 110], [112, 97, 114, 116], [116, 111, 108, 100], [108, 111, 119, 101, 114], [116, 97, 107, 101, 115], [99, 111, 115, 116], [112, 114, 105, 99, 101], [99, 104, 97, 110, 99, 101]]
def mzStrS : List String := ["to", "by", "place", "stay", "back", "company", "drown", "part", "told", "lower", "takes", "cost", "price", "chance"]
end
section
def mzAl0 : List (Nat × Nat × Nat × Nat × Nat × Nat) := [(0, 5, 173, 0, 0, 0), (1, 5, 115, 0, 0, 0), (2, 5, 93, 0, 0, 0), (3, 5, 116, 0, 0, 0), (4, 5, 119, 0, 0, 0), (5, 5, 120, 0, 0, 0), (6, 5, 118, 0, 0, 0), (7, 5, 123, 0, 0, 0), (8, 5, 124, 0, 0, 0), (9, 5, 96, 0, 0, 0), (10, 5, 117, 0, 0, 0), (11, 5, 125, 0, 0, 0), (12, 5, 95, 0, 0, 0), (13, 5, 126, 0, 0, 0), (14, 5, 174, 0, 0, 0), (15, 5, 97, 0, 0, 0), (16, 5, 98, 0, 0, 0), (17, 5, 178, 0, 0, 0), (18, 5, 102, 0, 0, 0), (19, 5, 103, 0, 0, 0), (20, 5, 104, 0, 0, 0), (21, 5, 108, 0, 0, 0), (22, 5, 109, 0, 0, 0), (23, 5, 114, 0, 0, 0), (24, 5, 112, 0, 0, 0), (25, 5, 113, 0, 0, 0), (26, 5, 110, 0, 0, 0), (27, 5, 111, 0, 0, 0), (28, 5, 175, 0, 0, 0), (29, 5, 94, 0, 0, 0), (30, 5, 107, 0, 0, 0), (31, 5, 179, 0, 0, 0), (32, 5, 105, 0, 0, 0), (33, 5, 99, 0, 0, 0), (34, 5, 106, 0, 0, 0), (35, 5, 180, 0, 0, 0), (36, 5, 182, 0, 0, 0), (37, 5, 184, 0, 0, 0), (38, 5, 185, 0, 0, 0), (39, 5, 101, 0, 0, 0), (40, 5, 187, 0, 0, 0), (41, 5, 186, 0, 0, 0), (42, 5, 188, 0, 0, 0), (43, 5, 189, 0, 0, 0), (44, 5, 91, 0, 0, 0), (45, 5, 92, 0, 0, 0), (46, 5, 100, 0, 0, 0), (47, 5, 1, 0, 0, 0), (48, 5, 13, 0, 0, 0), (49, 5, 19, 0, 0, 0), (50, 5, 16, 0, 0, 0), (51, 5, 14, 0, 0, 0), (52, 5, 6, 0, 0, 0), (53, 5, 18, 0, 0, 0), (54, 5, 17, 0, 0, 0), (55, 5, 15, 0, 0, 0), (56, 5, 5, 0, 0, 0), (57, 5, 21, 0, 0, 0), (58, 5, 23, 0, 0, 0), (59, 5, 24, 0, 0, 0), (60, 5, 27, 0, 0, 0), (61, 5, 39, 0, 0, 0), (62, 5, 40, 0, 0, 0), (63, 5, 32, 0, 0, 0), (64, 5, 33, 0, 0, 0), (65, 5, 38, 0, 0, 0), (66, 5, 37, 0, 0, 0), (67, 5, 34, 0, 0, 0), (68, 5, 36, 0, 0, 0), (69, 5, 35, 0, 0, 0), (70, 5, 8, 0, 0, 0), (71, 5, 7, 0, 0, 0), (72, 5, 48, 0, 0, 0), (73, 5, 52, 0, 0, 0), (74, 5, 51, 0, 0, 0), (75, 5, 55, 0, 0, 0), (76, 5, 49, 0, 0, 0), (77, 5, 54, 0, 0, 0), (78, 5, 56, 0, 0, 0), (79, 5, 61, 0, 0, 0), (80, 5, 65, 0, 0, 0), (81, 5, 66, 0, 0, 0), (82, 5, 64, 0, 0, 0), (83, 5, 73, 0, 0, 0), (84, 5, 74, 0, 0, 0), (85, 5, 77, 0, 0, 0), (86, 3, 6, 0, 0, 0), (87, 3, 4, 0, 0, 0), (88, 3, 3, 0, 0, 0), (89, 3, 8, 0, 0, 0), (90, 3, 0, 0, 0, 0), (91, 3, 2, 0, 0, 0), (92, 3, 1, 0, 0, 0), (93, 3, 5, 0, 0, 0), (94, 12, 7, 0, 0, 0), (95, 12, 2, 0, 0, 0), (100, 3, 7, 0, 0, 0), (117, 1, 3, 33, 191, 0), (118, 6, 191, 0, 0, 0), (120, 0, 3, 39, 3, 0), (124, 0, 3, 42, 3, 1), (127, 0, 3, 45, 3, 2), (129, 0, 3, 48, 3, 3), (132, 0, 3, 9, 3, 4), (134, 0, 3, 17, 3, 5), (137, 0, 3, 20, 3, 6), (141, 0, 3, 23, 3, 7), (143, 0, 3, 27, 3, 8), (145, 0, 3, 30, 3, 9), (147, 7, 3, 0, 0, 0), (149, 7, 3, 1, 0, 0), (151, 7, 3, 2, 0, 0), (153, 7, 3, 3, 0, 0), (155, 7, 3, 4, 0, 0), (157, 7, 3, 5, 0, 0), (159, 7, 3, 6, 0, 0), (161, 7, 3, 7, 0, 0), (163, 7, 3, 8, 0, 0), (165, 7, 3, 9, 0, 0), (176, 0, 0, 32, 0, 0), (177, 0, 0, 9, 0, 1), (178, 0, 0, 15, 0, 2), (179, 0, 0, 18, 0, 3), (180, 0, 0, 23, 0, 4), (181, 0, 0, 26, 0, 5), (182, 0, 0, 29, 0, 6), (184, 0, 0, 85, 0, 7), (186, 0, 0, 88, 0, 8), (188, 0, 0, 91, 0, 9), (189, 7, 0, 0, 0, 0), (191, 7, 0, 1, 0, 0), (193, 7, 0, 2, 0, 0), (195, 7, 0, 3, 0, 0), (197, 7, 0, 4, 0, 0), (199, 7, 0, 5, 0, 0), (201, 7, 0, 6, 0, 0), (203, 7, 0, 7, 0, 0), (205, 7, 0, 8, 0, 0), (207, 7, 0, 9, 0, 0), (216, 0, 2, 9, 2, 0), (217, 0, 2, 15, 2, 1), (219, 0, 2, 25, 2, 2), (220, 0, 2, 35, 2, 3), (221, 0, 2, 19, 2, 4), (222, 0, 2, 51, 2, 5), (223, 7, 2, 0, 0, 0), (225, 7, 2, 1, 0, 0), (227, 7, 2, 2, 0, 0), (229, 7, 2, 3, 0, 0), (231, 7, 2, 4, 0, 0)]
def mzAl1 : List (Nat × Nat × Nat × Nat × Nat × Nat) := [(233, 7, 2, 5, 0, 0), (243, 0, 1, 15, 1, 0), (245, 0, 1, 19, 1, 1), (249, 7, 1, 0, 0, 0), (251, 7, 1, 1, 0, 0), (253, 7, 1, 2, 0, 0), (256, 0, 4, 12, 4, 0), (257, 0, 4, 16, 4, 1), (258, 0, 4, 19, 4, 2), (259, 0, 4, 27, 4, 3), (260, 0, 4, 34, 4, 4), (261, 0, 4, 40, 4, 5), (262, 0, 4, 44, 4, 6), (263, 0, 4, 249, 4, 7), (264, 7, 4, 0, 0, 0), (266, 7, 4, 1, 0, 0), (268, 7, 4, 2, 0, 0), (270, 7, 4, 3, 0, 0), (272, 7, 4, 4, 0, 0), (274, 7, 4, 5, 0, 0), (276, 7, 4, 6, 0, 0), (278, 7, 4, 7, 0, 0), (281, 1, 6, 13, 129, 0), (282, 4, 129, 0, 0, 0), (283, 5, 129, 0, 0, 0), (285, 8, 4, 49, 1, 0), (286, 1, 4, 50, 173, 0), (288, 4, 173, 0, 0, 0), (290, 8, 4, 58, 2, 0), (293, 4, 115, 0, 0, 0), (295, 1, 6, 18, 130, 0), (296, 4, 130, 0, 0, 0), (297, 5, 130, 0, 0, 0), (299, 1, 6, 23, 131, 0), (300, 4, 131, 0, 0, 0), (301, 5, 131, 0, 0, 0), (305, 4, 93, 0, 0, 0), (307, 11, 3, 51, 3, 0), (308, 12, 6, 0, 0, 0), (309, 12, 5, 0, 0, 0), (312, 4, 116, 0, 0, 0), (314, 1, 2, 22, 119, 0), (316, 4, 119, 0, 0, 0), (318, 1, 2, 86, 121, 0), (319, 6, 121, 0, 0, 0), (321, 1, 2, 90, 122, 0), (322, 6, 122, 0, 0, 0), (324, 1, 2, 93, 120, 0), (326, 4, 120, 0, 0, 0), (328, 11, 2, 96, 2, 0), (329, 12, 1, 0, 0, 0), (331, 1, 2, 28, 118, 0), (333, 4, 118, 0, 0, 0), (335, 1, 2, 47, 123, 0), (337, 4, 123, 0, 0, 0), (340, 1, 2, 72, 124, 0), (342, 4, 124, 0, 0, 0), (344, 11, 2, 102, 4, 0), (354, 11, 2, 106, 5, 0), (395, 4, 96, 0, 0, 0), (397, 1, 2, 32, 117, 0), (399, 4, 117, 0, 0, 0), (401, 1, 2, 38, 125, 0), (403, 4, 125, 0, 0, 0), (405, 1, 2, 110, 127, 0), (406, 6, 127, 0, 0, 0), (417, 4, 95, 0, 0, 0), (419, 1, 2, 58, 126, 0), (421, 4, 126, 0, 0, 0), (423, 1, 2, 114, 128, 0), (424, 6, 128, 0, 0, 0), (436, 1, 6, 27, 132, 0), (437, 4, 132, 0, 0, 0), (438, 5, 132, 0, 0, 0), (440, 1, 4, 73, 174, 0), (442, 4, 174, 0, 0, 0), (446, 4, 97, 0, 0, 0), (448, 11, 3, 57, 1, 0), (449, 12, 0, 0, 0, 0), (451, 1, 6, 31, 133, 0), (452, 4, 133, 0, 0, 0), (453, 5, 133, 0, 0, 0), (455, 10, 4, 88, 1, 0), (456, 10, 4, 91, 2, 0), (457, 1, 6, 36, 134, 0), (458, 4, 134, 0, 0, 0), (459, 5, 134, 0, 0, 0), (461, 1, 6, 41, 135, 0), (462, 4, 135, 0, 0, 0), (463, 5, 135, 0, 0, 0), (466, 1, 6, 45, 136, 0), (467, 4, 136, 0, 0, 0), (468, 5, 136, 0, 0, 0), (470, 1, 6, 49, 137, 0), (471, 4, 137, 0, 0, 0), (472, 5, 137, 0, 0, 0), (474, 8, 4, 104, 3, 0), (475, 1, 6, 53, 138, 0), (476, 4, 138, 0, 0, 0), (477, 5, 138, 0, 0, 0), (479, 1, 6, 58, 139, 0), (480, 4, 139, 0, 0, 0), (481, 5, 139, 0, 0, 0), (485, 4, 98, 0, 0, 0), (487, 8, 4, 108, 4, 0), (488, 1, 6, 62, 140, 0), (489, 4, 140, 0, 0, 0), (490, 5, 140, 0, 0, 0), (492, 1, 6, 66, 141, 0), (493, 4, 141, 0, 0, 0), (494, 5, 141, 0, 0, 0), (496, 1, 6, 70, 142, 0), (497, 4, 142, 0, 0, 0), (498, 5, 142, 0, 0, 0), (500, 1, 4, 118, 178, 0), (502, 4, 178, 0, 0, 0), (506, 4, 102, 0, 0, 0), (508, 1, 0, 36, 103, 0), (510, 4, 103, 0, 0, 0), (512, 11, 0, 52, 1, 0), (513, 1, 0, 58, 104, 0), (515, 4, 104, 0, 0, 0), (520, 4, 108, 0, 0, 0), (522, 1, 0, 92, 191, 0), (525, 4, 109, 0, 0, 0), (527, 1, 0, 98, 114, 0), (529, 4, 114, 0, 0, 0), (531, 1, 0, 69, 112, 0), (533, 4, 112, 0, 0, 0), (535, 1, 0, 102, 113, 0), (537, 4, 113, 0, 0, 0), (539, 1, 0, 112, 190, 0), (540, 6, 190, 0, 0, 0), (542, 8, 7, 265, 17, 0), (543, 8, 7, 266, 18, 0), (544, 8, 7, 267, 19, 0), (545, 1, 0, 105, 110, 0), (547, 4, 110, 0, 0, 0), (549, 1, 0, 109, 111, 0), (551, 4, 111, 0, 0, 0), (553, 1, 6, 74, 143, 0), (554, 4, 143, 0, 0, 0), (555, 5, 143, 0, 0, 0), (558, 1, 6, 78, 144, 0), (559, 4, 144, 0, 0, 0), (560, 5, 144, 0, 0, 0), (562, 1, 6, 82, 145, 0), (563, 4, 145, 0, 0, 0), (564, 5, 145, 0, 0, 0), (566, 1, 6, 86, 146, 0)]
def mzAl2 : List (Nat × Nat × Nat × Nat × Nat × Nat) := [(567, 4, 146, 0, 0, 0), (568, 5, 146, 0, 0, 0), (570, 1, 4, 136, 175, 0), (572, 4, 175, 0, 0, 0), (576, 4, 94, 0, 0, 0), (580, 4, 107, 0, 0, 0), (582, 1, 0, 78, 108, 0), (583, 1, 0, 81, 109, 0), (584, 1, 6, 90, 147, 0), (585, 4, 147, 0, 0, 0), (586, 5, 147, 0, 0, 0), (588, 1, 6, 94, 148, 0), (589, 4, 148, 0, 0, 0), (590, 5, 148, 0, 0, 0), (592, 1, 4, 152, 179, 0), (594, 4, 179, 0, 0, 0), (598, 4, 105, 0, 0, 0), (601, 8, 4, 174, 5, 0), (602, 1, 4, 159, 190, 0), (605, 4, 99, 0, 0, 0), (609, 4, 106, 0, 0, 0), (611, 1, 0, 75, 107, 0), (612, 1, 4, 156, 180, 0), (614, 4, 180, 0, 0, 0), (616, 1, 6, 98, 149, 0), (617, 4, 149, 0, 0, 0), (618, 5, 149, 0, 0, 0), (620, 1, 6, 102, 150, 0), (621, 4, 150, 0, 0, 0), (622, 5, 150, 0, 0, 0), (624, 1, 6, 106, 151, 0), (625, 4, 151, 0, 0, 0), (626, 5, 151, 0, 0, 0), (628, 1, 6, 110, 152, 0), (629, 4, 152, 0, 0, 0), (630, 5, 152, 0, 0, 0), (632, 1, 4, 167, 181, 0), (633, 6, 181, 0, 0, 0), (635, 1, 4, 170, 182, 0), (637, 4, 182, 0, 0, 0), (639, 1, 4, 259, 183, 0), (640, 6, 183, 0, 0, 0), (642, 1, 6, 114, 153, 0), (643, 4, 153, 0, 0, 0), (644, 5, 153, 0, 0, 0), (646, 1, 6, 118, 154, 0), (647, 4, 154, 0, 0, 0), (648, 5, 154, 0, 0, 0), (651, 1, 6, 122, 155, 0), (652, 4, 155, 0, 0, 0), (653, 5, 155, 0, 0, 0), (655, 1, 6, 126, 156, 0), (656, 4, 156, 0, 0, 0), (657, 5, 156, 0, 0, 0), (664, 1, 4, 188, 184, 0), (666, 4, 184, 0, 0, 0), (672, 1, 4, 192, 185, 0), (674, 4, 185, 0, 0, 0), (678, 4, 101, 0, 0, 0), (680, 8, 3, 63, 0, 0), (689, 1, 4, 198, 187, 0), (691, 4, 187, 0, 0, 0), (693, 1, 4, 266, 186, 0), (695, 4, 186, 0, 0, 0), (697, 11, 4, 202, 1, 0), (698, 11, 4, 269, 2, 0), (703, 1, 4, 207, 176, 0), (704, 6, 176, 0, 0, 0), (706, 8, 4, 213, 6, 0), (707, 1, 4, 215, 188, 0), (709, 4, 188, 0, 0, 0), (711, 1, 4, 272, 189, 0), (713, 4, 189, 0, 0, 0), (727, 1, 4, 225, 177, 0), (728, 6, 177, 0, 0, 0), (730, 10, 4, 256, 0, 0), (732, 8, 4, 229, 7, 0), (737, 8, 4, 230, 8, 0), (738, 1, 4, 231, 191, 0), (745, 4, 91, 0, 0, 0), (753, 4, 92, 0, 0, 0), (755, 11, 4, 243, 3, 0), (774, 4, 100, 0, 0, 0), (786, 0, 5, 9, 5, 0), (787, 0, 5, 13, 5, 1), (788, 0, 5, 306, 5, 2), (789, 0, 5, 16, 5, 3), (790, 0, 5, 160, 5, 4), (791, 0, 5, 19, 5, 5), (792, 0, 5, 64, 5, 6), (793, 0, 5, 86, 5, 7), (794, 0, 5, 80, 5, 8), (795, 0, 5, 77, 5, 9), (796, 0, 5, 83, 5, 10), (797, 0, 5, 96, 5, 11), (798, 0, 5, 22, 5, 12), (799, 0, 5, 187, 5, 13), (800, 0, 5, 190, 5, 14), (801, 0, 5, 193, 5, 15), (802, 0, 5, 25, 5, 16), (803, 0, 5, 28, 5, 17), (804, 0, 5, 31, 5, 18), (805, 0, 5, 34, 5, 19), (806, 0, 5, 259, 5, 20), (807, 0, 5, 262, 5, 21), (808, 0, 5, 37, 5, 22), (809, 0, 5, 40, 5, 23), (810, 0, 5, 43, 5, 24), (811, 0, 5, 46, 5, 25), (812, 7, 5, 0, 0, 0), (814, 7, 5, 1, 0, 0), (816, 7, 5, 2, 0, 0), (818, 7, 5, 3, 0, 0), (820, 7, 5, 4, 0, 0), (822, 7, 5, 5, 0, 0), (824, 7, 5, 6, 0, 0), (826, 7, 5, 7, 0, 0), (828, 7, 5, 8, 0, 0), (830, 7, 5, 9, 0, 0), (832, 7, 5, 10, 0, 0), (834, 7, 5, 11, 0, 0), (836, 7, 5, 12, 0, 0), (838, 7, 5, 13, 0, 0), (840, 7, 5, 14, 0, 0), (842, 7, 5, 15, 0, 0), (844, 7, 5, 16, 0, 0), (846, 7, 5, 17, 0, 0), (848, 7, 5, 18, 0, 0), (850, 7, 5, 19, 0, 0), (852, 7, 5, 20, 0, 0), (854, 7, 5, 21, 0, 0), (856, 7, 5, 22, 0, 0), (858, 7, 5, 23, 0, 0), (860, 7, 5, 24, 0, 0), (862, 7, 5, 25, 0, 0), (865, 1, 6, 17, 9, 0), (866, 4, 9, 0, 0, 0), (867, 5, 9, 0, 0, 0), (869, 9, 5, 58, 0, 0), (870, 1, 5, 50, 2, 0), (871, 6, 2, 0, 0, 0), (873, 8, 5, 49, 9, 0), (874, 1, 5, 60, 1, 0), (876, 4, 1, 0, 0, 0), (878, 8, 5, 68, 10, 0), (879, 1, 6, 22, 10, 0), (880, 4, 10, 0, 0, 0), (881, 5, 10, 0, 0, 0), (883, 1, 6, 26, 20, 0), (884, 4, 20, 0, 0, 0)]
def mzAl3 : List (Nat × Nat × Nat × Nat × Nat × Nat) := [(885, 5, 20, 0, 0, 0), (887, 1, 5, 113, 13, 0), (889, 4, 13, 0, 0, 0), (891, 1, 5, 89, 12, 0), (892, 6, 12, 0, 0, 0), (894, 9, 5, 73, 3, 0), (895, 9, 5, 75, 4, 0), (896, 1, 5, 93, 11, 0), (897, 6, 11, 0, 0, 0), (899, 9, 5, 69, 1, 0), (900, 9, 5, 71, 2, 0), (901, 1, 5, 154, 19, 0), (903, 4, 19, 0, 0, 0), (905, 1, 5, 133, 16, 0), (907, 4, 16, 0, 0, 0), (910, 1, 5, 109, 14, 0), (912, 4, 14, 0, 0, 0), (914, 11, 5, 100, 4, 0), (915, 11, 5, 105, 5, 0), (916, 1, 5, 149, 6, 0), (918, 4, 6, 0, 0, 0), (921, 1, 5, 157, 18, 0), (923, 4, 18, 0, 0, 0), (925, 1, 5, 130, 17, 0), (927, 4, 17, 0, 0, 0), (937, 1, 5, 138, 15, 0), (939, 4, 15, 0, 0, 0), (945, 1, 6, 30, 22, 0), (946, 4, 22, 0, 0, 0), (947, 5, 22, 0, 0, 0), (949, 9, 5, 166, 5, 0), (950, 1, 5, 163, 5, 0), (952, 4, 5, 0, 0, 0), (954, 1, 5, 168, 21, 0), (956, 4, 21, 0, 0, 0), (958, 1, 6, 35, 25, 0), (959, 4, 25, 0, 0, 0), (960, 5, 25, 0, 0, 0), (962, 1, 5, 175, 23, 0), (964, 4, 23, 0, 0, 0), (966, 9, 5, 171, 6, 0), (967, 9, 5, 173, 7, 0), (968, 1, 5, 179, 24, 0), (970, 4, 24, 0, 0, 0), (972, 1, 6, 40, 26, 0), (973, 4, 26, 0, 0, 0), (974, 5, 26, 0, 0, 0), (976, 1, 6, 44, 28, 0), (977, 4, 28, 0, 0, 0), (978, 5, 28, 0, 0, 0), (980, 1, 5, 182, 27, 0), (982, 4, 27, 0, 0, 0), (984, 1, 6, 48, 29, 0), (985, 4, 29, 0, 0, 0), (986, 5, 29, 0, 0, 0), (988, 1, 6, 52, 30, 0), (989, 4, 30, 0, 0, 0), (990, 5, 30, 0, 0, 0), (992, 8, 5, 186, 11, 0), (993, 1, 6, 57, 31, 0), (994, 4, 31, 0, 0, 0), (995, 5, 31, 0, 0, 0), (997, 1, 6, 61, 41, 0), (998, 4, 41, 0, 0, 0), (999, 5, 41, 0, 0, 0), (1001, 9, 5, 223, 8, 0), (1002, 1, 5, 217, 39, 0), (1004, 4, 39, 0, 0, 0), (1006, 1, 5, 196, 3, 0), (1007, 6, 3, 0, 0, 0), (1009, 8, 5, 225, 12, 0), (1010, 1, 6, 65, 42, 0), (1011, 4, 42, 0, 0, 0), (1012, 5, 42, 0, 0, 0), (1014, 1, 6, 69, 43, 0), (1015, 4, 43, 0, 0, 0), (1016, 5, 43, 0, 0, 0), (1018, 1, 6, 73, 44, 0), (1019, 4, 44, 0, 0, 0), (1020, 5, 44, 0, 0, 0), (1022, 1, 5, 226, 40, 0), (1024, 4, 40, 0, 0, 0), (1026, 1, 5, 210, 32, 0), (1028, 4, 32, 0, 0, 0), (1030, 1, 5, 213, 33, 0), (1032, 4, 33, 0, 0, 0), (1034, 1, 5, 220, 38, 0), (1036, 4, 38, 0, 0, 0), (1038, 1, 5, 204, 37, 0), (1040, 4, 37, 0, 0, 0), (1042, 1, 5, 199, 34, 0), (1044, 4, 34, 0, 0, 0), (1046, 1, 5, 207, 36, 0), (1048, 4, 36, 0, 0, 0), (1050, 1, 5, 202, 35, 0), (1052, 4, 35, 0, 0, 0), (1054, 1, 6, 77, 45, 0), (1055, 4, 45, 0, 0, 0), (1056, 5, 45, 0, 0, 0), (1058, 1, 6, 81, 46, 0), (1059, 4, 46, 0, 0, 0), (1060, 5, 46, 0, 0, 0), (1062, 1, 6, 85, 47, 0), (1063, 4, 47, 0, 0, 0), (1064, 5, 47, 0, 0, 0), (1066, 1, 6, 89, 50, 0), (1067, 4, 50, 0, 0, 0), (1068, 5, 50, 0, 0, 0), (1070, 1, 5, 232, 8, 0), (1072, 4, 8, 0, 0, 0), (1074, 1, 5, 54, 7, 0), (1076, 4, 7, 0, 0, 0), (1078, 1, 5, 229, 48, 0), (1080, 4, 48, 0, 0, 0), (1082, 1, 6, 93, 53, 0), (1083, 4, 53, 0, 0, 0), (1084, 5, 53, 0, 0, 0), (1086, 1, 5, 235, 52, 0), (1088, 4, 52, 0, 0, 0), (1090, 1, 5, 238, 51, 0), (1092, 4, 51, 0, 0, 0), (1094, 1, 6, 97, 57, 0), (1095, 4, 57, 0, 0, 0), (1096, 5, 57, 0, 0, 0), (1098, 9, 5, 250, 9, 0), (1099, 1, 5, 252, 55, 0), (1101, 4, 55, 0, 0, 0), (1103, 1, 5, 241, 49, 0), (1105, 4, 49, 0, 0, 0), (1107, 1, 5, 244, 4, 0), (1108, 6, 4, 0, 0, 0), (1110, 1, 5, 247, 54, 0), (1112, 4, 54, 0, 0, 0), (1114, 1, 5, 255, 56, 0), (1116, 4, 56, 0, 0, 0), (1118, 1, 6, 101, 58, 0), (1119, 4, 58, 0, 0, 0), (1120, 5, 58, 0, 0, 0), (1122, 1, 6, 105, 59, 0), (1123, 4, 59, 0, 0, 0), (1124, 5, 59, 0, 0, 0), (1126, 9, 5, 257, 10, 0), (1127, 1, 6, 109, 60, 0), (1128, 4, 60, 0, 0, 0), (1129, 5, 60, 0, 0, 0), (1131, 1, 6, 113, 62, 0), (1132, 4, 62, 0, 0, 0), (1133, 5, 62, 0, 0, 0), (1135, 9, 5, 269, 11, 0), (1136, 1, 5, 265, 61, 0)]
def mzAl4 : List (Nat × Nat × Nat × Nat × Nat × Nat) := [(1138, 4, 61, 0, 0, 0), (1140, 1, 6, 117, 63, 0), (1141, 4, 63, 0, 0, 0), (1142, 5, 63, 0, 0, 0), (1144, 1, 6, 121, 67, 0), (1145, 4, 67, 0, 0, 0), (1146, 5, 67, 0, 0, 0), (1148, 1, 5, 271, 65, 0), (1150, 4, 65, 0, 0, 0), (1152, 1, 5, 274, 66, 0), (1154, 4, 66, 0, 0, 0), (1156, 1, 5, 277, 64, 0), (1158, 4, 64, 0, 0, 0), (1164, 1, 6, 125, 69, 0), (1165, 4, 69, 0, 0, 0), (1166, 5, 69, 0, 0, 0), (1176, 9, 5, 280, 12, 0), (1177, 8, 5, 282, 13, 0), (1186, 1, 5, 287, 73, 0), (1188, 4, 73, 0, 0, 0), (1190, 1, 5, 283, 74, 0), (1192, 4, 74, 0, 0, 0), (1198, 1, 5, 292, 76, 0), (1199, 6, 76, 0, 0, 0), (1201, 9, 5, 290, 13, 0), (1202, 8, 5, 295, 14, 0), (1203, 1, 5, 296, 77, 0), (1205, 4, 77, 0, 0, 0), (1219, 9, 5, 299, 14, 0), (1220, 1, 5, 301, 81, 0), (1221, 6, 81, 0, 0, 0), (1223, 8, 5, 304, 15, 0), (1228, 8, 5, 305, 16, 0), (1257, 9, 5, 309, 15, 0)]
def mzAll : List (Nat × Nat × Nat × Nat × Nat × Nat) := mzAl0 ++ mzAl1 ++ mzAl2 ++ mzAl3 ++ mzAl4
def mzAlN : List (Nat × Nat × Nat × Nat × Nat × Nat) := [(1, 0, 0, 40, 3, 0), (2, 0, 2, 42, 3, 0), (3, 0, 4, 70, 3, 0), (4, 0, 2, 67, 3, 1), (5, 0, 4, 97, 3, 1), (6, 0, 4, 109, 3, 2), (7, 0, 4, 85, 3, 3), (8, 0, 0, 72, 3, 3), (9, 0, 4, 195, 3, 4), (10, 0, 0, 49, 3, 5), (11, 0, 4, 77, 3, 5), (12, 0, 0, 46, 3, 6), (13, 0, 2, 76, 3, 6), (14, 0, 4, 94, 3, 6), (15, 0, 4, 112, 3, 7), (16, 0, 4, 115, 3, 8), (17, 0, 4, 222, 3, 9), (19, 0, 4, 127, 0, 6), (20, 0, 4, 121, 0, 7), (21, 0, 4, 124, 0, 8), (23, 0, 4, 54, 2, 1), (25, 0, 4, 210, 1, 0), (26, 0, 4, 214, 1, 1), (27, 0, 4, 219, 1, 2), (28, 1, 4, 59, 115, 0), (29, 1, 4, 63, 93, 0), (30, 1, 4, 66, 116, 0), (31, 1, 2, 82, 96, 0), (32, 1, 2, 54, 95, 0), (33, 2, 2, 61, 1, 0), (34, 2, 2, 64, 2, 0), (35, 1, 4, 81, 97, 0), (36, 1, 4, 100, 96, 0), (37, 1, 4, 105, 98, 0), (38, 1, 4, 139, 102, 0), (39, 1, 0, 62, 97, 0), (40, 1, 4, 145, 108, 0), (41, 1, 4, 133, 109, 0), (42, 1, 4, 130, 112, 0), (43, 1, 4, 148, 94, 0), (44, 1, 4, 142, 107, 0), (45, 1, 4, 164, 105, 0), (46, 1, 0, 65, 94, 0), (47, 1, 4, 175, 99, 0), (48, 1, 4, 181, 106, 0), (49, 1, 4, 178, 103, 0), (50, 1, 4, 184, 104, 0), (51, 1, 4, 263, 101, 0), (52, 1, 4, 237, 91, 0), (53, 1, 4, 240, 92, 0), (54, 1, 4, 253, 100, 0)]
def mzCol : List Nat := [1000, 1001, 1002, 191, 1003, 1004, 1005, 129, 173, 115, 130, 131, 93, 116, 119, 121, 122, 120, 1006, 118, 123, 124, 1007, 1008, 1009, 1010, 1011, 1012, 1013, 1014, 1015, 1016, 1017, 96, 117, 125, 127, 95, 126, 128, 132, 174, 97, 1018, 133, 134, 135, 136, 137, 138, 139, 98, 140, 141, 142, 178, 102, 103, 104, 108, 109, 114, 112, 113, 190, 110, 111, 143, 144, 145, 146, 175, 94, 107, 147, 148, 179, 105, 99, 106, 180, 149, 150, 151, 152, 181, 182, 183, 153, 154, 155, 156, 157, 184, 158, 185, 101, 159, 160, 187, 186, 161, 176, 188, 189, 162, 163, 164, 177, 165, 166, 91, 167, 92, 168, 169, 170, 171, 100, 172, 1019, 9, 2, 1, 10, 20, 13, 12, 11, 19, 16, 14, 6, 18, 17, 15, 22, 5, 21, 25, 23, 24, 26, 28, 27, 29, 30, 31, 41, 39, 3, 42, 43, 44, 40, 32, 33, 38, 37, 34, 36, 35, 45, 46, 47, 50, 8, 7, 48, 53, 52, 51, 57, 55, 49, 4, 54, 56, 58, 59, 60, 62, 61, 63, 67, 65, 66, 64, 68, 69, 70, 71, 72, 75, 73, 74, 78, 76, 77, 79, 80, 82, 81, 83, 84, 85, 86, 87, 88, 89, 90]
def mzCot : List Jvm.Cond := [.code ⟨"MeltPins", "<init>", "()V"⟩ prog_1_method_1_code 2 (Option.none : Option Jvm.ClassFile.FieldType), .code ⟨"java/lang/Object", "<init>", "()V"⟩ object_method_1_code 1 (Option.none : Option Jvm.ClassFile.FieldType), .code ⟨"MeltPins$World", "<init>", "()V"⟩ prog_5_method_1_code 1 (Option.none : Option Jvm.ClassFile.FieldType), .code ⟨"MeltPins$Melt", "<init>", "(LMeltPins$World;)V"⟩ prog_2_method_1_code 2 (Option.none : Option Jvm.ClassFile.FieldType), .code ⟨"MeltPins$Tape", "<init>", "()V"⟩ prog_4_method_1_code 1 (Option.none : Option Jvm.ClassFile.FieldType), .code ⟨"MeltPins$Sheet", "<init>", "()V"⟩ prog_3_method_1_code 1 (Option.none : Option Jvm.ClassFile.FieldType), .code ⟨"java/lang/Math", "min", "(II)I"⟩ prog_9_method_69_code 2 (Option.some Jvm.ClassFile.FieldType.int), .code ⟨"java/lang/String", "length", "()I"⟩ prog_10_method_54_code 1 (Option.some Jvm.ClassFile.FieldType.int), .code ⟨"java/lang/String", "coder", "()B"⟩ prog_10_method_152_code 1 (Option.some Jvm.ClassFile.FieldType.byte), .code ⟨"java/lang/String", "charAt", "(I)C"⟩ prog_10_method_56_code 2 (Option.some Jvm.ClassFile.FieldType.char), .code ⟨"java/lang/String", "isLatin1", "()Z"⟩ prog_10_method_154_code 1 (Option.some Jvm.ClassFile.FieldType.boolean), .code ⟨"java/lang/StringLatin1", "charAt", "([BI)C"⟩ prog_11_method_2_code 2 (Option.some Jvm.ClassFile.FieldType.char), .code ⟨"java/lang/String", "checkIndex", "(II)V"⟩ prog_10_method_155_code 2 (Option.none : Option Jvm.ClassFile.FieldType), .code ⟨"jdk/internal/util/Preconditions", "checkIndex", "(IILjava/util/function/BiFunction;)I"⟩ prog_15_method_11_code 3 (Option.some Jvm.ClassFile.FieldType.int), .code ⟨"java/lang/StringUTF16", "charAt", "([BI)C"⟩ prog_12_method_83_code 2 (Option.some Jvm.ClassFile.FieldType.char), .code ⟨"java/lang/StringUTF16", "checkIndex", "(I[B)V"⟩ prog_12_method_91_code 2 (Option.none : Option Jvm.ClassFile.FieldType), .code ⟨"java/lang/StringUTF16", "length", "([B)I"⟩ prog_12_method_6_code 1 (Option.some Jvm.ClassFile.FieldType.int), .code ⟨"java/lang/StringUTF16", "getChar", "([BI)C"⟩ prog_12_method_5_code 2 (Option.some Jvm.ClassFile.FieldType.char), .code ⟨"java/lang/Math", "max", "(II)I"⟩ prog_9_method_65_code 2 (Option.some Jvm.ClassFile.FieldType.int), .code ⟨"MeltPinsModel", "<init>", "()V"⟩ prog_7_method_1_code 2 (Option.none : Option Jvm.ClassFile.FieldType)]
def mzPL : List (Nat × Nat × Nat) := [(0, 52, 1), (2, 96, 2), (2, 102, 4), (2, 106, 5), (3, 51, 3), (3, 57, 1), (4, 202, 1), (4, 243, 3), (4, 269, 2), (5, 100, 4), (5, 105, 5)]
end
section
/-! THE MACHINE OF A FIXED MEMORY: numbers as Int, things by their numbers, the memory a function; a goal at an instruction is turned by computing -/
abbrev mzV : Type := Option (Int ⊕ (Int ⊕ (Nat ⊕ (Nat × Nat))))
abbrev mzI (x : Int) : mzV := some (.inl x)
abbrev mzL (x : Int) : mzV := some (.inr (.inl x))
abbrev mzR (k : Nat) : mzV := some (.inr (.inr (.inl k)))
abbrev mzP (b o : Nat) : mzV := some (.inr (.inr (.inr (b, o))))
abbrev mzM : Type := Nat → Nat → Int
abbrev mzO : Type := Nat × Instr × Int × Nat × Nat
/-- where things lie: the classes' numbers and slots; each thing's address; the classes of rows of numbers, of rows of those, of rows of sheets; the script -/
abbrev mzG : Type := va_G × (Nat → Nat) × ClassId × ClassId × ClassId × (Nat → Int) × Nat
def mzW (z : Int) : Int := (z + 2147483648) % 4294967296 - 2147483648
def mzX (z : Int) : Int := (z + 9223372036854775808) % 18446744073709551616 - 9223372036854775808
def mzAnd (x y : Int) : Int := (Int32.ofInt x &&& Int32.ofInt y).toInt
def mzOr (x y : Int) : Int := (Int32.ofInt x ||| Int32.ofInt y).toInt
def mzXor (x y : Int) : Int := (Int32.ofInt x ^^^ Int32.ofInt y).toInt
def mzShl (x y : Int) : Int := (Int32.ofInt x <<< (Int32.ofInt y &&& 31)).toInt
def mzShr (x y : Int) : Int := (Int32.ofInt x >>> (Int32.ofInt y &&& 31)).toInt
def mzUsh (x y : Int) : Int := (((Int32.ofInt x).toUInt32 >>> ((Int32.ofInt y).toUInt32 &&& Int32.toUInt32 31)).toInt32).toInt
def mzDiv (x y : Int) : Int := (Int32.ofInt x / Int32.ofInt y).toInt
def mzRem (x y : Int) : Int := (Int32.ofInt x - Int32.ofInt x / Int32.ofInt y * Int32.ofInt y).toInt
def mzB8 (x : Int) : Int := ((Int32.ofInt x).toInt8.toInt32).toInt
def mzB16 (x : Int) : Int := ((Int32.ofInt x).toInt16.toInt32).toInt
def mzMx (x y : Int) : Int := if x < y then y else x
def mzMn (x y : Int) : Int := if y < x then y else x
def mzCmp (x y : Int) : Int := if x < y then -1 else if x = y then 0 else 1
/-- the memory with one number put -/
def mzS (μ : mzM) (k j : Nat) (v : Int) : mzM := fun a b => if a = k ∧ b = j then v else μ a b
/-- the memory with n numbers of thing a from i on put into thing b from j on -/
def mzCp (μ : mzM) (a i b j n : Nat) : mzM := fun k q => if k = b ∧ j ≤ q ∧ q < j + n then μ a (i + (q - j)) else μ k q
def mzSh (k : Nat) : Nat × Nat × Nat := mzShape.getD k (9, 0, 0)
def mzFind : List (Nat × Nat × Nat × Nat) → Nat → Nat × Nat × Nat
  | [], _ => (0, 9, 0)
  | (k, v) :: r, b => match Nat.beq k b with
    | true => v
    | false => mzFind r b
def mzPq (b : Nat) : Nat × Nat × Nat := mzFind mzPools b
def mzRf (ci j k : Nat) : Nat := match (mzRfT.getD ci []).getD j (0, 0) with
  | (0, _) => 0
  | (1, v) => v
  | (_, v) => k + v
def mzCst (k j : Nat) : Int := (mzCstT.getD (k - 200) []).getD j 0
def mzCsl (k : Nat) : Nat := (mzCstT.getD (k - 200) []).length
def mzSl (o : Nat) : Int := ((mzStrT.getD o []).length : Int)
def mzSc (o j : Nat) : Int := (mzStrT.getD o []).getD j 0
def mzCc (c : Nat) : Nat := match Nat.ble 100 c with
  | true => c - 100
  | false => c
def mzIsO (k ci : Nat) : Bool := match mzSh k with
  | (1, c, _) => Nat.beq c ci
  | _ => false
def mzGt (L : List mzV) (k : Nat) : mzV := L.getD k none
def mzKill (L : List mzV) : Nat → List mzV
  | 0 => L
  | j + 1 => match L.getD j none with
    | some (.inr (.inl _)) => L.set j none
    | _ => L
def mzPut (L : List mzV) (k : Nat) (v : mzV) : List mzV := (mzKill L k).set k v
def mzPut2 (L : List mzV) (k : Nat) (v : mzV) : List mzV := ((mzKill L k).set k v).set (k + 1) none
def mzC1 (v : mzV) : Bool := match v with
  | some (.inr (.inl _)) => false
  | some _ => true
  | none => false
/-- how many words a stack takes -/
def mzSz : List mzV → Nat
  | [] => 0
  | some (.inr (.inl _)) :: r => mzSz r + 2
  | _ :: r => mzSz r + 1
/-- a row of numbers that may be written: its number and its places -/
def mzArr (v : mzV) (f : Nat → Nat → Prop) : Prop := match v with
  | some (.inr (.inr (.inl k))) => (match mzSh k with
    | (0, n, _) => f k n
    | _ => False)
  | some (.inr (.inr (.inr (p, o)))) => (match mzPq p with
    | (cnt, 0, n) => o < cnt ∧ f (p + o) n
    | _ => False)
  | _ => False
/-- one instruction without branch or call -/
def mz1 (i : Instr) (a : Int) (b c y : Nat) (K : List mzV → List mzV → mzM → Prop) (L S : List mzV) (μ : mzM) : Prop :=
  match i with
  | .iconst n => K L (mzI n :: S) μ
  | .bipush n => K L (mzI n :: S) μ
  | .sipush n => K L (mzI n :: S) μ
  | .ldc _ => (match c with
    | 0 => K L (mzI a :: S) μ
    | _ => K L (mzP 300 b :: S) μ)
  | .ldc_w _ => K L (mzI a :: S) μ
  | .ldc2_w _ => K L (mzL a :: S) μ
  | .lconst n => K L (mzL ((n : Nat) : Int) :: S) μ
  | .iload k => (match mzGt L k with
    | some (.inl x) => K L (mzI x :: S) μ
    | _ => False)
  | .iload_n k => (match mzGt L k.val with
    | some (.inl x) => K L (mzI x :: S) μ
    | _ => False)
  | .lload k => (match mzGt L k with
    | some (.inr (.inl x)) => K L (mzL x :: S) μ
    | _ => False)
  | .lload_n k => (match mzGt L k.val with
    | some (.inr (.inl x)) => K L (mzL x :: S) μ
    | _ => False)
  | .aload k => (match mzGt L k with
    | some (.inr (.inr v)) => K L (some (.inr (.inr v)) :: S) μ
    | _ => False)
  | .aload_n k => (match mzGt L k.val with
    | some (.inr (.inr v)) => K L (some (.inr (.inr v)) :: S) μ
    | _ => False)
  | .istore k => (match S with
    | some (.inl x) :: S' => K (mzPut L k (mzI x)) S' μ
    | _ => False)
  | .istore_n k => (match S with
    | some (.inl x) :: S' => K (mzPut L k.val (mzI x)) S' μ
    | _ => False)
  | .lstore k => (match S with
    | some (.inr (.inl x)) :: S' => K (mzPut2 L k (mzL x)) S' μ
    | _ => False)
  | .lstore_n k => (match S with
    | some (.inr (.inl x)) :: S' => K (mzPut2 L k.val (mzL x)) S' μ
    | _ => False)
  | .astore k => (match S with
    | some (.inr (.inr v)) :: S' => K (mzPut L k (some (.inr (.inr v)))) S' μ
    | _ => False)
  | .astore_n k => (match S with
    | some (.inr (.inr v)) :: S' => K (mzPut L k.val (some (.inr (.inr v)))) S' μ
    | _ => False)
  | .iinc k n => (match mzGt L k with
    | some (.inl x) => K (mzPut L k (mzI (mzW (x + n)))) S μ
    | _ => False)
  | .iadd => (match S with
    | some (.inl v) :: some (.inl u) :: S' => K L (mzI (mzW (u + v)) :: S') μ
    | _ => False)
  | .isub => (match S with
    | some (.inl v) :: some (.inl u) :: S' => K L (mzI (mzW (u - v)) :: S') μ
    | _ => False)
  | .imul => (match S with
    | some (.inl v) :: some (.inl u) :: S' => K L (mzI (mzW (u * v)) :: S') μ
    | _ => False)
  | .iand => (match S with
    | some (.inl v) :: some (.inl u) :: S' => K L (mzI (mzAnd u v) :: S') μ
    | _ => False)
  | .ior => (match S with
    | some (.inl v) :: some (.inl u) :: S' => K L (mzI (mzOr u v) :: S') μ
    | _ => False)
  | .ixor => (match S with
    | some (.inl v) :: some (.inl u) :: S' => K L (mzI (mzXor u v) :: S') μ
    | _ => False)
  | .ishl => (match S with
    | some (.inl v) :: some (.inl u) :: S' => K L (mzI (mzShl u v) :: S') μ
    | _ => False)
  | .ishr => (match S with
    | some (.inl v) :: some (.inl u) :: S' => K L (mzI (mzShr u v) :: S') μ
    | _ => False)
  | .iushr => (match S with
    | some (.inl v) :: some (.inl u) :: S' => K L (mzI (mzUsh u v) :: S') μ
    | _ => False)
  | .idiv => (match S with
    | some (.inl v) :: some (.inl u) :: S' => v ≠ 0 ∧ K L (mzI (mzDiv u v) :: S') μ
    | _ => False)
  | .irem => (match S with
    | some (.inl v) :: some (.inl u) :: S' => v ≠ 0 ∧ K L (mzI (mzRem u v) :: S') μ
    | _ => False)
  | .ladd => (match S with
    | some (.inr (.inl v)) :: some (.inr (.inl u)) :: S' => K L (mzL (mzX (u + v)) :: S') μ
    | _ => False)
  | .lmul => (match S with
    | some (.inr (.inl v)) :: some (.inr (.inl u)) :: S' => K L (mzL (mzX (u * v)) :: S') μ
    | _ => False)
  | .lcmp => (match S with
    | some (.inr (.inl v)) :: some (.inr (.inl u)) :: S' => K L (mzI (mzCmp u v) :: S') μ
    | _ => False)
  | .i2l => (match S with
    | some (.inl u) :: S' => K L (mzL u :: S') μ
    | _ => False)
  | .i2b => (match S with
    | some (.inl u) :: S' => K L (mzI (mzB8 u) :: S') μ
    | _ => False)
  | .i2s => (match S with
    | some (.inl u) :: S' => K L (mzI (mzB16 u) :: S') μ
    | _ => False)
  | .dup => (match S with
    | v :: S' => (match mzC1 v with
      | true => K L (v :: v :: S') μ
      | false => False)
    | _ => False)
  | .dup2 => (match S with
    | v :: w :: S' => (match mzC1 v && mzC1 w with
      | true => K L (v :: w :: v :: w :: S') μ
      | false => False)
    | _ => False)
  | .pop => (match S with
    | v :: S' => (match mzC1 v with
      | true => K L S' μ
      | false => False)
    | _ => False)
  | .pop2 => (match S with
    | some (.inr (.inl _)) :: S' => K L S' μ
    | _ => False)
  | .getfield _ => (match S with
    | some (.inr (.inr (.inl k))) :: S' => (match mzIsO k (mzCc c) with
      | true => (match mzRf (mzCc c) b k with
        | 0 => K L (mzI (μ k b) :: S') μ
        | t + 1 => K L (mzR (t + 1) :: S') μ)
      | false => False)
    | some (.inr (.inr (.inr (p, o)))) :: S' => (match mzPq p with
      | (cnt, 1, ci) => (match Nat.beq ci (mzCc c) with
        | true => o < cnt ∧ (match mzRf (mzCc c) b 0 with
          | 0 => K L (mzI (μ (p + o) b) :: S') μ
          | t + 1 => K L (mzP (p + (t + 1)) o :: S') μ)
        | false => False)
      | _ => False)
    | _ => False)
  | .putfield _ => (match S with
    | some (.inl x) :: some (.inr (.inr (.inl k))) :: S' => (match mzIsO k (mzCc c) && Nat.beq (mzRf (mzCc c) b k) 0 with
      | true => (match Nat.ble 100 c with
        | true => (x = 0 ∨ x = 1) ∧ K L S' (mzS μ k b x)
        | false => K L S' (mzS μ k b x))
      | false => False)
    | some (.inl x) :: some (.inr (.inr (.inr (p, o)))) :: S' => (match mzPq p with
      | (cnt, 1, ci) => (match Nat.beq ci c && Nat.beq (mzRf c b 0) 0 with
        | true => o < cnt ∧ K L S' (mzS μ (p + o) b x)
        | false => False)
      | _ => False)
    | _ => False)
  | .getstatic _ => K L (mzR (200 + b) :: S) μ
  | .iaload => (match S with
    | some (.inl i) :: some (.inr (.inr (.inl k))) :: S' => (match Nat.ble 148 k with
      | true => (match Nat.beq k 148 && Nat.beq y 0 with
        | true => (0 ≤ i ∧ i < μ 149 0) ∧ K L (mzI (μ 148 i.toNat) :: S') μ
        | false => (match Nat.ble 200 k && Nat.ble k 202 with
          | true => (0 ≤ i ∧ i < (mzCsl k : Int)) ∧ K L (mzI (mzCst k i.toNat) :: S') μ
          | false => False))
      | false => (match mzSh k with
        | (0, n, _) => (0 ≤ i ∧ i < (n : Int)) ∧ K L (mzI (μ k i.toNat) :: S') μ
        | _ => False))
    | some (.inl i) :: some (.inr (.inr (.inr (p, o)))) :: S' => (match mzPq p with
      | (cnt, 0, n) => (o < cnt ∧ 0 ≤ i ∧ i < (n : Int)) ∧ K L (mzI (μ (p + o) i.toNat) :: S') μ
      | _ => False)
    | _ => False)
  | .iastore => (match S with
    | some (.inl x) :: some (.inl i) :: some (.inr (.inr (.inl k))) :: S' => (match mzSh k with
      | (0, n, _) => (0 ≤ i ∧ i < (n : Int)) ∧ K L S' (mzS μ k i.toNat x)
      | _ => False)
    | some (.inl x) :: some (.inl i) :: some (.inr (.inr (.inr (p, o)))) :: S' => (match mzPq p with
      | (cnt, 0, n) => (o < cnt ∧ 0 ≤ i ∧ i < (n : Int)) ∧ K L S' (mzS μ (p + o) i.toNat x)
      | _ => False)
    | _ => False)
  | .aaload => (match S with
    | some (.inl i) :: some (.inr (.inr (.inl k))) :: S' => (match mzSh k with
      | (2, n, f) => (0 ≤ i ∧ i < (n : Int)) ∧ K L (mzP f i.toNat :: S') μ
      | (3, n, f) => (0 ≤ i ∧ i < (n : Int)) ∧ K L (mzP f i.toNat :: S') μ
      | _ => False)
    | _ => False)
  | .arraylength => (match S with
    | some (.inr (.inr (.inl k))) :: S' => (match Nat.beq k 148 && Nat.beq y 0 with
      | true => K L (mzI (μ 149 0) :: S') μ
      | false => (match mzSh k with
        | (0, n, _) => K L (mzI (n : Int) :: S') μ
        | _ => False))
    | some (.inr (.inr (.inr (p, o)))) :: S' => (match mzPq p with
      | (cnt, 0, n) => o < cnt ∧ K L (mzI (n : Int) :: S') μ
      | _ => False)
    | _ => False)
  | _ => False
def mzIf (q : Jvm.ClassFile.Cond) (x v : Int) (T F : Prop) : Prop := match q with
  | .eq => (x = v → T) ∧ (x ≠ v → F)
  | .ne => (x ≠ v → T) ∧ (x = v → F)
  | .lt => (x < v → T) ∧ (v ≤ x → F)
  | .ge => (v ≤ x → T) ∧ (x < v → F)
  | .gt => (v < x → T) ∧ (x ≤ v → F)
  | .le => (x ≤ v → T) ∧ (v < x → F)
def mzTs (pc : Nat) : List Int → Int → Int → (Nat → Prop) → Prop
  | [], _, _, _ => True
  | o :: r, lo, x, k => (x = lo → k ((pc : Int) + o).toNat) ∧ mzTs pc r (lo + 1) x k
def mzLs (pc : Nat) : List (Int × Int) → Int → (Nat → Prop) → Prop → Prop
  | [], _, _, D => D
  | (q, o) :: r, x, k, D => (x = q → k ((pc : Int) + o).toNat) ∧ (x ≠ q → mzLs pc r x k D)
def mzIn : Nat → List Nat → Bool
  | _, [] => false
  | a, b :: r => match Nat.beq a b with
    | true => true
    | false => mzIn a r
def mzDr : List mzO → Nat → List mzO
  | [], _ => []
  | e :: r, t => match Nat.beq e.1 t with
    | true => e :: r
    | false => mzDr r t
-- the methods' table, by number
def mzTq (y : Nat) : MethodName × ByteArray × Nat × Option FieldType × Nat := mzTab.getD y (⟨"", "", ""⟩, ⟨#[]⟩, 0, none, 0)
def mzYn (y : Nat) : MethodName := (mzTq y).1
def mzBy (y : Nat) : ByteArray := (mzTq y).2.1
def mzNl (y : Nat) : Nat := (mzTq y).2.2.1
def mzRt (y : Nat) : Option FieldType := (mzTq y).2.2.2.1
def mzOw (y : Nat) : Nat := (mzTq y).2.2.2.2
def mzNo (o : Nat) : String := mzNm.getD o ""
def mzRk (y : Nat) : Nat := match mzRt y with
  | none => 0
  | some .int => 1
  | some .boolean => 1
  | some .long => 2
  | some _ => 3
def mzQi (q : Int → mzM → Prop) (v : mzV) (μ : mzM) : Prop := match v with
  | some (.inl x) => q x μ
  | _ => False
def mzQj (q : Int → mzM → Prop) (v : mzV) (μ : mzM) : Prop := match v with
  | some (.inr (.inl x)) => q x μ
  | _ => False
def mzQr (q : Nat → Nat → mzM → Prop) (v : mzV) (μ : mzM) : Prop := match v with
  | some (.inr (.inr (.inr (p, o)))) => q p o μ
  | _ => False
def mzQv (q : mzM → Prop) (_ : mzV) (μ : mzM) : Prop := q μ
/-- the places with which a method begins -/
def mzLay : List mzV → List mzV
  | [] => []
  | some (.inr (.inl x)) :: r => mzL x :: none :: mzLay r
  | v :: r => v :: mzLay r
def mzEn (n : Nat) (as : List mzV) : List mzV := mzLay as ++ List.replicate (n - (mzLay as).length) none
-- the words
def mzTb : List Jvm.Cond := lw_tbl.filter goodWord
def mzNest : List Jvm.Cond := tables_1.filter fun w => match w with
  | .fieldLinkNest .. => true
  | .methodLinkNest .. => true
  | _ => false
def mzWs (y : Nat) : List Jvm.Cond := .code (mzYn y) (mzBy y) (mzNl y) (mzRt y) :: mzTb
def mzAd (G : mzG) (k : Nat) : Nat := G.2.1 k
def mzC (G : mzG) (v : mzV) : Value := match v with
  | some (.inl x) => .int (Int32.ofInt x)
  | some (.inr (.inl x)) => .long (Int64.ofInt x)
  | some (.inr (.inr (.inl k))) => .ref (mzAd G k)
  | some (.inr (.inr (.inr (p, o)))) => .ref (mzAd G (p + o))
  | none => .null
/-- numbers in their bounds -/
def mzK (v : mzV) : Prop := match v with
  | some (.inl x) => -2147483648 ≤ x ∧ x < 2147483648
  | some (.inr (.inl x)) => -9223372036854775808 ≤ x ∧ x < 9223372036854775808
  | _ => True
def mzNf (ci : Nat) : Nat := (mzRfT.getD ci []).length
def mzFv (G : mzG) (μ : mzM) (ci k j : Nat) : Value := match mzRf ci j k with
  | 0 => .int (Int32.ofInt (μ k j))
  | t + 1 => .ref (mzAd G (t + 1))
def mzRow (G : mzG) (n f : Nat) : Nat → Option Nat := fun i => if i < n then some (mzAd G (f + i)) else none
def mzEnt (G : mzG) (μ : mzM) (k : Nat) : va_E := match mzSh k with
  | (0, n, _) => .inl (G.2.2.1, n, .inl (fun j => Int32.ofInt (μ k j)))
  | (1, ci, _) => .inr (ci, (List.range (mzNf ci)).map (mzFv G μ ci k))
  | (2, n, f) => .inl (G.2.2.2.1, n, .inr (.inr (.inr (.inr (mzRow G n f)))))
  | (_, n, f) => .inl (G.2.2.2.2.1, n, .inr (.inr (.inr (.inr (mzRow G n f)))))
def mzWo (G : mzG) (μ : mzM) : va_W := (List.range 148).map (fun k => (mzAd G k, mzEnt G μ k))
def mzTys (G : mzG) : List (ClassId × FieldType) := [(G.2.2.1, .int), (G.2.2.2.1, .array .int), (G.2.2.2.2.1, .object "MeltPins$Sheet")]
def mzA (G : mzG) : Nat → Prop := fun q => ∃ k, k < 148 ∧ q = mzAd G k
def mzSt (G : mzG) (H : Heap) (μ : mzM) : Prop := va_P G.1 mzCls (mzWo G μ) H ∧ (∀ k j, -2147483648 ≤ μ k j ∧ μ k j < 2147483648) ∧ (∀ j, μ 148 j = G.2.2.2.2.2.1 j) ∧ μ 149 0 = (G.2.2.2.2.2.2 : Int)
def mzInj (G : mzG) : Prop := ∀ i j, i < 148 → j < 148 → mzAd G i = mzAd G j → i = j
def mzScr (G : mzG) (s : State) : Prop := va_X (mzAd G 148) G.2.2.2.2.2.2 (fun j => Int32.ofInt (G.2.2.2.2.2.1 j)) s s.heap ∧ mzAd G 148 < s.heap.size ∧ ¬ mzA G (mzAd G 148)
def mzStat (k : Nat) : String := ["KIND_ABOVE", "LEAST", "GREATEST"].getD k ""
/-- what holds of the tables and of what is there from the start, in every method -/
def mzAmb (G : mzG) (U : State) : Prop := (∀ w ∈ mzNest, va_Nw w U) ∧ va_K G.1 mzCls (mzTys G) U ∧
  (∀ k, k < 3 → va_Z "MeltPins" (mzStat k) "[I" (.ref (mzAd G (200 + k))) (mzA G) U U.heap ∧ va_T .int (mzAd G (200 + k)) (mzCsl (200 + k)) (fun j => .int (Int32.ofInt (mzCst (200 + k) j))) (mzA G) U U.heap) ∧
  (∀ q ∈ mzSL, vk_R (mzNo q.1) q.2.1 (mzStrS.getD q.2.2 "") (mzAd G (300 + q.2.2)) U) ∧
  vk_S 14 (mzStrT.map List.length) (mzStrT.map (List.map Int32.ofInt)) (fun i => mzAd G (300 + i)) (fun i => mzAd G (320 + i)) (mzA G) U U.heap ∧
  va_Z "java/lang/String" "COMPACT_STRINGS" "Z" (.int 1) (mzA G) U U.heap
def mzRm (d : Nat) : Room := { frames := d, cells := 0, slots := 0, locals := 64 * d }
def mzCx (G : mzG) (p : Program) (R : Room) (s : State) (m : MethodId) (args : Array Value) (meth : Method) (c : Code) (y d cells slots : Nat) : Prop :=
  p.tables.exec = Jvm.exec ∧ c.code = mzBy y ∧ c.maxLocals = mzNl y ∧ meth.sig.returnType = mzRt y ∧ meth.locks = false ∧ s.vm.findClass (mzNo (mzOw y)) = some m.cls ∧ (∀ w ∈ mzTb, w.before args s = true) ∧ mzAmb G s ∧ mzInj G ∧
  (cells ≤ R.cells ∧ slots ≤ R.slots) ∧ (d ≤ R.frames ∧ 64 * d ≤ R.locals) ∧ (y = 0 → mzScr G s)
def mzFr (G : mzG) (y : Nat) (ls : Array Slot) (L : List mzV) : Prop := ls.size = mzNl y ∧ lv_wf ls ∧ L.length = mzNl y ∧ ∀ (i : Nat) (v : Int ⊕ (Int ⊕ (Nat ⊕ (Nat × Nat)))), L[i]? = some (some v) → ls[i]? = some (Slot.val (mzC G (some v))) ∧ mzK (some v)
def mzSk (S : List mzV) : Prop := ∀ v ∈ S, v ≠ none ∧ mzK v
section MZ
variable (G : mzG) (p : Program) (l : Launch) (e : Env) (R : Room) (s : State) (m : MethodId) (args : Array Value) (below : List Frame) (meth : Method) (c : Code) (cells slots : Nat) (Z : State → Prop)
/-- from every heap that holds the memory, every frame that holds the places, the machine comes to Z -/
def mzGo (y pc : Nat) (L S : List mzV) (μ : mzM) : Prop := ∀ (H : Heap) (locs : List Loc) (ls : Array Slot), mzSt G H μ → va_S (mzA G) s.heap H locs → mzFr G y ls L → mzSk S → W p l e R s m args below meth c H locs cells slots Z (F0 m pc ls (S.map (mzC G)))
end MZ
def mzTyp (r : Option FieldType) (v : mzV) : Prop := match r with
  | none => v = none
  | some .int => ∃ x, v = mzI x
  | some .boolean => v = mzI 0 ∨ v = mzI 1
  | some .long => ∃ x, v = mzL x
  | some _ => ∃ p o, v = mzP p o
def mzRi (r : Option FieldType) : Instr := match r with
  | none => .return_
  | some .int => .ireturn
  | some .boolean => .ireturn
  | some .long => .lreturn
  | some _ => .areturn
def mzRs (G : mzG) (v : mzV) : List Value := match v with
  | none => []
  | some w => [mzC G (some w)]
/-- a method's frame: the machine goes from here to its end with v and a memory that Q holds of -/
def mzWp (d y pc : Nat) (L S : List mzV) (μ : mzM) (Q : mzV → mzM → Prop) : Prop :=
  ∀ (G : mzG) (p : Program) (l : Launch) (e : Env) (R : Room) (s : State) (m : MethodId) (args : Array Value) (below : List Frame) (meth : Method) (c : Code) (cells slots : Nat) (Z : State → Prop), mzCx G p R s m args meth c y d cells slots →
    (∀ (v : mzV) (μ' : mzM) (H' : Heap) (locs' : List Loc) (ls' : Array Slot) (pc' : Nat), Q v μ' → mzTyp (mzRt y) v → mzK v → mzSt G H' μ' → va_S (mzA G) s.heap H' locs' → decode (mzBy y) pc' = .ok (mzRi (mzRt y), 1) → W p l e R s m args below meth c H' locs' cells slots Z (F0 m pc' ls' (mzRs G v))) →
    mzGo G p l e R s m args below meth c cells slots Z y pc L S μ
/-- a call of method y, from its entry -/
def mzCl (d y : Nat) (as : List mzV) (μ : mzM) (Q : mzV → mzM → Prop) : Prop := mzWp d y 0 (mzEn (mzNl y) as) [] μ Q
/-- the receiver is an object of the method's class -/
def mzRc (ci : Nat) (v : mzV) (P : Prop) : Prop := match v with
  | some (.inr (.inr (.inl k))) => (match mzIsO k ci with
    | true => P
    | false => False)
  | some (.inr (.inr (.inr (p, o)))) => (match mzPq p with
    | (cnt, 1, c) => (match Nat.beq c ci with
      | true => o < cnt ∧ P
      | false => False)
    | _ => False)
  | _ => False
/-- a call, by what comes back -/
def mzCall (d b : Nat) (as : List mzV) (μ : mzM) (K : mzV → mzM → Prop) : Prop := match mzRk b with
  | 0 => mzCl d b as μ (mzQv (fun μ' => K none μ'))
  | 1 => mzCl d b as μ (mzQi (fun x μ' => K (mzI x) μ'))
  | 2 => mzCl d b as μ (mzQj (fun x μ' => K (mzL x) μ'))
  | _ => mzCl d b as μ (mzQr (fun p o μ' => K (mzP p o) μ'))
def mzPu (v : mzV) (S : List mzV) : List mzV := match v with
  | none => S
  | some w => some w :: S
/-- members of the library that are taken by the kit's own rows -/
def mzPr (c : Nat) (K : List mzV → List mzV → mzM → Prop) (L S : List mzV) (μ : mzM) : Prop := match c with
  | 1 => (match S with
    | some (.inl v) :: some (.inl u) :: S' => (match Nat.ble (mzSz S') 8 with
      | true => K L (mzI (mzMx u v) :: S') μ
      | false => False)
    | _ => False)
  | 2 => (match S with
    | some (.inl v) :: some (.inl u) :: S' => (match Nat.ble (mzSz S') 8 with
      | true => K L (mzI (mzMn u v) :: S') μ
      | false => False)
    | _ => False)
  | 3 => (match S with
    | some (.inl n) :: some (.inl j) :: w :: some (.inl i) :: u :: S' => (match Nat.ble (mzSz S') 8 with
      | true => mzArr u (fun ka na => mzArr w (fun kb nb => (0 ≤ i ∧ 0 ≤ j ∧ 0 ≤ n ∧ i + n ≤ (na : Int) ∧ j + n ≤ (nb : Int)) ∧ K L S' (mzCp μ ka i.toNat kb j.toNat n.toNat)))
      | false => False)
    | _ => False)
  | 4 => (match S with
    | some (.inr (.inr (.inr (300, o)))) :: S' => (match Nat.ble (mzSz S') 8 with
      | true => o < 14 ∧ K L (mzI (mzSl o) :: S') μ
      | false => False)
    | _ => False)
  | 5 => (match S with
    | some (.inl i) :: some (.inr (.inr (.inr (300, o)))) :: S' => (match Nat.ble (mzSz S') 8 with
      | true => (o < 14 ∧ 0 ≤ i ∧ i < mzSl o) ∧ K L (mzI (mzSc o i.toNat) :: S') μ
      | false => False)
    | _ => False)
  | _ => False
def mzInv (d : Nat) (st : Bool) (b c : Nat) (K : List mzV → List mzV → mzM → Prop) (L S : List mzV) (μ : mzM) : Prop := match d with
  | 0 => False
  | d + 1 => (match b with
    | 0 => mzPr c K L S μ
    | _ => (match Nat.ble (mzSz (S.drop c)) 8 && (Nat.ble c S.length && Nat.ble (mzLay (S.take c).reverse).length (mzNl b)) with
      | true => (match st with
        | true => mzCall d b (S.take c).reverse μ (fun v μ' => K L (mzPu v (S.drop c)) μ')
        | false => mzRc (mzOw b) ((S.take c).reverse.headD none) (mzCall d b (S.take c).reverse μ (fun v μ' => K L (mzPu v (S.drop c)) μ')))
      | false => False))
/-- one instruction, V what comes behind it -/
def mzStp (d y : Nat) (cd : List mzO) (Q : mzV → mzM → Prop) (V : List mzO → List mzV → List mzV → mzM → Prop) (pc : Nat) (i : Instr) (a : Int) (b c : Nat) (r : List mzO) (L S : List mzV) (μ : mzM) : Prop := match i with
  | .goto _ => V (mzDr cd b) L S μ
  | .ifCond q _ => (match S with
    | some (.inl x) :: S' => mzIf q x 0 (V (mzDr cd b) L S' μ) (V r L S' μ)
    | _ => False)
  | .if_icmp q _ => (match S with
    | some (.inl v) :: some (.inl x) :: S' => mzIf q x v (V (mzDr cd b) L S' μ) (V r L S' μ)
    | _ => False)
  | .tableswitch dflt lo hi offs => (match S with
    | some (.inl x) :: S' => mzTs pc offs.toList lo x (fun t => V (mzDr cd t) L S' μ) ∧ ((x < lo ∨ hi < x) → V (mzDr cd ((pc : Int) + dflt).toNat) L S' μ)
    | _ => False)
  | .lookupswitch dflt ps => (match S with
    | some (.inl x) :: S' => mzLs pc ps.toList x (fun t => V (mzDr cd t) L S' μ) (V (mzDr cd ((pc : Int) + dflt).toNat) L S' μ)
    | _ => False)
  | .ireturn => (match S with
    | [some (.inl x)] => (match c with
      | 0 => Q (mzI x) μ
      | _ => (x = 0 ∨ x = 1) ∧ Q (mzI x) μ)
    | _ => False)
  | .lreturn => (match S with
    | [some (.inr (.inl x))] => Q (mzL x) μ
    | _ => False)
  | .areturn => (match S with
    | [some (.inr (.inr (.inr (p, o))))] => Q (mzP p o) μ
    | _ => False)
  | .return_ => (match S with
    | [] => Q none μ
    | _ => False)
  | .invokevirtual _ => mzInv d false b c (fun L S μ => V r L S μ) L S μ
  | .invokestatic _ => mzInv d true b c (fun L S μ => V r L S μ) L S μ
  | i => mz1 i a b c y (fun L S μ => V r L S μ) L S μ
def mzVc (d y : Nat) (cd : List mzO) (Q : mzV → mzM → Prop) (cuts : List Nat) : Nat → List mzO → List mzV → List mzV → mzM → Prop
  | 0, _, _, _, _ => False
  | n + 1, r, L, S, μ => match r with
    | [] => False
    | (pc, i, a, b, c) :: r' => match mzIn pc cuts with
      | true => mzWp d y pc L S μ Q
      | false => mzStp d y cd Q (mzVc d y cd Q cuts n) pc i a b c r' L S μ
/-- from an instruction on, that one whether it is a cut or not -/
def mzVg (d y : Nat) (cd : List mzO) (Q : mzV → mzM → Prop) (cuts : List Nat) (n pc : Nat) (L S : List mzV) (μ : mzM) : Prop := match mzDr cd pc with
  | [] => False
  | (pc, i, a, b, c) :: r' => mzStp d y cd Q (mzVc d y cd Q cuts n) pc i a b c r' L S μ
end
section
/-! the words: each by its place in the tables, looked at once -/
def mzFq (ci j : Nat) : String × String × String × Bool := (mzCls.getD ci ("", fun _ => ("", "", "", false), 0)).2.1 j
def mzPn (c : Nat) : MethodName := match c with
  | 1 => Lib.Math.max.name
  | 2 => Lib.Math.min.name
  | 3 => arraycopyName
  | 4 => ⟨"java/lang/String", "length", "()I"⟩
  | _ => ⟨"java/lang/String", "charAt", "(I)C"⟩
def mzWd (k a b c d : Nat) : Jvm.Cond := match k with
  | 0 => .fieldLink (mzNo a) b (mzNo c) (mzFq c d).2.1 (mzFq c d).2.2.1
  | 1 => .methodLink (mzNo a) b (mzYn c)
  | 2 => .code (mzYn a) (mzBy a) (mzNl a) (mzRt a)
  | 3 => .initialized (mzNo a)
  | 4 => .instanceMethod (mzYn a)
  | 5 => .selects (mzYn a).cls (mzYn a) (mzYn a)
  | 6 => .static (mzYn a)
  | 7 => u_lay (mzNo a) (mzFq a) b
  | 8 => .constant (mzNo a) b (Int32.ofInt ((mzCL.getD c (0, 0, 0)).2.2))
  | 9 => .constantLong (mzNo a) b (Int64.ofInt ((mzJL.getD c (0, 0, 0)).2.2))
  | 10 => .fieldLink (mzNo a) b "MeltPins" (mzStat c) "[I"
  | 11 => .methodLink (mzNo a) b (mzPn c)
  | _ => (match a with
    | 0 => .static Lib.Math.max.name
    | 1 => .static Lib.Math.min.name
    | 2 => .initialized "java/lang/Math"
    | 5 => .native arraycopyName
    | 6 => .static arraycopyName
    | _ => .initialized "java/lang/System")
def mzWdN (k a b c d : Nat) : Jvm.Cond := match k with
  | 0 => .fieldLinkNest (mzNo a) b (mzNo c) (mzFq c d).2.1 (mzFq c d).2.2.1 "MeltPins"
  | 1 => .methodLinkNest (mzNo a) b (mzYn c) "MeltPins"
  | _ => .fieldLinkNest (mzNo a) b "MeltPins" (mzStat c) "[I" "MeltPins"
def mzWalk (f : Nat → Nat → Nat → Nat → Nat → Jvm.Cond) : List Jvm.Cond → Nat → List (Nat × Nat × Nat × Nat × Nat × Nat) → Bool
  | [], _, ps => (match ps with
    | [] => true
    | _ => false)
  | w :: t, n, ps => (match ps with
    | [] => true
    | (i, k, a, b, c, d) :: r => (match Nat.beq n i with
      | true => decide (w = f k a b c d) && mzWalk f t (n + 1) r
      | false => mzWalk f t (n + 1) ((i, k, a, b, c, d) :: r)))
theorem mz_walk {f : Nat → Nat → Nat → Nat → Nat → Jvm.Cond} : ∀ (l : List Jvm.Cond) (n : Nat) (ps : List (Nat × Nat × Nat × Nat × Nat × Nat)), mzWalk f l n ps = true → ∀ q ∈ ps, f q.2.1 q.2.2.1 q.2.2.2.1 q.2.2.2.2.1 q.2.2.2.2.2 ∈ l := by
  intro l
  induction l with
  | nil =>
    intro n ps h q hq
    cases ps with
    | nil => cases hq
    | cons _ _ => simp [mzWalk] at h
  | cons w t ih =>
    intro n ps h q hq
    cases ps with
    | nil => cases hq
    | cons z r =>
      obtain ⟨i, k, a, b, c, d⟩ := z
      unfold mzWalk at h
      dsimp only at h
      split at h
      · simp only [Bool.and_eq_true, decide_eq_true_eq] at h
        rcases List.mem_cons.mp hq with rfl | h9
        · rw [h.1]
          exact List.mem_cons_self
        · exact List.mem_cons_of_mem _ (ih _ _ h.2 q h9)
      · exact List.mem_cons_of_mem _ (ih _ _ h q hq)
theorem mz_all : mzWalk mzWd lw_tbl 0 mzAll = true := by decide +kernel
theorem mz_allN : mzWalk mzWdN mzNest 0 mzAlN = true := by decide +kernel
/-- the word is there -/
def mzHas (l : List (Nat × Nat × Nat × Nat × Nat × Nat)) (k a b c d : Nat) : Bool := l.any (fun q => Nat.beq q.2.2.2.1 b && (Nat.beq q.2.2.1 a && (Nat.beq q.2.1 k && (Nat.beq q.2.2.2.2.1 c && Nat.beq q.2.2.2.2.2 d))))
theorem mz_hasq {l : List (Nat × Nat × Nat × Nat × Nat × Nat)} {k a b c d : Nat} (h : mzHas l k a b c d = true) : ∃ q ∈ l, q.2.1 = k ∧ q.2.2.1 = a ∧ q.2.2.2.1 = b ∧ q.2.2.2.2.1 = c ∧ q.2.2.2.2.2 = d := by
  unfold mzHas at h
  obtain ⟨q, hq, h⟩ := List.any_eq_true.mp h
  simp only [Bool.and_eq_true] at h
  exact ⟨q, hq, Nat.eq_of_beq_eq_true h.2.2.1, Nat.eq_of_beq_eq_true h.2.1, Nat.eq_of_beq_eq_true h.1, Nat.eq_of_beq_eq_true h.2.2.2.1, Nat.eq_of_beq_eq_true h.2.2.2.2⟩
theorem mz_in {k a b c d : Nat} (h : mzHas mzAll k a b c d = true) : mzWd k a b c d ∈ lw_tbl := by
  obtain ⟨q, hq, rfl, rfl, rfl, rfl, rfl⟩ := mz_hasq h
  exact mz_walk _ _ _ mz_all q hq
theorem mz_inN {k a b c d : Nat} (h : mzHas mzAlN k a b c d = true) : mzWdN k a b c d ∈ mzNest := by
  obtain ⟨q, hq, rfl, rfl, rfl, rfl, rfl⟩ := mz_hasq h
  exact mz_walk _ _ _ mz_allN q hq
theorem mz_tb {w : Jvm.Cond} (h : w ∈ lw_tbl) (hg : goodWord w = true) : w ∈ mzTb := List.mem_filter.mpr ⟨h, hg⟩
/-- the code words, by place -/
def mzCw (y : Nat) : Jvm.Cond := .code (mzYn y) (mzBy y) (mzNl y) (mzRt y)
def mzCg (n : Nat) : Jvm.Cond := match Nat.ble 1000 n with
  | true => mzCot.getD (n - 1000) .tt
  | false => mzCw n
set_option maxRecDepth 200000 in
theorem mz_cws : tables_1.filter k2_isCode = mzCol.map mzCg := rfl
theorem mz_cys : ∀ y, y < 192 → 0 < y → y ∈ mzCol := by decide +kernel
theorem mz_cin {n : Nat} (h : n ∈ mzCol) : mzCg n ∈ lw_tbl := by
  have h1 : mzCg n ∈ tables_1.filter k2_isCode := by
    rw [mz_cws]
    exact List.mem_map.mpr ⟨n, h, rfl⟩
  exact List.mem_append_right _ (List.mem_filter.mp h1).1
theorem mz_code {y : Nat} (hy : y < 192) (h0 : 0 < y) : Jvm.Cond.code (mzYn y) (mzBy y) (mzNl y) (mzRt y) ∈ lw_tbl := by
  have h := mz_cin (mz_cys y hy h0)
  have e : Nat.ble 1000 y = false := by
    cases hb : Nat.ble 1000 y with
    | false => rfl
    | true => have := Nat.le_of_ble_eq_true hb; omega
  simp only [mzCg, e] at h
  exact h
theorem mz_cmax : Jvm.Cond.code Lib.Math.max.name Lib.Math.max.code 2 (some .int) ∈ lw_tbl := List.mem_of_getElem? (i := 450) (by decide +kernel)
theorem mz_cmin : Jvm.Cond.code Lib.Math.min.name Lib.Math.min.code 2 (some .int) ∈ lw_tbl := List.mem_of_getElem? (i := 330) (by decide +kernel)
end
section
/-! the machine follows: numbers -/
theorem mz_ofInt_toInt (x : Int32) : Int32.ofInt x.toInt = x := by simp
theorem mz_toInt (z : Int) : (Int32.ofInt z).toInt = mzW z := by
  rw [Int32.toInt_ofInt, mzW, Int.bmod_def]
  have h : Int32.size = 4294967296 := rfl
  rw [h]
  omega
theorem mz_toInt64 (z : Int) : (Int64.ofInt z).toInt = mzX z := by
  rw [Int64.toInt_ofInt, mzX, Int.bmod_def]
  have h : Int64.size = 18446744073709551616 := rfl
  rw [h]
  omega
theorem mz_W (z : Int) : Int32.ofInt (mzW z) = Int32.ofInt z := by rw [← mz_toInt, mz_ofInt_toInt]
theorem mz_ofInt_toInt64 (x : Int64) : Int64.ofInt x.toInt = x := by simp
theorem mz_Xo (z : Int) : Int64.ofInt (mzX z) = Int64.ofInt z := by rw [← mz_toInt64, mz_ofInt_toInt64]
theorem mz_id {x : Int} (h : -2147483648 ≤ x ∧ x < 2147483648) : (Int32.ofInt x).toInt = x := by
  rw [mz_toInt, mzW]; omega
theorem mz_id64 {x : Int} (h : -9223372036854775808 ≤ x ∧ x < 9223372036854775808) : (Int64.ofInt x).toInt = x := by
  rw [mz_toInt64, mzX]; omega
theorem mz_bd (x : Int32) : -2147483648 ≤ x.toInt ∧ x.toInt < 2147483648 := by
  have h := mz_toInt x.toInt
  rw [mz_ofInt_toInt] at h
  unfold mzW at h
  omega
theorem mz_bd64 (x : Int64) : -9223372036854775808 ≤ x.toInt ∧ x.toInt < 9223372036854775808 := by
  have h := mz_toInt64 x.toInt
  have e : Int64.ofInt x.toInt = x := by simp
  rw [e] at h
  unfold mzX at h
  omega
theorem mz_Wb (z : Int) : -2147483648 ≤ mzW z ∧ mzW z < 2147483648 := by unfold mzW; omega
theorem mz_Xb (z : Int) : -9223372036854775808 ≤ mzX z ∧ mzX z < 9223372036854775808 := by unfold mzX; omega
theorem mz_eq {x y : Int} (hx : -2147483648 ≤ x ∧ x < 2147483648) (hy : -2147483648 ≤ y ∧ y < 2147483648) : Int32.ofInt x = Int32.ofInt y ↔ x = y :=
  ⟨fun h => by rw [← mz_id hx, ← mz_id hy, h], fun h => by rw [h]⟩
theorem mz_lt {x y : Int} (hx : -2147483648 ≤ x ∧ x < 2147483648) (hy : -2147483648 ≤ y ∧ y < 2147483648) : Int32.ofInt x < Int32.ofInt y ↔ x < y := by
  rw [Int32.lt_iff_toInt_lt, mz_id hx, mz_id hy]
theorem mz_le {x y : Int} (hx : -2147483648 ≤ x ∧ x < 2147483648) (hy : -2147483648 ≤ y ∧ y < 2147483648) : Int32.ofInt x ≤ Int32.ofInt y ↔ x ≤ y := by
  rw [Int32.le_iff_toInt_le, mz_id hx, mz_id hy]
theorem mz_add (x y : Int) : Int32.ofInt x + Int32.ofInt y = Int32.ofInt (mzW (x + y)) := by rw [mz_W, Int32.ofInt_add]
theorem mz_sub (x y : Int) : Int32.ofInt x - Int32.ofInt y = Int32.ofInt (mzW (x - y)) := by rw [mz_W, Int32.ofInt_sub]
theorem mz_mul (x y : Int) : Int32.ofInt x * Int32.ofInt y = Int32.ofInt (mzW (x * y)) := by rw [mz_W, Int32.ofInt_mul]
theorem mz_addL (x y : Int) : Int64.ofInt x + Int64.ofInt y = Int64.ofInt (mzX (x + y)) := by rw [mz_Xo, Int64.ofInt_add]
theorem mz_mulL (x y : Int) : Int64.ofInt x * Int64.ofInt y = Int64.ofInt (mzX (x * y)) := by rw [mz_Xo, Int64.ofInt_mul]
theorem mz_nat {i : Int} (h : 0 ≤ i) : (Int32.ofInt i).toNatClampNeg = (mzW i).toNat := by
  show (Int32.ofInt i).toInt.toNat = _
  rw [mz_toInt]
theorem mz_nat' {i : Int} (h0 : 0 ≤ i) (h : i < 2147483648) : (Int32.ofInt i).toNatClampNeg = i.toNat := by
  show (Int32.ofInt i).toInt.toNat = _
  rw [mz_id ⟨by omega, h⟩]
theorem mz_vpin {i : Int} {n : Nat} (h0 : 0 ≤ i) (h : i < n) (hn : n < 2147483648) : vp_in (Int32.ofInt i) n := by
  rw [vp_in_iff, mz_id ⟨by omega, by omega⟩]
  exact ⟨h0, h⟩
/-! the places of a frame -/
theorem mz_Kkill {L : List mzV} {k i : Nat} {v : Int ⊕ (Int ⊕ (Nat ⊕ (Nat × Nat)))} (h : (mzKill L k)[i]? = some (some v)) : L[i]? = some (some v) ∧ (i + 1 = k → ∀ x, v ≠ .inr (.inl x)) := by
  cases k with
  | zero => exact ⟨h, fun e => by omega⟩
  | succ j =>
    simp only [mzKill] at h
    split at h
    · by_cases hij : j = i
      · subst hij
        rw [List.getElem?_set_self'] at h
        cases hL : L[j]? with
        | none => rw [hL] at h; cases h
        | some w => rw [hL] at h; cases h
      · rw [List.getElem?_set_ne hij] at h
        exact ⟨h, fun e => by omega⟩
    · next hn =>
      refine ⟨h, fun e x hx => ?_⟩
      have : i = j := by omega
      subst this
      subst hx
      refine hn x ?_
      rw [List.getD_eq_getElem?_getD, h]
      rfl
theorem mz_killlen (L : List mzV) (k : Nat) : (mzKill L k).length = L.length := by
  cases k with
  | zero => rfl
  | succ j =>
    simp only [mzKill]
    split <;> simp
def mzAs (G : mzG) (L : List mzV) : List (Nat × Value) := (List.range L.length).filterMap fun i => match L.getD i none with
  | some v => some (i, mzC G (some v))
  | none => none
theorem mz_asmem {G : mzG} {L : List mzV} {q : Nat × Value} (h : q ∈ mzAs G L) : ∃ v, L[q.1]? = some (some v) ∧ q.2 = mzC G (some v) := by
  unfold mzAs at h
  obtain ⟨i, hi, hq⟩ := List.mem_filterMap.mp h
  split at hq
  · next v hv =>
    cases hq
    refine ⟨v, ?_, rfl⟩
    rw [List.getD_eq_getElem?_getD] at hv
    cases hL : L[i]? with
    | none => rw [hL] at hv; cases hv
    | some w => rw [hL] at hv; exact congrArg some hv
  · cases hq
theorem mz_memas {G : mzG} {L : List mzV} {i : Nat} {v : Int ⊕ (Int ⊕ (Nat ⊕ (Nat × Nat)))} (h : L[i]? = some (some v)) : (i, mzC G (some v)) ∈ mzAs G L := by
  unfold mzAs
  refine List.mem_filterMap.mpr ⟨i, List.mem_range.mpr (List.getElem?_eq_some_iff.mp h).1, ?_⟩
  rw [List.getD_eq_getElem?_getD, h]
  rfl
theorem mz_has {G : mzG} {y : Nat} {ls : Array Slot} {L : List mzV} (h : mzFr G y ls L) : lv_has ls (mzNl y) (mzAs G L) := ⟨h.1, h.2.1, fun q hq => by
  obtain ⟨v, h1, h2⟩ := mz_asmem hq
  rw [h2]
  exact (h.2.2.2 _ _ h1).1⟩
theorem mz_cat1 {G : mzG} {v : mzV} (h : mzC1 v = true) : (mzC G v).category = 1 := by
  match v, h with
  | some (.inl _), _ => rfl
  | some (.inr (.inr (.inl _))), _ => rfl
  | some (.inr (.inr (.inr (_, _)))), _ => rfl
theorem mz_put1 {G : mzG} {y k : Nat} {ls ls' : Array Slot} {L : List mzV} {v : mzV} {lv : List (Nat × Value)} (h : mzFr G y ls L) (hv : v ≠ none) (hk : mzK v)
    (hlv : lv = (k, mzC G v) :: (mzAs G L).filter (fun q => !(q.1 == k) && !(q.1 + 1 == k && q.2.category == 2))) (h' : lv_has ls' (mzNl y) lv) : mzFr G y ls' (mzPut L k v) := by
  refine ⟨h'.1, h'.2.1, ?_, fun i w hw => ?_⟩
  · unfold mzPut
    rw [List.length_set, mz_killlen]
    exact h.2.2.1
  · unfold mzPut at hw
    by_cases hik : k = i
    · subst hik
      rw [List.getElem?_set_self'] at hw
      have hvw : v = some w := by
        cases hL : (mzKill L k)[k]? with
        | none => rw [hL] at hw; cases hw
        | some z => rw [hL] at hw; exact Option.some.inj hw
      subst hvw
      refine ⟨?_, hk⟩
      have := h'.2.2 (k, mzC G (some w)) (by rw [hlv]; exact List.mem_cons_self)
      exact this
    · rw [List.getElem?_set_ne hik] at hw
      obtain ⟨h1, h2⟩ := mz_Kkill hw
      refine ⟨?_, (h.2.2.2 i w h1).2⟩
      refine h'.2.2 (i, mzC G (some w)) ?_
      rw [hlv]
      refine List.mem_cons_of_mem _ (List.mem_filter.mpr ⟨mz_memas h1, ?_⟩)
      have e1 : (i == k) = false := by simp; omega
      by_cases e : i + 1 = k
      · have hc : (mzC G (some w)).category = 1 := by
          refine mz_cat1 ?_
          match w, h2 e with
          | .inl _, _ => rfl
          | .inr (.inl x), h9 => exact absurd rfl (h9 x)
          | .inr (.inr _), _ => rfl
        simp [e1, hc]
      · simp [e1]; omega
theorem mz_put2 {G : mzG} {y k : Nat} {ls ls' : Array Slot} {L : List mzV} {x : Int} {lv : List (Nat × Value)} (h : mzFr G y ls L) (hk : mzK (mzL x))
    (hlv : lv = (k, mzC G (mzL x)) :: (mzAs G L).filter (fun q => !(q.1 == k) && (!(q.1 == k + 1) && !(q.1 + 1 == k && q.2.category == 2)))) (h' : lv_has ls' (mzNl y) lv) : mzFr G y ls' (mzPut2 L k (mzL x)) := by
  refine ⟨h'.1, h'.2.1, ?_, fun i w hw => ?_⟩
  · unfold mzPut2
    rw [List.length_set, List.length_set, mz_killlen]
    exact h.2.2.1
  · unfold mzPut2 at hw
    by_cases hi1 : k + 1 = i
    · subst hi1
      rw [List.getElem?_set_self'] at hw
      cases hL : ((mzKill L k).set k (mzL x))[k + 1]? with
      | none => rw [hL] at hw; cases hw
      | some z => rw [hL] at hw; cases hw
    rw [List.getElem?_set_ne hi1] at hw
    by_cases hik : k = i
    · subst hik
      rw [List.getElem?_set_self'] at hw
      have hvw : mzL x = some w := by
        cases hL : (mzKill L k)[k]? with
        | none => rw [hL] at hw; cases hw
        | some z => rw [hL] at hw; exact Option.some.inj hw
      cases hvw
      refine ⟨?_, hk⟩
      exact h'.2.2 (k, mzC G (mzL x)) (by rw [hlv]; exact List.mem_cons_self)
    · rw [List.getElem?_set_ne hik] at hw
      obtain ⟨h1, h2⟩ := mz_Kkill hw
      refine ⟨?_, (h.2.2.2 i w h1).2⟩
      refine h'.2.2 (i, mzC G (some w)) ?_
      rw [hlv]
      refine List.mem_cons_of_mem _ (List.mem_filter.mpr ⟨mz_memas h1, ?_⟩)
      have e1 : (i == k) = false := by simp; omega
      have e2 : (i == k + 1) = false := by simp; omega
      by_cases e : i + 1 = k
      · have hc : (mzC G (some w)).category = 1 := by
          refine mz_cat1 ?_
          match w, h2 e with
          | .inl _, _ => rfl
          | .inr (.inl x), h9 => exact absurd rfl (h9 x)
          | .inr (.inr _), _ => rfl
        simp [e1, e2, hc]
      · simp [e1, e2]; omega
theorem mz_gt {L : List mzV} {k : Nat} {v : Int ⊕ (Int ⊕ (Nat ⊕ (Nat × Nat)))} (h : mzGt L k = some v) : L[k]? = some (some v) := by
  unfold mzGt at h
  rw [List.getD_eq_getElem?_getD] at h
  cases hL : L[k]? with
  | none => rw [hL] at h; cases h
  | some w => rw [hL] at h; exact congrArg some h
theorem mz_sk {v : mzV} {S : List mzV} (h : v ≠ none) (h2 : mzK v) (hS : mzSk S) : mzSk (v :: S) := fun w hw => by
  rcases List.mem_cons.mp hw with rfl | h9
  · exact ⟨h, h2⟩
  · exact hS w h9
theorem mz_skt {v : mzV} {S : List mzV} (hS : mzSk (v :: S)) : mzSk S := fun w hw => hS w (List.mem_cons_of_mem _ hw)
theorem mz_skh {v : mzV} {S : List mzV} (hS : mzSk (v :: S)) : v ≠ none ∧ mzK v := hS v List.mem_cons_self
/-! the memory -/
theorem mz_wo {G : mzG} {μ : mzM} {k : Nat} (h : k < 148) : (mzWo G μ)[k]? = some (mzAd G k, mzEnt G μ k) := by
  unfold mzWo
  rw [List.getElem?_map, List.getElem?_range h]
  rfl
theorem mz_wlen {G : mzG} {μ : mzM} : (mzWo G μ).length = 148 := by simp [mzWo]
theorem mz_woi {G : mzG} {μ : mzM} {k : Nat} {q : Nat × va_E} (h : (mzWo G μ)[k]? = some q) : k < 148 ∧ q = (mzAd G k, mzEnt G μ k) := by
  have hl : k < 148 := by
    have := (List.getElem?_eq_some_iff.mp h).1
    rw [mz_wlen] at this
    exact this
  refine ⟨hl, ?_⟩
  rw [mz_wo hl] at h
  exact (Option.some.inj h).symm
theorem mz_D {G : mzG} (hI : mzInj G) (μ : mzM) : va_D (mzA G) (mzWo G μ) := by
  refine ⟨fun i j x z hi hj hxy => ?_, fun k q hk => ?_⟩
  · obtain ⟨a1, a2⟩ := mz_woi hi
    obtain ⟨b1, b2⟩ := mz_woi hj
    subst a2
    subst b2
    exact hI i j a1 b1 hxy
  · obtain ⟨a1, a2⟩ := mz_woi hk
    subst a2
    exact ⟨k, a1, rfl⟩
theorem mz_set {G : mzG} {μ μ' : mzM} {k : Nat} {en : va_E} (hk : k < 148) (h1 : mzEnt G μ' k = en) (h2 : ∀ j, j < 148 → j ≠ k → mzEnt G μ' j = mzEnt G μ j) : (mzWo G μ).set k (mzAd G k, en) = mzWo G μ' := by
  apply List.ext_getElem?
  intro i
  by_cases hi : i < 148
  · rw [mz_wo hi]
    by_cases hik : k = i
    · subst hik
      rw [List.getElem?_set_self (by rw [mz_wlen]; exact hk), h1]
    · rw [List.getElem?_set_ne hik, mz_wo hi, h2 i hi (fun q => hik q.symm)]
  · rw [List.getElem?_eq_none (by rw [List.length_set, mz_wlen]; omega), List.getElem?_eq_none (by rw [mz_wlen]; omega)]
theorem mz_ent_ne {G : mzG} {μ μ' : mzM} {k : Nat} (h : ∀ j, μ' k j = μ k j) : mzEnt G μ' k = mzEnt G μ k := by
  have e : μ' k = μ k := funext h
  unfold mzEnt
  split
  · rw [e]
  · congr 2
    apply List.map_congr_left
    intro j _
    unfold mzFv
    split
    · rw [e]
    · rfl
  · rfl
  · rfl
theorem mz_sne {μ : mzM} {k a : Nat} {j : Nat} {v : Int} (h : a ≠ k) : ∀ b, mzS μ k j v a b = μ a b := fun b => by
  unfold mzS
  rw [if_neg (fun q => h q.1)]
end
section
/-! each instruction by the kit's row -/
def mzDk (y pc : Nat) (i : Instr) (n : Nat) : Bool := decide (decode (mzBy y) pc = .ok (i, n))
theorem mz_dk {y pc n : Nat} {i : Instr} (h : mzDk y pc i n = true) : decode (mzBy y) pc = .ok (i, n) := of_decide_eq_true h
def mzFt : List (Nat → FieldType) := [tyX0, tyX1, tyX2, tyX3, tyX4, tyX5]
theorem mz_cls : ∀ ci, ci < 6 → mzCls[ci]? = some (mzNo ci, mzFq ci, mzNf ci) := by
  intro ci h
  match ci, h with
  | 0, _ => rfl
  | 1, _ => rfl
  | 2, _ => rfl
  | 3, _ => rfl
  | 4, _ => rfl
  | 5, _ => rfl
theorem mz_uws (ci : Nat) (h : ci < 6) : ∀ w ∈ u_ws (mzNo ci) (mzFq ci) (mzNf ci), w ∈ mzTb := by
  intro w hw
  have hh : ∀ ci, ci < 6 → ∀ j, j < mzNf ci → mzHas mzAll 7 ci j 0 0 = true := by decide +kernel
  unfold u_ws at hw
  obtain ⟨j, hj, rfl⟩ := List.mem_map.mp hw
  refine mz_tb (mz_in (hh ci h j (List.mem_range.mp hj))) ?_
  unfold u_lay
  split <;> rfl
theorem mz_fty : ∀ ci, ci < 6 → ∀ k, k < mzNf ci → parseFieldDescriptor (mzFq ci k).2.2.1 = some ((mzFt.getD ci tyX0) k) := by decide +kernel
theorem mz_fnm : ∀ ci, ci < 6 → ∀ a, a < mzNf ci → ∀ b, b < mzNf ci → a ≠ b → (mzFq ci a).2.1 ≠ (mzFq ci b).2.1 := by decide +kernel
theorem mz_FL0 : ∀ q ∈ mzFL, q.2.2.1 < 6 ∧ q.2.2.2.1 < mzNf q.2.2.1 ∧ (q.2.2.2.2 = 0 → mzHas mzAll 0 q.1 q.2.1 q.2.2.1 q.2.2.2.1 = true) ∧ (q.2.2.2.2 = 1 → mzHas mzAlN 0 q.1 q.2.1 q.2.2.1 q.2.2.2.1 = true) := by decide +kernel
/-- what the list of fields says -/
theorem mz_FL (q : Nat × Nat × Nat × Nat × Nat) (hq : q ∈ mzFL) : q.2.2.1 < 6 ∧ q.2.2.2.1 < mzNf q.2.2.1 ∧ (q.2.2.2.2 = 0 → Jvm.Cond.fieldLink (mzNo q.1) q.2.1 (mzNo q.2.2.1) (mzFq q.2.2.1 q.2.2.2.1).2.1 (mzFq q.2.2.1 q.2.2.2.1).2.2.1 ∈ mzTb) ∧
    (q.2.2.2.2 = 1 → Jvm.Cond.fieldLinkNest (mzNo q.1) q.2.1 (mzNo q.2.2.1) (mzFq q.2.2.1 q.2.2.2.1).2.1 (mzFq q.2.2.1 q.2.2.2.1).2.2.1 "MeltPins" ∈ mzNest) := by
  obtain ⟨h1, h2, h3, h4⟩ := mz_FL0 q hq
  exact ⟨h1, h2, fun h => mz_tb (mz_in (h3 h)) rfl, fun h => mz_inN (h4 h)⟩
theorem mz_Fown : ∀ ci, ci < 6 → ∀ j, j < mzNf ci → (mzFq ci j).1 = mzNo ci := by decide +kernel
theorem mz_CL0 : ∀ i, i < mzCL.length → mzHas mzAll 8 (mzCL.getD i (0, 0, 0)).1 (mzCL.getD i (0, 0, 0)).2.1 i 0 = true ∧ -2147483648 ≤ (mzCL.getD i (0, 0, 0)).2.2 ∧ (mzCL.getD i (0, 0, 0)).2.2 < 2147483648 := by decide +kernel
theorem mz_CL (q : Nat × Nat × Int) (hq : q ∈ mzCL) : Jvm.Cond.constant (mzNo q.1) q.2.1 (Int32.ofInt q.2.2) ∈ mzTb ∧ -2147483648 ≤ q.2.2 ∧ q.2.2 < 2147483648 := by
  obtain ⟨i, hi⟩ := List.getElem?_of_mem hq
  have hl := (List.getElem?_eq_some_iff.mp hi).1
  have e : mzCL.getD i (0, 0, 0) = q := by rw [List.getD_eq_getElem?_getD, hi]; rfl
  obtain ⟨h1, h2⟩ := mz_CL0 i hl
  have h3 := mz_in h1
  unfold mzWd at h3
  rw [e] at h2 h3
  exact ⟨mz_tb h3 rfl, h2⟩
theorem mz_JL0 : ∀ i, i < mzJL.length → mzHas mzAll 9 (mzJL.getD i (0, 0, 0)).1 (mzJL.getD i (0, 0, 0)).2.1 i 0 = true ∧ -9223372036854775808 ≤ (mzJL.getD i (0, 0, 0)).2.2 ∧ (mzJL.getD i (0, 0, 0)).2.2 < 9223372036854775808 := by decide +kernel
theorem mz_JL (q : Nat × Nat × Int) (hq : q ∈ mzJL) : Jvm.Cond.constantLong (mzNo q.1) q.2.1 (Int64.ofInt q.2.2) ∈ mzTb ∧ -9223372036854775808 ≤ q.2.2 ∧ q.2.2 < 9223372036854775808 := by
  obtain ⟨i, hi⟩ := List.getElem?_of_mem hq
  have hl := (List.getElem?_eq_some_iff.mp hi).1
  have e : mzJL.getD i (0, 0, 0) = q := by rw [List.getD_eq_getElem?_getD, hi]; rfl
  obtain ⟨h1, h2⟩ := mz_JL0 i hl
  have h3 := mz_in h1
  unfold mzWd at h3
  rw [e] at h2 h3
  exact ⟨mz_tb h3 rfl, h2⟩
theorem mz_TL0 : ∀ q ∈ mzTL, q.2.2 < 3 ∧ (q.1 = 4 → mzHas mzAll 10 q.1 q.2.1 q.2.2 0 = true) ∧ (q.1 ≠ 4 → mzHas mzAlN 2 q.1 q.2.1 q.2.2 0 = true) := by decide +kernel
theorem mz_TL (q : Nat × Nat × Nat) (hq : q ∈ mzTL) : q.2.2 < 3 ∧ (q.1 = 4 → Jvm.Cond.fieldLink (mzNo q.1) q.2.1 "MeltPins" (mzStat q.2.2) "[I" ∈ mzTb) ∧ (q.1 ≠ 4 → Jvm.Cond.fieldLinkNest (mzNo q.1) q.2.1 "MeltPins" (mzStat q.2.2) "[I" "MeltPins" ∈ mzNest) := by
  obtain ⟨h1, h2, h3⟩ := mz_TL0 q hq
  exact ⟨h1, fun h => mz_tb (mz_in (h2 h)) rfl, fun h => mz_inN (h3 h)⟩
theorem mz_shl : mzShape.length = 148 := by decide +kernel
theorem mz_shn : ∀ k, k < 148 → (mzSh k).1 ≤ 3 ∧ ((mzSh k).1 = 1 → (mzSh k).2.1 < 6) ∧ ((mzSh k).1 ≠ 1 → (mzSh k).2.1 ≤ 4096) := by decide +kernel
theorem mz_shlt {k a b z : Nat} (h : mzSh k = (a, b, z)) (ha : a ≠ 9) : k < 148 := by
  rcases Nat.lt_or_ge k 148 with q | q
  · exact q
  · exfalso
    unfold mzSh at h
    rw [List.getD_eq_getElem?_getD, List.getElem?_eq_none (by rw [mz_shl]; exact q)] at h
    cases h
    exact ha rfl
theorem mz_pools : ∀ q ∈ mzPools, q.1 < 300 → ∀ o, o < q.2.1 → mzSh (q.1 + o) = (q.2.2.1, q.2.2.2, 0) := by decide +kernel
theorem mz_find {l : List (Nat × Nat × Nat × Nat)} {b : Nat} {v : Nat × Nat × Nat} (h : mzFind l b = v) (hv : v.2.1 ≠ 9) : (b, v) ∈ l := by
  induction l with
  | nil => subst h; exact absurd rfl hv
  | cons q r ih =>
    obtain ⟨k, w⟩ := q
    simp only [mzFind] at h
    split at h
    · next e =>
      have := Nat.eq_of_beq_eq_true e
      subst this
      subst h
      exact List.mem_cons_self
    · exact List.mem_cons_of_mem _ (ih h)
theorem mz_pool0 {p o cnt n : Nat} (h : mzPq p = (cnt, 0, n)) (ho : o < cnt) : mzSh (p + o) = (0, n, 0) := by
  have h1 := mz_find (v := (cnt, 0, n)) h (show (0 : Nat) ≠ 9 by decide)
  have h2 : p < 300 := by
    have h3 : ∀ q ∈ mzPools, q.2.2.1 = 0 → q.1 < 300 := by decide +kernel
    exact h3 _ h1 rfl
  exact mz_pools _ h1 h2 o ho
theorem mz_pool1 {p cnt ci : Nat} (h : mzPq p = (cnt, 1, ci)) : p = 44 ∧ cnt = 4 ∧ ci = 1 := by
  have h1 := mz_find (v := (cnt, 1, ci)) h (show (1 : Nat) ≠ 9 by decide)
  have h3 : ∀ q ∈ mzPools, q.2.2.1 = 1 → q.1 = 44 ∧ q.2.1 = 4 ∧ q.2.2.2 = 1 := by decide +kernel
  exact h3 _ h1 rfl
theorem mz_ent0 {G : mzG} {μ : mzM} {k n z : Nat} (h : mzSh k = (0, n, z)) : mzEnt G μ k = .inl (G.2.2.1, n, .inl (fun j => Int32.ofInt (μ k j))) := by
  simp only [mzEnt, h]
theorem mz_ent1 {G : mzG} {μ : mzM} {k n z : Nat} (h : mzSh k = (1, n, z)) : mzEnt G μ k = .inr (n, (List.range (mzNf n)).map (mzFv G μ n k)) := by
  simp only [mzEnt, h]
theorem mz_ent2 {G : mzG} {μ : mzM} {k n z : Nat} (h : mzSh k = (2, n, z)) : mzEnt G μ k = .inl (G.2.2.2.1, n, .inr (.inr (.inr (.inr (mzRow G n z))))) := by
  simp only [mzEnt, h]
theorem mz_ent3 {G : mzG} {μ : mzM} {k n z : Nat} (h : mzSh k = (3, n, z)) : mzEnt G μ k = .inl (G.2.2.2.2.1, n, .inr (.inr (.inr (.inr (mzRow G n z))))) := by
  simp only [mzEnt, h]
theorem mz_isO {k ci : Nat} (h : mzIsO k ci = true) : ∃ z, mzSh k = (1, ci, z) := by
  unfold mzIsO at h
  split at h
  · next c z e =>
    have := Nat.eq_of_beq_eq_true h
    subst this
    exact ⟨z, e⟩
  · cases h
/-- a store into a row of numbers -/
theorem mz_st0 {G : mzG} {μ : mzM} {k n z j : Nat} {v : Int} (h : mzSh k = (0, n, z)) : mzEnt G (mzS μ k j v) k = .inl (G.2.2.1, n, .inl (upd (fun j => Int32.ofInt (μ k j)) j (Int32.ofInt v))) := by
  rw [mz_ent0 h]
  congr 4
  funext i
  unfold mzS upd
  by_cases e : i = j
  · subst e; simp
  · simp [e]
theorem mz_rset {α : Type} (n j : Nat) (f g : Nat → α) (v : α) (h : ∀ i, i ≠ j → g i = f i) (hj : g j = v) : ((List.range n).map f).set j v = (List.range n).map g := by
  apply List.ext_getElem?
  intro i
  by_cases hi : i < n
  · by_cases e : j = i
    · subst e
      rw [List.getElem?_set_self (by simpa using hi), List.getElem?_map, List.getElem?_range hi]
      simp [hj]
    · rw [List.getElem?_set_ne e, List.getElem?_map, List.getElem?_map, List.getElem?_range hi]
      simp [h i (fun q => e q.symm)]
  · rw [List.getElem?_eq_none (by simp; omega), List.getElem?_eq_none (by simp; omega)]
theorem mz_st1 {G : mzG} {μ : mzM} {k ci z j : Nat} {v : Int} (h : mzSh k = (1, ci, z)) (hr : mzRf ci j k = 0) : mzEnt G (mzS μ k j v) k = .inr (ci, ((List.range (mzNf ci)).map (mzFv G μ ci k)).set j (.int (Int32.ofInt v))) := by
  rw [mz_ent1 h]
  congr 2
  symm
  refine mz_rset _ _ _ _ _ (fun i hi => ?_) ?_
  · unfold mzFv
    split
    · unfold mzS; rw [if_neg (fun q => hi q.2)]
    · rfl
  · unfold mzFv
    rw [hr]
    unfold mzS
    simp
theorem mz_stok {G : mzG} {H H1 : Heap} {μ : mzM} {k j : Nat} {v : Int} (hS : mzSt G H μ) (hk : k < 148) (hv : -2147483648 ≤ v ∧ v < 2147483648) {en : va_E} (he : mzEnt G (mzS μ k j v) k = en) (hP : va_P G.1 mzCls ((mzWo G μ).set k (mzAd G k, en)) H1) : mzSt G H1 (mzS μ k j v) := by
  refine ⟨?_, fun a b => ?_, fun a => ?_, ?_⟩
  · rw [mz_set hk he (fun j hj hn => mz_ent_ne (mz_sne hn))] at hP
    exact hP
  · unfold mzS
    split
    · exact hv
    · exact hS.2.1 a b
  · unfold mzS
    rw [if_neg (fun q => by omega)]
    exact hS.2.2.1 a
  · unfold mzS
    rw [if_neg (fun q => by omega)]
    exact hS.2.2.2
section MZR
variable {G : mzG} {p : Program} {l : Launch} {e : Env} {R : Room} {s : State} {m : MethodId} {args : Array Value} {below : List Frame} {meth : Method} {c : Code} {cells slots : Nat} {Z : State → Prop} {y d pc : Nat} {L S : List mzV} {μ : mzM}
theorem mzr_const (C : mzCx G p R s m args meth c y d cells slots) {n : Int} (hn : -2147483648 ≤ n ∧ n < 2147483648) {len : Nat} (row : ∀ (H : Heap) (locs : List Loc) (ls : Array Slot) (rest : List Value), W p l e R s m args below meth c H locs cells slots Z (F0 m (pc + len) ls (.int (Int32.ofInt n) :: rest)) → W p l e R s m args below meth c H locs cells slots Z (F0 m pc ls rest))
    (k : mzGo G p l e R s m args below meth c cells slots Z y (pc + len) L (mzI n :: S) μ) : mzGo G p l e R s m args below meth c cells slots Z y pc L S μ :=
  fun H locs ls h1 h2 h3 h4 => row H locs ls _ (k H locs ls h1 h2 h3 (mz_sk (by simp) hn h4))
theorem mzr_push (C : mzCx G p R s m args meth c y d cells slots) {v : mzV} (hv : v ≠ none) (hk : ∀ ls : Array Slot, mzFr G y ls L → mzK v) {len : Nat} (row : ∀ (H : Heap) (locs : List Loc) (ls : Array Slot) (rest : List Value), va_S (mzA G) s.heap H locs → mzFr G y ls L → W p l e R s m args below meth c H locs cells slots Z (F0 m (pc + len) ls (mzC G v :: rest)) → W p l e R s m args below meth c H locs cells slots Z (F0 m pc ls rest))
    (k : mzGo G p l e R s m args below meth c cells slots Z y (pc + len) L (v :: S) μ) : mzGo G p l e R s m args below meth c cells slots Z y pc L S μ :=
  fun H locs ls h1 h2 h3 h4 => row H locs ls _ h2 h3 (k H locs ls h1 h2 h3 (mz_sk hv (hk ls h3) h4))
/-- one number off the stack, one on -/
theorem mzr_op1 (C : mzCx G p R s m args meth c y d cells slots) {u w : mzV} (hw : w ≠ none) (hk : mzK u → mzK w) {len : Nat} (row : ∀ (H : Heap) (locs : List Loc) (ls : Array Slot) (rest : List Value), mzK u → W p l e R s m args below meth c H locs cells slots Z (F0 m (pc + len) ls (mzC G w :: rest)) → W p l e R s m args below meth c H locs cells slots Z (F0 m pc ls (mzC G u :: rest)))
    (k : mzGo G p l e R s m args below meth c cells slots Z y (pc + len) L (w :: S) μ) : mzGo G p l e R s m args below meth c cells slots Z y pc L (u :: S) μ :=
  fun H locs ls h1 h2 h3 h4 => row H locs ls _ (mz_skh h4).2 (k H locs ls h1 h2 h3 (mz_sk hw (hk (mz_skh h4).2) (mz_skt h4)))
theorem mzr_op2 (C : mzCx G p R s m args meth c y d cells slots) {u v w : mzV} (hw : w ≠ none) (hk : mzK w) {len : Nat} (row : ∀ (H : Heap) (locs : List Loc) (ls : Array Slot) (rest : List Value), mzK u → mzK v → W p l e R s m args below meth c H locs cells slots Z (F0 m (pc + len) ls (mzC G w :: rest)) → W p l e R s m args below meth c H locs cells slots Z (F0 m pc ls (mzC G v :: mzC G u :: rest)))
    (k : mzGo G p l e R s m args below meth c cells slots Z y (pc + len) L (w :: S) μ) : mzGo G p l e R s m args below meth c cells slots Z y pc L (v :: u :: S) μ :=
  fun H locs ls h1 h2 h3 h4 => row H locs ls _ (mz_skh (mz_skt h4)).2 (mz_skh h4).2 (k H locs ls h1 h2 h3 (mz_sk hw hk (mz_skt (mz_skt h4))))
/-- a number into its place -/
theorem mzr_st (C : mzCx G p R s m args meth c y d cells slots) {k : Nat} {v : mzV} (hc : mzC1 v = true) {len : Nat} (row : ∀ (H : Heap) (locs : List Loc) (ls : Array Slot) (rest : List Value) (lv : List (Nat × Value)), lv_has ls (mzNl y) (mzAs G L) → (k, mzC G v) :: (mzAs G L).filter (fun q => !(q.1 == k) && !(q.1 + 1 == k && q.2.category == 2)) = lv →
      (∀ ls' : Array Slot, lv_has ls' (mzNl y) lv → W p l e R s m args below meth c H locs cells slots Z (F0 m (pc + len) ls' rest)) → W p l e R s m args below meth c H locs cells slots Z (F0 m pc ls (mzC G v :: rest)))
    (kk : mzGo G p l e R s m args below meth c cells slots Z y (pc + len) (mzPut L k v) S μ) : mzGo G p l e R s m args below meth c cells slots Z y pc L (v :: S) μ :=
  fun H locs ls h1 h2 h3 h4 => row H locs ls _ _ (mz_has h3) rfl (fun ls' h' => kk H locs ls' h1 h2 (mz_put1 h3 (mz_skh h4).1 (mz_skh h4).2 rfl h') (mz_skt h4))
theorem mzr_st2 (C : mzCx G p R s m args meth c y d cells slots) {k : Nat} {x : Int} {len : Nat} (row : ∀ (H : Heap) (locs : List Loc) (ls : Array Slot) (rest : List Value) (lv : List (Nat × Value)), lv_has ls (mzNl y) (mzAs G L) → (k, mzC G (mzL x)) :: (mzAs G L).filter (fun q => !(q.1 == k) && (!(q.1 == k + 1) && !(q.1 + 1 == k && q.2.category == 2))) = lv →
      (∀ ls' : Array Slot, lv_has ls' (mzNl y) lv → W p l e R s m args below meth c H locs cells slots Z (F0 m (pc + len) ls' rest)) → W p l e R s m args below meth c H locs cells slots Z (F0 m pc ls (mzC G (mzL x) :: rest)))
    (kk : mzGo G p l e R s m args below meth c cells slots Z y (pc + len) (mzPut2 L k (mzL x)) S μ) : mzGo G p l e R s m args below meth c cells slots Z y pc L (mzL x :: S) μ :=
  fun H locs ls h1 h2 h3 h4 => row H locs ls _ _ (mz_has h3) rfl (fun ls' h' => kk H locs ls' h1 h2 (mz_put2 h3 (mz_skh h4).2 rfl h') (mz_skt h4))
theorem mzr_iinc (C : mzCx G p R s m args meth c y d cells slots) {k : Nat} {n x : Int} (hn : k < mzNl y) (hd : decode (mzBy y) pc = .ok (.iinc k n, 3)) (hg : mzGt L k = some (.inl x))
    (kk : mzGo G p l e R s m args below meth c cells slots Z y (pc + 3) (mzPut L k (mzI (mzW (x + n)))) S μ) : mzGo G p l e R s m args below meth c cells slots Z y pc L S μ := by
  intro H locs ls h1 h2 h3 h4
  obtain ⟨j, hj⟩ := List.getElem?_of_mem (mz_memas (G := G) (mz_gt hg))
  refine lv_iinc C.1 C.2.1 (k := j) (x := Int32.ofInt x) (v := Int32.ofInt (mzW (x + n))) hd (mz_has h3) hj (mz_add x n) hn rfl (fun ls' h' => kk H locs ls' h1 h2 (mz_put1 (v := mzI (mzW (x + n))) h3 (by simp) (mz_Wb _) rfl h') h4)
theorem mzr_getO (C : mzCx G p R s m args meth c y d cells slots) {k ci j idx : Nat} (hin : (mzOw y, idx, ci, j, 0) ∈ mzFL ∨ (mzOw y, idx, ci, j, 1) ∈ mzFL) (hd : decode (mzBy y) pc = .ok (.getfield idx, 3)) {z : Nat} (hk : mzSh k = (1, ci, z)) {v : mzV} (hv : v ≠ none) (hvk : mzK v) {u : mzV} (hu : mzC G u = .ref (mzAd G k)) (hf : mzFv G μ ci k j = mzC G v)
    (kk : mzGo G p l e R s m args below meth c cells slots Z y (pc + 3) L (v :: S) μ) : mzGo G p l e R s m args below meth c cells slots Z y pc L (u :: S) μ := by
  intro H locs ls h1 h2 h3 h4
  have hk1 := mz_shlt hk (by decide)
  have he : (mzWo G μ)[k]? = some (mzAd G k, .inr (ci, (List.range (mzNf ci)).map (mzFv G μ ci k))) := by rw [mz_wo hk1, mz_ent1 hk]
  have hq : ci < 6 ∧ j < mzNf ci := by
    rcases hin with q | q
    · exact ⟨(mz_FL _ q).1, (mz_FL _ q).2.1⟩
    · exact ⟨(mz_FL _ q).1, (mz_FL _ q).2.1⟩
  have hvv : ((List.range (mzNf ci)).map (mzFv G μ ci k))[j]? = some (mzC G v) := by
    rw [List.getElem?_map, List.getElem?_range hq.2, ← hf]
    rfl
  have gg : W p l e R s m args below meth c H locs cells slots Z (F0 m (pc + 3) ls (mzC G v :: S.map (mzC G))) := kk H locs ls h1 h2 h3 (mz_sk hv hvk (mz_skt h4))
  have own := mz_Fown ci hq.1 j hq.2
  show W p l e R s m args below meth c H locs cells slots Z (F0 m pc ls (mzC G u :: S.map (mzC G)))
  rw [hu]
  rcases hin with q | q
  · exact va_get C.1 C.2.1 C.2.2.2.2.2.2.1 (mz_uws ci hq.1) C.2.2.2.2.2.1 C.2.2.2.2.2.2.2.1.2.1 h1.1 k he (mz_cls ci hq.1) j hq.2 (C.2.2.2.2.2.2.1 _ ((mz_FL _ q).2.2.1 rfl)) (fun x hx => by rw [← own]; exact hx) hvv hd gg
  · exact va_getN C.1 C.2.1 C.2.2.2.2.2.2.1 (mz_uws ci hq.1) C.2.2.2.2.2.1 C.2.2.2.2.2.2.2.1.2.1 h1.1 k he (mz_cls ci hq.1) j hq.2 (va_Nw.use rfl (C.2.2.2.2.2.2.2.1.1 _ ((mz_FL _ q).2.2.2 rfl))) (fun x hx => by rw [← own]; exact hx) hvv hd gg
theorem mzr_putO (C : mzCx G p R s m args meth c y d cells slots) {k ci j idx : Nat} {x : Int} (hin : (mzOw y, idx, ci, j, 0) ∈ mzFL ∨ (mzOw y, idx, ci, j, 1) ∈ mzFL) (hd : decode (mzBy y) pc = .ok (.putfield idx, 3)) {z : Nat} (hk : mzSh k = (1, ci, z)) (hr : mzRf ci j k = 0) (hfin : (mzFq ci j).2.2.2 = false)
    {ty : FieldType} (hty : parseFieldDescriptor (mzFq ci j).2.2.1 = some ty) (hnar : narrow ty (.int (Int32.ofInt x)) = .int (Int32.ofInt x)) (hfit : fits ty (.int (Int32.ofInt x)) = true) {u : mzV} (hu : mzC G u = .ref (mzAd G k))
    (kk : mzGo G p l e R s m args below meth c cells slots Z y (pc + 3) L S (mzS μ k j x)) : mzGo G p l e R s m args below meth c cells slots Z y pc L (mzI x :: u :: S) μ := by
  intro H locs ls h1 h2 h3 h4
  have hk1 := mz_shlt hk (by decide)
  have he : (mzWo G μ)[k]? = some (mzAd G k, .inr (ci, (List.range (mzNf ci)).map (mzFv G μ ci k))) := by rw [mz_wo hk1, mz_ent1 hk]
  have hq : ci < 6 ∧ j < mzNf ci := by
    rcases hin with q | q
    · exact ⟨(mz_FL _ q).1, (mz_FL _ q).2.1⟩
    · exact ⟨(mz_FL _ q).1, (mz_FL _ q).2.1⟩
  have own := mz_Fown ci hq.1 j hq.2
  show W p l e R s m args below meth c H locs cells slots Z (F0 m pc ls (.int (Int32.ofInt x) :: mzC G u :: S.map (mzC G)))
  rw [hu]
  have goal : ∀ (H1 : Heap) (locs1 : List Loc), va_P G.1 mzCls ((mzWo G μ).set k (mzAd G k, .inr (ci, ((List.range (mzNf ci)).map (mzFv G μ ci k)).set j (.int (Int32.ofInt x))))) H1 → va_D (mzA G) ((mzWo G μ).set k (mzAd G k, .inr (ci, ((List.range (mzNf ci)).map (mzFv G μ ci k)).set j (.int (Int32.ofInt x))))) → va_S (mzA G) s.heap H1 locs1 → W p l e R s m args below meth c H1 locs1 cells slots Z (F0 m (pc + 3) ls (S.map (mzC G))) :=
    fun H1 locs1 hP1 _ hS1 => kk H1 locs1 ls (mz_stok h1 hk1 (mz_skh h4).2 (mz_st1 hk hr) hP1) hS1 h3 (mz_skt (mz_skt h4))
  rcases hin with q | q
  · exact va_put C.1 C.2.1 C.2.2.2.2.2.2.1 (mz_uws ci hq.1) (mzFt.getD ci tyX0) (mz_fty ci hq.1) (mz_fnm ci hq.1) C.2.2.2.2.2.1 C.2.2.2.2.2.2.2.1.2.1 h1.1 (mz_D C.2.2.2.2.2.2.2.2.1 μ) h2 k he (mz_cls ci hq.1) j hq.2 (C.2.2.2.2.2.2.1 _ ((mz_FL _ q).2.2.1 rfl)) (fun x hx => by rw [← own]; exact hx) hfin hty hnar hfit (by simpa using hq.2) hd goal
  · exact va_putN C.1 C.2.1 C.2.2.2.2.2.2.1 (mz_uws ci hq.1) (mzFt.getD ci tyX0) (mz_fty ci hq.1) (mz_fnm ci hq.1) C.2.2.2.2.2.1 C.2.2.2.2.2.2.2.1.2.1 h1.1 (mz_D C.2.2.2.2.2.2.2.2.1 μ) h2 k he (mz_cls ci hq.1) j hq.2 (va_Nw.use rfl (C.2.2.2.2.2.2.2.1.1 _ ((mz_FL _ q).2.2.2 rfl))) (fun x hx => by rw [← own]; exact hx) hfin hty hnar hfit (by simpa using hq.2) hd goal
theorem mzr_iald (C : mzCx G p R s m args meth c y d cells slots) {k n z : Nat} {i : Int} (hk : mzSh k = (0, n, z)) (hi : 0 ≤ i ∧ i < (n : Int)) (hd : decode (mzBy y) pc = .ok (.iaload, 1)) {u : mzV} (hu : mzC G u = .ref (mzAd G k))
    (kk : mzGo G p l e R s m args below meth c cells slots Z y (pc + 1) L (mzI (μ k i.toNat) :: S) μ) : mzGo G p l e R s m args below meth c cells slots Z y pc L (mzI i :: u :: S) μ := by
  intro H locs ls h1 h2 h3 h4
  have hk1 := mz_shlt hk (by decide)
  have hn : n ≤ 4096 := by
    have := (mz_shn k hk1).2.2
    rw [hk] at this
    exact this (show (0 : Nat) ≠ 1 by decide)
  have he : (mzWo G μ)[k]? = some (mzAd G k, .inl (G.2.2.1, n, .inl (fun j => Int32.ofInt (μ k j)))) := by rw [mz_wo hk1, mz_ent0 hk]
  show W p l e R s m args below meth c H locs cells slots Z (F0 m pc ls (.int (Int32.ofInt i) :: mzC G u :: S.map (mzC G)))
  rw [hu]
  refine va_iald C.1 C.2.1 C.2.2.2.2.2.2.2.1.2.1 h1.1 k 0 he rfl (mz_vpin hi.1 hi.2 (by omega)) hd ?_
  show W p l e R s m args below meth c H locs cells slots Z (F0 m (pc + 1) ls (.int (Int32.ofInt (μ k (Int32.ofInt i).toNatClampNeg)) :: S.map (mzC G)))
  rw [mz_nat' hi.1 (by omega)]
  exact kk H locs ls h1 h2 h3 (mz_sk (by simp) (h1.2.1 k _) (mz_skt (mz_skt h4)))
theorem mzr_iast (C : mzCx G p R s m args meth c y d cells slots) {k n z : Nat} {i x : Int} (hk : mzSh k = (0, n, z)) (hi : 0 ≤ i ∧ i < (n : Int)) (hd : decode (mzBy y) pc = .ok (.iastore, 1)) {u : mzV} (hu : mzC G u = .ref (mzAd G k))
    (kk : mzGo G p l e R s m args below meth c cells slots Z y (pc + 1) L S (mzS μ k i.toNat x)) : mzGo G p l e R s m args below meth c cells slots Z y pc L (mzI x :: mzI i :: u :: S) μ := by
  intro H locs ls h1 h2 h3 h4
  have hk1 := mz_shlt hk (by decide)
  have hn : n ≤ 4096 := by
    have := (mz_shn k hk1).2.2
    rw [hk] at this
    exact this (show (0 : Nat) ≠ 1 by decide)
  have he : (mzWo G μ)[k]? = some (mzAd G k, .inl (G.2.2.1, n, .inl (fun j => Int32.ofInt (μ k j)))) := by rw [mz_wo hk1, mz_ent0 hk]
  show W p l e R s m args below meth c H locs cells slots Z (F0 m pc ls (.int (Int32.ofInt x) :: .int (Int32.ofInt i) :: mzC G u :: S.map (mzC G)))
  rw [hu]
  refine va_iast C.1 C.2.1 C.2.2.2.2.2.2.2.1.2.1 h1.1 (mz_D C.2.2.2.2.2.2.2.2.1 μ) h2 k 0 he rfl (mz_vpin hi.1 hi.2 (by omega)) hd (fun H1 locs1 hP1 _ hS1 => ?_)
  rw [mz_nat' hi.1 (by omega)] at hP1
  exact kk H1 locs1 ls (mz_stok h1 hk1 (mz_skh h4).2 (mz_st0 hk) hP1) hS1 h3 (mz_skt (mz_skt (mz_skt h4)))
theorem mzr_cald (C : mzCx G p R s m args meth c y d cells slots) {k : Nat} {i : Int} (hk : 200 ≤ k ∧ k ≤ 202) (hi : 0 ≤ i ∧ i < (mzCsl k : Int)) (hd : decode (mzBy y) pc = .ok (.iaload, 1))
    (kk : mzGo G p l e R s m args below meth c cells slots Z y (pc + 1) L (mzI (mzCst k i.toNat) :: S) μ) : mzGo G p l e R s m args below meth c cells slots Z y pc L (mzI i :: mzR k :: S) μ := by
  intro H locs ls h1 h2 h3 h4
  obtain ⟨j, hj, rfl⟩ : ∃ j, j < 3 ∧ k = 200 + j := ⟨k - 200, by omega, by omega⟩
  have hn : ∀ j, j < 3 → mzCsl (200 + j) ≤ 9 := by decide +kernel
  have hb : ∀ j, j < 3 → ∀ i, i < 9 → -2147483648 ≤ mzCst (200 + j) i ∧ mzCst (200 + j) i < 2147483648 := by decide +kernel
  have hn := hn j hj
  have hT := (C.2.2.2.2.2.2.2.1.2.2.1 j hj).2
  refine va_ti C.1 C.2.1 hT h2 (i := Int32.ofInt i) (mz_vpin hi.1 hi.2 (by omega)) (v := .int (Int32.ofInt (mzCst (200 + j) i.toNat))) ?_ hd ?_
  · rw [mz_nat' hi.1 (by omega)]
  · exact kk H locs ls h1 h2 h3 (mz_sk (by simp) (hb j hj _ (by omega)) (mz_skt (mz_skt h4)))
theorem mzr_sld (C : mzCx G p R s m args meth c y d cells slots) {i : Int} (hy : y = 0) (hi : 0 ≤ i ∧ i < μ 149 0) (hd : decode (mzBy y) pc = .ok (.iaload, 1))
    (kk : mzGo G p l e R s m args below meth c cells slots Z y (pc + 1) L (mzI (μ 148 i.toNat) :: S) μ) : mzGo G p l e R s m args below meth c cells slots Z y pc L (mzI i :: mzR 148 :: S) μ := by
  intro H locs ls h1 h2 h3 h4
  obtain ⟨g1, g2, g3⟩ := C.2.2.2.2.2.2.2.2.2.2.2 hy
  have hb := h1.2.1 149 0
  have hL := h1.2.2.2
  refine va_sld C.1 C.2.1 g1 g2 g3 h2 (i := Int32.ofInt i) (mz_vpin hi.1 (by rw [← hL]; exact hi.2) (by omega)) hd ?_
  show W p l e R s m args below meth c H locs cells slots Z (F0 m (pc + 1) ls (.int (Int32.ofInt (G.2.2.2.2.2.1 (Int32.ofInt i).toNatClampNeg)) :: S.map (mzC G)))
  rw [mz_nat' hi.1 (by omega), ← h1.2.2.1]
  exact kk H locs ls h1 h2 h3 (mz_sk (by simp) (h1.2.1 148 _) (mz_skt (mz_skt h4)))
theorem mzr_slen (C : mzCx G p R s m args meth c y d cells slots) (hy : y = 0) (hd : decode (mzBy y) pc = .ok (.arraylength, 1))
    (kk : mzGo G p l e R s m args below meth c cells slots Z y (pc + 1) L (mzI (μ 149 0) :: S) μ) : mzGo G p l e R s m args below meth c cells slots Z y pc L (mzR 148 :: S) μ := by
  intro H locs ls h1 h2 h3 h4
  obtain ⟨g1, g2, g3⟩ := C.2.2.2.2.2.2.2.2.2.2.2 hy
  have hL := h1.2.2.2
  refine va_slen C.1 C.2.1 g1 g2 g3 h2 hd ?_
  have gg : W p l e R s m args below meth c H locs cells slots Z (F0 m (pc + 1) ls (.int (Int32.ofInt (μ 149 0)) :: S.map (mzC G))) := kk H locs ls h1 h2 h3 (mz_sk (by simp) (h1.2.1 149 _) (mz_skt h4))
  rw [hL] at gg
  exact gg
theorem mzr_alen (C : mzCx G p R s m args meth c y d cells slots) {k n z : Nat} (hk : mzSh k = (0, n, z)) (hd : decode (mzBy y) pc = .ok (.arraylength, 1)) {u : mzV} (hu : mzC G u = .ref (mzAd G k))
    (kk : mzGo G p l e R s m args below meth c cells slots Z y (pc + 1) L (mzI (n : Int) :: S) μ) : mzGo G p l e R s m args below meth c cells slots Z y pc L (u :: S) μ := by
  intro H locs ls h1 h2 h3 h4
  have hk1 := mz_shlt hk (by decide)
  have hn : n ≤ 4096 := by
    have := (mz_shn k hk1).2.2
    rw [hk] at this
    exact this (show (0 : Nat) ≠ 1 by decide)
  have he : (mzWo G μ)[k]? = some (mzAd G k, .inl (G.2.2.1, n, .inl (fun j => Int32.ofInt (μ k j)))) := by rw [mz_wo hk1, mz_ent0 hk]
  show W p l e R s m args below meth c H locs cells slots Z (F0 m pc ls (mzC G u :: S.map (mzC G)))
  rw [hu]
  refine va_alen C.1 C.2.1 C.2.2.2.2.2.2.2.1.2.1 h1.1 k 0 he rfl (v := Int32.ofInt (n : Int)) rfl hd ?_
  exact kk H locs ls h1 h2 h3 (mz_sk (by simp) (show -2147483648 ≤ (n : Int) ∧ (n : Int) < 2147483648 by omega) (mz_skt h4))
theorem mzr_aald (C : mzCx G p R s m args meth c y d cells slots) {k n f t0 : Nat} {i : Int} {cA : ClassId} {ty : FieldType} (hk1 : k < 148) (hent : mzEnt G μ k = .inl (cA, n, .inr (.inr (.inr (.inr (mzRow G n f)))))) (hn : n ≤ 4096) (ht : (mzTys G)[t0]? = some (cA, ty)) (href : refKind ty = true) (hi : 0 ≤ i ∧ i < (n : Int)) (hd : decode (mzBy y) pc = .ok (.aaload, 1))
    (kk : mzGo G p l e R s m args below meth c cells slots Z y (pc + 1) L (mzP f i.toNat :: S) μ) : mzGo G p l e R s m args below meth c cells slots Z y pc L (mzI i :: mzR k :: S) μ := by
  intro H locs ls h1 h2 h3 h4
  have he : (mzWo G μ)[k]? = some (mzAd G k, .inl (cA, n, .inr (.inr (.inr (.inr (mzRow G n f)))))) := by rw [mz_wo hk1, hent]
  have hin : vp_in (Int32.ofInt i) n := mz_vpin hi.1 hi.2 (by omega)
  have hlt : (Int32.ofInt i).toNatClampNeg < n := Nat.not_le.mp fun q => hin (Or.inr q)
  have gg : W p l e R s m args below meth c H locs cells slots Z (F0 m (pc + 1) ls (va_rf (mzRow G n f (Int32.ofInt i).toNatClampNeg) :: S.map (mzC G))) := by
    unfold mzRow
    rw [if_pos hlt, mz_nat' hi.1 (by omega)]
    exact kk H locs ls h1 h2 h3 (mz_sk (by simp) trivial (mz_skt (mz_skt h4)))
  exact W.aald (v := va_rf (mzRow G n f (Int32.ofInt i).toNatClampNeg)) (ty := ty) C.1 C.2.1 (h1.1 k _ he) ((C.2.2.2.2.2.2.2.1.2.1.2 t0 _ ht).1 n (fun j => va_rf (mzRow G n f j))) href (fun q => by cases q) (by show ¬ (Int32.ofInt i < 0 ∨ (arrV _ _ _).slots.size ≤ _); rw [arrV_size]; exact hin) (by show (arrV _ _ _).slots[_]? = _; rw [arrV_read _ _ hlt]) rfl rfl hd gg
end MZR
end
section
/-! what is looked at in an instruction ahead of time, and that the machine follows one instruction -/
def mzLn (i : Instr) : Nat := match i with
  | .bipush _ => 2
  | .sipush _ => 3
  | .ldc _ => 2
  | .ldc_w _ => 3
  | .ldc2_w _ => 3
  | .iload _ => 2
  | .lload _ => 2
  | .aload _ => 2
  | .istore _ => 2
  | .lstore _ => 2
  | .astore _ => 2
  | .iinc _ _ => 3
  | .getfield _ => 3
  | .putfield _ => 3
  | .getstatic _ => 3
  | .goto _ => 3
  | .ifCond _ _ => 3
  | .if_icmp _ _ => 3
  | .invokevirtual _ => 3
  | .invokestatic _ => 3
  | _ => 1
def mzO1 (y pc : Nat) (i : Instr) (a : Int) (b c : Nat) : Bool := match i with
  | .iconst n => decide (-2147483648 ≤ n ∧ n < 2147483648)
  | .bipush n => decide (-128 ≤ n ∧ n < 128)
  | .sipush n => decide (-32768 ≤ n ∧ n < 32768)
  | .ldc k => (match c with
    | 0 => decide ((mzOw y, k, a) ∈ mzCL)
    | _ => decide ((mzOw y, k, b) ∈ mzSL))
  | .ldc_w k => decide ((mzOw y, k, a) ∈ mzCL)
  | .ldc2_w k => decide ((mzOw y, k, a) ∈ mzJL)
  | .istore k => decide (k < mzNl y)
  | .istore_n k => decide (k.val < mzNl y)
  | .lstore k => decide (k + 1 < mzNl y)
  | .lstore_n k => decide (k.val + 1 < mzNl y)
  | .astore k => decide (k < mzNl y)
  | .astore_n k => decide (k.val < mzNl y)
  | .iinc k _ => decide (k < mzNl y)
  | .getfield k => decide ((mzOw y, k, mzCc c, b, 0) ∈ mzFL ∨ (mzOw y, k, mzCc c, b, 1) ∈ mzFL)
  | .putfield k => decide ((mzOw y, k, mzCc c, b, 0) ∈ mzFL ∨ (mzOw y, k, mzCc c, b, 1) ∈ mzFL) && (decide ((mzFq (mzCc c) b).2.2.2 = false) && (match Nat.ble 100 c with
    | true => decide ((mzFq (mzCc c) b).2.2.1 = "Z")
    | false => decide ((mzFq (mzCc c) b).2.2.1 = "I")))
  | .getstatic k => decide ((mzOw y, k, b) ∈ mzTL)
  | _ => true
theorem mz_i8 {n : Int} (h : -128 ≤ n ∧ n < 128) : (Int8.ofInt n).toInt32 = Int32.ofInt n := by
  rw [← mz_ofInt_toInt (Int8.ofInt n).toInt32, Int8.toInt_toInt32, Int8.toInt_ofInt, Int.bmod_def]
  have e : Int8.size = 256 := rfl
  rw [e]
  congr 1
  omega
theorem mz_i16 {n : Int} (h : -32768 ≤ n ∧ n < 32768) : (Int16.ofInt n).toInt32 = Int32.ofInt n := by
  rw [← mz_ofInt_toInt (Int16.ofInt n).toInt32, Int16.toInt_toInt32, Int16.toInt_ofInt, Int.bmod_def]
  have e : Int16.size = 65536 := rfl
  rw [e]
  congr 1
  omega
theorem mz_i2l {u : Int} (h : -2147483648 ≤ u ∧ u < 2147483648) : (Int32.ofInt u).toInt64 = Int64.ofInt u := by
  rw [← mz_ofInt_toInt64 ((Int32.ofInt u).toInt64), Int32.toInt_toInt64, mz_id h]
theorem mz_cmp {u v : Int} (hu : -9223372036854775808 ≤ u ∧ u < 9223372036854775808) (hv : -9223372036854775808 ≤ v ∧ v < 9223372036854775808) : lg_cmp (Int64.ofInt u) (Int64.ofInt v) = Int32.ofInt (mzCmp u v) := by
  unfold lg_cmp mzCmp
  simp only [Int64.lt_iff_toInt_lt, mz_id64 hu, mz_id64 hv, show (Int64.ofInt u = Int64.ofInt v ↔ u = v) from ⟨fun h => by rw [← mz_id64 hu, ← mz_id64 hv, h], fun h => by rw [h]⟩]
  repeat' split
  all_goals first | rfl | omega
theorem mz_cmpb (u v : Int) : -2147483648 ≤ mzCmp u v ∧ mzCmp u v < 2147483648 := by
  unfold mzCmp
  split
  · omega
  · split <;> omega
theorem mz_num {G : mzG} {μ : mzM} (o : Nat) : mzFv G μ 1 (44 + o) 2 = mzC G (mzP 48 o) := by
  show Value.ref (mzAd G ((44 + o) + 4)) = .ref (mzAd G (48 + o))
  rw [show (44 + o) + 4 = 48 + o by omega]
section MZ1
variable {G : mzG} {p : Program} {l : Launch} {e : Env} {R : Room} {s : State} {m : MethodId} {args : Array Value} {below : List Frame} {meth : Method} {c : Code} {cells slots : Nat} {Z : State → Prop} {y d pc : Nat} {L S : List mzV} {μ : mzM}
theorem mz_go_b {pc : Nat} {L S : List mzV} {μ : mzM} (h : (∀ k j, -2147483648 ≤ μ k j ∧ μ k j < 2147483648) → mzGo G p l e R s m args below meth c cells slots Z y pc L S μ) : mzGo G p l e R s m args below meth c cells slots Z y pc L S μ :=
  fun H locs ls h1 h2 h3 h4 => h h1.2.1 H locs ls h1 h2 h3 h4
set_option maxHeartbeats 4000000 in
theorem mz1_ok (C : mzCx G p R s m args meth c y d cells slots) {i : Instr} {a : Int} {b c0 : Nat} {K : List mzV → List mzV → mzM → Prop} (hd : mzDk y pc i (mzLn i) = true) (hok : mzO1 y pc i a b c0 = true) (h : mz1 i a b c0 y K L S μ)
    (kk : ∀ L' S' μ', K L' S' μ' → mzGo G p l e R s m args below meth c cells slots Z y (pc + mzLn i) L' S' μ') : mzGo G p l e R s m args below meth c cells slots Z y pc L S μ := by
  have hdg := mz_dk hd
  cases i with
  | iconst n =>
    exact mzr_const C (of_decide_eq_true hok) (fun H locs ls rest g => lv_iconst C.1 C.2.1 hdg rfl g) (kk _ _ _ h)
  | bipush n =>
    have hn : -128 ≤ n ∧ n < 128 := of_decide_eq_true hok
    exact mzr_const C ⟨by omega, by omega⟩ (fun H locs ls rest g => lv_bipush C.1 C.2.1 hdg (mz_i8 hn) g) (kk _ _ _ h)
  | sipush n =>
    have hn : -32768 ≤ n ∧ n < 32768 := of_decide_eq_true hok
    exact mzr_const C ⟨by omega, by omega⟩ (fun H locs ls rest g => lv_sipush C.1 C.2.1 hdg (mz_i16 hn) g) (kk _ _ _ h)
  | ldc k =>
    cases c0 with
    | zero =>
      have hw := mz_CL _ (of_decide_eq_true (show decide ((mzOw y, k, a) ∈ mzCL) = true from hok))
      exact mzr_const C hw.2 (fun H locs ls rest g => lv_ldc C.1 C.2.1 C.2.2.2.2.2.1 (C.2.2.2.2.2.2.1 _ hw.1) hdg g) (kk _ _ _ h)
    | succ n =>
      have hw : (mzOw y, k, b) ∈ mzSL := of_decide_eq_true (show decide ((mzOw y, k, b) ∈ mzSL) = true from hok)
      have hz := C.2.2.2.2.2.2.2.1.2.2.2.1 _ hw
      exact mzr_push C (v := mzP 300 b) (by simp) (fun _ _ => trivial) (fun H locs ls rest _ _ g => va_ldcS C.1 C.2.1 C.2.2.2.2.2.1 hz hdg g) (kk _ _ _ h)
  | ldc_w k =>
    have hw := mz_CL _ (of_decide_eq_true (show decide ((mzOw y, k, a) ∈ mzCL) = true from hok))
    exact mzr_const C hw.2 (fun H locs ls rest g => lv_ldcw C.1 C.2.1 C.2.2.2.2.2.1 (C.2.2.2.2.2.2.1 _ hw.1) hdg g) (kk _ _ _ h)
  | ldc2_w k =>
    have hw := mz_JL _ (of_decide_eq_true (show decide ((mzOw y, k, a) ∈ mzJL) = true from hok))
    exact mzr_push C (v := mzL a) (by simp) (fun _ _ => hw.2) (fun H locs ls rest _ _ g => lv_ldc2 C.1 C.2.1 C.2.2.2.2.2.1 (C.2.2.2.2.2.2.1 _ hw.1) hdg g) (kk _ _ _ h)
  | lconst n =>
    exact mzr_push C (v := mzL ((n : Nat) : Int)) (by simp) (fun _ _ => by show -9223372036854775808 ≤ ((n : Nat) : Int) ∧ ((n : Nat) : Int) < 9223372036854775808; omega) (fun H locs ls rest _ _ g => lv_lconst C.1 C.2.1 hdg rfl g) (kk _ _ _ h)
  | iload k =>
    simp only [mz1] at h
    split at h
    · next x hx => exact mzr_push C (v := mzI x) (by simp) (fun ls hf => (hf.2.2.2 k _ (mz_gt hx)).2) (fun H locs ls rest _ hf g => lv_iload C.1 C.2.1 hdg (hf.2.2.2 k _ (mz_gt hx)).1 g) (kk _ _ _ h)
    · exact h.elim
  | iload_n k =>
    simp only [mz1] at h
    split at h
    · next x hx => exact mzr_push C (v := mzI x) (by simp) (fun ls hf => (hf.2.2.2 _ _ (mz_gt hx)).2) (fun H locs ls rest _ hf g => lv_iload_n C.1 C.2.1 hdg rfl (hf.2.2.2 _ _ (mz_gt hx)).1 g) (kk _ _ _ h)
    · exact h.elim
  | lload k =>
    simp only [mz1] at h
    split at h
    · next x hx => exact mzr_push C (v := mzL x) (by simp) (fun ls hf => (hf.2.2.2 k _ (mz_gt hx)).2) (fun H locs ls rest _ hf g => lv_lload C.1 C.2.1 hdg (hf.2.2.2 k _ (mz_gt hx)).1 g) (kk _ _ _ h)
    · exact h.elim
  | lload_n k =>
    simp only [mz1] at h
    split at h
    · next x hx => exact mzr_push C (v := mzL x) (by simp) (fun ls hf => (hf.2.2.2 _ _ (mz_gt hx)).2) (fun H locs ls rest _ hf g => lv_lload_n C.1 C.2.1 hdg rfl (hf.2.2.2 _ _ (mz_gt hx)).1 g) (kk _ _ _ h)
    · exact h.elim
  | aload k =>
    simp only [mz1] at h
    split at h
    · next v hx => 
      refine mzr_push C (v := some (.inr (.inr v))) (by simp) (fun ls hf => (hf.2.2.2 k _ (mz_gt hx)).2) (fun H locs ls rest _ hf g => ?_) (kk _ _ _ h)
      have hl := (hf.2.2.2 _ _ (mz_gt hx)).1
      match v, hl, g with
      | .inl k1, hl, g => exact lv_aload C.1 C.2.1 hdg hl g
      | .inr (p1, o1), hl, g => exact lv_aload C.1 C.2.1 hdg hl g
    · exact h.elim
  | aload_n k =>
    simp only [mz1] at h
    split at h
    · next v hx => 
      refine mzr_push C (v := some (.inr (.inr v))) (by simp) (fun ls hf => (hf.2.2.2 _ _ (mz_gt hx)).2) (fun H locs ls rest _ hf g => ?_) (kk _ _ _ h)
      have hl := (hf.2.2.2 _ _ (mz_gt hx)).1
      match v, hl, g with
      | .inl k1, hl, g => exact lv_aload_n C.1 C.2.1 hdg rfl hl g
      | .inr (p1, o1), hl, g => exact lv_aload_n C.1 C.2.1 hdg rfl hl g
    · exact h.elim
  | istore k =>
    have hn : k < mzNl y := of_decide_eq_true hok
    simp only [mz1] at h
    split at h
    · exact mzr_st C (k := k) rfl (fun H locs ls rest lv g1 g2 g3 => lv_istore C.1 C.2.1 hdg g1 hn g2 g3) (kk _ _ _ h)
    · exact h.elim
  | istore_n k =>
    have hn : k.val < mzNl y := of_decide_eq_true hok
    simp only [mz1] at h
    split at h
    · exact mzr_st C (k := k.val) rfl (fun H locs ls rest lv g1 g2 g3 => lv_istore_n C.1 C.2.1 hdg rfl g1 hn g2 g3) (kk _ _ _ h)
    · exact h.elim
  | lstore k =>
    have hn : k + 1 < mzNl y := of_decide_eq_true hok
    simp only [mz1] at h
    split at h
    · exact mzr_st2 C (k := k) (fun H locs ls rest lv g1 g2 g3 => lv_lstore C.1 C.2.1 hdg g1 hn g2 g3) (kk _ _ _ h)
    · exact h.elim
  | lstore_n k =>
    have hn : k.val + 1 < mzNl y := of_decide_eq_true hok
    simp only [mz1] at h
    split at h
    · exact mzr_st2 C (k := k.val) (fun H locs ls rest lv g1 g2 g3 => lv_lstore_n C.1 C.2.1 hdg rfl g1 hn g2 g3) (kk _ _ _ h)
    · exact h.elim
  | astore k =>
    have hn : k < mzNl y := of_decide_eq_true hok
    simp only [mz1] at h
    split at h
    · next v S' =>
      match v, h with
      | .inl k1, h => exact mzr_st C (v := mzR k1) (k := k) rfl (fun H locs ls rest lv g1 g2 g3 => lv_astore C.1 C.2.1 hdg g1 hn g2 g3) (kk _ _ _ h)
      | .inr (p1, o1), h => exact mzr_st C (v := mzP p1 o1) (k := k) rfl (fun H locs ls rest lv g1 g2 g3 => lv_astore C.1 C.2.1 hdg g1 hn g2 g3) (kk _ _ _ h)
    · exact h.elim
  | astore_n k =>
    have hn : k.val < mzNl y := of_decide_eq_true hok
    simp only [mz1] at h
    split at h
    · next v S' =>
      match v, h with
      | .inl k1, h => exact mzr_st C (v := mzR k1) (k := k.val) rfl (fun H locs ls rest lv g1 g2 g3 => lv_astore_n C.1 C.2.1 hdg rfl g1 hn g2 g3) (kk _ _ _ h)
      | .inr (p1, o1), h => exact mzr_st C (v := mzP p1 o1) (k := k.val) rfl (fun H locs ls rest lv g1 g2 g3 => lv_astore_n C.1 C.2.1 hdg rfl g1 hn g2 g3) (kk _ _ _ h)
    · exact h.elim
  | iinc k n =>
    have hn : k < mzNl y := of_decide_eq_true hok
    simp only [mz1] at h
    split at h
    · next x hx => exact mzr_iinc C hn hdg hx (kk _ _ _ h)
    · exact h.elim
  | iadd =>
    simp only [mz1] at h
    split at h
    · next v u _ => exact mzr_op2 C (w := mzI (mzW (u + v))) (by simp) (mz_Wb _) (fun H locs ls rest _ _ g => lv_iadd C.1 C.2.1 hdg (by rw [mz_add]; exact g)) (kk _ _ _ h)
    · exact h.elim
  | isub =>
    simp only [mz1] at h
    split at h
    · next v u _ => exact mzr_op2 C (w := mzI (mzW (u - v))) (by simp) (mz_Wb _) (fun H locs ls rest _ _ g => lv_isub C.1 C.2.1 hdg (by rw [mz_sub]; exact g)) (kk _ _ _ h)
    · exact h.elim
  | imul =>
    simp only [mz1] at h
    split at h
    · next v u _ => exact mzr_op2 C (w := mzI (mzW (u * v))) (by simp) (mz_Wb _) (fun H locs ls rest _ _ g => lv_imul C.1 C.2.1 hdg (by rw [mz_mul]; exact g)) (kk _ _ _ h)
    · exact h.elim
  | iand =>
    simp only [mz1] at h
    split at h
    · next v u _ => exact mzr_op2 C (w := mzI (mzAnd u v)) (by simp) (mz_bd _) (fun H locs ls rest _ _ g => lv_iand C.1 C.2.1 hdg (by rw [← mz_ofInt_toInt (Int32.ofInt u &&& Int32.ofInt v)]; exact g)) (kk _ _ _ h)
    · exact h.elim
  | ior =>
    simp only [mz1] at h
    split at h
    · next v u _ => exact mzr_op2 C (w := mzI (mzOr u v)) (by simp) (mz_bd _) (fun H locs ls rest _ _ g => lv_ior C.1 C.2.1 hdg (by rw [← mz_ofInt_toInt (Int32.ofInt u ||| Int32.ofInt v)]; exact g)) (kk _ _ _ h)
    · exact h.elim
  | ixor =>
    simp only [mz1] at h
    split at h
    · next v u _ => exact mzr_op2 C (w := mzI (mzXor u v)) (by simp) (mz_bd _) (fun H locs ls rest _ _ g => lv_ixor C.1 C.2.1 hdg (by rw [← mz_ofInt_toInt (Int32.ofInt u ^^^ Int32.ofInt v)]; exact g)) (kk _ _ _ h)
    · exact h.elim
  | ishl =>
    simp only [mz1] at h
    split at h
    · next v u _ => exact mzr_op2 C (w := mzI (mzShl u v)) (by simp) (mz_bd _) (fun H locs ls rest _ _ g => lv_ishl C.1 C.2.1 hdg (by rw [← mz_ofInt_toInt (Int32.ofInt u <<< (Int32.ofInt v &&& 31))]; exact g)) (kk _ _ _ h)
    · exact h.elim
  | ishr =>
    simp only [mz1] at h
    split at h
    · next v u _ => exact mzr_op2 C (w := mzI (mzShr u v)) (by simp) (mz_bd _) (fun H locs ls rest _ _ g => lv_ishr C.1 C.2.1 hdg (by rw [← mz_ofInt_toInt (Int32.ofInt u >>> (Int32.ofInt v &&& 31))]; exact g)) (kk _ _ _ h)
    · exact h.elim
  | iushr =>
    simp only [mz1] at h
    split at h
    · next v u _ => exact mzr_op2 C (w := mzI (mzUsh u v)) (by simp) (mz_bd _) (fun H locs ls rest _ _ g => lv_iushr C.1 C.2.1 hdg (mz_ofInt_toInt _).symm g) (kk _ _ _ h)
    · exact h.elim
  | idiv =>
    simp only [mz1] at h
    split at h
    · next v u _ => exact mzr_op2 C (u := mzI u) (v := mzI v) (w := mzI (mzDiv u v)) (by simp) (mz_bd _) (fun H locs ls rest hu hv g => lv_idiv C.1 C.2.1 hdg (fun z => h.1 ((mz_eq hv ⟨by omega, by omega⟩).mp z)) (by rw [← mz_ofInt_toInt (Int32.ofInt u / Int32.ofInt v)]; exact g)) (kk _ _ _ h.2)
    · exact h.elim
  | irem =>
    simp only [mz1] at h
    split at h
    · next v u _ => exact mzr_op2 C (u := mzI u) (v := mzI v) (w := mzI (mzRem u v)) (by simp) (mz_bd _) (fun H locs ls rest hu hv g => lv_irem C.1 C.2.1 hdg (fun z => h.1 ((mz_eq hv ⟨by omega, by omega⟩).mp z)) (by rw [← mz_ofInt_toInt (Int32.ofInt u - Int32.ofInt u / Int32.ofInt v * Int32.ofInt v)]; exact g)) (kk _ _ _ h.2)
    · exact h.elim
  | ladd =>
    simp only [mz1] at h
    split at h
    · next v u _ => exact mzr_op2 C (w := mzL (mzX (u + v))) (by simp) (mz_Xb _) (fun H locs ls rest _ _ g => lv_ladd C.1 C.2.1 hdg (by rw [mz_addL]; exact g)) (kk _ _ _ h)
    · exact h.elim
  | lmul =>
    simp only [mz1] at h
    split at h
    · next v u _ => exact mzr_op2 C (w := mzL (mzX (u * v))) (by simp) (mz_Xb _) (fun H locs ls rest _ _ g => lv_lmul C.1 C.2.1 hdg (by rw [mz_mulL]; exact g)) (kk _ _ _ h)
    · exact h.elim
  | lcmp =>
    simp only [mz1] at h
    split at h
    · next v u _ => exact mzr_op2 C (u := mzL u) (v := mzL v) (w := mzI (mzCmp u v)) (by simp) (mz_cmpb u v) (fun H locs ls rest hu hv g => W.lcmp C.1 C.2.1 hdg (by rw [mz_cmp hu hv]; exact g)) (kk _ _ _ h)
    · exact h.elim
  | i2l =>
    simp only [mz1] at h
    split at h
    · next u _ => exact mzr_op1 C (u := mzI u) (w := mzL u) (by simp) (fun (q : -2147483648 ≤ u ∧ u < 2147483648) => ⟨by omega, by omega⟩) (fun H locs ls rest hu g => t_i2l C.1 C.2.1 hdg (mz_i2l hu) g) (kk _ _ _ h)
    · exact h.elim
  | i2b =>
    simp only [mz1] at h
    split at h
    · next u _ => exact mzr_op1 C (u := mzI u) (w := mzI (mzB8 u)) (by simp) (fun _ => mz_bd _) (fun H locs ls rest hu g => lv_i2b C.1 C.2.1 hdg (mz_ofInt_toInt _).symm g) (kk _ _ _ h)
    · exact h.elim
  | i2s =>
    simp only [mz1] at h
    split at h
    · next u _ => exact mzr_op1 C (u := mzI u) (w := mzI (mzB16 u)) (by simp) (fun _ => mz_bd _) (fun H locs ls rest hu g => lv_i2s C.1 C.2.1 hdg (mz_ofInt_toInt _).symm g) (kk _ _ _ h)
    · exact h.elim
  | dup =>
    simp only [mz1] at h
    split at h
    · split at h
      · next hc => exact fun H locs ls h1 h2 h3 h4 => lv_dup C.1 C.2.1 hdg (mz_cat1 hc) (kk _ _ _ h H locs ls h1 h2 h3 (mz_sk (mz_skh h4).1 (mz_skh h4).2 h4))
      · exact h.elim
    · exact h.elim
  | dup2 =>
    simp only [mz1] at h
    split at h
    · split at h
      · next hc =>
        simp only [Bool.and_eq_true] at hc
        exact fun H locs ls h1 h2 h3 h4 => lv_dup2_11 C.1 C.2.1 hdg (mz_cat1 hc.1) (mz_cat1 hc.2) (kk _ _ _ h H locs ls h1 h2 h3 (mz_sk (mz_skh h4).1 (mz_skh h4).2 (mz_sk (mz_skh (mz_skt h4)).1 (mz_skh (mz_skt h4)).2 h4)))
      · exact h.elim
    · exact h.elim
  | pop =>
    simp only [mz1] at h
    split at h
    · split at h
      · next hc => exact fun H locs ls h1 h2 h3 h4 => lv_pop C.1 C.2.1 hdg (mz_cat1 hc) (kk _ _ _ h H locs ls h1 h2 h3 (mz_skt h4))
      · exact h.elim
    · exact h.elim
  | pop2 =>
    simp only [mz1] at h
    split at h
    · exact fun H locs ls h1 h2 h3 h4 => lv_pop2_2 C.1 C.2.1 hdg rfl (kk _ _ _ h H locs ls h1 h2 h3 (mz_skt h4))
    · exact h.elim
  | getfield k =>
    have hin : (mzOw y, k, mzCc c0, b, 0) ∈ mzFL ∨ (mzOw y, k, mzCc c0, b, 1) ∈ mzFL := of_decide_eq_true hok
    simp only [mz1] at h
    split at h
    · next k1 S' =>
      split at h
      · next hO =>
        obtain ⟨z, hz⟩ := mz_isO hO
        refine mz_go_b (fun hb => ?_)
        split at h
        · next hr => exact mzr_getO C hin hdg hz (v := mzI (μ k1 b)) (by simp) (hb _ _) (u := mzR k1) rfl (by unfold mzFv; rw [hr]; rfl) (kk _ _ _ h)
        · next t hr => exact mzr_getO C hin hdg hz (v := mzR (t + 1)) (by simp) trivial (u := mzR k1) rfl (by unfold mzFv; rw [hr]; rfl) (kk _ _ _ h)
      · exact h.elim
    · next p1 o1 S' =>
      split at h
      · next cnt ci hp =>
        split at h
        · next hc =>
          obtain ⟨rfl, rfl, rfl⟩ := mz_pool1 hp
          have hcc : mzCc c0 = 1 := (Nat.eq_of_beq_eq_true hc).symm
          rw [hcc] at h hin
          have hz : mzSh (44 + o1) = (1, 1, 0) := mz_pools (44, 4, 1, 1) (by decide) (by decide) o1 h.1
          refine mz_go_b (fun hb => ?_)
          have hj : b < 3 := by
            rcases hin with q | q
            · exact (mz_FL _ q).2.1
            · exact (mz_FL _ q).2.1
          have h2 := h.2
          match b, hj, hin, h2 with
          | 0, _, hin, h2 => exact mzr_getO C hin hdg hz (v := mzI (μ (44 + o1) 0)) (by simp) (hb _ _) (u := mzP 44 o1) rfl rfl (kk _ _ _ h2)
          | 1, _, hin, h2 => exact mzr_getO C hin hdg hz (v := mzI (μ (44 + o1) 1)) (by simp) (hb _ _) (u := mzP 44 o1) rfl rfl (kk _ _ _ h2)
          | 2, _, hin, h2 => exact mzr_getO C hin hdg hz (v := mzP 48 o1) (by simp) trivial (u := mzP 44 o1) rfl (mz_num o1) (kk _ _ _ h2)
        · exact h.elim
      · exact h.elim
    · exact h.elim
  | putfield k =>
    simp only [mzO1, Bool.and_eq_true, decide_eq_true_eq] at hok
    obtain ⟨hin, hfin, hty⟩ := hok
    simp only [mz1] at h
    split at h
    · next x k1 S' =>
      split at h
      · next hO =>
        simp only [Bool.and_eq_true] at hO
        obtain ⟨z, hz⟩ := mz_isO hO.1
        have hr := Nat.eq_of_beq_eq_true hO.2
        split at h
        · next hc =>
          rw [hc] at hty
          have hty := of_decide_eq_true hty
          rcases h.1 with rfl | rfl
          · exact mzr_putO C hin hdg hz hr hfin (ty := .boolean) (by rw [hty]; decide) (by decide) (by decide) (u := mzR k1) rfl (kk _ _ _ h.2)
          · exact mzr_putO C hin hdg hz hr hfin (ty := .boolean) (by rw [hty]; decide) (by decide) (by decide) (u := mzR k1) rfl (kk _ _ _ h.2)
        · next hc =>
          rw [hc] at hty
          have hty := of_decide_eq_true hty
          exact mzr_putO C hin hdg hz hr hfin (ty := .int) (by rw [hty]; decide) rfl rfl (u := mzR k1) rfl (kk _ _ _ h)
      · exact h.elim
    · next x p1 o1 S' =>
      split at h
      · next cnt ci hp =>
        split at h
        · next hc =>
          simp only [Bool.and_eq_true] at hc
          obtain ⟨rfl, rfl, rfl⟩ := mz_pool1 hp
          have hcc : c0 = 1 := (Nat.eq_of_beq_eq_true hc.1).symm
          subst hcc
          have hr := Nat.eq_of_beq_eq_true hc.2
          have hz : mzSh (44 + o1) = (1, 1, 0) := mz_pools (44, 4, 1, 1) (by decide) (by decide) o1 h.1
          have hj : b < 3 := by
            rcases hin with q | q
            · exact (mz_FL _ q).2.1
            · exact (mz_FL _ q).2.1
          have hty := of_decide_eq_true hty
          have hr2 : mzRf 1 b (44 + o1) = 0 := by
            match b, hj, hr with
            | 0, _, _ => rfl
            | 1, _, _ => rfl
            | 2, _, hr => exact absurd hr (by decide)
          exact mzr_putO C hin hdg hz hr2 hfin (ty := .int) (by rw [hty]; decide) rfl rfl (u := mzP 44 o1) rfl (kk _ _ _ h.2)
        · exact h.elim
      · exact h.elim
    · exact h.elim
  | getstatic k =>
    have hin : (mzOw y, k, b) ∈ mzTL := of_decide_eq_true hok
    have hw := mz_TL _ hin
    have hz := (C.2.2.2.2.2.2.2.1.2.2.1 b hw.1).1
    refine mzr_push C (v := mzR (200 + b)) (by simp) (fun _ _ => trivial) (fun H locs ls rest hS _ g => ?_) (kk _ _ _ h)
    by_cases h4 : mzOw y = 4
    · exact va_gets C.1 C.2.1 hz hS C.2.2.2.2.2.1 (C.2.2.2.2.2.2.1 _ (hw.2.1 h4)) (fun _ q => q) hdg g
    · exact va_getsN C.1 C.2.1 hz hS C.2.2.2.2.2.1 (va_Nw.use rfl (C.2.2.2.2.2.2.2.1.1 _ (hw.2.2 h4))) (fun _ q => q) hdg g
  | iaload =>
    simp only [mz1] at h
    split at h
    · next i k1 S' =>
      split at h
      · split at h
        · next hc =>
          simp only [Bool.and_eq_true] at hc
          have e1 := Nat.eq_of_beq_eq_true hc.1
          have e2 := Nat.eq_of_beq_eq_true hc.2
          subst e1
          exact mzr_sld C e2 h.1 hdg (kk _ _ _ h.2)
        · split at h
          · next hc =>
            simp only [Bool.and_eq_true] at hc
            exact mzr_cald C ⟨Nat.le_of_ble_eq_true hc.1, Nat.le_of_ble_eq_true hc.2⟩ h.1 hdg (kk _ _ _ h.2)
          · exact h.elim
      · split at h
        · next n z hz => exact mzr_iald C hz h.1 hdg (u := mzR k1) rfl (kk _ _ _ h.2)
        · exact h.elim
    · next i p1 o1 S' =>
      split at h
      · next cnt n hp => exact mzr_iald C (mz_pool0 hp h.1.1) h.1.2 hdg (u := mzP p1 o1) rfl (kk _ _ _ h.2)
      · exact h.elim
    · exact h.elim
  | iastore =>
    simp only [mz1] at h
    split at h
    · next x i k1 S' =>
      split at h
      · next n z hz => exact mzr_iast C hz h.1 hdg (u := mzR k1) rfl (kk _ _ _ h.2)
      · exact h.elim
    · next x i p1 o1 S' =>
      split at h
      · next cnt n hp => exact mzr_iast C (mz_pool0 hp h.1.1) h.1.2 hdg (u := mzP p1 o1) rfl (kk _ _ _ h.2)
      · exact h.elim
    · exact h.elim
  | aaload =>
    simp only [mz1] at h
    split at h
    · next i k1 S' =>
      split at h
      · next n f hz => exact mzr_aald C (mz_shlt hz (by decide)) (mz_ent2 hz) (by have := (mz_shn k1 (mz_shlt hz (by decide))).2.2; rw [hz] at this; exact this (show (2 : Nat) ≠ 1 by decide)) (t0 := 1) rfl rfl h.1 hdg (kk _ _ _ h.2)
      · next n f hz => exact mzr_aald C (mz_shlt hz (by decide)) (mz_ent3 hz) (by have := (mz_shn k1 (mz_shlt hz (by decide))).2.2; rw [hz] at this; exact this (show (3 : Nat) ≠ 1 by decide)) (t0 := 2) rfl rfl h.1 hdg (kk _ _ _ h.2)
      · exact h.elim
    · exact h.elim
  | arraylength =>
    simp only [mz1] at h
    split at h
    · next k1 S' =>
      split at h
      · next hc =>
        simp only [Bool.and_eq_true] at hc
        have e1 := Nat.eq_of_beq_eq_true hc.1
        have e2 := Nat.eq_of_beq_eq_true hc.2
        subst e1
        exact mzr_slen C e2 hdg (kk _ _ _ h)
      · split at h
        · next n z hz => exact mzr_alen C hz hdg (u := mzR k1) rfl (kk _ _ _ h)
        · exact h.elim
    · next p1 o1 S' =>
      split at h
      · next cnt n hp => exact mzr_alen C (mz_pool0 hp h.1) hdg (u := mzP p1 o1) rfl (kk _ _ _ h.2)
      · exact h.elim
    · exact h.elim
  | _ => exact False.elim h
end MZ1
end
section
/-! calls: what is there in every method goes along; a method's frame as a contract; the call's row -/
theorem mz_nestk : ∀ w ∈ mzNest, (∃ a i b n dd h, w = Jvm.Cond.fieldLinkNest a i b n dd h) ∨ (∃ a i x0 h, w = Jvm.Cond.methodLinkNest a i x0 h) := by
  intro w hw
  unfold mzNest at hw
  have h := (List.mem_filter.mp hw).2
  cases w with
  | fieldLinkNest a i b n dd hh => exact Or.inl ⟨_, _, _, _, _, _, rfl⟩
  | methodLinkNest a i x0 hh => exact Or.inr ⟨_, _, _, _, rfl⟩
  | _ => exact absurd h (by simp)
theorem mz_amb {G : mzG} {s U : State} (hN : ∀ w ∈ mzNest, va_Nw w s → va_Nw w U) (hA : s.vm.Alike U.vm) (hR : ∀ own k tx a, vk_R own k tx a s → vk_R own k tx a U) (hH : ∀ a : Nat, a < s.heap.size → ¬ mzA G a → U.heap[a]? = s.heap[a]?) (h : mzAmb G s) : mzAmb G U :=
  ⟨fun w hw => hN w hw (h.1 w hw), va_K.moved hA h.2.1, fun k hk => ⟨((h.2.2.1 k hk).1.moved hA).kept hH, ((h.2.2.1 k hk).2.moved hA).kept hH⟩, fun q hq => hR _ _ _ _ (h.2.2.2.1 q hq), (h.2.2.2.2.1.moved hA).kept hH, (h.2.2.2.2.2.moved hA).kept hH⟩
theorem mz_amb_w {G : mzG} {s U : State} {locs : List Loc} (hW : s.WarmedH U.vm) (hS : va_S (mzA G) s.heap U.heap locs) (h : mzAmb G s) : mzAmb G U := by
  refine mz_amb (fun w hw hz => ?_) hW.alike (fun own k tx a hr => vk_R.warm hW hr) (fun a h1 h2 => hS.2.1 a h1 h2) h
  rcases mz_nestk w hw with ⟨_, _, _, _, _, _, rfl⟩ | ⟨_, _, _, _, rfl⟩
  · exact va_Nw.warmF hW hz
  · exact va_Nw.warmM hW hz
theorem mz_amb_v {G : mzG} {s U : State} (hv : s.vm = U.vm) (hh : U.heap = s.heap) (h : mzAmb G s) : mzAmb G U := by
  refine mz_amb (fun w hw hz => ?_) (by rw [← hv]; exact Vm.Alike.refl _) (fun own k tx a hr => vk_R.same hv.symm hr) (fun a _ _ => by rw [hh]) h
  rcases mz_nestk w hw with ⟨_, _, _, _, _, _, rfl⟩ | ⟨_, _, _, _, rfl⟩
  · exact va_Nw.same rfl hv hz
  · exact va_Nw.same rfl hv hz
def mzPre (G : mzG) (μ : mzM) (U : State) : Prop := mzAmb G U ∧ mzSt G U.heap μ
theorem mz_blind {G : mzG} {μ : mzM} {as : List Value} : FrameBlind (va_Pc as (mzPre G μ)) := fun a U g mk h => ⟨h.1, mz_amb_v (s := U) (U := U.calling g mk a) rfl rfl h.2.1, h.2.2⟩
def mzOv (G : mzG) (v : mzV) : Option Value := match v with
  | none => none
  | some w => some (mzC G (some w))
def mzPost (G : mzG) (r : Option FieldType) (Q : mzV → mzM → Prop) : Array Value → State → Outcome → State → Prop := fun _ st o t =>
  ∃ (v : mzV) (μ' : mzM), o = .returned (mzOv G v) ∧ Q v μ' ∧ mzTyp r v ∧ mzK v ∧ mzSt G t.heap μ' ∧ va_F (mzA G) st t
theorem mz_nl : ∀ y, y < 192 → mzNl y ≤ 45 := by decide +kernel
theorem mz_plain : ∀ y, y < 192 → plainName (mzYn y).cls = true := by decide +kernel
theorem mz_names : ∀ y, y < 192 → 0 < y → (mzYn y).cls = mzNo (mzOw y) := by decide +kernel
theorem mz_good {w : Jvm.Cond} (h : w ∈ mzTb) : (w.onTables && w.keeps) = true ∨ ∃ ty, w = .arrayClass ty := good_of_word (List.mem_filter.mp h).2
theorem mz_lay {G : mzG} : ∀ (as : List mzV) (j : Nat) (v : Int ⊕ (Int ⊕ (Nat ⊕ (Nat × Nat)))), (∀ a ∈ as, a ≠ none) → (mzLay as)[j]? = some (some v) → ∀ i, (i + j, mzC G (some v)) ∈ lv_args i (as.map (mzC G)) ∧ some v ∈ as := by
  intro as
  induction as with
  | nil => intro j v _ h; simp [mzLay] at h
  | cons a r ih =>
    intro j v hn h i
    have hr : ∀ a ∈ r, a ≠ none := fun z hz => hn z (List.mem_cons_of_mem _ hz)
    match a, h with
    | none, _ => exact absurd rfl (hn none List.mem_cons_self)
    | some (.inr (.inl x)), h =>
      simp only [mzLay] at h
      show (i + j, mzC G (some v)) ∈ (i, mzC G (mzL x)) :: lv_args (i + 2) (r.map (mzC G)) ∧ _
      match j, h with
      | 0, h =>
        cases h
        exact ⟨List.mem_cons_self, List.mem_cons_self⟩
      | 1, h => cases h
      | j + 2, h =>
        obtain ⟨h1, h2⟩ := ih j v hr h (i + 2)
        refine ⟨List.mem_cons_of_mem _ ?_, List.mem_cons_of_mem _ h2⟩
        rw [show i + (j + 2) = i + 2 + j by omega]
        exact h1
    | some (.inl x), h =>
      simp only [mzLay] at h
      show (i + j, mzC G (some v)) ∈ (i, mzC G (mzI x)) :: lv_args (i + 1) (r.map (mzC G)) ∧ _
      match j, h with
      | 0, h =>
        cases h
        exact ⟨List.mem_cons_self, List.mem_cons_self⟩
      | j + 1, h =>
        obtain ⟨h1, h2⟩ := ih j v hr h (i + 1)
        refine ⟨List.mem_cons_of_mem _ ?_, List.mem_cons_of_mem _ h2⟩
        rw [show i + (j + 1) = i + 1 + j by omega]
        exact h1
    | some (.inr (.inr (.inl x))), h =>
      simp only [mzLay] at h
      show (i + j, mzC G (some v)) ∈ (i, mzC G (mzR x)) :: lv_args (i + 1) (r.map (mzC G)) ∧ _
      match j, h with
      | 0, h =>
        cases h
        exact ⟨List.mem_cons_self, List.mem_cons_self⟩
      | j + 1, h =>
        obtain ⟨h1, h2⟩ := ih j v hr h (i + 1)
        refine ⟨List.mem_cons_of_mem _ ?_, List.mem_cons_of_mem _ h2⟩
        rw [show i + (j + 1) = i + 1 + j by omega]
        exact h1
    | some (.inr (.inr (.inr (x, z)))), h =>
      simp only [mzLay] at h
      show (i + j, mzC G (some v)) ∈ (i, mzC G (mzP x z)) :: lv_args (i + 1) (r.map (mzC G)) ∧ _
      match j, h with
      | 0, h =>
        cases h
        exact ⟨List.mem_cons_self, List.mem_cons_self⟩
      | j + 1, h =>
        obtain ⟨h1, h2⟩ := ih j v hr h (i + 1)
        refine ⟨List.mem_cons_of_mem _ ?_, List.mem_cons_of_mem _ h2⟩
        rw [show i + (j + 1) = i + 1 + j by omega]
        exact h1
theorem mz_laylen {G : mzG} : ∀ (as : List mzV), (∀ a ∈ as, a ≠ none) → (lg_sl (as.map (mzC G))).length = (mzLay as).length := by
  intro as
  induction as with
  | nil => intro _; rfl
  | cons a r ih =>
    intro hn
    have hr := ih (fun z hz => hn z (List.mem_cons_of_mem _ hz))
    match a with
    | none => exact absurd rfl (hn none List.mem_cons_self)
    | some (.inr (.inl x)) =>
      show ([Slot.val (mzC G (mzL x)), .second] ++ lg_sl (r.map (mzC G))).length = (mzLay r).length + 2
      rw [List.length_append, hr]
      simp [Nat.add_comm]
    | some (.inl x) =>
      show ([Slot.val (mzC G (mzI x))] ++ lg_sl (r.map (mzC G))).length = (mzLay r).length + 1
      rw [List.length_append, hr]
      simp [Nat.add_comm]
    | some (.inr (.inr (.inl x))) =>
      show ([Slot.val (mzC G (mzR x))] ++ lg_sl (r.map (mzC G))).length = (mzLay r).length + 1
      rw [List.length_append, hr]
      simp [Nat.add_comm]
    | some (.inr (.inr (.inr (x, z)))) =>
      show ([Slot.val (mzC G (mzP x z))] ++ lg_sl (r.map (mzC G))).length = (mzLay r).length + 1
      rw [List.length_append, hr]
      simp [Nat.add_comm]
theorem mz_entry {G : mzG} {y : Nat} {as : List mzV} (hs : mzSk as) (hl : (mzLay as).length ≤ mzNl y) : mzFr G y ((lg_sl (as.map (mzC G)) ++ List.replicate (mzNl y - (lg_sl (as.map (mzC G))).length) Slot.unset).toArray) (mzEn (mzNl y) as) := by
  have hn : ∀ a ∈ as, a ≠ none := fun a ha => (hs a ha).1
  have hlen := mz_laylen (G := G) as hn
  have h := lv_entry (as.map (mzC G)) (n := mzNl y) (by rw [hlen]; exact hl)
  refine ⟨h.1, h.2.1, ?_, fun i v hv => ?_⟩
  · unfold mzEn
    rw [List.length_append, List.length_replicate]
    omega
  · unfold mzEn at hv
    by_cases hi : i < (mzLay as).length
    · rw [List.getElem?_append_left hi] at hv
      obtain ⟨h1, h2⟩ := mz_lay (G := G) as i v hn hv 0
      rw [Nat.zero_add] at h1
      exact ⟨h.2.2 _ h1, (hs _ h2).2⟩
    · rw [List.getElem?_append_right (by omega), List.getElem?_replicate] at hv
      split at hv
      · cases hv
      · cases hv
/-- a method's frame that comes to its end is a contract of the method -/
theorem mz_met {d y : Nat} {as : List mzV} {μ : mzM} {Q : mzV → mzM → Prop} (h : mzCl d y as μ Q) (h0 : 0 < y) (hy : y < 192) (hs : mzSk as) (hl : (mzLay as).length ≤ mzNl y) {G : mzG} (hI : mzInj G) (l : Launch) :
    Met l (mzYn y) (mzWs y) (mzRm d) (va_Pc (as.map (mzC G)) (mzPre G μ)) (mzPost G (mzRt y) Q) 0 0 (mzA G) := by
  refine Met.ofW (cc := mzBy y) (maxL := mzNl y) (ret := mzRt y) (mz_plain y hy) rfl ?_
  intro p e s m args below meth c s₁ B hml hv
  obtain ⟨rfl, hAm, hSt⟩ := hv
  have hts := atoms_spec (ws := mzWs y) B.pre
  have hown : s.vm.findClass (mzYn y).cls = some m.cls := findClass_of_methodNamed B.named
  rw [mz_names y hy h0] at hown
  have hr := B.returns
  have C : mzCx G p (headSpec (mzWs y) (mzRm d)).room s m ((as.map (mzC G)).toArray) meth c y d 0 0 := ⟨B.exec, B.bytes, hml, hr, B.notSynchronized, hown, fun w hw => hts w (List.mem_cons_of_mem _ hw), hAm, hI, ⟨Nat.zero_le _, Nat.zero_le _⟩, ⟨Nat.le_refl _, Nat.le_refl _⟩, fun z => by omega⟩
  rw [lg_entry_eq]
  refine h G p l e _ s m _ below meth c 0 0 _ C ?_ s.heap [] _ hSt va_S.rf (mz_entry hs hl) (fun v hv => by cases hv)
  intro v μ' H' locs' ls' pc' hQ hT hK hS' hva hdg
  have hq : ∀ t : State, t.heap = H' → s.WarmedH t.vm → mzPost G (mzRt y) Q ((as.map (mzC G)).toArray) s (.returned (mzOv G v)) t := fun t ht _ => ⟨v, μ', rfl, hQ, hT, hK, by rw [ht]; exact hS', hva.F ht⟩
  have hlk := B.notSynchronized
  cases hrt : mzRt y with
  | none =>
    rw [hrt] at hT hr hdg hq
    subst hT
    exact W.vret B.exec B.bytes hr hq hva.2.2 hdg hlk
  | some ty =>
    rw [hrt] at hT hr hdg hq
    cases ty with
    | int =>
      obtain ⟨x0, rfl⟩ := hT
      exact W.iret B.exec B.bytes hr hq hva.2.2 hdg hlk
    | boolean =>
      rcases hT with rfl | rfl
      · exact W.zret B.exec B.bytes hr (by decide) hq hva.2.2 hdg hlk
      · exact W.zret B.exec B.bytes hr (by decide) hq hva.2.2 hdg hlk
    | long =>
      obtain ⟨x0, rfl⟩ := hT
      exact W.lret B.exec B.bytes hr hq hva.2.2 hdg hlk
    | object n =>
      obtain ⟨p0, o0, rfl⟩ := hT
      exact W.aret B.exec B.bytes hr (Or.inl ⟨_, rfl⟩) (Or.inr ⟨_, rfl⟩) hq hva.2.2 hdg hlk
    | array t1 =>
      obtain ⟨p0, o0, rfl⟩ := hT
      exact W.aret B.exec B.bytes hr (Or.inr ⟨_, rfl⟩) (Or.inr ⟨_, rfl⟩) hq hva.2.2 hdg hlk
    | _ =>
      have hf : ∀ y, y < 192 → mzRt y ≠ some .byte ∧ mzRt y ≠ some .char ∧ mzRt y ≠ some .double ∧ mzRt y ≠ some .float ∧ mzRt y ≠ some .short := by decide +kernel
      have := hf y hy
      simp [hrt] at this
end
section
/-! the machine follows what is computed, call by call -/
def mzNp (y : Nat) : Nat := ((parseMethodDescriptor (mzYn y).desc).map (fun d => d.parameters.length)).getD 99
def mzPrW (own k c : Nat) : Bool := mzHas mzAll 11 own k c 0
def mzO2 (y pc : Nat) (i : Instr) (a : Int) (b c : Nat) : Bool := match i with
  | .goto off => mzDk y pc i 3 && decide ((pc : Int) + off = (b : Int))
  | .ifCond _ off => mzDk y pc i 3 && decide ((pc : Int) + off = (b : Int))
  | .if_icmp _ off => mzDk y pc i 3 && decide ((pc : Int) + off = (b : Int))
  | .tableswitch dflt lo hi offs => mzDk y pc i b && (decide (0 ≤ (pc : Int) + dflt) && (offs.toList.all (fun o => decide (0 ≤ (pc : Int) + o)) && decide (hi - lo + 1 = (offs.toList.length : Int))))
  | .lookupswitch dflt ps => mzDk y pc i b && (decide (0 ≤ (pc : Int) + dflt) && (ps.toList.all (fun o => decide (0 ≤ (pc : Int) + o.2)) && (ps.toList.zip (ps.toList.drop 1)).all (fun (a, next) => decide (a.1 < next.1))))
  | .ireturn => mzDk y pc i 1 && (match c with
    | 0 => decide (mzRt y = some .int)
    | _ => decide (mzRt y = some .boolean))
  | .lreturn => mzDk y pc i 1 && decide (mzRt y = some .long)
  | .areturn => mzDk y pc i 1 && (decide (mzRi (mzRt y) = .areturn))
  | .return_ => mzDk y pc i 1 && decide (mzRt y = none)
  | .invokevirtual k => mzDk y pc i 3 && (match b with
    | 0 => mzPrW (mzOw y) k c && (Nat.ble 4 c)
    | _ => decide ((mzOw y, k, b, 0) ∈ mzML ∨ (mzOw y, k, b, 1) ∈ mzML) && decide (c = mzNp b + 1))
  | .invokestatic k => mzDk y pc i 3 && (match b with
    | 0 => mzPrW (mzOw y) k c && (Nat.ble c 3)
    | _ => decide ((mzOw y, k, b, 2) ∈ mzML) && decide (c = mzNp b))
  | _ => mzDk y pc i (mzLn i) && mzO1 y pc i a b c
def mzEd (i : Instr) : Bool := match i with
  | .goto _ => true
  | .tableswitch _ _ _ _ => true
  | .lookupswitch _ _ => true
  | .ireturn => true
  | .lreturn => true
  | .areturn => true
  | .return_ => true
  | _ => false
def mzChk (y : Nat) : List mzO → Bool
  | [] => true
  | (pc, i, a, b, c) :: r => mzO2 y pc i a b c && ((match r with
    | [] => true
    | e :: _ => mzEd i || Nat.beq e.1 (pc + mzLn i)) && mzChk y r)
theorem mz_drchk {y : Nat} : ∀ {cd : List mzO} {t : Nat}, mzChk y cd = true → mzChk y (mzDr cd t) = true := by
  intro cd
  induction cd with
  | nil => intro t h; exact h
  | cons e r ih =>
    intro t h
    unfold mzDr
    split
    · exact h
    · obtain ⟨pc, i, a, b, c⟩ := e
      simp only [mzChk, Bool.and_eq_true] at h
      exact ih h.2.2
theorem mz_drpc : ∀ {cd : List mzO} {t : Nat} {e : mzO} {r : List mzO}, mzDr cd t = e :: r → e.1 = t := by
  intro cd
  induction cd with
  | nil => intro t e r h; cases h
  | cons z q ih =>
    intro t e r h
    unfold mzDr at h
    split at h
    · next hb =>
      cases h
      exact Nat.eq_of_beq_eq_true hb
    · exact ih h
theorem mz_ML0 : ∀ q ∈ mzML, q.2.2.1 < 192 ∧ 0 < q.2.2.1 ∧ (q.2.2.2 ≠ 1 → mzHas mzAll 1 q.1 q.2.1 q.2.2.1 0 = true) ∧ (q.2.2.2 = 1 → mzHas mzAlN 1 q.1 q.2.1 q.2.2.1 0 = true) ∧ (q.2.2.2 ≤ 1 → mzHas mzAll 4 q.2.2.1 0 0 0 = true ∧ mzHas mzAll 5 q.2.2.1 0 0 0 = true ∧ mzOw q.2.2.1 < 6) ∧ (q.2.2.2 = 2 → mzHas mzAll 6 q.2.2.1 0 0 0 = true) := by decide +kernel
/-- what the list of methods says -/
theorem mz_ML (q : Nat × Nat × Nat × Nat) (hq : q ∈ mzML) : q.2.2.1 < 192 ∧ 0 < q.2.2.1 ∧ (q.2.2.2 ≠ 1 → Jvm.Cond.methodLink (mzNo q.1) q.2.1 (mzYn q.2.2.1) ∈ lw_tbl) ∧ (q.2.2.2 = 1 → Jvm.Cond.methodLinkNest (mzNo q.1) q.2.1 (mzYn q.2.2.1) "MeltPins" ∈ mzNest) ∧
    (q.2.2.2 ≤ 1 → Jvm.Cond.instanceMethod (mzYn q.2.2.1) ∈ lw_tbl ∧ Jvm.Cond.selects (mzYn q.2.2.1).cls (mzYn q.2.2.1) (mzYn q.2.2.1) ∈ lw_tbl ∧ mzOw q.2.2.1 < 6) ∧ (q.2.2.2 = 2 → Jvm.Cond.static (mzYn q.2.2.1) ∈ lw_tbl) := by
  obtain ⟨h1, h2, h3, h4, h5, h6⟩ := mz_ML0 q hq
  exact ⟨h1, h2, fun h => mz_in (h3 h), fun h => mz_inN (h4 h), fun h => ⟨mz_in (h5 h).1, mz_in (h5 h).2.1, (h5 h).2.2⟩, fun h => mz_in (h6 h)⟩
theorem mz_ini : ∀ o, o < 9 → Jvm.Cond.initialized (mzNo o) ∈ lw_tbl := by
  intro o ho
  have h : ∀ o, o < 9 → mzHas mzAll 3 o 0 0 0 = true := by decide +kernel
  exact mz_in (h o ho)
theorem mz_ow : ∀ y, y < 192 → mzOw y < 9 := by decide +kernel
theorem mz_desc : ∀ y, y < 192 → 0 < y → (parseMethodDescriptor (mzYn y).desc).map (fun d => d.parameters.length) = some (mzNp y) := by decide +kernel
theorem mz_noMH : ∀ o, o < 9 → mzNo o ≠ "java/lang/invoke/MethodHandle" ∧ mzNo o ≠ "java/lang/invoke/VarHandle" := by decide +kernel
theorem mz_prw : Jvm.Cond.static Lib.Math.max.name ∈ lw_tbl ∧ Jvm.Cond.static Lib.Math.min.name ∈ lw_tbl ∧ Jvm.Cond.initialized "java/lang/Math" ∈ lw_tbl ∧ Jvm.Cond.native arraycopyName ∈ lw_tbl ∧ Jvm.Cond.static arraycopyName ∈ lw_tbl ∧ Jvm.Cond.initialized "java/lang/System" ∈ lw_tbl := by
  have h : ∀ a ∈ [0, 1, 2, 5, 6, 7], mzHas mzAll 12 a 0 0 0 = true := by decide +kernel
  exact ⟨mz_in (h 0 (by decide)), mz_in (h 1 (by decide)), mz_in (h 2 (by decide)), mz_in (h 5 (by decide)), mz_in (h 6 (by decide)), mz_in (h 7 (by decide))⟩
theorem mz_goodws {y : Nat} (hy : y < 192) (h0 : 0 < y) : GoodIn mzTb (mzWs y) := fun w hw => by
  rcases List.mem_cons.mp hw with rfl | h
  · have := mz_tb (mz_code hy h0) rfl
    exact ⟨this, mz_good this⟩
  · exact ⟨h, mz_good h⟩
theorem mz_sz {G : mzG} : ∀ S : List mzV, ((S.map (mzC G)).map fun v => v.category).sum ≤ mzSz S := by
  intro S
  induction S with
  | nil => exact Nat.le_refl _
  | cons v r ih =>
    match v with
    | none =>
      show 1 + ((r.map (mzC G)).map fun v => v.category).sum ≤ mzSz r + 1
      omega
    | some (.inl x) =>
      show 1 + ((r.map (mzC G)).map fun v => v.category).sum ≤ mzSz r + 1
      omega
    | some (.inr (.inl x)) =>
      show 2 + ((r.map (mzC G)).map fun v => v.category).sum ≤ mzSz r + 2
      omega
    | some (.inr (.inr (.inl x))) =>
      show 1 + ((r.map (mzC G)).map fun v => v.category).sum ≤ mzSz r + 1
      omega
    | some (.inr (.inr (.inr (x, z)))) =>
      show 1 + ((r.map (mzC G)).map fun v => v.category).sum ≤ mzSz r + 1
      omega
section MZC
variable {G : mzG} {p : Program} {l : Launch} {e : Env} {R : Room} {s : State} {m : MethodId} {args : Array Value} {below : List Frame} {meth : Method} {c : Code} {cells slots : Nat} {Z : State → Prop} {y d pc : Nat} {L S : List mzV} {μ : mzM}
/-- behind a call -/
theorem mz_back {H : Heap} {locs : List Loc} {ls : Array Slot} {st0 rest : List Value} {r : Option FieldType} {Q : mzV → mzM → Prop} {a : Array Value} (hr : va_Run p l e R s m args below meth c H locs cells slots 0 0 (F0 m pc ls st0) rest (mzPost G r Q a) (mzA G)) (hS : va_S (mzA G) s.heap H locs)
    (kk : ∀ (v : mzV) (μ' : mzM) (H' : Heap) (locs' : List Loc), Q v μ' → mzTyp r v → mzK v → mzSt G H' μ' → va_S (mzA G) s.heap H' locs' → W p l e R s m args below meth c H' locs' cells slots Z (F0 m (pc + 3) ls ((mzOv G v).toList ++ rest))) : W p l e R s m args below meth c H locs cells slots Z (F0 m pc ls st0) := by
  intro T hT X
  obtain ⟨v, st₀, t, T', L, h0, X', hL, e1, e2, ⟨v', μ', hv, hQ, hTy, hK, hSt, hF⟩, st⟩ := hr T hT X
  cases hv
  unfold va_F at hF
  rw [h0] at hF
  obtain ⟨t2, a1, b1⟩ := kk v' μ' T'.heap (locs ++ L) hQ hTy hK (by rw [e1]; exact hSt) ⟨Nat.le_trans hS.1 (by rw [e1]; exact hF.1), fun q h1 h2 => by rw [e1, hF.2 q (Nat.lt_of_lt_of_le h1 hS.1) h2]; exact hS.2.1 q h1 h2, fun q hq => by
      rcases List.mem_append.mp hq with h | h
      · exact hS.2.2 q h
      · exact hL q h⟩ T' rfl X'
  exact ⟨t2, st t2 a1, b1⟩
theorem mz_pre {H : Heap} {locs : List Loc} {as : List mzV} (C : mzCx G p R s m args meth c y d cells slots) (h1 : mzSt G H μ) (h2 : va_S (mzA G) s.heap H locs) : ∀ U : State, U.heap = H → s.WarmedH U.vm → va_Pc (as.map (mzC G)) (mzPre G μ) (as.map (mzC G)).toArray U := by
  intro U hU hW
  subst hU
  exact ⟨rfl, mz_amb_w hW h2 C.2.2.2.2.2.2.2.1, h1⟩
theorem mz_room {d b : Nat} (C : mzCx G p R s m args meth c y (d + 1) cells slots) (hb : b < 192) : (mzRm d).frames + 1 ≤ R.frames ∧ 8 + (mzNl b + 11) + (mzRm d).locals ≤ R.locals := by
  have h1 := C.2.2.2.2.2.2.2.2.2.2.1
  have h2 := mz_nl b hb
  show d + 1 ≤ R.frames ∧ 8 + (mzNl b + 11) + 64 * d ≤ R.locals
  omega
/-- the receiver's cell -/
theorem mz_rcv {H : Heap} {k ci z : Nat} (C : mzCx G p R s m args meth c y d cells slots) (h1 : mzSt G H μ) (hk : mzSh k = (1, ci, z)) (hc : ci < 6) : ∃ cell : Cell, H[mzAd G k]? = some cell ∧ cell.vm.isStatics = false ∧ s.vm.findClass (mzNo ci) = some cell.cls := by
  have hk1 := mz_shlt hk (by decide)
  have he : (mzWo G μ)[k]? = some (mzAd G k, .inr (ci, (List.range (mzNf ci)).map (mzFv G μ ci k))) := by rw [mz_wo hk1, mz_ent1 hk]
  exact va_recv C.2.2.2.2.2.2.2.1.2.1 h1.1 (mz_cls ci hc) he
theorem mz_retk {d b : Nat} {as : List mzV} {K : mzV → mzM → Prop} (h : mzCall d b as μ K) : ∃ Q, mzCl d b as μ Q ∧ ∀ v μ', Q v μ' → mzTyp (mzRt b) v → K v μ' := by
  unfold mzCall mzRk at h
  cases hr : mzRt b with
  | none =>
    rw [hr] at h
    exact ⟨_, h, fun v μ' hq ht => by cases (show v = none from ht); exact hq⟩
  | some ty =>
    rw [hr] at h
    cases ty with
    | int => exact ⟨_, h, fun v μ' hq ht => by obtain ⟨x0, rfl⟩ := ht; exact hq⟩
    | boolean =>
      refine ⟨_, h, fun v μ' hq ht => ?_⟩
      rcases ht with rfl | rfl
      · exact hq
      · exact hq
    | long => exact ⟨_, h, fun v μ' hq ht => by obtain ⟨x0, rfl⟩ := ht; exact hq⟩
    | _ => exact ⟨_, h, fun v μ' hq ht => by obtain ⟨p0, o0, rfl⟩ := ht; exact hq⟩
theorem mz_ovl (v : mzV) (rest : List mzV) (S : List mzV) (h : S = rest) : (mzOv G v).toList ++ rest.map (mzC G) = (mzPu v S).map (mzC G) := by
  subst h
  cases v with
  | none => rfl
  | some w => rfl
theorem mz_take {n : Nat} (hs : mzSk S) : mzSk (S.take n).reverse := fun v hv => hs v (List.mem_of_mem_take (List.mem_reverse.mp hv))
theorem mz_drop {n : Nat} (hs : mzSk S) : mzSk (S.drop n) := fun v hv => hs v (List.mem_of_mem_drop hv)
theorem mz_stk (n : Nat) : S.map (mzC G) = ((S.take n).reverse.map (mzC G)).reverse ++ (S.drop n).map (mzC G) := by
  rw [← List.map_reverse, List.reverse_reverse, ← List.map_append, List.take_append_drop]
/-- words on an argument list -/
theorem mz_laysz : ∀ as : List mzV, (mzLay as).length ≤ 2 * as.length := by
  intro as
  induction as with
  | nil => exact Nat.le_refl _
  | cons a r ih =>
    match a with
    | none =>
      show (mzLay r).length + 1 ≤ 2 * (r.length + 1)
      omega
    | some (.inl x) =>
      show (mzLay r).length + 1 ≤ 2 * (r.length + 1)
      omega
    | some (.inr (.inl x)) =>
      show (mzLay r).length + 2 ≤ 2 * (r.length + 1)
      omega
    | some (.inr (.inr (.inl x))) =>
      show (mzLay r).length + 1 ≤ 2 * (r.length + 1)
      omega
    | some (.inr (.inr (.inr (x, z)))) =>
      show (mzLay r).length + 1 ≤ 2 * (r.length + 1)
      omega
end MZC
end
section
section MZS
variable {G : mzG} {p : Program} {l : Launch} {e : Env} {R : Room} {s : State} {m : MethodId} {args : Array Value} {below : List Frame} {meth : Method} {c : Code} {cells slots : Nat} {Z : State → Prop} {y d pc : Nat} {L S : List mzV} {μ : mzM}
theorem mzr_strlen (C : mzCx G p R s m args meth c y (d + 1) cells slots) {k o : Nat} (hl : Jvm.Cond.methodLink (mzNo (mzOw y)) k ⟨"java/lang/String", "length", "()I"⟩ ∈ lw_tbl) (ho : o < 14) (hsz : mzSz S ≤ 8) (hd : decode (mzBy y) pc = .ok (.invokevirtual k, 3))
    (kk : mzGo G p l e R s m args below meth c cells slots Z y (pc + 3) L (mzI (mzSl o) :: S) μ) : mzGo G p l e R s m args below meth c cells slots Z y pc L (mzP 300 o :: S) μ := sorry
theorem mzr_charAt (C : mzCx G p R s m args meth c y (d + 1) cells slots) {k o : Nat} {i : Int} (hl : Jvm.Cond.methodLink (mzNo (mzOw y)) k ⟨"java/lang/String", "charAt", "(I)C"⟩ ∈ lw_tbl) (ho : o < 14) (hi : 0 ≤ i ∧ i < mzSl o) (hsz : mzSz S ≤ 8) (hd : decode (mzBy y) pc = .ok (.invokevirtual k, 3))
    (kk : mzGo G p l e R s m args below meth c cells slots Z y (pc + 3) L (mzI (mzSc o i.toNat) :: S) μ) : mzGo G p l e R s m args below meth c cells slots Z y pc L (mzI i :: mzP 300 o :: S) μ := sorry
theorem mz_arr {v : mzV} {f : Nat → Nat → Prop} (h : mzArr v f) : ∃ k n z, mzSh k = (0, n, z) ∧ f k n ∧ mzC G v = .ref (mzAd G k) := by
  unfold mzArr at h
  split at h
  · next k =>
    split at h
    · next n z hz => exact ⟨k, n, z, hz, h, rfl⟩
    · exact h.elim
  · next q o =>
    split at h
    · next cnt n hp => exact ⟨q + o, n, 0, mz_pool0 hp h.1, h.2, rfl⟩
    · exact h.elim
  · exact h.elim
theorem mz_cpe {ka kb i j n na z : Nat} (hb : mzSh kb = (0, na, z)) : mzEnt G (mzCp μ ka i kb j n) kb = .inl (G.2.2.1, na, .inl (va_cpy (fun q => Int32.ofInt (μ ka q)) (fun q => Int32.ofInt (μ kb q)) i j n)) := by
  rw [mz_ent0 hb]
  congr 4
  funext q
  unfold mzCp va_cpy
  by_cases h : j ≤ q ∧ q < j + n
  · simp [h]
  · simp [h]
theorem mzr_copy (C : mzCx G p R s m args meth c y (d + 1) cells slots) {k ka kb na nb za zb : Nat} {i j n : Int} {u w : mzV} (hl : Jvm.Cond.methodLink (mzNo (mzOw y)) k arraycopyName ∈ lw_tbl) (ha : mzSh ka = (0, na, za)) (hb : mzSh kb = (0, nb, zb)) (hu : mzC G u = .ref (mzAd G ka)) (hw : mzC G w = .ref (mzAd G kb))
    (hq : 0 ≤ i ∧ 0 ≤ j ∧ 0 ≤ n ∧ i + n ≤ (na : Int) ∧ j + n ≤ (nb : Int)) (hsz : mzSz S ≤ 8) (hd : decode (mzBy y) pc = .ok (.invokestatic k, 3))
    (kk : mzGo G p l e R s m args below meth c cells slots Z y (pc + 3) L S (mzCp μ ka i.toNat kb j.toNat n.toNat)) : mzGo G p l e R s m args below meth c cells slots Z y pc L (mzI n :: mzI j :: w :: mzI i :: u :: S) μ := by
  intro H locs ls h1 h2 h3 h4
  have hka := mz_shlt ha (by decide)
  have hkb := mz_shlt hb (by decide)
  have hna : na ≤ 4096 := by
    have := (mz_shn ka hka).2.2
    rw [ha] at this
    exact this (show (0 : Nat) ≠ 1 by decide)
  have hnb : nb ≤ 4096 := by
    have := (mz_shn kb hkb).2.2
    rw [hb] at this
    exact this (show (0 : Nat) ≠ 1 by decide)
  have hea : (mzWo G μ)[ka]? = some (mzAd G ka, .inl (G.2.2.1, na, .inl (fun q => Int32.ofInt (μ ka q)))) := by rw [mz_wo hka, mz_ent0 ha]
  have heb : (mzWo G μ)[kb]? = some (mzAd G kb, .inl (G.2.2.1, nb, .inl (fun q => Int32.ofInt (μ kb q)))) := by rw [mz_wo hkb, mz_ent0 hb]
  have hsum := Nat.le_trans (mz_sz (G := G) S) hsz
  have hroom := C.2.2.2.2.2.2.2.2.2.2.1
  show W p l e R s m args below meth c H locs cells slots Z (F0 m pc ls (.int (Int32.ofInt n) :: .int (Int32.ofInt j) :: mzC G w :: .int (Int32.ofInt i) :: mzC G u :: S.map (mzC G)))
  rw [hu, hw]
  have ng : ∀ {z : Int}, 0 ≤ z → z < 2147483648 → ¬ Int32.ofInt z < 0 := fun {z} a b q => by
    have := (mz_lt (x := z) (y := 0) ⟨by omega, b⟩ ⟨by omega, by omega⟩).mp q
    omega
  obtain ⟨q1, q2, q3, q4, q5⟩ := hq
  have hnw : nativeFrameWords "java/lang/System" "arraycopy" 5 ≤ 20 := by decide
  refine va_copyi C.1 C.2.1 (by rw [C.2.2.1, h3.1]) C.2.2.2.2.2.1 (C.2.2.2.2.2.2.1 _ (mz_tb hl rfl)) (C.2.2.2.2.2.2.1 _ (mz_tb mz_prw.2.2.2.1 rfl)) (C.2.2.2.2.2.2.1 _ (mz_tb mz_prw.2.2.2.2.1 rfl)) (C.2.2.2.2.2.2.1 _ (mz_tb mz_prw.2.2.2.2.2 rfl)) C.2.2.2.2.2.2.2.1.2.1 h1.1 (mz_D C.2.2.2.2.2.2.2.2.1 μ) h2 ka kb 0 0 hea heb rfl rfl rfl (ng q1 (by omega)) (ng q2 (by omega)) (ng q3 (by omega))
    (by rw [mz_nat' q1 (by omega), mz_nat' q3 (by omega)]; omega) (by rw [mz_nat' q2 (by omega), mz_nat' q3 (by omega)]; omega) (fun _ _ => rfl) (by omega) (by omega) hd (fun H1 locs1 hP1 _ hS1 => ?_)
  rw [mz_nat' q1 (by omega), mz_nat' q2 (by omega), mz_nat' q3 (by omega)] at hP1
  refine kk H1 locs1 ls ⟨?_, fun a b => ?_, fun a => ?_, ?_⟩ hS1 h3 (mz_skt (mz_skt (mz_skt (mz_skt (mz_skt h4)))))
  · rw [mz_set hkb (mz_cpe hb) (fun k' _ hn => mz_ent_ne (fun q => by unfold mzCp; rw [if_neg (fun z => hn z.1)]))] at hP1
    exact hP1
  · unfold mzCp
    split
    · exact h1.2.1 _ _
    · exact h1.2.1 _ _
  · unfold mzCp
    rw [if_neg (fun q => by omega)]
    exact h1.2.2.1 a
  · unfold mzCp
    rw [if_neg (fun q => by omega)]
    exact h1.2.2.2
theorem mzPr_ok (C : mzCx G p R s m args meth c y (d + 1) cells slots) {c0 k : Nat} {K : List mzV → List mzV → mzM → Prop} {st : Bool} (hl : mzPrW (mzOw y) k c0 = true) (hst : (c0 ≤ 3 ∧ decode (mzBy y) pc = .ok (.invokestatic k, 3)) ∨ (4 ≤ c0 ∧ decode (mzBy y) pc = .ok (.invokevirtual k, 3))) (h : mzPr c0 K L S μ)
    (kk : ∀ L' S' μ', K L' S' μ' → mzGo G p l e R s m args below meth c cells slots Z y (pc + 3) L' S' μ') : mzGo G p l e R s m args below meth c cells slots Z y pc L S μ := by
  have hw := mz_in hl
  have hroom := C.2.2.2.2.2.2.2.2.2.2.1
  unfold mzPr at h
  split at h
  · have hd := (hst.resolve_right (fun q => by omega)).2
    split at h
    · next v u S' =>
      split at h
      · next hz =>
        have hz := Nat.le_of_ble_eq_true hz
        intro H locs ls h1 h2 h3 h4
        have hsum := Nat.le_trans (mz_sz (G := G) S') hz
        refine va_mmax C.1 C.2.1 (by rw [C.2.2.1, h3.1]) C.2.2.2.2.2.1 (C.2.2.2.2.2.2.1 _ (mz_tb hw rfl)) (C.2.2.2.2.2.2.1 _ (mz_tb mz_prw.1 rfl)) (C.2.2.2.2.2.2.1 _ (mz_tb mz_prw.2.2.1 rfl)) (C.2.2.2.2.2.2.1 _ (mz_tb mz_cmax rfl)) (by omega) (by omega) C.2.2.2.2.2.2.2.2.2.1.1 C.2.2.2.2.2.2.2.2.2.1.2 hd ?_
        have hv := (mz_skh h4).2
        have hu := (mz_skh (mz_skt h4)).2
        have eq : (if Int32.ofInt u < Int32.ofInt v then Int32.ofInt v else Int32.ofInt u) = Int32.ofInt (mzMx u v) := by
          unfold mzMx
          by_cases q : u < v
          · rw [if_pos ((mz_lt hu hv).mpr q), if_pos q]
          · rw [if_neg (fun z => q ((mz_lt hu hv).mp z)), if_neg q]
        have hb : mzK (mzI (mzMx u v)) := by
          show -2147483648 ≤ mzMx u v ∧ mzMx u v < 2147483648
          unfold mzMx
          split
          · exact hv
          · exact hu
        rw [eq]
        exact kk _ _ _ h H locs ls h1 h2 h3 (mz_sk (by simp) hb (mz_skt (mz_skt h4)))
      · exact h.elim
    · exact h.elim
  · have hd := (hst.resolve_right (fun q => by omega)).2
    split at h
    · next v u S' =>
      split at h
      · next hz =>
        have hz := Nat.le_of_ble_eq_true hz
        intro H locs ls h1 h2 h3 h4
        have hsum := Nat.le_trans (mz_sz (G := G) S') hz
        refine va_mmin C.1 C.2.1 (by rw [C.2.2.1, h3.1]) C.2.2.2.2.2.1 (C.2.2.2.2.2.2.1 _ (mz_tb hw rfl)) (C.2.2.2.2.2.2.1 _ (mz_tb mz_prw.2.1 rfl)) (C.2.2.2.2.2.2.1 _ (mz_tb mz_prw.2.2.1 rfl)) (C.2.2.2.2.2.2.1 _ (mz_tb mz_cmin rfl)) (by omega) (by omega) C.2.2.2.2.2.2.2.2.2.1.1 C.2.2.2.2.2.2.2.2.2.1.2 hd ?_
        have hv := (mz_skh h4).2
        have hu := (mz_skh (mz_skt h4)).2
        have eq : (if Int32.ofInt v < Int32.ofInt u then Int32.ofInt v else Int32.ofInt u) = Int32.ofInt (mzMn u v) := by
          unfold mzMn
          by_cases q : v < u
          · rw [if_pos ((mz_lt hv hu).mpr q), if_pos q]
          · rw [if_neg (fun z => q ((mz_lt hv hu).mp z)), if_neg q]
        have hb : mzK (mzI (mzMn u v)) := by
          show -2147483648 ≤ mzMn u v ∧ mzMn u v < 2147483648
          unfold mzMn
          split
          · exact hv
          · exact hu
        rw [eq]
        exact kk _ _ _ h H locs ls h1 h2 h3 (mz_sk (by simp) hb (mz_skt (mz_skt h4)))
      · exact h.elim
    · exact h.elim
  · have hd := (hst.resolve_right (fun q => by omega)).2
    split at h
    · next n j w i u S' =>
      split at h
      · next hz =>
        have hz := Nat.le_of_ble_eq_true hz
        obtain ⟨ka, na, za, hka, h, hu⟩ := mz_arr (G := G) h
        obtain ⟨kb, nb, zb, hkb, h, hv⟩ := mz_arr (G := G) h
        exact mzr_copy C hw hka hkb hu hv h.1 hz hd (kk _ _ _ h.2)
      · exact h.elim
    · exact h.elim
  · have hd := (hst.resolve_left (fun q => by omega)).2
    split at h
    · split at h
      · next hz => exact mzr_strlen C hw h.1 (Nat.le_of_ble_eq_true hz) hd (kk _ _ _ h.2)
      · exact h.elim
    · exact h.elim
  · have hd := (hst.resolve_left (fun q => by omega)).2
    split at h
    · split at h
      · next hz => exact mzr_charAt C hw h.1.1 h.1.2 (Nat.le_of_ble_eq_true hz) hd (kk _ _ _ h.2)
      · exact h.elim
    · exact h.elim
  · exact h.elim
/-- a call of a method of ours -/
theorem mzr_callS (C : mzCx G p R s m args meth c y (d + 1) cells slots) {k b n : Nat} {K : mzV → mzM → Prop} (hin : (mzOw y, k, b, 2) ∈ mzML) (hn : n = mzNp b) (hlen : n ≤ S.length) (hsz : mzSz (S.drop n) ≤ 8) (hlay : (mzLay (S.take n).reverse).length ≤ mzNl b) (hd : decode (mzBy y) pc = .ok (.invokestatic k, 3))
    (h : mzCall d b (S.take n).reverse μ K) (kk : ∀ v μ', K v μ' → mzGo G p l e R s m args below meth c cells slots Z y (pc + 3) L (mzPu v (S.drop n)) μ') : mzGo G p l e R s m args below meth c cells slots Z y pc L S μ := by
  intro H locs ls h1 h2 h3 h4
  obtain ⟨g1, g2, g3, -, -, g6⟩ := mz_ML _ hin
  have g1 : b < 192 := g1
  have g2 : 0 < b := g2
  obtain ⟨Q, hQ, hK⟩ := mz_retk h
  have hal : (S.take n).reverse.length = n := by rw [List.length_reverse, List.length_take]; omega
  have hM := mz_met hQ g2 g1 (mz_take h4) hlay C.2.2.2.2.2.2.2.2.1 l
  have hpre := mz_pre C h1 h2 (as := (S.take n).reverse)
  have hown := mz_ow b g1
  have hnm := mz_names b g1 g2
  have hG := mz_goodws g1 g2
  have hT : GoodIn mzTb (va_wsS (mzNo (mzOw y)) k (mzYn b) (mzWs b)) := fun w hw => by
    unfold va_wsS at hw
    rcases List.mem_append.mp hw with h9 | h9
    · have : w ∈ mzTb := by
        simp only [List.mem_cons, List.not_mem_nil, or_false] at h9
        rcases h9 with rfl | rfl | rfl
        · exact mz_tb (g3 (show (2 : Nat) ≠ 1 by decide)) rfl
        · exact mz_tb (g6 rfl) rfl
        · rw [hnm]
          exact mz_tb (mz_ini _ hown) rfl
      exact ⟨this, mz_good this⟩
    · exact hG w h9
  rw [mz_stk n]
  refine mz_back (va_runS (As := (S.take n).reverse.map (mzC G)) (rest := (S.drop n).map (mzC G)) ⟨C.1, C.2.1, C.2.2.1, C.2.2.2.2.2.1, C.2.2.2.2.2.2.1⟩ hM (va_cwS n C.2.2.2.2.2.2.1 hT rfl rfl rfl ⟨by rw [hnm]; exact (mz_noMH _ hown).1, by rw [hnm]; exact (mz_noMH _ hown).2, by rw [hn]; exact mz_desc b g1 g2⟩ (mz_room C g1)) ⟨mz_blind, hpre⟩ rfl (by rw [List.length_map, hal]) h3.1 rfl (lv_room (Nat.le_trans (mz_sz _) hsz)) hd ⟨C.2.2.2.2.2.2.2.2.2.1.1, C.2.2.2.2.2.2.2.2.2.1.2⟩) h2 (fun v μ' H' locs' q1 q2 q3 q4 q5 => ?_)
  rw [mz_ovl v (S.drop n) _ rfl]
  refine kk v μ' (hK v μ' q1 q2) H' locs' ls q4 q5 h3 ?_
  cases v with
  | none => exact mz_drop h4
  | some w => exact mz_sk (by simp) q3 (mz_drop h4)
theorem mzr_callV (C : mzCx G p R s m args meth c y (d + 1) cells slots) {k b n t : Nat} {K : mzV → mzM → Prop} (hin : (mzOw y, k, b, 0) ∈ mzML ∨ (mzOw y, k, b, 1) ∈ mzML) (hn : n = mzNp b + 1) (hlen : n ≤ S.length) (hsz : mzSz (S.drop n) ≤ 8) (hlay : (mzLay (S.take n).reverse).length ≤ mzNl b) (hd : decode (mzBy y) pc = .ok (.invokevirtual k, 3))
    {u : mzV} {as : List mzV} (hu : (S.take n).reverse = u :: as) {z : Nat} (huk : mzC G u = .ref (mzAd G t)) (hsh : mzSh t = (1, mzOw b, z))
    (h : mzCall d b (S.take n).reverse μ K) (kk : ∀ v μ', K v μ' → mzGo G p l e R s m args below meth c cells slots Z y (pc + 3) L (mzPu v (S.drop n)) μ') : mzGo G p l e R s m args below meth c cells slots Z y pc L S μ := by
  intro H locs ls h1 h2 h3 h4
  have g0 : b < 192 ∧ 0 < b ∧ Jvm.Cond.instanceMethod (mzYn b) ∈ lw_tbl ∧ Jvm.Cond.selects (mzYn b).cls (mzYn b) (mzYn b) ∈ lw_tbl ∧ mzOw b < 6 := by
    rcases hin with q | q
    · exact ⟨(mz_ML _ q).1, (mz_ML _ q).2.1, (mz_ML _ q).2.2.2.2.1 (show (0 : Nat) ≤ 1 by decide)⟩
    · exact ⟨(mz_ML _ q).1, (mz_ML _ q).2.1, (mz_ML _ q).2.2.2.2.1 (show (1 : Nat) ≤ 1 by decide)⟩
  obtain ⟨g1, g2, g4, g5, g6⟩ := g0
  obtain ⟨Q, hQ, hK⟩ := mz_retk h
  have hal : (S.take n).reverse.length = n := by rw [List.length_reverse, List.length_take]; omega
  have hM := mz_met hQ g2 g1 (mz_take h4) hlay C.2.2.2.2.2.2.2.2.1 l
  have hpre := mz_pre C h1 h2 (as := (S.take n).reverse)
  have hown := mz_ow b g1
  have hnm := mz_names b g1 g2
  have hG := mz_goodws g1 g2
  have hstk := mz_stk (G := G) (S := S) n
  have hrc := mz_rcv C h1 hsh g6
  rw [hu] at hM hpre hal hstk
  rw [show (u :: as).map (mzC G) = .ref (mzAd G t) :: as.map (mzC G) by rw [List.map_cons, huk]] at hM hpre hstk
  have hstk2 : S.map (mzC G) = (as.map (mzC G)).reverse ++ .ref (mzAd G t) :: (S.drop n).map (mzC G) := by rw [hstk]; simp
  have hal2 : as.length = mzNp b := by simp at hal; omega
  have hd1 : (mzYn b).cls = mzNo (mzOw b) ∧ (mzYn b).cls ≠ "java/lang/invoke/MethodHandle" ∧ (mzYn b).cls ≠ "java/lang/invoke/VarHandle" ∧ (parseMethodDescriptor (mzYn b).desc).map (fun d => d.parameters.length) = some (mzNp b) := ⟨hnm, by rw [hnm]; exact (mz_noMH _ hown).1, by rw [hnm]; exact (mz_noMH _ hown).2, mz_desc b g1 g2⟩
  have fin : ∀ (v : mzV) (μ' : mzM) (H' : Heap) (locs' : List Loc), Q v μ' → mzTyp (mzRt b) v → mzK v → mzSt G H' μ' → va_S (mzA G) s.heap H' locs' → W p l e R s m args below meth c H' locs' cells slots Z (F0 m (pc + 3) ls ((mzOv G v).toList ++ (S.drop n).map (mzC G))) := by
    intro v μ' H' locs' q1 q2 q3 q4 q5
    rw [mz_ovl v (S.drop n) _ rfl]
    refine kk v μ' (hK v μ' q1 q2) H' locs' ls q4 q5 h3 ?_
    cases v with
    | none => exact mz_drop h4
    | some w => exact mz_sk (by simp) q3 (mz_drop h4)
  rw [hstk2]
  rcases hin with q | q
  · have g3 := (mz_ML _ q).2.2.1 (show (0 : Nat) ≠ 1 by decide)
    have hT : GoodIn mzTb (wsV (mzNo (mzOw y)) k (mzNo (mzOw b)) (mzYn b) (mzWs b)) := fun w hw => by
      unfold wsV at hw
      rcases List.mem_append.mp hw with h9 | h9
      · have : w ∈ mzTb := by
          simp only [List.mem_cons, List.not_mem_nil, or_false] at h9
          rcases h9 with rfl | rfl | rfl | rfl
          · exact mz_tb g3 rfl
          · exact mz_tb g4 rfl
          · rw [← hnm]
            exact mz_tb g5 rfl
          · exact mz_tb (mz_ini _ hown) rfl
        exact ⟨this, mz_good this⟩
      · exact hG w h9
    exact mz_back (va_runV (As := as.map (mzC G)) (rest := (S.drop n).map (mzC G)) ⟨C.1, C.2.1, C.2.2.1, C.2.2.2.2.2.1, C.2.2.2.2.2.2.1⟩ hM (cwV (mzNp b) C.2.2.2.2.2.2.1 hT rfl rfl rfl hd1 (mz_room C g1)) ⟨mz_blind, hrc, hpre⟩ rfl (by rw [List.length_map, hal2]) h3.1 rfl (lv_room (Nat.le_trans (mz_sz _) hsz)) hd ⟨C.2.2.2.2.2.2.2.2.2.1.1, C.2.2.2.2.2.2.2.2.2.1.2⟩) h2 fin
  · have g3 := (mz_ML _ q).2.2.2.1 rfl
    have hz : va_Nw (.methodLinkNest (mzNo (mzOw y)) k (mzYn b) "MeltPins") s := C.2.2.2.2.2.2.2.1.1 _ g3
    exact mz_back (va_runVN (As := as.map (mzC G)) (rest := (S.drop n).map (mzC G)) ⟨C.1, C.2.1, C.2.2.1, C.2.2.2.2.2.1, C.2.2.2.2.2.2.1⟩ hM ⟨va_cnB (mzNp b) C.2.2.2.2.2.2.1 hG rfl rfl rfl hz (by rw [hnm]; exact C.2.2.2.2.2.2.1 _ (mz_tb (mz_ini _ hown) rfl)) hd1.2 (mz_room C g1), C.2.2.2.2.2.2.1 _ (mz_tb g4 rfl), by rw [← hnm]; exact C.2.2.2.2.2.2.1 _ (mz_tb g5 rfl)⟩ ⟨mz_blind, hrc, hpre⟩ rfl (by rw [List.length_map, hal2]) h3.1 rfl (lv_room (Nat.le_trans (mz_sz _) hsz)) hd ⟨C.2.2.2.2.2.2.2.2.2.1.1, C.2.2.2.2.2.2.2.2.2.1.2⟩) h2 fin
end MZS
end
section
/-- where nothing is written at once, another's rows are taken -/
def mzSimple (i : Instr) : Bool := match i with
  | .goto _ => false
  | .ifCond _ _ => false
  | .if_icmp _ _ => false
  | .tableswitch _ _ _ _ => false
  | .lookupswitch _ _ => false
  | .ireturn => false
  | .lreturn => false
  | .areturn => false
  | .return_ => false
  | .invokevirtual _ => false
  | .invokestatic _ => false
  | _ => true
theorem mz_simple {i : Instr} (h : mzSimple i = true) {d y : Nat} {cd : List mzO} {Q : mzV → mzM → Prop} {V : List mzO → List mzV → List mzV → mzM → Prop} {pc : Nat} {a : Int} {b c : Nat} {r : List mzO} {L S : List mzV} {μ : mzM} :
    mzStp d y cd Q V pc i a b c r L S μ = mz1 i a b c y (fun L S μ => V r L S μ) L S μ ∧ mzO2 y pc i a b c = (mzDk y pc i (mzLn i) && mzO1 y pc i a b c) ∧ mzEd i = false := by
  cases i <;> first | exact absurd h Bool.false_ne_true | exact ⟨rfl, rfl, rfl⟩
section MZU
variable {G : mzG} {p : Program} {l : Launch} {e : Env} {R : Room} {s : State} {m : MethodId} {args : Array Value} {below : List Frame} {meth : Method} {c : Code} {cells slots : Nat} {Z : State → Prop} {y d pc : Nat} {L S : List mzV} {μ : mzM}
theorem mzr_if (C : mzCx G p R s m args meth c y d cells slots) {q : Jvm.ClassFile.Cond} {off : Int} {b : Nat} {x : Int} {T F : Prop} (hd : decode (mzBy y) pc = .ok (.ifCond q off, 3)) (ht : (pc : Int) + off = (b : Int)) (h : mzIf q x 0 T F)
    (kt : T → mzGo G p l e R s m args below meth c cells slots Z y b L S μ) (kf : F → mzGo G p l e R s m args below meth c cells slots Z y (pc + 3) L S μ) : mzGo G p l e R s m args below meth c cells slots Z y pc L (mzI x :: S) μ := by
  intro H locs ls h1 h2 h3 h4
  have hx := (mz_skh h4).2
  have h0 : -2147483648 ≤ (0 : Int) ∧ (0 : Int) < 2147483648 := by omega
  have e0 : (0 : Int32) = Int32.ofInt 0 := rfl
  have gt : T → W p l e R s m args below meth c H locs cells slots Z (F0 m b ls (S.map (mzC G))) := fun z => kt z H locs ls h1 h2 h3 (mz_skt h4)
  have gf : F → W p l e R s m args below meth c H locs cells slots Z (F0 m (pc + 3) ls (S.map (mzC G))) := fun z => kf z H locs ls h1 h2 h3 (mz_skt h4)
  cases q with
  | eq => exact lv_if_eq C.1 C.2.1 hd ht (fun z => gt (h.1 ((mz_eq hx h0).mp z))) (fun z => gf (h.2 (fun w => z ((mz_eq hx h0).mpr w))))
  | ne => exact lv_if_ne C.1 C.2.1 hd ht (fun z => gt (h.1 (fun w => z ((mz_eq hx h0).mpr w)))) (fun z => gf (h.2 ((mz_eq hx h0).mp z)))
  | lt => exact lv_if_lt C.1 C.2.1 hd ht (fun z => gt (h.1 ((mz_lt hx h0).mp z))) (fun z => gf (h.2 (Int.not_lt.mp fun w => z ((mz_lt hx h0).mpr w))))
  | ge => exact lv_if_ge C.1 C.2.1 hd ht (fun z => gt (h.1 ((mz_le h0 hx).mp z))) (fun z => gf (h.2 (Int.not_le.mp fun w => z ((mz_le h0 hx).mpr w))))
  | gt => exact lv_if_gt C.1 C.2.1 hd ht (fun z => gt (h.1 ((mz_lt h0 hx).mp z))) (fun z => gf (h.2 (Int.not_lt.mp fun w => z ((mz_lt h0 hx).mpr w))))
  | le => exact lv_if_le C.1 C.2.1 hd ht (fun z => gt (h.1 ((mz_le hx h0).mp z))) (fun z => gf (h.2 (Int.not_le.mp fun w => z ((mz_le hx h0).mpr w))))
theorem mzr_icmp (C : mzCx G p R s m args meth c y d cells slots) {q : Jvm.ClassFile.Cond} {off : Int} {b : Nat} {x v : Int} {T F : Prop} (hd : decode (mzBy y) pc = .ok (.if_icmp q off, 3)) (ht : (pc : Int) + off = (b : Int)) (h : mzIf q x v T F)
    (kt : T → mzGo G p l e R s m args below meth c cells slots Z y b L S μ) (kf : F → mzGo G p l e R s m args below meth c cells slots Z y (pc + 3) L S μ) : mzGo G p l e R s m args below meth c cells slots Z y pc L (mzI v :: mzI x :: S) μ := by
  intro H locs ls h1 h2 h3 h4
  have hx := (mz_skh (mz_skt h4)).2
  have h0 := (mz_skh h4).2
  have gt : T → W p l e R s m args below meth c H locs cells slots Z (F0 m b ls (S.map (mzC G))) := fun z => kt z H locs ls h1 h2 h3 (mz_skt (mz_skt h4))
  have gf : F → W p l e R s m args below meth c H locs cells slots Z (F0 m (pc + 3) ls (S.map (mzC G))) := fun z => kf z H locs ls h1 h2 h3 (mz_skt (mz_skt h4))
  cases q with
  | eq => exact lv_icmp_eq C.1 C.2.1 hd ht (fun z => gt (h.1 ((mz_eq hx h0).mp z))) (fun z => gf (h.2 (fun w => z ((mz_eq hx h0).mpr w))))
  | ne => exact lv_icmp_ne C.1 C.2.1 hd ht (fun z => gt (h.1 (fun w => z ((mz_eq hx h0).mpr w)))) (fun z => gf (h.2 ((mz_eq hx h0).mp z)))
  | lt => exact lv_icmp_lt C.1 C.2.1 hd ht (fun z => gt (h.1 ((mz_lt hx h0).mp z))) (fun z => gf (h.2 (Int.not_lt.mp fun w => z ((mz_lt hx h0).mpr w))))
  | ge => exact lv_icmp_ge C.1 C.2.1 hd ht (fun z => gt (h.1 ((mz_le h0 hx).mp z))) (fun z => gf (h.2 (Int.not_le.mp fun w => z ((mz_le h0 hx).mpr w))))
  | gt => exact lv_icmp_gt C.1 C.2.1 hd ht (fun z => gt (h.1 ((mz_lt h0 hx).mp z))) (fun z => gf (h.2 (Int.not_lt.mp fun w => z ((mz_lt h0 hx).mpr w))))
  | le => exact lv_icmp_le C.1 C.2.1 hd ht (fun z => gt (h.1 ((mz_le hx h0).mp z))) (fun z => gf (h.2 (Int.not_le.mp fun w => z ((mz_le hx h0).mpr w))))
theorem mz_ts {pc : Nat} {k : Nat → Prop} {x : Int} : ∀ (offs : List Int) (lo : Int), mzTs pc offs lo x k → ∀ j : Nat, j < offs.length → x = lo + (j : Int) → ∃ o, offs[j]? = some o ∧ k ((pc : Int) + o).toNat := by
  intro offs
  induction offs with
  | nil => intro lo _ j hj; simp at hj
  | cons o r ih =>
    intro lo h j hj hx
    cases j with
    | zero => exact ⟨o, rfl, h.1 (by omega)⟩
    | succ j =>
      obtain ⟨o', h1, h2⟩ := ih (lo + 1) h.2 j (by simpa using hj) (by omega)
      exact ⟨o', h1, h2⟩
theorem mz_ls {pc : Nat} {k : Nat → Prop} {x dflt : Int} : ∀ (ps : List (Int × Int)), mzLs pc ps x k (k ((pc : Int) + dflt).toNat) → k ((pc : Int) + Op.lookupswitch.offset ps dflt x).toNat := by
  intro ps
  induction ps with
  | nil => intro h; exact h
  | cons q r ih =>
    obtain ⟨a, o⟩ := q
    intro h
    simp only [mzLs] at h
    show k ((pc : Int) + (if a = x then o else Op.lookupswitch.offset r dflt x)).toNat
    by_cases e : a = x
    · rw [if_pos e]
      exact h.1 e.symm
    · rw [if_neg e]
      exact ih (h.2 (fun z => e z.symm))
theorem mz_rc {ci : Nat} {v : mzV} {P : Prop} (h : mzRc ci v P) : P ∧ ∃ t z, mzC G v = .ref (mzAd G t) ∧ mzSh t = (1, ci, z) := by
  unfold mzRc at h
  split at h
  · next k =>
    split at h
    · next hO =>
      obtain ⟨z, hz⟩ := mz_isO hO
      exact ⟨h, k, z, rfl, hz⟩
    · exact h.elim
  · next q o =>
    split at h
    · next cnt c0 hp =>
      split at h
      · next hc =>
        obtain ⟨rfl, rfl, rfl⟩ := mz_pool1 hp
        have hcc : ci = 1 := (Nat.eq_of_beq_eq_true hc).symm
        subst hcc
        exact ⟨h.2, 44 + o, 0, rfl, mz_pools (44, 4, 1, 1) (by decide) (by decide) o h.1⟩
      · exact h.elim
    · exact h.elim
  · exact h.elim
set_option maxHeartbeats 2000000 in
theorem mzStp_ok (C : mzCx G p R s m args meth c y d cells slots) {Q : mzV → mzM → Prop} (hR : ∀ (v : mzV) (μ' : mzM) (H' : Heap) (locs' : List Loc) (ls' : Array Slot) (pc' : Nat), Q v μ' → mzTyp (mzRt y) v → mzK v → mzSt G H' μ' → va_S (mzA G) s.heap H' locs' → decode (mzBy y) pc' = .ok (mzRi (mzRt y), 1) → W p l e R s m args below meth c H' locs' cells slots Z (F0 m pc' ls' (mzRs G v)))
    {cd : List mzO} (hcd : mzChk y cd = true) {V : List mzO → List mzV → List mzV → mzM → Prop} (hV : ∀ r L S μ, mzChk y r = true → V r L S μ → ∃ e0 r', r = e0 :: r' ∧ mzGo G p l e R s m args below meth c cells slots Z y e0.1 L S μ)
    {i : Instr} {a : Int} {b c0 : Nat} {r : List mzO} (hr : mzChk y ((pc, i, a, b, c0) :: r) = true) (h : mzStp d y cd Q V pc i a b c0 r L S μ) : mzGo G p l e R s m args below meth c cells slots Z y pc L S μ := by
  simp only [mzChk, Bool.and_eq_true] at hr
  obtain ⟨hok, hnx, hrr⟩ := hr
  have jmp : ∀ {t : Nat} {L S : List mzV} {μ : mzM}, V (mzDr cd t) L S μ → mzGo G p l e R s m args below meth c cells slots Z y t L S μ := by
    intro t L S μ hv
    obtain ⟨e0, r', h1, h2⟩ := hV _ _ _ _ (mz_drchk hcd) hv
    rw [mz_drpc h1] at h2
    exact h2
  have fall : mzEd i = false → ∀ {L S : List mzV} {μ : mzM}, V r L S μ → mzGo G p l e R s m args below meth c cells slots Z y (pc + mzLn i) L S μ := by
    intro hE L S μ hv
    obtain ⟨e0, r', h1, h2⟩ := hV _ _ _ _ hrr hv
    subst h1
    simp only [hE, Bool.false_or] at hnx
    rw [Nat.eq_of_beq_eq_true hnx] at h2
    exact h2
  by_cases hs : mzSimple i = true
  · obtain ⟨e1, e2, e3⟩ := mz_simple hs (d := d) (y := y) (cd := cd) (Q := Q) (V := V) (pc := pc) (a := a) (b := b) (c := c0) (r := r) (L := L) (S := S) (μ := μ)
    rw [e1] at h
    rw [e2, Bool.and_eq_true] at hok
    exact mz1_ok C hok.1 hok.2 h (fun L' S' μ' hv => fall e3 hv)
  · cases i <;> first | exact absurd rfl hs | skip
    · -- areturn
      simp only [mzO2, Bool.and_eq_true, decide_eq_true_eq] at hok
      simp only [mzStp] at h
      split at h
      · next q o =>
        intro H locs ls h1 h2 h3 h4
        have hty : mzTyp (mzRt y) (mzP q o) := by
          have h9 := hok.2
          cases hrt : mzRt y with
          | none => rw [hrt] at h9; cases h9
          | some ty =>
            rw [hrt] at h9
            cases ty with
            | int => cases h9
            | boolean => cases h9
            | long => cases h9
            | _ => exact ⟨q, o, rfl⟩
        exact hR _ μ H locs ls pc h hty trivial h1 h2 (by rw [hok.2]; exact mz_dk hok.1)
      · exact h.elim
    · -- goto
      simp only [mzO2, Bool.and_eq_true, decide_eq_true_eq] at hok
      simp only [mzStp] at h
      exact fun H locs ls h1 h2 h3 h4 => lv_goto C.1 C.2.1 (mz_dk hok.1) hok.2 (jmp h H locs ls h1 h2 h3 h4)
    · -- if_icmp
      simp only [mzO2, Bool.and_eq_true, decide_eq_true_eq] at hok
      simp only [mzStp] at h
      split at h
      · exact mzr_icmp C (mz_dk hok.1) hok.2 h (fun z => jmp z) (fun z => fall rfl z)
      · exact h.elim
    · -- ifCond
      simp only [mzO2, Bool.and_eq_true, decide_eq_true_eq] at hok
      simp only [mzStp] at h
      split at h
      · exact mzr_if C (mz_dk hok.1) hok.2 h (fun z => jmp z) (fun z => fall rfl z)
      · exact h.elim
    · -- invokestatic
      next k =>
      simp only [mzO2, Bool.and_eq_true] at hok
      simp only [mzStp, mzInv] at h
      split at h
      · exact h.elim
      · next d1 =>
        split at h
        · have h9 := hok.2
          simp only [Bool.and_eq_true] at h9
          exact mzPr_ok C (st := true) h9.1 (Or.inl ⟨Nat.le_of_ble_eq_true h9.2, mz_dk hok.1⟩) h (fun L' S' μ' hv => fall rfl hv)
        · next hb0 =>
          split at h
          · next hz =>
            simp only [Bool.and_eq_true] at hz
            have h9 : decide ((mzOw y, k, b, 2) ∈ mzML) = true ∧ decide (c0 = mzNp b) = true := by
              have h8 := hok.2
              split at h8
              · exact absurd rfl hb0
              · simpa only [Bool.and_eq_true] using h8
            exact mzr_callS C (of_decide_eq_true h9.1) (of_decide_eq_true h9.2) (Nat.le_of_ble_eq_true hz.2.1) (Nat.le_of_ble_eq_true hz.1) (Nat.le_of_ble_eq_true hz.2.2) (mz_dk hok.1) h (fun v μ' hv => fall rfl hv)
          · exact h.elim
    · -- invokevirtual
      next k =>
      simp only [mzO2, Bool.and_eq_true] at hok
      simp only [mzStp, mzInv] at h
      split at h
      · exact h.elim
      · next d1 =>
        split at h
        · have h9 := hok.2
          simp only [Bool.and_eq_true] at h9
          exact mzPr_ok C (st := false) h9.1 (Or.inr ⟨Nat.le_of_ble_eq_true h9.2, mz_dk hok.1⟩) h (fun L' S' μ' hv => fall rfl hv)
        · next hb0 =>
          split at h
          · next hz =>
            simp only [Bool.and_eq_true] at hz
            have h9 : decide ((mzOw y, k, b, 0) ∈ mzML ∨ (mzOw y, k, b, 1) ∈ mzML) = true ∧ decide (c0 = mzNp b + 1) = true := by
              have h8 := hok.2
              split at h8
              · exact absurd rfl hb0
              · simpa only [Bool.and_eq_true] using h8
            obtain ⟨hc, t, z, g1, g2⟩ := mz_rc (G := G) h
            have hlen := Nat.le_of_ble_eq_true hz.2.1
            have hc0 : c0 = mzNp b + 1 := of_decide_eq_true h9.2
            cases hu : (S.take c0).reverse with
            | nil =>
              have : (S.take c0).reverse.length = c0 := by rw [List.length_reverse, List.length_take]; omega
              rw [hu] at this
              simp at this
              omega
            | cons u as =>
              rw [hu] at g1
              exact mzr_callV C (of_decide_eq_true h9.1) hc0 hlen (Nat.le_of_ble_eq_true hz.1) (Nat.le_of_ble_eq_true hz.2.2) (mz_dk hok.1) hu g1 g2 hc (fun v μ' hv => fall rfl hv)
          · exact h.elim
    · -- ireturn
      simp only [mzO2, Bool.and_eq_true] at hok
      simp only [mzStp] at h
      split at h
      · next x0 =>
        intro H locs ls h1 h2 h3 h4
        have hx := (mz_skh h4).2
        split at h
        · have h9 : mzRt y = some .int := of_decide_eq_true hok.2
          exact hR _ μ H locs ls pc h (by rw [h9]; exact ⟨x0, rfl⟩) hx h1 h2 (by rw [h9]; exact mz_dk hok.1)
        · next hc1 =>
          have h9 : mzRt y = some .boolean := by
            have h8 := hok.2
            split at h8
            · next hc2 => exact absurd rfl hc1
            · exact of_decide_eq_true h8
          refine hR _ μ H locs ls pc h.2 ?_ hx h1 h2 (by rw [h9]; exact mz_dk hok.1)
          rw [h9]
          rcases h.1 with rfl | rfl
          · exact Or.inl rfl
          · exact Or.inr rfl
      · exact h.elim
    · -- lookupswitch
      next dflt ps =>
      simp only [mzO2, Bool.and_eq_true, decide_eq_true_eq] at hok
      simp only [mzStp] at h
      split at h
      · next x0 S' =>
        have h5 := mz_ls (k := fun t => V (mzDr cd t) L S' μ) ps.toList h
        have hpos : 0 ≤ (pc : Int) + Op.lookupswitch.offset ps.toList dflt x0 := by
          have hall := List.all_eq_true.mp hok.2.2.1
          have h0 := hok.2.1
          clear h5 h hok
          have key : ∀ (l : List (Int × Int)), (∀ q ∈ l, decide (0 ≤ (pc : Int) + q.2) = true) → 0 ≤ (pc : Int) + Op.lookupswitch.offset l dflt x0 := by
            intro l
            induction l with
            | nil => intro _; exact h0
            | cons q r ihr =>
              intro hl
              obtain ⟨a9, o9⟩ := q
              show 0 ≤ (pc : Int) + (if a9 = x0 then o9 else Op.lookupswitch.offset r dflt x0)
              by_cases e9 : a9 = x0
              · rw [if_pos e9]
                exact of_decide_eq_true (hl _ List.mem_cons_self)
              · rw [if_neg e9]
                exact ihr (fun q hq => hl q (List.mem_cons_of_mem _ hq))
          exact key _ hall
        intro H locs ls h1 h2 h3 h4
        have hx := (mz_skh h4).2
        exact lv_lookup C.1 C.2.1 (off := Op.lookupswitch.offset ps.toList dflt x0) (tgt := ((pc : Int) + Op.lookupswitch.offset ps.toList dflt x0).toNat) (mz_dk hok.1) (by simpa using hok.2.2.2) (by rw [mz_id hx]) (by omega) (jmp h5 H locs ls h1 h2 h3 (mz_skt h4))
      · exact h.elim
    · -- lreturn
      simp only [mzO2, Bool.and_eq_true, decide_eq_true_eq] at hok
      simp only [mzStp] at h
      split at h
      · next x0 =>
        intro H locs ls h1 h2 h3 h4
        exact hR _ μ H locs ls pc h (by rw [hok.2]; exact ⟨x0, rfl⟩) (mz_skh h4).2 h1 h2 (by rw [hok.2]; exact mz_dk hok.1)
      · exact h.elim
    · -- return_
      simp only [mzO2, Bool.and_eq_true, decide_eq_true_eq] at hok
      simp only [mzStp] at h
      split at h
      · intro H locs ls h1 h2 h3 h4
        exact hR _ μ H locs ls pc h (by rw [hok.2]; rfl) trivial h1 h2 (by rw [hok.2]; exact mz_dk hok.1)
      · exact h.elim
    · -- tableswitch
      next dflt lo hi offs =>
      simp only [mzO2, Bool.and_eq_true, decide_eq_true_eq] at hok
      simp only [mzStp] at h
      split at h
      · next x0 S' =>
        intro H locs ls h1 h2 h3 h4
        have hx := (mz_skh h4).2
        by_cases hin : x0 < lo ∨ hi < x0
        · exact lv_tableOut C.1 C.2.1 (tgt := ((pc : Int) + dflt).toNat) (mz_dk hok.1) (by rw [mz_id hx]; exact hin) (by omega) (jmp (h.2 hin) H locs ls h1 h2 h3 (mz_skt h4))
        · obtain ⟨o, h5, h6⟩ := mz_ts (k := fun t => V (mzDr cd t) L S' μ) offs.toList lo h.1 (x0 - lo).toNat (by omega) (by omega)
          have hpos := of_decide_eq_true (List.all_eq_true.mp hok.2.2.1 o (List.mem_of_getElem? h5))
          exact lv_tableIn C.1 C.2.1 (off := o) (tgt := ((pc : Int) + o).toNat) (mz_dk hok.1) (by rw [mz_id hx]; omega) (by rw [mz_id hx]; omega) (by rw [mz_id hx, ← Array.getElem?_toList]; exact h5) (by omega) (jmp h6 H locs ls h1 h2 h3 (mz_skt h4))
      · exact h.elim
end MZU
/-- what is computed from a place on holds of the machine there -/
theorem mzVc_ok {d y : Nat} {cd : List mzO} {Q : mzV → mzM → Prop} {cuts : List Nat} (hcd : mzChk y cd = true) {G : mzG} {p : Program} {l : Launch} {e : Env} {R : Room} {s : State} {m : MethodId} {args : Array Value} {below : List Frame} {meth : Method} {c : Code} {cells slots : Nat} {Z : State → Prop} (C : mzCx G p R s m args meth c y d cells slots)
    (hR : ∀ (v : mzV) (μ' : mzM) (H' : Heap) (locs' : List Loc) (ls' : Array Slot) (pc' : Nat), Q v μ' → mzTyp (mzRt y) v → mzK v → mzSt G H' μ' → va_S (mzA G) s.heap H' locs' → decode (mzBy y) pc' = .ok (mzRi (mzRt y), 1) → W p l e R s m args below meth c H' locs' cells slots Z (F0 m pc' ls' (mzRs G v))) :
    ∀ (n : Nat) (r : List mzO) (L S : List mzV) (μ : mzM), mzChk y r = true → mzVc d y cd Q cuts n r L S μ → ∃ e0 r', r = e0 :: r' ∧ mzGo G p l e R s m args below meth c cells slots Z y e0.1 L S μ := by
  intro n
  induction n with
  | zero => intro r L S μ _ h; exact h.elim
  | succ n ih =>
    intro r L S μ hr h
    cases r with
    | nil => exact h.elim
    | cons e0 r' =>
      obtain ⟨pc, i, a, b, c0⟩ := e0
      refine ⟨_, _, rfl, ?_⟩
      simp only [mzVc] at h
      split at h
      · exact h G p l e R s m args below meth c cells slots Z C hR
      · exact mzStp_ok C hR hcd ih hr h
theorem mzVg_ok {d y : Nat} {cd : List mzO} {Q : mzV → mzM → Prop} {cuts : List Nat} {n pc : Nat} {L S : List mzV} {μ : mzM} (hcd : mzChk y cd = true) (h : mzVg d y cd Q cuts n pc L S μ) : mzWp d y pc L S μ Q := by
  intro G p l e R s m args below meth c cells slots Z C hR
  unfold mzVg at h
  split at h
  · exact h.elim
  · next pc1 i a b c0 r' he =>
    have h1 := mz_drpc he
    have h1 : pc1 = pc := h1
    subst h1
    have hr := mz_drchk (t := pc1) hcd
    rw [he] at hr
    exact mzStp_ok C hR hcd (mzVc_ok hcd C hR n) hr h
end
